/-! ===== 25: memory and numbers ===== -/
section Base
variable (M : MM) (a k b j : Nat)
theorem mI_sI (v : Int32) : mI (sI M a k v) b j = if b = a ∧ j = k then v else mI M b j := rfl
theorem mL_sI (v : Int32) : mL (sI M a k v) b j = mL M b j := rfl
theorem mR_sI (v : Int32) : mR (sI M a k v) b j = mR M b j := rfl
theorem mN_sI (v : Int32) : mN (sI M a k v) = mN M := rfl
theorem mI_sL (v : Int64) : mI (sL M a k v) b j = mI M b j := rfl
theorem mL_sL (v : Int64) : mL (sL M a k v) b j = if b = a ∧ j = k then v else mL M b j := rfl
theorem mR_sL (v : Int64) : mR (sL M a k v) b j = mR M b j := rfl
theorem mN_sL (v : Int64) : mN (sL M a k v) = mN M := rfl
theorem mI_sR (v : Option Nat) : mI (sR M a k v) b j = mI M b j := rfl
theorem mL_sR (v : Option Nat) : mL (sR M a k v) b j = mL M b j := rfl
theorem mR_sR (v : Option Nat) : mR (sR M a k v) b j = if b = a ∧ j = k then v else mR M b j := rfl
theorem mN_sR (v : Option Nat) : mN (sR M a k v) = mN M := rfl
theorem mI_nw : mI (nw M) b j = if b = mN M then 0 else mI M b j := rfl
theorem mL_nw : mL (nw M) b j = if b = mN M then 0 else mL M b j := rfl
theorem mR_nw : mR (nw M) b j = if b = mN M then none else mR M b j := rfl
theorem mN_nw : mN (nw M) = mN M + 1 := rfl
theorem mI_cI (i n c x : Nat) : mI (cI M a i b j n) c x = if c = b ∧ j ≤ x ∧ x < j + n then mI M a (i + (x - j)) else mI M c x := rfl
theorem mL_cI (i n c x : Nat) : mL (cI M a i b j n) c x = mL M c x := rfl
theorem mR_cI (i n c x : Nat) : mR (cI M a i b j n) c x = mR M c x := rfl
theorem mN_cI (i n : Nat) : mN (cI M a i b j n) = mN M := rfl
theorem mI_cL (i n c x : Nat) : mI (cL M a i b j n) c x = mI M c x := rfl
theorem mL_cL (i n c x : Nat) : mL (cL M a i b j n) c x = if c = b ∧ j ≤ x ∧ x < j + n then mL M a (i + (x - j)) else mL M c x := rfl
theorem mR_cL (i n c x : Nat) : mR (cL M a i b j n) c x = mR M c x := rfl
theorem mN_cL (i n : Nat) : mN (cL M a i b j n) = mN M := rfl
end Base

theorem ty_0 : TY 0 = (99, 0) := by decide +kernel
theorem ty_1 : TY 1 = (13, 0) := by decide +kernel
theorem ty_2 : TY 2 = (13, 0) := by decide +kernel
theorem ty_3 : TY 3 = (13, 0) := by decide +kernel
theorem ty_4 : TY 4 = (13, 0) := by decide +kernel
theorem ty_5 : TY 5 = (13, 0) := by decide +kernel
theorem ty_6 : TY 6 = (13, 0) := by decide +kernel
theorem ty_7 : TY 7 = (13, 0) := by decide +kernel
theorem ty_8 : TY 8 = (13, 0) := by decide +kernel
theorem ty_9 : TY 9 = (13, 0) := by decide +kernel
theorem ty_10 : TY 10 = (13, 0) := by decide +kernel
theorem ty_11 : TY 11 = (31, 2) := by decide +kernel
theorem ty_12 : TY 12 = (31, 10) := by decide +kernel
theorem ty_13 : TY 13 = (31, 4) := by decide +kernel
theorem ty_14 : TY 14 = (31, 4) := by decide +kernel
theorem ty_15 : TY 15 = (31, 1) := by decide +kernel
theorem ty_16 : TY 16 = (31, 5) := by decide +kernel
theorem ty_17 : TY 17 = (31, 3) := by decide +kernel
theorem ty_18 : TY 18 = (31, 5) := by decide +kernel
theorem ty_19 : TY 19 = (31, 4) := by decide +kernel
theorem ty_20 : TY 20 = (31, 6) := by decide +kernel
theorem ty_21 : TY 21 = (10, 0) := by decide +kernel
theorem ty_22 : TY 22 = (7, 0) := by decide +kernel
theorem ty_23 : TY 23 = (22, 100) := by decide +kernel
theorem ty_24 : TY 24 = (21, 4) := by decide +kernel
theorem ty_25 : TY 25 = (9, 0) := by decide +kernel
theorem ty_26 : TY 26 = (0, 0) := by decide +kernel
theorem ty_27 : TY 27 = (20, 20) := by decide +kernel
theorem ty_28 : TY 28 = (25, 6) := by decide +kernel
theorem ty_29 : TY 29 = (3, 0) := by decide +kernel
theorem ty_30 : TY 30 = (21, 4) := by decide +kernel
theorem ty_31 : TY 31 = (21, 4) := by decide +kernel
theorem ty_32 : TY 32 = (21, 4) := by decide +kernel
theorem ty_33 : TY 33 = (5, 0) := by decide +kernel
theorem ty_34 : TY 34 = (24, 6) := by decide +kernel
theorem ty_35 : TY 35 = (8, 0) := by decide +kernel
theorem ty_36 : TY 36 = (20, 12) := by decide +kernel
theorem ty_37 : TY 37 = (8, 0) := by decide +kernel
theorem ty_38 : TY 38 = (20, 12) := by decide +kernel
theorem ty_39 : TY 39 = (9, 0) := by decide +kernel
theorem ty_40 : TY 40 = (9, 0) := by decide +kernel
theorem ty_41 : TY 41 = (9, 0) := by decide +kernel
theorem ty_42 : TY 42 = (9, 0) := by decide +kernel
theorem ty_43 : TY 43 = (9, 0) := by decide +kernel
theorem ty_44 : TY 44 = (9, 0) := by decide +kernel
theorem ty_45 : TY 45 = (5, 0) := by decide +kernel
theorem ty_46 : TY 46 = (24, 6) := by decide +kernel
theorem ty_47 : TY 47 = (8, 0) := by decide +kernel
theorem ty_48 : TY 48 = (20, 12) := by decide +kernel
theorem ty_49 : TY 49 = (8, 0) := by decide +kernel
theorem ty_50 : TY 50 = (20, 12) := by decide +kernel
theorem ty_51 : TY 51 = (9, 0) := by decide +kernel
theorem ty_52 : TY 52 = (9, 0) := by decide +kernel
theorem ty_53 : TY 53 = (9, 0) := by decide +kernel
theorem ty_54 : TY 54 = (9, 0) := by decide +kernel
theorem ty_55 : TY 55 = (9, 0) := by decide +kernel
theorem ty_56 : TY 56 = (9, 0) := by decide +kernel
theorem ty_57 : TY 57 = (2, 0) := by decide +kernel
theorem ty_58 : TY 58 = (1, 0) := by decide +kernel
theorem ty_59 : TY 59 = (21, 20) := by decide +kernel
theorem ty_60 : TY 60 = (21, 20) := by decide +kernel
theorem ty_61 : TY 61 = (2, 0) := by decide +kernel
theorem ty_62 : TY 62 = (1, 0) := by decide +kernel
theorem ty_63 : TY 63 = (21, 20) := by decide +kernel
theorem ty_64 : TY 64 = (21, 20) := by decide +kernel
theorem ty_65 : TY 65 = (2, 0) := by decide +kernel
theorem ty_66 : TY 66 = (4, 0) := by decide +kernel
theorem ty_67 : TY 67 = (21, 720) := by decide +kernel
theorem ty_68 : TY 68 = (21, 720) := by decide +kernel
theorem ty_69 : TY 69 = (2, 0) := by decide +kernel
theorem ty_70 : TY 70 = (6, 0) := by decide +kernel
theorem ty_71 : TY 71 = (21, 60) := by decide +kernel
theorem ty_72 : TY 72 = (6, 0) := by decide +kernel
theorem ty_73 : TY 73 = (21, 60) := by decide +kernel
theorem ty_74 : TY 74 = (6, 0) := by decide +kernel
theorem ty_75 : TY 75 = (21, 60) := by decide +kernel
theorem ty_76 : TY 76 = (6, 0) := by decide +kernel
theorem ty_77 : TY 77 = (21, 60) := by decide +kernel
theorem ty_78 : TY 78 = (6, 0) := by decide +kernel
theorem ty_79 : TY 79 = (21, 60) := by decide +kernel
theorem ty_80 : TY 80 = (6, 0) := by decide +kernel
theorem ty_81 : TY 81 = (21, 60) := by decide +kernel
theorem ty_82 : TY 82 = (11, 0) := by decide +kernel
theorem ty_83 : TY 83 = (20, 70) := by decide +kernel
theorem ty_84 : TY 84 = (20, 70) := by decide +kernel
theorem ty_85 : TY 85 = (20, 6) := by decide +kernel
theorem ty_86 : TY 86 = (20, 6) := by decide +kernel
theorem ty_87 : TY 87 = (20, 216) := by decide +kernel
theorem ty_88 : TY 88 = (20, 100) := by decide +kernel
theorem ty_89 : TY 89 = (20, 36) := by decide +kernel
theorem ty_90 : TY 90 = (20, 5184) := by decide +kernel
theorem ty_91 : TY 91 = (20, 5184) := by decide +kernel
theorem ty_92 : TY 92 = (21, 5184) := by decide +kernel
theorem ty_93 : TY 93 = (21, 5184) := by decide +kernel
theorem ty_94 : TY 94 = (21, 41) := by decide +kernel
theorem ty_95 : TY 95 = (20, 7) := by decide +kernel
theorem ty_96 : TY 96 = (20, 20) := by decide +kernel
theorem ty_97 : TY 97 = (20, 6) := by decide +kernel
theorem ty_98 : TY 98 = (20, 6) := by decide +kernel
theorem ty_99 : TY 99 = (23, 6) := by decide +kernel
theorem ty_100 : TY 100 = (21, 360) := by decide +kernel
theorem ty_L0 : ∀ j : Nat, j < 6 → TY (101 + 3 * j) = (3, 0) := by decide +kernel
theorem ty_L1 : ∀ j : Nat, j < 6 → TY (101 + 3 * j + 1) = (21, 4) := by decide +kernel
theorem ty_L2 : ∀ j : Nat, j < 6 → TY (101 + 3 * j + 2) = (21, 4) := by decide +kernel
