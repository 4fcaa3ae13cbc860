def MO (k : Nat) : Prop := Cond.code (nam k) (cod k) (mlo k) (ret_ k) ∈ wsG ∧ Cond.initialized (nam k).cls ∈ wsG ∧ (sta k = true → Cond.static (nam k) ∈ wsG) ∧ (sta k = false → Cond.instanceMethod (nam k) ∈ wsG ∧ ((nam k).name = "<init>" → ret_ k = none) ∧ (¬ (nam k).name = "<init>" → Cond.selects (nam k).cls (nam k) (nam k) ∈ wsG)) ∧ (((nam k).cls = oN (own_ k) ∧ ¬ (nam k).cls = "java/lang/invoke/MethodHandle" ∧ ¬ (nam k).cls = "java/lang/invoke/VarHandle") ∧ (parseMethodDescriptor (nam k).desc).map (fun d => d.parameters.length) = some (if sta k = true then nar k else nar k - 1) ∧ plainName (nam k).cls = true ∧ mlo k ≤ 40 ∧ (sta k = false → 1 ≤ nar k))
set_option maxRecDepth 100000 in
theorem mw_J0_coder_7d493 : MO 0 := ⟨wsG_of 453 rfl (by decide +kernel), wsG_of 79 (by decide +kernel) (by decide +kernel), (fun h => absurd h (by decide +kernel)), (fun _ => ⟨wsG_of 451 (by decide +kernel) (by decide +kernel), (fun h => absurd h (by decide +kernel)), (fun _ => wsG_of 452 (by decide +kernel) (by decide +kernel))⟩), ⟨by decide +kernel, by decide +kernel, by decide +kernel, by decide +kernel, by decide +kernel⟩⟩
set_option maxRecDepth 100000 in
theorem mw_J0_length_8abf5 : MO 1 := ⟨wsG_of 449 rfl (by decide +kernel), wsG_of 79 (by decide +kernel) (by decide +kernel), (fun h => absurd h (by decide +kernel)), (fun _ => ⟨wsG_of 447 (by decide +kernel) (by decide +kernel), (fun h => absurd h (by decide +kernel)), (fun _ => wsG_of 448 (by decide +kernel) (by decide +kernel))⟩), ⟨by decide +kernel, by decide +kernel, by decide +kernel, by decide +kernel, by decide +kernel⟩⟩
set_option maxRecDepth 100000 in
theorem mw_J0_isLatin1_aae02 : MO 2 := ⟨wsG_of 463 rfl (by decide +kernel), wsG_of 79 (by decide +kernel) (by decide +kernel), (fun h => absurd h (by decide +kernel)), (fun _ => ⟨wsG_of 461 (by decide +kernel) (by decide +kernel), (fun h => absurd h (by decide +kernel)), (fun _ => wsG_of 462 (by decide +kernel) (by decide +kernel))⟩), ⟨by decide +kernel, by decide +kernel, by decide +kernel, by decide +kernel, by decide +kernel⟩⟩
set_option maxRecDepth 100000 in
theorem mw_J0_checkIndex_df160 : MO 3 := ⟨wsG_of 469 rfl (by decide +kernel), wsG_of 79 (by decide +kernel) (by decide +kernel), (fun _ => wsG_of 468 (by decide +kernel) (by decide +kernel)), (fun h => absurd h (by decide +kernel)), ⟨by decide +kernel, by decide +kernel, by decide +kernel, by decide +kernel, by decide +kernel⟩⟩
set_option maxRecDepth 100000 in
theorem mw_J0_charAt_5068e : MO 4 := ⟨wsG_of 459 rfl (by decide +kernel), wsG_of 79 (by decide +kernel) (by decide +kernel), (fun h => absurd h (by decide +kernel)), (fun _ => ⟨wsG_of 457 (by decide +kernel) (by decide +kernel), (fun h => absurd h (by decide +kernel)), (fun _ => wsG_of 458 (by decide +kernel) (by decide +kernel))⟩), ⟨by decide +kernel, by decide +kernel, by decide +kernel, by decide +kernel, by decide +kernel⟩⟩
set_option maxRecDepth 100000 in
theorem mw_J1_charAt_3b067 : MO 5 := ⟨wsG_of 466 rfl (by decide +kernel), wsG_of 80 (by decide +kernel) (by decide +kernel), (fun _ => wsG_of 465 (by decide +kernel) (by decide +kernel)), (fun h => absurd h (by decide +kernel)), ⟨by decide +kernel, by decide +kernel, by decide +kernel, by decide +kernel, by decide +kernel⟩⟩
set_option maxRecDepth 100000 in
theorem mw_J3_checkIndex_8e157 : MO 6 := ⟨wsG_of 474 rfl (by decide +kernel), wsG_of 81 (by decide +kernel) (by decide +kernel), (fun _ => wsG_of 473 (by decide +kernel) (by decide +kernel)), (fun h => absurd h (by decide +kernel)), ⟨by decide +kernel, by decide +kernel, by decide +kernel, by decide +kernel, by decide +kernel⟩⟩
set_option maxRecDepth 100000 in
theorem mw_J6_bitCount_0f7a4 : MO 7 := ⟨wsG_of 848 rfl (by decide +kernel), wsG_of 85 (by decide +kernel) (by decide +kernel), (fun _ => wsG_of 847 (by decide +kernel) (by decide +kernel)), (fun h => absurd h (by decide +kernel)), ⟨by decide +kernel, by decide +kernel, by decide +kernel, by decide +kernel, by decide +kernel⟩⟩
set_option maxRecDepth 100000 in
theorem mw_J6_compare_7cf53 : MO 8 := ⟨wsG_of 543 rfl (by decide +kernel), wsG_of 85 (by decide +kernel) (by decide +kernel), (fun _ => wsG_of 542 (by decide +kernel) (by decide +kernel)), (fun h => absurd h (by decide +kernel)), ⟨by decide +kernel, by decide +kernel, by decide +kernel, by decide +kernel, by decide +kernel⟩⟩
set_option maxRecDepth 100000 in
theorem mw_J6_numberOfTrailingZeros_0f7a4 : MO 9 := ⟨wsG_of 774 rfl (by decide +kernel), wsG_of 85 (by decide +kernel) (by decide +kernel), (fun _ => wsG_of 773 (by decide +kernel) (by decide +kernel)), (fun h => absurd h (by decide +kernel)), ⟨by decide +kernel, by decide +kernel, by decide +kernel, by decide +kernel, by decide +kernel⟩⟩
set_option maxRecDepth 100000 in
theorem mw_J7_fill_d0a16 : MO 10 := ⟨wsG_of 432 rfl (by decide +kernel), wsG_of 78 (by decide +kernel) (by decide +kernel), (fun _ => wsG_of 431 (by decide +kernel) (by decide +kernel)), (fun h => absurd h (by decide +kernel)), ⟨by decide +kernel, by decide +kernel, by decide +kernel, by decide +kernel, by decide +kernel⟩⟩
set_option maxRecDepth 100000 in
theorem mw_J13_numberOfTrailingZeros_95d88 : MO 11 := ⟨wsG_of 771 rfl (by decide +kernel), wsG_of 86 (by decide +kernel) (by decide +kernel), (fun _ => wsG_of 770 (by decide +kernel) (by decide +kernel)), (fun h => absurd h (by decide +kernel)), ⟨by decide +kernel, by decide +kernel, by decide +kernel, by decide +kernel, by decide +kernel⟩⟩
set_option maxRecDepth 100000 in
theorem mw_X0_init : MO 12 := ⟨wsG_of 181 rfl (by decide +kernel), wsG_of 69 (by decide +kernel) (by decide +kernel), (fun h => absurd h (by decide +kernel)), (fun _ => ⟨wsG_of 180 (by decide +kernel) (by decide +kernel), (fun _ => by decide +kernel), (fun h => absurd (by decide +kernel) h)⟩), ⟨by decide +kernel, by decide +kernel, by decide +kernel, by decide +kernel, by decide +kernel⟩⟩
set_option maxRecDepth 100000 in
theorem mw_X0_become : MO 13 := ⟨wsG_of 912 rfl (by decide +kernel), wsG_of 69 (by decide +kernel) (by decide +kernel), (fun h => absurd h (by decide +kernel)), (fun _ => ⟨wsG_of 910 (by decide +kernel) (by decide +kernel), (fun h => absurd h (by decide +kernel)), (fun _ => wsG_of 911 (by decide +kernel) (by decide +kernel))⟩), ⟨by decide +kernel, by decide +kernel, by decide +kernel, by decide +kernel, by decide +kernel⟩⟩
set_option maxRecDepth 100000 in
theorem mw_X0_begins : MO 14 := ⟨wsG_of 920 rfl (by decide +kernel), wsG_of 69 (by decide +kernel) (by decide +kernel), (fun h => absurd h (by decide +kernel)), (fun _ => ⟨wsG_of 919 (by decide +kernel) (by decide +kernel), (fun h => absurd h (by decide +kernel)), (fun _ => wsG_of 23 (by decide +kernel) (by decide +kernel))⟩), ⟨by decide +kernel, by decide +kernel, by decide +kernel, by decide +kernel, by decide +kernel⟩⟩
set_option maxRecDepth 100000 in
theorem mw_X0_plainSteps : MO 15 := ⟨wsG_of 924 rfl (by decide +kernel), wsG_of 69 (by decide +kernel) (by decide +kernel), (fun h => absurd h (by decide +kernel)), (fun _ => ⟨wsG_of 923 (by decide +kernel) (by decide +kernel), (fun h => absurd h (by decide +kernel)), (fun _ => wsG_of 24 (by decide +kernel) (by decide +kernel))⟩), ⟨by decide +kernel, by decide +kernel, by decide +kernel, by decide +kernel, by decide +kernel⟩⟩
set_option maxRecDepth 100000 in
theorem mw_X0_steps : MO 16 := ⟨wsG_of 916 rfl (by decide +kernel), wsG_of 69 (by decide +kernel) (by decide +kernel), (fun h => absurd h (by decide +kernel)), (fun _ => ⟨wsG_of 914 (by decide +kernel) (by decide +kernel), (fun h => absurd h (by decide +kernel)), (fun _ => wsG_of 915 (by decide +kernel) (by decide +kernel))⟩), ⟨by decide +kernel, by decide +kernel, by decide +kernel, by decide +kernel, by decide +kernel⟩⟩
set_option maxRecDepth 100000 in
theorem mw_X0_plainTurns : MO 17 := ⟨wsG_of 932 rfl (by decide +kernel), wsG_of 69 (by decide +kernel) (by decide +kernel), (fun h => absurd h (by decide +kernel)), (fun _ => ⟨wsG_of 931 (by decide +kernel) (by decide +kernel), (fun h => absurd h (by decide +kernel)), (fun _ => wsG_of 25 (by decide +kernel) (by decide +kernel))⟩), ⟨by decide +kernel, by decide +kernel, by decide +kernel, by decide +kernel, by decide +kernel⟩⟩
set_option maxRecDepth 100000 in
theorem mw_X0_turns : MO 18 := ⟨wsG_of 928 rfl (by decide +kernel), wsG_of 69 (by decide +kernel) (by decide +kernel), (fun h => absurd h (by decide +kernel)), (fun _ => ⟨wsG_of 926 (by decide +kernel) (by decide +kernel), (fun h => absurd h (by decide +kernel)), (fun _ => wsG_of 927 (by decide +kernel) (by decide +kernel))⟩), ⟨by decide +kernel, by decide +kernel, by decide +kernel, by decide +kernel, by decide +kernel⟩⟩
set_option maxRecDepth 100000 in
theorem mw_X0_plainTells : MO 19 := ⟨wsG_of 941 rfl (by decide +kernel), wsG_of 69 (by decide +kernel) (by decide +kernel), (fun h => absurd h (by decide +kernel)), (fun _ => ⟨wsG_of 940 (by decide +kernel) (by decide +kernel), (fun h => absurd h (by decide +kernel)), (fun _ => wsG_of 26 (by decide +kernel) (by decide +kernel))⟩), ⟨by decide +kernel, by decide +kernel, by decide +kernel, by decide +kernel, by decide +kernel⟩⟩
set_option maxRecDepth 100000 in
theorem mw_X0_tells : MO 20 := ⟨wsG_of 937 rfl (by decide +kernel), wsG_of 69 (by decide +kernel) (by decide +kernel), (fun h => absurd h (by decide +kernel)), (fun _ => ⟨wsG_of 935 (by decide +kernel) (by decide +kernel), (fun h => absurd h (by decide +kernel)), (fun _ => wsG_of 936 (by decide +kernel) (by decide +kernel))⟩), ⟨by decide +kernel, by decide +kernel, by decide +kernel, by decide +kernel, by decide +kernel⟩⟩
set_option maxRecDepth 100000 in
theorem mw_X1_init : MO 21 := ⟨wsG_of 327 rfl (by decide +kernel), wsG_of 74 (by decide +kernel) (by decide +kernel), (fun h => absurd h (by decide +kernel)), (fun _ => ⟨wsG_of 326 (by decide +kernel) (by decide +kernel), (fun _ => by decide +kernel), (fun h => absurd (by decide +kernel) h)⟩), ⟨by decide +kernel, by decide +kernel, by decide +kernel, by decide +kernel, by decide +kernel⟩⟩
set_option maxRecDepth 100000 in
theorem mw_X1_join : MO 22 := ⟨wsG_of 711 rfl (by decide +kernel), wsG_of 74 (by decide +kernel) (by decide +kernel), (fun _ => wsG_of 710 (by decide +kernel) (by decide +kernel)), (fun h => absurd h (by decide +kernel)), ⟨by decide +kernel, by decide +kernel, by decide +kernel, by decide +kernel, by decide +kernel⟩⟩
set_option maxRecDepth 100000 in
theorem mw_X1_alone_ : MO 23 := ⟨wsG_of 706 rfl (by decide +kernel), wsG_of 74 (by decide +kernel) (by decide +kernel), (fun h => absurd h (by decide +kernel)), (fun _ => ⟨wsG_of 704 (by decide +kernel) (by decide +kernel), (fun h => absurd h (by decide +kernel)), (fun _ => wsG_of 705 (by decide +kernel) (by decide +kernel))⟩), ⟨by decide +kernel, by decide +kernel, by decide +kernel, by decide +kernel, by decide +kernel⟩⟩
set_option maxRecDepth 100000 in
theorem mw_X1_alone : MO 24 := ⟨wsG_of 702 rfl (by decide +kernel), wsG_of 74 (by decide +kernel) (by decide +kernel), (fun h => absurd h (by decide +kernel)), (fun _ => ⟨wsG_of 700 (by decide +kernel) (by decide +kernel), (fun h => absurd h (by decide +kernel)), (fun _ => wsG_of 701 (by decide +kernel) (by decide +kernel))⟩), ⟨by decide +kernel, by decide +kernel, by decide +kernel, by decide +kernel, by decide +kernel⟩⟩
set_option maxRecDepth 100000 in
theorem mw_X1_around : MO 25 := ⟨wsG_of 819 rfl (by decide +kernel), wsG_of 74 (by decide +kernel) (by decide +kernel), (fun h => absurd h (by decide +kernel)), (fun _ => ⟨wsG_of 817 (by decide +kernel) (by decide +kernel), (fun h => absurd h (by decide +kernel)), (fun _ => wsG_of 818 (by decide +kernel) (by decide +kernel))⟩), ⟨by decide +kernel, by decide +kernel, by decide +kernel, by decide +kernel, by decide +kernel⟩⟩
set_option maxRecDepth 100000 in
theorem mw_X1_among : MO 26 := ⟨wsG_of 732 rfl (by decide +kernel), wsG_of 74 (by decide +kernel) (by decide +kernel), (fun h => absurd h (by decide +kernel)), (fun _ => ⟨wsG_of 731 (by decide +kernel) (by decide +kernel), (fun h => absurd h (by decide +kernel)), (fun _ => wsG_of 17 (by decide +kernel) (by decide +kernel))⟩), ⟨by decide +kernel, by decide +kernel, by decide +kernel, by decide +kernel, by decide +kernel⟩⟩
set_option maxRecDepth 100000 in
theorem mw_X1_spread : MO 27 := ⟨wsG_of 728 rfl (by decide +kernel), wsG_of 74 (by decide +kernel) (by decide +kernel), (fun h => absurd h (by decide +kernel)), (fun _ => ⟨wsG_of 727 (by decide +kernel) (by decide +kernel), (fun h => absurd h (by decide +kernel)), (fun _ => wsG_of 16 (by decide +kernel) (by decide +kernel))⟩), ⟨by decide +kernel, by decide +kernel, by decide +kernel, by decide +kernel, by decide +kernel⟩⟩
set_option maxRecDepth 100000 in
theorem mw_X1_advance : MO 28 := ⟨wsG_of 724 rfl (by decide +kernel), wsG_of 74 (by decide +kernel) (by decide +kernel), (fun h => absurd h (by decide +kernel)), (fun _ => ⟨wsG_of 722 (by decide +kernel) (by decide +kernel), (fun h => absurd h (by decide +kernel)), (fun _ => wsG_of 723 (by decide +kernel) (by decide +kernel))⟩), ⟨by decide +kernel, by decide +kernel, by decide +kernel, by decide +kernel, by decide +kernel⟩⟩
set_option maxRecDepth 100000 in
theorem mw_X1_keep : MO 29 := ⟨wsG_of 823 rfl (by decide +kernel), wsG_of 74 (by decide +kernel) (by decide +kernel), (fun h => absurd h (by decide +kernel)), (fun _ => ⟨wsG_of 821 (by decide +kernel) (by decide +kernel), (fun h => absurd h (by decide +kernel)), (fun _ => wsG_of 822 (by decide +kernel) (by decide +kernel))⟩), ⟨by decide +kernel, by decide +kernel, by decide +kernel, by decide +kernel, by decide +kernel⟩⟩
set_option maxRecDepth 100000 in
theorem mw_X1_cells : MO 30 := ⟨wsG_of 719 rfl (by decide +kernel), wsG_of 74 (by decide +kernel) (by decide +kernel), (fun h => absurd h (by decide +kernel)), (fun _ => ⟨wsG_of 717 (by decide +kernel) (by decide +kernel), (fun h => absurd h (by decide +kernel)), (fun _ => wsG_of 718 (by decide +kernel) (by decide +kernel))⟩), ⟨by decide +kernel, by decide +kernel, by decide +kernel, by decide +kernel, by decide +kernel⟩⟩
set_option maxRecDepth 100000 in
theorem mw_X1_facing : MO 31 := ⟨wsG_of 783 rfl (by decide +kernel), wsG_of 74 (by decide +kernel) (by decide +kernel), (fun h => absurd h (by decide +kernel)), (fun _ => ⟨wsG_of 781 (by decide +kernel) (by decide +kernel), (fun h => absurd h (by decide +kernel)), (fun _ => wsG_of 782 (by decide +kernel) (by decide +kernel))⟩), ⟨by decide +kernel, by decide +kernel, by decide +kernel, by decide +kernel, by decide +kernel⟩⟩
set_option maxRecDepth 100000 in
theorem mw_X1_beatsTo : MO 32 := ⟨wsG_of 715 rfl (by decide +kernel), wsG_of 74 (by decide +kernel) (by decide +kernel), (fun h => absurd h (by decide +kernel)), (fun _ => ⟨wsG_of 713 (by decide +kernel) (by decide +kernel), (fun h => absurd h (by decide +kernel)), (fun _ => wsG_of 714 (by decide +kernel) (by decide +kernel))⟩), ⟨by decide +kernel, by decide +kernel, by decide +kernel, by decide +kernel, by decide +kernel⟩⟩
set_option maxRecDepth 100000 in
theorem mw_X2_init : MO 33 := ⟨wsG_of 303 rfl (by decide +kernel), wsG_of 73 (by decide +kernel) (by decide +kernel), (fun h => absurd h (by decide +kernel)), (fun _ => ⟨wsG_of 302 (by decide +kernel) (by decide +kernel), (fun _ => by decide +kernel), (fun h => absurd (by decide +kernel) h)⟩), ⟨by decide +kernel, by decide +kernel, by decide +kernel, by decide +kernel, by decide +kernel⟩⟩
set_option maxRecDepth 100000 in
theorem mw_X2_become : MO 34 := ⟨wsG_of 623 rfl (by decide +kernel), wsG_of 73 (by decide +kernel) (by decide +kernel), (fun h => absurd h (by decide +kernel)), (fun _ => ⟨wsG_of 621 (by decide +kernel) (by decide +kernel), (fun h => absurd h (by decide +kernel)), (fun _ => wsG_of 622 (by decide +kernel) (by decide +kernel))⟩), ⟨by decide +kernel, by decide +kernel, by decide +kernel, by decide +kernel, by decide +kernel⟩⟩
set_option maxRecDepth 100000 in
theorem mw_X2_isOn : MO 35 := ⟨wsG_of 640 rfl (by decide +kernel), wsG_of 73 (by decide +kernel) (by decide +kernel), (fun h => absurd h (by decide +kernel)), (fun _ => ⟨wsG_of 639 (by decide +kernel) (by decide +kernel), (fun h => absurd h (by decide +kernel)), (fun _ => wsG_of 11 (by decide +kernel) (by decide +kernel))⟩), ⟨by decide +kernel, by decide +kernel, by decide +kernel, by decide +kernel, by decide +kernel⟩⟩
set_option maxRecDepth 100000 in
theorem mw_X2_rests : MO 36 := ⟨wsG_of 636 rfl (by decide +kernel), wsG_of 73 (by decide +kernel) (by decide +kernel), (fun h => absurd h (by decide +kernel)), (fun _ => ⟨wsG_of 635 (by decide +kernel) (by decide +kernel), (fun h => absurd h (by decide +kernel)), (fun _ => wsG_of 10 (by decide +kernel) (by decide +kernel))⟩), ⟨by decide +kernel, by decide +kernel, by decide +kernel, by decide +kernel, by decide +kernel⟩⟩
set_option maxRecDepth 100000 in
theorem mw_X2_isRound : MO 37 := ⟨wsG_of 653 rfl (by decide +kernel), wsG_of 73 (by decide +kernel) (by decide +kernel), (fun h => absurd h (by decide +kernel)), (fun _ => ⟨wsG_of 652 (by decide +kernel) (by decide +kernel), (fun h => absurd h (by decide +kernel)), (fun _ => wsG_of 13 (by decide +kernel) (by decide +kernel))⟩), ⟨by decide +kernel, by decide +kernel, by decide +kernel, by decide +kernel, by decide +kernel⟩⟩
set_option maxRecDepth 100000 in
theorem mw_X2_way : MO 38 := ⟨wsG_of 649 rfl (by decide +kernel), wsG_of 73 (by decide +kernel) (by decide +kernel), (fun h => absurd h (by decide +kernel)), (fun _ => ⟨wsG_of 647 (by decide +kernel) (by decide +kernel), (fun h => absurd h (by decide +kernel)), (fun _ => wsG_of 648 (by decide +kernel) (by decide +kernel))⟩), ⟨by decide +kernel, by decide +kernel, by decide +kernel, by decide +kernel, by decide +kernel⟩⟩
set_option maxRecDepth 100000 in
theorem mw_X2_ons : MO 39 := ⟨wsG_of 662 rfl (by decide +kernel), wsG_of 73 (by decide +kernel) (by decide +kernel), (fun h => absurd h (by decide +kernel)), (fun _ => ⟨wsG_of 661 (by decide +kernel) (by decide +kernel), (fun h => absurd h (by decide +kernel)), (fun _ => wsG_of 14 (by decide +kernel) (by decide +kernel))⟩), ⟨by decide +kernel, by decide +kernel, by decide +kernel, by decide +kernel, by decide +kernel⟩⟩
set_option maxRecDepth 100000 in
theorem mw_X2_leaves : MO 40 := ⟨wsG_of 645 rfl (by decide +kernel), wsG_of 73 (by decide +kernel) (by decide +kernel), (fun h => absurd h (by decide +kernel)), (fun _ => ⟨wsG_of 644 (by decide +kernel) (by decide +kernel), (fun h => absurd h (by decide +kernel)), (fun _ => wsG_of 12 (by decide +kernel) (by decide +kernel))⟩), ⟨by decide +kernel, by decide +kernel, by decide +kernel, by decide +kernel, by decide +kernel⟩⟩
set_option maxRecDepth 100000 in
theorem mw_X2_starts : MO 41 := ⟨wsG_of 632 rfl (by decide +kernel), wsG_of 73 (by decide +kernel) (by decide +kernel), (fun h => absurd h (by decide +kernel)), (fun _ => ⟨wsG_of 630 (by decide +kernel) (by decide +kernel), (fun h => absurd h (by decide +kernel)), (fun _ => wsG_of 631 (by decide +kernel) (by decide +kernel))⟩), ⟨by decide +kernel, by decide +kernel, by decide +kernel, by decide +kernel, by decide +kernel⟩⟩
set_option maxRecDepth 100000 in
theorem mw_X2_tick : MO 42 := ⟨wsG_of 691 rfl (by decide +kernel), wsG_of 73 (by decide +kernel) (by decide +kernel), (fun h => absurd h (by decide +kernel)), (fun _ => ⟨wsG_of 689 (by decide +kernel) (by decide +kernel), (fun h => absurd h (by decide +kernel)), (fun _ => wsG_of 690 (by decide +kernel) (by decide +kernel))⟩), ⟨by decide +kernel, by decide +kernel, by decide +kernel, by decide +kernel, by decide +kernel⟩⟩
set_option maxRecDepth 100000 in
theorem mw_X2_steps : MO 43 := ⟨wsG_of 628 rfl (by decide +kernel), wsG_of 73 (by decide +kernel) (by decide +kernel), (fun h => absurd h (by decide +kernel)), (fun _ => ⟨wsG_of 626 (by decide +kernel) (by decide +kernel), (fun h => absurd h (by decide +kernel)), (fun _ => wsG_of 627 (by decide +kernel) (by decide +kernel))⟩), ⟨by decide +kernel, by decide +kernel, by decide +kernel, by decide +kernel, by decide +kernel⟩⟩
set_option maxRecDepth 100000 in
theorem mw_X3_rhythm : MO 44 := ⟨wsG_of 604 rfl (by decide +kernel), wsG_of 70 (by decide +kernel) (by decide +kernel), (fun h => absurd h (by decide +kernel)), (fun _ => ⟨wsG_of 602 (by decide +kernel) (by decide +kernel), (fun h => absurd h (by decide +kernel)), (fun _ => wsG_of 603 (by decide +kernel) (by decide +kernel))⟩), ⟨by decide +kernel, by decide +kernel, by decide +kernel, by decide +kernel, by decide +kernel⟩⟩
set_option maxRecDepth 100000 in
theorem mw_X3_beat : MO 45 := ⟨wsG_of 600 rfl (by decide +kernel), wsG_of 70 (by decide +kernel) (by decide +kernel), (fun h => absurd h (by decide +kernel)), (fun _ => ⟨wsG_of 598 (by decide +kernel) (by decide +kernel), (fun h => absurd h (by decide +kernel)), (fun _ => wsG_of 599 (by decide +kernel) (by decide +kernel))⟩), ⟨by decide +kernel, by decide +kernel, by decide +kernel, by decide +kernel, by decide +kernel⟩⟩
set_option maxRecDepth 100000 in
theorem mw_X3_backward : MO 46 := ⟨wsG_of 658 rfl (by decide +kernel), wsG_of 70 (by decide +kernel) (by decide +kernel), (fun h => absurd h (by decide +kernel)), (fun _ => ⟨wsG_of 656 (by decide +kernel) (by decide +kernel), (fun h => absurd h (by decide +kernel)), (fun _ => wsG_of 657 (by decide +kernel) (by decide +kernel))⟩), ⟨by decide +kernel, by decide +kernel, by decide +kernel, by decide +kernel, by decide +kernel⟩⟩
set_option maxRecDepth 100000 in
theorem mw_X3_onward : MO 47 := ⟨wsG_of 666 rfl (by decide +kernel), wsG_of 70 (by decide +kernel) (by decide +kernel), (fun h => absurd h (by decide +kernel)), (fun _ => ⟨wsG_of 664 (by decide +kernel) (by decide +kernel), (fun h => absurd h (by decide +kernel)), (fun _ => wsG_of 665 (by decide +kernel) (by decide +kernel))⟩), ⟨by decide +kernel, by decide +kernel, by decide +kernel, by decide +kernel, by decide +kernel⟩⟩
set_option maxRecDepth 100000 in
theorem mw_X3_init : MO 48 := ⟨wsG_of 208 rfl (by decide +kernel), wsG_of 70 (by decide +kernel) (by decide +kernel), (fun h => absurd h (by decide +kernel)), (fun _ => ⟨wsG_of 207 (by decide +kernel) (by decide +kernel), (fun _ => by decide +kernel), (fun h => absurd (by decide +kernel) h)⟩), ⟨by decide +kernel, by decide +kernel, by decide +kernel, by decide +kernel, by decide +kernel⟩⟩
set_option maxRecDepth 100000 in
theorem mw_X3_marked : MO 49 := ⟨wsG_of 563 rfl (by decide +kernel), wsG_of 70 (by decide +kernel) (by decide +kernel), (fun h => absurd h (by decide +kernel)), (fun _ => ⟨wsG_of 561 (by decide +kernel) (by decide +kernel), (fun h => absurd h (by decide +kernel)), (fun _ => wsG_of 562 (by decide +kernel) (by decide +kernel))⟩), ⟨by decide +kernel, by decide +kernel, by decide +kernel, by decide +kernel, by decide +kernel⟩⟩
set_option maxRecDepth 100000 in
theorem mw_X4_init : MO 50 := ⟨wsG_of 346 rfl (by decide +kernel), wsG_of 75 (by decide +kernel) (by decide +kernel), (fun h => absurd h (by decide +kernel)), (fun _ => ⟨wsG_of 345 (by decide +kernel) (by decide +kernel), (fun _ => by decide +kernel), (fun h => absurd (by decide +kernel) h)⟩), ⟨by decide +kernel, by decide +kernel, by decide +kernel, by decide +kernel, by decide +kernel⟩⟩
set_option maxRecDepth 100000 in
theorem mw_X4_join : MO 51 := ⟨wsG_of 836 rfl (by decide +kernel), wsG_of 75 (by decide +kernel) (by decide +kernel), (fun _ => wsG_of 835 (by decide +kernel) (by decide +kernel)), (fun h => absurd h (by decide +kernel)), ⟨by decide +kernel, by decide +kernel, by decide +kernel, by decide +kernel, by decide +kernel⟩⟩
set_option maxRecDepth 100000 in
theorem mw_X4_alone : MO 52 := ⟨wsG_of 831 rfl (by decide +kernel), wsG_of 75 (by decide +kernel) (by decide +kernel), (fun h => absurd h (by decide +kernel)), (fun _ => ⟨wsG_of 829 (by decide +kernel) (by decide +kernel), (fun h => absurd h (by decide +kernel)), (fun _ => wsG_of 830 (by decide +kernel) (by decide +kernel))⟩), ⟨by decide +kernel, by decide +kernel, by decide +kernel, by decide +kernel, by decide +kernel⟩⟩
set_option maxRecDepth 100000 in
theorem mw_X4_part : MO 53 := ⟨wsG_of 844 rfl (by decide +kernel), wsG_of 75 (by decide +kernel) (by decide +kernel), (fun h => absurd h (by decide +kernel)), (fun _ => ⟨wsG_of 843 (by decide +kernel) (by decide +kernel), (fun h => absurd h (by decide +kernel)), (fun _ => wsG_of 21 (by decide +kernel) (by decide +kernel))⟩), ⟨by decide +kernel, by decide +kernel, by decide +kernel, by decide +kernel, by decide +kernel⟩⟩
set_option maxRecDepth 100000 in
theorem mw_X4_advance : MO 54 := ⟨wsG_of 840 rfl (by decide +kernel), wsG_of 75 (by decide +kernel) (by decide +kernel), (fun h => absurd h (by decide +kernel)), (fun _ => ⟨wsG_of 838 (by decide +kernel) (by decide +kernel), (fun h => absurd h (by decide +kernel)), (fun _ => wsG_of 839 (by decide +kernel) (by decide +kernel))⟩), ⟨by decide +kernel, by decide +kernel, by decide +kernel, by decide +kernel, by decide +kernel⟩⟩
set_option maxRecDepth 100000 in
theorem mw_X4_shares : MO 55 := ⟨wsG_of 861 rfl (by decide +kernel), wsG_of 75 (by decide +kernel) (by decide +kernel), (fun h => absurd h (by decide +kernel)), (fun _ => ⟨wsG_of 859 (by decide +kernel) (by decide +kernel), (fun h => absurd h (by decide +kernel)), (fun _ => wsG_of 860 (by decide +kernel) (by decide +kernel))⟩), ⟨by decide +kernel, by decide +kernel, by decide +kernel, by decide +kernel, by decide +kernel⟩⟩
set_option maxRecDepth 100000 in
theorem mw_X5_init : MO 56 := ⟨wsG_of 260 rfl (by decide +kernel), wsG_of 71 (by decide +kernel) (by decide +kernel), (fun h => absurd h (by decide +kernel)), (fun _ => ⟨wsG_of 259 (by decide +kernel) (by decide +kernel), (fun _ => by decide +kernel), (fun h => absurd (by decide +kernel) h)⟩), ⟨by decide +kernel, by decide +kernel, by decide +kernel, by decide +kernel, by decide +kernel⟩⟩
set_option maxRecDepth 100000 in
theorem mw_X5_who : MO 57 := ⟨wsG_of 587 rfl (by decide +kernel), wsG_of 71 (by decide +kernel) (by decide +kernel), (fun h => absurd h (by decide +kernel)), (fun _ => ⟨wsG_of 585 (by decide +kernel) (by decide +kernel), (fun h => absurd h (by decide +kernel)), (fun _ => wsG_of 586 (by decide +kernel) (by decide +kernel))⟩), ⟨by decide +kernel, by decide +kernel, by decide +kernel, by decide +kernel, by decide +kernel⟩⟩
set_option maxRecDepth 100000 in
theorem mw_X5_added : MO 58 := ⟨wsG_of 583 rfl (by decide +kernel), wsG_of 71 (by decide +kernel) (by decide +kernel), (fun h => absurd h (by decide +kernel)), (fun _ => ⟨wsG_of 581 (by decide +kernel) (by decide +kernel), (fun h => absurd h (by decide +kernel)), (fun _ => wsG_of 582 (by decide +kernel) (by decide +kernel))⟩), ⟨by decide +kernel, by decide +kernel, by decide +kernel, by decide +kernel, by decide +kernel⟩⟩
set_option maxRecDepth 100000 in
theorem mw_X5_become : MO 59 := ⟨wsG_of 892 rfl (by decide +kernel), wsG_of 71 (by decide +kernel) (by decide +kernel), (fun h => absurd h (by decide +kernel)), (fun _ => ⟨wsG_of 890 (by decide +kernel) (by decide +kernel), (fun h => absurd h (by decide +kernel)), (fun _ => wsG_of 891 (by decide +kernel) (by decide +kernel))⟩), ⟨by decide +kernel, by decide +kernel, by decide +kernel, by decide +kernel, by decide +kernel⟩⟩
set_option maxRecDepth 100000 in
theorem mw_X6_init : MO 60 := ⟨wsG_of 363 rfl (by decide +kernel), wsG_of 76 (by decide +kernel) (by decide +kernel), (fun h => absurd h (by decide +kernel)), (fun _ => ⟨wsG_of 362 (by decide +kernel) (by decide +kernel), (fun _ => by decide +kernel), (fun h => absurd (by decide +kernel) h)⟩), ⟨by decide +kernel, by decide +kernel, by decide +kernel, by decide +kernel, by decide +kernel⟩⟩
set_option maxRecDepth 100000 in
theorem mw_X6_become : MO 61 := ⟨wsG_of 968 rfl (by decide +kernel), wsG_of 76 (by decide +kernel) (by decide +kernel), (fun h => absurd h (by decide +kernel)), (fun _ => ⟨wsG_of 966 (by decide +kernel) (by decide +kernel), (fun h => absurd h (by decide +kernel)), (fun _ => wsG_of 967 (by decide +kernel) (by decide +kernel))⟩), ⟨by decide +kernel, by decide +kernel, by decide +kernel, by decide +kernel, by decide +kernel⟩⟩
set_option maxRecDepth 100000 in
theorem mw_X6_has : MO 62 := ⟨wsG_of 880 rfl (by decide +kernel), wsG_of 76 (by decide +kernel) (by decide +kernel), (fun h => absurd h (by decide +kernel)), (fun _ => ⟨wsG_of 878 (by decide +kernel) (by decide +kernel), (fun h => absurd h (by decide +kernel)), (fun _ => wsG_of 879 (by decide +kernel) (by decide +kernel))⟩), ⟨by decide +kernel, by decide +kernel, by decide +kernel, by decide +kernel, by decide +kernel⟩⟩
set_option maxRecDepth 100000 in
theorem mw_X6_reaches : MO 63 := ⟨wsG_of 993 rfl (by decide +kernel), wsG_of 76 (by decide +kernel) (by decide +kernel), (fun h => absurd h (by decide +kernel)), (fun _ => ⟨wsG_of 991 (by decide +kernel) (by decide +kernel), (fun h => absurd h (by decide +kernel)), (fun _ => wsG_of 992 (by decide +kernel) (by decide +kernel))⟩), ⟨by decide +kernel, by decide +kernel, by decide +kernel, by decide +kernel, by decide +kernel⟩⟩
set_option maxRecDepth 100000 in
theorem mw_X6_value : MO 64 := ⟨wsG_of 884 rfl (by decide +kernel), wsG_of 76 (by decide +kernel) (by decide +kernel), (fun h => absurd h (by decide +kernel)), (fun _ => ⟨wsG_of 882 (by decide +kernel) (by decide +kernel), (fun h => absurd h (by decide +kernel)), (fun _ => wsG_of 883 (by decide +kernel) (by decide +kernel))⟩), ⟨by decide +kernel, by decide +kernel, by decide +kernel, by decide +kernel, by decide +kernel⟩⟩
set_option maxRecDepth 100000 in
theorem mw_X6_cut : MO 65 := ⟨wsG_of 981 rfl (by decide +kernel), wsG_of 76 (by decide +kernel) (by decide +kernel), (fun h => absurd h (by decide +kernel)), (fun _ => ⟨wsG_of 980 (by decide +kernel) (by decide +kernel), (fun h => absurd h (by decide +kernel)), (fun _ => wsG_of 27 (by decide +kernel) (by decide +kernel))⟩), ⟨by decide +kernel, by decide +kernel, by decide +kernel, by decide +kernel, by decide +kernel⟩⟩
set_option maxRecDepth 100000 in
theorem mw_X6_write : MO 66 := ⟨wsG_of 977 rfl (by decide +kernel), wsG_of 76 (by decide +kernel) (by decide +kernel), (fun h => absurd h (by decide +kernel)), (fun _ => ⟨wsG_of 975 (by decide +kernel) (by decide +kernel), (fun h => absurd h (by decide +kernel)), (fun _ => wsG_of 976 (by decide +kernel) (by decide +kernel))⟩), ⟨by decide +kernel, by decide +kernel, by decide +kernel, by decide +kernel, by decide +kernel⟩⟩
set_option maxRecDepth 100000 in
theorem mw_X7_init : MO 67 := ⟨wsG_of 100 rfl (by decide +kernel), wsG_of 67 (by decide +kernel) (by decide +kernel), (fun h => absurd h (by decide +kernel)), (fun _ => ⟨wsG_of 99 (by decide +kernel) (by decide +kernel), (fun _ => by decide +kernel), (fun h => absurd (by decide +kernel) h)⟩), ⟨by decide +kernel, by decide +kernel, by decide +kernel, by decide +kernel, by decide +kernel⟩⟩
set_option maxRecDepth 100000 in
theorem mw_X7_add : MO 68 := ⟨wsG_of 421 rfl (by decide +kernel), wsG_of 67 (by decide +kernel) (by decide +kernel), (fun h => absurd h (by decide +kernel)), (fun _ => ⟨wsG_of 419 (by decide +kernel) (by decide +kernel), (fun h => absurd h (by decide +kernel)), (fun _ => wsG_of 420 (by decide +kernel) (by decide +kernel))⟩), ⟨by decide +kernel, by decide +kernel, by decide +kernel, by decide +kernel, by decide +kernel⟩⟩
set_option maxRecDepth 100000 in
theorem mw_X7_takes : MO 69 := ⟨wsG_of 440 rfl (by decide +kernel), wsG_of 67 (by decide +kernel) (by decide +kernel), (fun h => absurd h (by decide +kernel)), (fun _ => ⟨wsG_of 439 (by decide +kernel) (by decide +kernel), (fun h => absurd h (by decide +kernel)), (fun _ => wsG_of 1 (by decide +kernel) (by decide +kernel))⟩), ⟨by decide +kernel, by decide +kernel, by decide +kernel, by decide +kernel, by decide +kernel⟩⟩
set_option maxRecDepth 100000 in
theorem mw_X7_needs : MO 70 := ⟨wsG_of 445 rfl (by decide +kernel), wsG_of 67 (by decide +kernel) (by decide +kernel), (fun h => absurd h (by decide +kernel)), (fun _ => ⟨wsG_of 444 (by decide +kernel) (by decide +kernel), (fun h => absurd h (by decide +kernel)), (fun _ => wsG_of 2 (by decide +kernel) (by decide +kernel))⟩), ⟨by decide +kernel, by decide +kernel, by decide +kernel, by decide +kernel, by decide +kernel⟩⟩
set_option maxRecDepth 100000 in
theorem mw_X7_oneIf : MO 71 := ⟨wsG_of 502 rfl (by decide +kernel), wsG_of 67 (by decide +kernel) (by decide +kernel), (fun h => absurd h (by decide +kernel)), (fun _ => ⟨wsG_of 501 (by decide +kernel) (by decide +kernel), (fun h => absurd h (by decide +kernel)), (fun _ => wsG_of 4 (by decide +kernel) (by decide +kernel))⟩), ⟨by decide +kernel, by decide +kernel, by decide +kernel, by decide +kernel, by decide +kernel⟩⟩
set_option maxRecDepth 100000 in
theorem mw_X7_number : MO 72 := ⟨wsG_of 497 rfl (by decide +kernel), wsG_of 67 (by decide +kernel) (by decide +kernel), (fun h => absurd h (by decide +kernel)), (fun _ => ⟨wsG_of 496 (by decide +kernel) (by decide +kernel), (fun h => absurd h (by decide +kernel)), (fun _ => wsG_of 3 (by decide +kernel) (by decide +kernel))⟩), ⟨by decide +kernel, by decide +kernel, by decide +kernel, by decide +kernel, by decide +kernel⟩⟩
set_option maxRecDepth 100000 in
theorem mw_X7_oneOf : MO 73 := ⟨wsG_of 530 rfl (by decide +kernel), wsG_of 67 (by decide +kernel) (by decide +kernel), (fun h => absurd h (by decide +kernel)), (fun _ => ⟨wsG_of 529 (by decide +kernel) (by decide +kernel), (fun h => absurd h (by decide +kernel)), (fun _ => wsG_of 8 (by decide +kernel) (by decide +kernel))⟩), ⟨by decide +kernel, by decide +kernel, by decide +kernel, by decide +kernel, by decide +kernel⟩⟩
set_option maxRecDepth 100000 in
theorem mw_X7_measure : MO 74 := ⟨wsG_of 537 rfl (by decide +kernel), wsG_of 67 (by decide +kernel) (by decide +kernel), (fun _ => wsG_of 536 (by decide +kernel) (by decide +kernel)), (fun h => absurd h (by decide +kernel)), ⟨by decide +kernel, by decide +kernel, by decide +kernel, by decide +kernel, by decide +kernel⟩⟩
set_option maxRecDepth 100000 in
theorem mw_X7_tested : MO 75 := ⟨wsG_of 534 rfl (by decide +kernel), wsG_of 67 (by decide +kernel) (by decide +kernel), (fun _ => wsG_of 533 (by decide +kernel) (by decide +kernel)), (fun h => absurd h (by decide +kernel)), ⟨by decide +kernel, by decide +kernel, by decide +kernel, by decide +kernel, by decide +kernel⟩⟩
set_option maxRecDepth 100000 in
theorem mw_X7_both : MO 76 := ⟨wsG_of 518 rfl (by decide +kernel), wsG_of 67 (by decide +kernel) (by decide +kernel), (fun h => absurd h (by decide +kernel)), (fun _ => ⟨wsG_of 517 (by decide +kernel) (by decide +kernel), (fun h => absurd h (by decide +kernel)), (fun _ => wsG_of 6 (by decide +kernel) (by decide +kernel))⟩), ⟨by decide +kernel, by decide +kernel, by decide +kernel, by decide +kernel, by decide +kernel⟩⟩
set_option maxRecDepth 100000 in
theorem mw_X7_either : MO 77 := ⟨wsG_of 514 rfl (by decide +kernel), wsG_of 67 (by decide +kernel) (by decide +kernel), (fun h => absurd h (by decide +kernel)), (fun _ => ⟨wsG_of 513 (by decide +kernel) (by decide +kernel), (fun h => absurd h (by decide +kernel)), (fun _ => wsG_of 5 (by decide +kernel) (by decide +kernel))⟩), ⟨by decide +kernel, by decide +kernel, by decide +kernel, by decide +kernel, by decide +kernel⟩⟩
set_option maxRecDepth 100000 in
theorem mw_X7_single : MO 78 := ⟨wsG_of 522 rfl (by decide +kernel), wsG_of 67 (by decide +kernel) (by decide +kernel), (fun h => absurd h (by decide +kernel)), (fun _ => ⟨wsG_of 521 (by decide +kernel) (by decide +kernel), (fun h => absurd h (by decide +kernel)), (fun _ => wsG_of 7 (by decide +kernel) (by decide +kernel))⟩), ⟨by decide +kernel, by decide +kernel, by decide +kernel, by decide +kernel, by decide +kernel⟩⟩
set_option maxRecDepth 100000 in
theorem mw_X7_clause : MO 79 := ⟨wsG_of 436 rfl (by decide +kernel), wsG_of 67 (by decide +kernel) (by decide +kernel), (fun h => absurd h (by decide +kernel)), (fun _ => ⟨wsG_of 435 (by decide +kernel) (by decide +kernel), (fun h => absurd h (by decide +kernel)), (fun _ => wsG_of 0 (by decide +kernel) (by decide +kernel))⟩), ⟨by decide +kernel, by decide +kernel, by decide +kernel, by decide +kernel, by decide +kernel⟩⟩
set_option maxRecDepth 100000 in
theorem mw_X7_parsed : MO 80 := ⟨wsG_of 429 rfl (by decide +kernel), wsG_of 67 (by decide +kernel) (by decide +kernel), (fun h => absurd h (by decide +kernel)), (fun _ => ⟨wsG_of 427 (by decide +kernel) (by decide +kernel), (fun h => absurd h (by decide +kernel)), (fun _ => wsG_of 428 (by decide +kernel) (by decide +kernel))⟩), ⟨by decide +kernel, by decide +kernel, by decide +kernel, by decide +kernel, by decide +kernel⟩⟩
set_option maxRecDepth 100000 in
theorem mw_X8_init : MO 81 := ⟨wsG_of 268 rfl (by decide +kernel), wsG_of 72 (by decide +kernel) (by decide +kernel), (fun h => absurd h (by decide +kernel)), (fun _ => ⟨wsG_of 267 (by decide +kernel) (by decide +kernel), (fun _ => by decide +kernel), (fun h => absurd (by decide +kernel) h)⟩), ⟨by decide +kernel, by decide +kernel, by decide +kernel, by decide +kernel, by decide +kernel⟩⟩
set_option maxRecDepth 100000 in
theorem mw_X8_become : MO 82 := ⟨wsG_of 896 rfl (by decide +kernel), wsG_of 72 (by decide +kernel) (by decide +kernel), (fun h => absurd h (by decide +kernel)), (fun _ => ⟨wsG_of 894 (by decide +kernel) (by decide +kernel), (fun h => absurd h (by decide +kernel)), (fun _ => wsG_of 895 (by decide +kernel) (by decide +kernel))⟩), ⟨by decide +kernel, by decide +kernel, by decide +kernel, by decide +kernel, by decide +kernel⟩⟩
set_option maxRecDepth 100000 in
theorem mw_X8_at : MO 83 := ⟨wsG_of 803 rfl (by decide +kernel), wsG_of 72 (by decide +kernel) (by decide +kernel), (fun h => absurd h (by decide +kernel)), (fun _ => ⟨wsG_of 801 (by decide +kernel) (by decide +kernel), (fun h => absurd h (by decide +kernel)), (fun _ => wsG_of 802 (by decide +kernel) (by decide +kernel))⟩), ⟨by decide +kernel, by decide +kernel, by decide +kernel, by decide +kernel, by decide +kernel⟩⟩
set_option maxRecDepth 100000 in
theorem mw_X8_tell : MO 84 := ⟨wsG_of 791 rfl (by decide +kernel), wsG_of 72 (by decide +kernel) (by decide +kernel), (fun h => absurd h (by decide +kernel)), (fun _ => ⟨wsG_of 789 (by decide +kernel) (by decide +kernel), (fun h => absurd h (by decide +kernel)), (fun _ => wsG_of 790 (by decide +kernel) (by decide +kernel))⟩), ⟨by decide +kernel, by decide +kernel, by decide +kernel, by decide +kernel, by decide +kernel⟩⟩
set_option maxRecDepth 100000 in
theorem mw_X9_init : MO 85 := ⟨wsG_of 132 rfl (by decide +kernel), wsG_of 68 (by decide +kernel) (by decide +kernel), (fun h => absurd h (by decide +kernel)), (fun _ => ⟨wsG_of 131 (by decide +kernel) (by decide +kernel), (fun _ => by decide +kernel), (fun h => absurd (by decide +kernel) h)⟩), ⟨by decide +kernel, by decide +kernel, by decide +kernel, by decide +kernel, by decide +kernel⟩⟩
set_option maxRecDepth 100000 in
theorem mw_X9_become : MO 86 := ⟨wsG_of 799 rfl (by decide +kernel), wsG_of 68 (by decide +kernel) (by decide +kernel), (fun h => absurd h (by decide +kernel)), (fun _ => ⟨wsG_of 797 (by decide +kernel) (by decide +kernel), (fun h => absurd h (by decide +kernel)), (fun _ => wsG_of 798 (by decide +kernel) (by decide +kernel))⟩), ⟨by decide +kernel, by decide +kernel, by decide +kernel, by decide +kernel, by decide +kernel⟩⟩
set_option maxRecDepth 100000 in
theorem mw_X9_stands : MO 87 := ⟨wsG_of 591 rfl (by decide +kernel), wsG_of 68 (by decide +kernel) (by decide +kernel), (fun h => absurd h (by decide +kernel)), (fun _ => ⟨wsG_of 589 (by decide +kernel) (by decide +kernel), (fun h => absurd h (by decide +kernel)), (fun _ => wsG_of 590 (by decide +kernel) (by decide +kernel))⟩), ⟨by decide +kernel, by decide +kernel, by decide +kernel, by decide +kernel, by decide +kernel⟩⟩
set_option maxRecDepth 100000 in
theorem mw_X10_across : MO 88 := ⟨wsG_of 214 rfl (by decide +kernel), wsG_of 66 (by decide +kernel) (by decide +kernel), (fun _ => wsG_of 213 (by decide +kernel) (by decide +kernel)), (fun h => absurd h (by decide +kernel)), ⟨by decide +kernel, by decide +kernel, by decide +kernel, by decide +kernel, by decide +kernel⟩⟩
set_option maxRecDepth 100000 in
theorem mw_X10_facingBy : MO 89 := ⟨wsG_of 687 rfl (by decide +kernel), wsG_of 66 (by decide +kernel) (by decide +kernel), (fun _ => wsG_of 686 (by decide +kernel) (by decide +kernel)), (fun h => absurd h (by decide +kernel)), ⟨by decide +kernel, by decide +kernel, by decide +kernel, by decide +kernel, by decide +kernel⟩⟩
set_option maxRecDepth 100000 in
theorem mw_X10_cameBy : MO 90 := ⟨wsG_of 683 rfl (by decide +kernel), wsG_of 66 (by decide +kernel) (by decide +kernel), (fun _ => wsG_of 682 (by decide +kernel) (by decide +kernel)), (fun h => absurd h (by decide +kernel)), ⟨by decide +kernel, by decide +kernel, by decide +kernel, by decide +kernel, by decide +kernel⟩⟩
set_option maxRecDepth 100000 in
theorem mw_X10_moved : MO 91 := ⟨wsG_of 217 rfl (by decide +kernel), wsG_of 66 (by decide +kernel) (by decide +kernel), (fun _ => wsG_of 216 (by decide +kernel) (by decide +kernel)), (fun h => absurd h (by decide +kernel)), ⟨by decide +kernel, by decide +kernel, by decide +kernel, by decide +kernel, by decide +kernel⟩⟩
set_option maxRecDepth 100000 in
theorem mw_X10_holds : MO 92 := ⟨wsG_of 566 rfl (by decide +kernel), wsG_of 66 (by decide +kernel) (by decide +kernel), (fun _ => wsG_of 565 (by decide +kernel) (by decide +kernel)), (fun h => absurd h (by decide +kernel)), ⟨by decide +kernel, by decide +kernel, by decide +kernel, by decide +kernel, by decide +kernel⟩⟩
set_option maxRecDepth 100000 in
theorem mw_X10_next : MO 93 := ⟨wsG_of 607 rfl (by decide +kernel), wsG_of 66 (by decide +kernel) (by decide +kernel), (fun _ => wsG_of 606 (by decide +kernel) (by decide +kernel)), (fun h => absurd h (by decide +kernel)), ⟨by decide +kernel, by decide +kernel, by decide +kernel, by decide +kernel, by decide +kernel⟩⟩
set_option maxRecDepth 100000 in
theorem mw_X10_init : MO 94 := ⟨wsG_of 92 rfl (by decide +kernel), wsG_of 66 (by decide +kernel) (by decide +kernel), (fun h => absurd h (by decide +kernel)), (fun _ => ⟨wsG_of 91 (by decide +kernel) (by decide +kernel), (fun _ => by decide +kernel), (fun h => absurd (by decide +kernel) h)⟩), ⟨by decide +kernel, by decide +kernel, by decide +kernel, by decide +kernel, by decide +kernel⟩⟩
set_option maxRecDepth 100000 in
theorem mw_X10_feed : MO 95 := ⟨wsG_of 417 rfl (by decide +kernel), wsG_of 66 (by decide +kernel) (by decide +kernel), (fun h => absurd h (by decide +kernel)), (fun _ => ⟨wsG_of 415 (by decide +kernel) (by decide +kernel), (fun h => absurd h (by decide +kernel)), (fun _ => wsG_of 416 (by decide +kernel) (by decide +kernel))⟩), ⟨by decide +kernel, by decide +kernel, by decide +kernel, by decide +kernel, by decide +kernel⟩⟩
set_option maxRecDepth 100000 in
theorem mw_X10_land : MO 96 := ⟨wsG_of 425 rfl (by decide +kernel), wsG_of 66 (by decide +kernel) (by decide +kernel), (fun h => absurd h (by decide +kernel)), (fun _ => ⟨wsG_of 423 (by decide +kernel) (by decide +kernel), (fun h => absurd h (by decide +kernel)), (fun _ => wsG_of 424 (by decide +kernel) (by decide +kernel))⟩), ⟨by decide +kernel, by decide +kernel, by decide +kernel, by decide +kernel, by decide +kernel⟩⟩
set_option maxRecDepth 100000 in
theorem mw_X10_told : MO 97 := ⟨wsG_of 552 rfl (by decide +kernel), wsG_of 66 (by decide +kernel) (by decide +kernel), (fun h => absurd h (by decide +kernel)), (fun _ => ⟨wsG_of 550 (by decide +kernel) (by decide +kernel), (fun h => absurd h (by decide +kernel)), (fun _ => wsG_of 551 (by decide +kernel) (by decide +kernel))⟩), ⟨by decide +kernel, by decide +kernel, by decide +kernel, by decide +kernel, by decide +kernel⟩⟩
set_option maxRecDepth 100000 in
theorem mw_X10_isCell : MO 98 := ⟨wsG_of 559 rfl (by decide +kernel), wsG_of 66 (by decide +kernel) (by decide +kernel), (fun _ => wsG_of 558 (by decide +kernel) (by decide +kernel)), (fun h => absurd h (by decide +kernel)), ⟨by decide +kernel, by decide +kernel, by decide +kernel, by decide +kernel, by decide +kernel⟩⟩
set_option maxRecDepth 100000 in
theorem mw_X10_ground : MO 99 := ⟨wsG_of 556 rfl (by decide +kernel), wsG_of 66 (by decide +kernel) (by decide +kernel), (fun h => absurd h (by decide +kernel)), (fun _ => ⟨wsG_of 554 (by decide +kernel) (by decide +kernel), (fun h => absurd h (by decide +kernel)), (fun _ => wsG_of 555 (by decide +kernel) (by decide +kernel))⟩), ⟨by decide +kernel, by decide +kernel, by decide +kernel, by decide +kernel, by decide +kernel⟩⟩
set_option maxRecDepth 100000 in
theorem mw_X10_isKind : MO 100 := ⟨wsG_of 573 rfl (by decide +kernel), wsG_of 66 (by decide +kernel) (by decide +kernel), (fun _ => wsG_of 572 (by decide +kernel) (by decide +kernel)), (fun h => absurd h (by decide +kernel)), ⟨by decide +kernel, by decide +kernel, by decide +kernel, by decide +kernel, by decide +kernel⟩⟩
set_option maxRecDepth 100000 in
theorem mw_X10_isWay : MO 101 := ⟨wsG_of 576 rfl (by decide +kernel), wsG_of 66 (by decide +kernel) (by decide +kernel), (fun _ => wsG_of 575 (by decide +kernel) (by decide +kernel)), (fun h => absurd h (by decide +kernel)), ⟨by decide +kernel, by decide +kernel, by decide +kernel, by decide +kernel, by decide +kernel⟩⟩
set_option maxRecDepth 100000 in
theorem mw_X10_isNumber : MO 102 := ⟨wsG_of 579 rfl (by decide +kernel), wsG_of 66 (by decide +kernel) (by decide +kernel), (fun _ => wsG_of 578 (by decide +kernel) (by decide +kernel)), (fun h => absurd h (by decide +kernel)), ⟨by decide +kernel, by decide +kernel, by decide +kernel, by decide +kernel, by decide +kernel⟩⟩
set_option maxRecDepth 100000 in
theorem mw_X10_walker : MO 103 := ⟨wsG_of 570 rfl (by decide +kernel), wsG_of 66 (by decide +kernel) (by decide +kernel), (fun h => absurd h (by decide +kernel)), (fun _ => ⟨wsG_of 568 (by decide +kernel) (by decide +kernel), (fun h => absurd h (by decide +kernel)), (fun _ => wsG_of 569 (by decide +kernel) (by decide +kernel))⟩), ⟨by decide +kernel, by decide +kernel, by decide +kernel, by decide +kernel, by decide +kernel⟩⟩
set_option maxRecDepth 100000 in
theorem mw_X10_of : MO 104 := ⟨wsG_of 595 rfl (by decide +kernel), wsG_of 66 (by decide +kernel) (by decide +kernel), (fun h => absurd h (by decide +kernel)), (fun _ => ⟨wsG_of 593 (by decide +kernel) (by decide +kernel), (fun h => absurd h (by decide +kernel)), (fun _ => wsG_of 594 (by decide +kernel) (by decide +kernel))⟩), ⟨by decide +kernel, by decide +kernel, by decide +kernel, by decide +kernel, by decide +kernel⟩⟩
set_option maxRecDepth 100000 in
theorem mw_X10_put : MO 105 := ⟨wsG_of 611 rfl (by decide +kernel), wsG_of 66 (by decide +kernel) (by decide +kernel), (fun h => absurd h (by decide +kernel)), (fun _ => ⟨wsG_of 609 (by decide +kernel) (by decide +kernel), (fun h => absurd h (by decide +kernel)), (fun _ => wsG_of 610 (by decide +kernel) (by decide +kernel))⟩), ⟨by decide +kernel, by decide +kernel, by decide +kernel, by decide +kernel, by decide +kernel⟩⟩
set_option maxRecDepth 100000 in
theorem mw_X10_allowed : MO 106 := ⟨wsG_of 619 rfl (by decide +kernel), wsG_of 66 (by decide +kernel) (by decide +kernel), (fun h => absurd h (by decide +kernel)), (fun _ => ⟨wsG_of 618 (by decide +kernel) (by decide +kernel), (fun h => absurd h (by decide +kernel)), (fun _ => wsG_of 9 (by decide +kernel) (by decide +kernel))⟩), ⟨by decide +kernel, by decide +kernel, by decide +kernel, by decide +kernel, by decide +kernel⟩⟩
set_option maxRecDepth 100000 in
theorem mw_X10_may : MO 107 := ⟨wsG_of 615 rfl (by decide +kernel), wsG_of 66 (by decide +kernel) (by decide +kernel), (fun h => absurd h (by decide +kernel)), (fun _ => ⟨wsG_of 613 (by decide +kernel) (by decide +kernel), (fun h => absurd h (by decide +kernel)), (fun _ => wsG_of 614 (by decide +kernel) (by decide +kernel))⟩), ⟨by decide +kernel, by decide +kernel, by decide +kernel, by decide +kernel, by decide +kernel⟩⟩
set_option maxRecDepth 100000 in
theorem mw_X10_isStep : MO 108 := ⟨wsG_of 675 rfl (by decide +kernel), wsG_of 66 (by decide +kernel) (by decide +kernel), (fun _ => wsG_of 674 (by decide +kernel) (by decide +kernel)), (fun h => absurd h (by decide +kernel)), ⟨by decide +kernel, by decide +kernel, by decide +kernel, by decide +kernel, by decide +kernel⟩⟩
set_option maxRecDepth 100000 in
theorem mw_X10_goes : MO 109 := ⟨wsG_of 679 rfl (by decide +kernel), wsG_of 66 (by decide +kernel) (by decide +kernel), (fun h => absurd h (by decide +kernel)), (fun _ => ⟨wsG_of 678 (by decide +kernel) (by decide +kernel), (fun h => absurd h (by decide +kernel)), (fun _ => wsG_of 15 (by decide +kernel) (by decide +kernel))⟩), ⟨by decide +kernel, by decide +kernel, by decide +kernel, by decide +kernel, by decide +kernel⟩⟩
set_option maxRecDepth 100000 in
theorem mw_X10_step : MO 110 := ⟨wsG_of 672 rfl (by decide +kernel), wsG_of 66 (by decide +kernel) (by decide +kernel), (fun h => absurd h (by decide +kernel)), (fun _ => ⟨wsG_of 670 (by decide +kernel) (by decide +kernel), (fun h => absurd h (by decide +kernel)), (fun _ => wsG_of 671 (by decide +kernel) (by decide +kernel))⟩), ⟨by decide +kernel, by decide +kernel, by decide +kernel, by decide +kernel, by decide +kernel⟩⟩
set_option maxRecDepth 100000 in
theorem mw_X10_isPart : MO 111 := ⟨wsG_of 698 rfl (by decide +kernel), wsG_of 66 (by decide +kernel) (by decide +kernel), (fun _ => wsG_of 697 (by decide +kernel) (by decide +kernel)), (fun h => absurd h (by decide +kernel)), ⟨by decide +kernel, by decide +kernel, by decide +kernel, by decide +kernel, by decide +kernel⟩⟩
set_option maxRecDepth 100000 in
theorem mw_X10_firstStep : MO 112 := ⟨wsG_of 742 rfl (by decide +kernel), wsG_of 66 (by decide +kernel) (by decide +kernel), (fun h => absurd h (by decide +kernel)), (fun _ => ⟨wsG_of 741 (by decide +kernel) (by decide +kernel), (fun h => absurd h (by decide +kernel)), (fun _ => wsG_of 18 (by decide +kernel) (by decide +kernel))⟩), ⟨by decide +kernel, by decide +kernel, by decide +kernel, by decide +kernel, by decide +kernel⟩⟩
set_option maxRecDepth 100000 in
theorem mw_X10_soonest : MO 113 := ⟨wsG_of 695 rfl (by decide +kernel), wsG_of 66 (by decide +kernel) (by decide +kernel), (fun h => absurd h (by decide +kernel)), (fun _ => ⟨wsG_of 693 (by decide +kernel) (by decide +kernel), (fun h => absurd h (by decide +kernel)), (fun _ => wsG_of 694 (by decide +kernel) (by decide +kernel))⟩), ⟨by decide +kernel, by decide +kernel, by decide +kernel, by decide +kernel, by decide +kernel⟩⟩
set_option maxRecDepth 100000 in
theorem mw_X10_begin : MO 114 := ⟨wsG_of 748 rfl (by decide +kernel), wsG_of 66 (by decide +kernel) (by decide +kernel), (fun h => absurd h (by decide +kernel)), (fun _ => ⟨wsG_of 746 (by decide +kernel) (by decide +kernel), (fun h => absurd h (by decide +kernel)), (fun _ => wsG_of 747 (by decide +kernel) (by decide +kernel))⟩), ⟨by decide +kernel, by decide +kernel, by decide +kernel, by decide +kernel, by decide +kernel⟩⟩
set_option maxRecDepth 100000 in
theorem mw_X10_within : MO 115 := ⟨wsG_of 759 rfl (by decide +kernel), wsG_of 66 (by decide +kernel) (by decide +kernel), (fun h => absurd h (by decide +kernel)), (fun _ => ⟨wsG_of 758 (by decide +kernel) (by decide +kernel), (fun h => absurd h (by decide +kernel)), (fun _ => wsG_of 19 (by decide +kernel) (by decide +kernel))⟩), ⟨by decide +kernel, by decide +kernel, by decide +kernel, by decide +kernel, by decide +kernel⟩⟩
set_option maxRecDepth 100000 in
theorem mw_X10_reached : MO 116 := ⟨wsG_of 754 rfl (by decide +kernel), wsG_of 66 (by decide +kernel) (by decide +kernel), (fun h => absurd h (by decide +kernel)), (fun _ => ⟨wsG_of 752 (by decide +kernel) (by decide +kernel), (fun h => absurd h (by decide +kernel)), (fun _ => wsG_of 753 (by decide +kernel) (by decide +kernel))⟩), ⟨by decide +kernel, by decide +kernel, by decide +kernel, by decide +kernel, by decide +kernel⟩⟩
set_option maxRecDepth 100000 in
theorem mw_X10_never : MO 117 := ⟨wsG_of 763 rfl (by decide +kernel), wsG_of 66 (by decide +kernel) (by decide +kernel), (fun h => absurd h (by decide +kernel)), (fun _ => ⟨wsG_of 761 (by decide +kernel) (by decide +kernel), (fun h => absurd h (by decide +kernel)), (fun _ => wsG_of 762 (by decide +kernel) (by decide +kernel))⟩), ⟨by decide +kernel, by decide +kernel, by decide +kernel, by decide +kernel, by decide +kernel⟩⟩
set_option maxRecDepth 100000 in
theorem mw_X10_meet : MO 118 := ⟨wsG_of 768 rfl (by decide +kernel), wsG_of 66 (by decide +kernel) (by decide +kernel), (fun h => absurd h (by decide +kernel)), (fun _ => ⟨wsG_of 766 (by decide +kernel) (by decide +kernel), (fun h => absurd h (by decide +kernel)), (fun _ => wsG_of 767 (by decide +kernel) (by decide +kernel))⟩), ⟨by decide +kernel, by decide +kernel, by decide +kernel, by decide +kernel, by decide +kernel⟩⟩
set_option maxRecDepth 100000 in
theorem mw_X10_home : MO 119 := ⟨wsG_of 779 rfl (by decide +kernel), wsG_of 66 (by decide +kernel) (by decide +kernel), (fun h => absurd h (by decide +kernel)), (fun _ => ⟨wsG_of 777 (by decide +kernel) (by decide +kernel), (fun h => absurd h (by decide +kernel)), (fun _ => wsG_of 778 (by decide +kernel) (by decide +kernel))⟩), ⟨by decide +kernel, by decide +kernel, by decide +kernel, by decide +kernel, by decide +kernel⟩⟩
set_option maxRecDepth 100000 in
theorem mw_X10_row : MO 120 := ⟨wsG_of 787 rfl (by decide +kernel), wsG_of 66 (by decide +kernel) (by decide +kernel), (fun h => absurd h (by decide +kernel)), (fun _ => ⟨wsG_of 785 (by decide +kernel) (by decide +kernel), (fun h => absurd h (by decide +kernel)), (fun _ => wsG_of 786 (by decide +kernel) (by decide +kernel))⟩), ⟨by decide +kernel, by decide +kernel, by decide +kernel, by decide +kernel, by decide +kernel⟩⟩
set_option maxRecDepth 100000 in
theorem mw_X10_hand : MO 121 := ⟨wsG_of 795 rfl (by decide +kernel), wsG_of 66 (by decide +kernel) (by decide +kernel), (fun h => absurd h (by decide +kernel)), (fun _ => ⟨wsG_of 793 (by decide +kernel) (by decide +kernel), (fun h => absurd h (by decide +kernel)), (fun _ => wsG_of 794 (by decide +kernel) (by decide +kernel))⟩), ⟨by decide +kernel, by decide +kernel, by decide +kernel, by decide +kernel, by decide +kernel⟩⟩
set_option maxRecDepth 100000 in
theorem mw_X10_track : MO 122 := ⟨wsG_of 807 rfl (by decide +kernel), wsG_of 66 (by decide +kernel) (by decide +kernel), (fun h => absurd h (by decide +kernel)), (fun _ => ⟨wsG_of 805 (by decide +kernel) (by decide +kernel), (fun h => absurd h (by decide +kernel)), (fun _ => wsG_of 806 (by decide +kernel) (by decide +kernel))⟩), ⟨by decide +kernel, by decide +kernel, by decide +kernel, by decide +kernel, by decide +kernel⟩⟩
set_option maxRecDepth 100000 in
theorem mw_X10_left : MO 123 := ⟨wsG_of 815 rfl (by decide +kernel), wsG_of 66 (by decide +kernel) (by decide +kernel), (fun h => absurd h (by decide +kernel)), (fun _ => ⟨wsG_of 814 (by decide +kernel) (by decide +kernel), (fun h => absurd h (by decide +kernel)), (fun _ => wsG_of 20 (by decide +kernel) (by decide +kernel))⟩), ⟨by decide +kernel, by decide +kernel, by decide +kernel, by decide +kernel, by decide +kernel⟩⟩
set_option maxRecDepth 100000 in
theorem mw_X10_tracks : MO 124 := ⟨wsG_of 811 rfl (by decide +kernel), wsG_of 66 (by decide +kernel) (by decide +kernel), (fun h => absurd h (by decide +kernel)), (fun _ => ⟨wsG_of 809 (by decide +kernel) (by decide +kernel), (fun h => absurd h (by decide +kernel)), (fun _ => wsG_of 810 (by decide +kernel) (by decide +kernel))⟩), ⟨by decide +kernel, by decide +kernel, by decide +kernel, by decide +kernel, by decide +kernel⟩⟩
set_option maxRecDepth 100000 in
theorem mw_X10_common : MO 125 := ⟨wsG_of 864 rfl (by decide +kernel), wsG_of 66 (by decide +kernel) (by decide +kernel), (fun _ => wsG_of 863 (by decide +kernel) (by decide +kernel)), (fun h => absurd h (by decide +kernel)), ⟨by decide +kernel, by decide +kernel, by decide +kernel, by decide +kernel, by decide +kernel⟩⟩
set_option maxRecDepth 100000 in
theorem mw_X10_lot : MO 126 := ⟨wsG_of 827 rfl (by decide +kernel), wsG_of 66 (by decide +kernel) (by decide +kernel), (fun h => absurd h (by decide +kernel)), (fun _ => ⟨wsG_of 825 (by decide +kernel) (by decide +kernel), (fun h => absurd h (by decide +kernel)), (fun _ => wsG_of 826 (by decide +kernel) (by decide +kernel))⟩), ⟨by decide +kernel, by decide +kernel, by decide +kernel, by decide +kernel, by decide +kernel⟩⟩
set_option maxRecDepth 100000 in
theorem mw_X10_slower : MO 127 := ⟨wsG_of 868 rfl (by decide +kernel), wsG_of 66 (by decide +kernel) (by decide +kernel), (fun h => absurd h (by decide +kernel)), (fun _ => ⟨wsG_of 866 (by decide +kernel) (by decide +kernel), (fun h => absurd h (by decide +kernel)), (fun _ => wsG_of 867 (by decide +kernel) (by decide +kernel))⟩), ⟨by decide +kernel, by decide +kernel, by decide +kernel, by decide +kernel, by decide +kernel⟩⟩
set_option maxRecDepth 100000 in
theorem mw_X10_tapeAt : MO 128 := ⟨wsG_of 876 rfl (by decide +kernel), wsG_of 66 (by decide +kernel) (by decide +kernel), (fun h => absurd h (by decide +kernel)), (fun _ => ⟨wsG_of 875 (by decide +kernel) (by decide +kernel), (fun h => absurd h (by decide +kernel)), (fun _ => wsG_of 22 (by decide +kernel) (by decide +kernel))⟩), ⟨by decide +kernel, by decide +kernel, by decide +kernel, by decide +kernel, by decide +kernel⟩⟩
set_option maxRecDepth 100000 in
theorem mw_X10_judge : MO 129 := ⟨wsG_of 872 rfl (by decide +kernel), wsG_of 66 (by decide +kernel) (by decide +kernel), (fun h => absurd h (by decide +kernel)), (fun _ => ⟨wsG_of 870 (by decide +kernel) (by decide +kernel), (fun h => absurd h (by decide +kernel)), (fun _ => wsG_of 871 (by decide +kernel) (by decide +kernel))⟩), ⟨by decide +kernel, by decide +kernel, by decide +kernel, by decide +kernel, by decide +kernel⟩⟩
set_option maxRecDepth 100000 in
theorem mw_X10_image : MO 130 := ⟨wsG_of 888 rfl (by decide +kernel), wsG_of 66 (by decide +kernel) (by decide +kernel), (fun h => absurd h (by decide +kernel)), (fun _ => ⟨wsG_of 886 (by decide +kernel) (by decide +kernel), (fun h => absurd h (by decide +kernel)), (fun _ => wsG_of 887 (by decide +kernel) (by decide +kernel))⟩), ⟨by decide +kernel, by decide +kernel, by decide +kernel, by decide +kernel, by decide +kernel⟩⟩
set_option maxRecDepth 100000 in
theorem mw_X10_undo : MO 131 := ⟨wsG_of 904 rfl (by decide +kernel), wsG_of 66 (by decide +kernel) (by decide +kernel), (fun h => absurd h (by decide +kernel)), (fun _ => ⟨wsG_of 902 (by decide +kernel) (by decide +kernel), (fun h => absurd h (by decide +kernel)), (fun _ => wsG_of 903 (by decide +kernel) (by decide +kernel))⟩), ⟨by decide +kernel, by decide +kernel, by decide +kernel, by decide +kernel, by decide +kernel⟩⟩
set_option maxRecDepth 100000 in
theorem mw_X10_act : MO 132 := ⟨wsG_of 908 rfl (by decide +kernel), wsG_of 66 (by decide +kernel) (by decide +kernel), (fun h => absurd h (by decide +kernel)), (fun _ => ⟨wsG_of 906 (by decide +kernel) (by decide +kernel), (fun h => absurd h (by decide +kernel)), (fun _ => wsG_of 907 (by decide +kernel) (by decide +kernel))⟩), ⟨by decide +kernel, by decide +kernel, by decide +kernel, by decide +kernel, by decide +kernel⟩⟩
set_option maxRecDepth 100000 in
theorem mw_X10_trace : MO 133 := ⟨wsG_of 946 rfl (by decide +kernel), wsG_of 66 (by decide +kernel) (by decide +kernel), (fun h => absurd h (by decide +kernel)), (fun _ => ⟨wsG_of 944 (by decide +kernel) (by decide +kernel), (fun h => absurd h (by decide +kernel)), (fun _ => wsG_of 945 (by decide +kernel) (by decide +kernel))⟩), ⟨by decide +kernel, by decide +kernel, by decide +kernel, by decide +kernel, by decide +kernel⟩⟩
set_option maxRecDepth 100000 in
theorem mw_X10_above : MO 134 := ⟨wsG_of 956 rfl (by decide +kernel), wsG_of 66 (by decide +kernel) (by decide +kernel), (fun _ => wsG_of 955 (by decide +kernel) (by decide +kernel)), (fun h => absurd h (by decide +kernel)), ⟨by decide +kernel, by decide +kernel, by decide +kernel, by decide +kernel, by decide +kernel⟩⟩
set_option maxRecDepth 100000 in
theorem mw_X10_isUnder : MO 135 := ⟨wsG_of 953 rfl (by decide +kernel), wsG_of 66 (by decide +kernel) (by decide +kernel), (fun _ => wsG_of 952 (by decide +kernel) (by decide +kernel)), (fun h => absurd h (by decide +kernel)), ⟨by decide +kernel, by decide +kernel, by decide +kernel, by decide +kernel, by decide +kernel⟩⟩
set_option maxRecDepth 100000 in
theorem mw_X10_taken : MO 136 := ⟨wsG_of 950 rfl (by decide +kernel), wsG_of 66 (by decide +kernel) (by decide +kernel), (fun h => absurd h (by decide +kernel)), (fun _ => ⟨wsG_of 948 (by decide +kernel) (by decide +kernel), (fun h => absurd h (by decide +kernel)), (fun _ => wsG_of 949 (by decide +kernel) (by decide +kernel))⟩), ⟨by decide +kernel, by decide +kernel, by decide +kernel, by decide +kernel, by decide +kernel⟩⟩
set_option maxRecDepth 100000 in
theorem mw_X10_count : MO 137 := ⟨wsG_of 960 rfl (by decide +kernel), wsG_of 66 (by decide +kernel) (by decide +kernel), (fun h => absurd h (by decide +kernel)), (fun _ => ⟨wsG_of 958 (by decide +kernel) (by decide +kernel), (fun h => absurd h (by decide +kernel)), (fun _ => wsG_of 959 (by decide +kernel) (by decide +kernel))⟩), ⟨by decide +kernel, by decide +kernel, by decide +kernel, by decide +kernel, by decide +kernel⟩⟩
set_option maxRecDepth 100000 in
theorem mw_X10_tape : MO 138 := ⟨wsG_of 964 rfl (by decide +kernel), wsG_of 66 (by decide +kernel) (by decide +kernel), (fun h => absurd h (by decide +kernel)), (fun _ => ⟨wsG_of 962 (by decide +kernel) (by decide +kernel), (fun h => absurd h (by decide +kernel)), (fun _ => wsG_of 963 (by decide +kernel) (by decide +kernel))⟩), ⟨by decide +kernel, by decide +kernel, by decide +kernel, by decide +kernel, by decide +kernel⟩⟩
set_option maxRecDepth 100000 in
theorem mw_X10_item : MO 139 := ⟨wsG_of 973 rfl (by decide +kernel), wsG_of 66 (by decide +kernel) (by decide +kernel), (fun h => absurd h (by decide +kernel)), (fun _ => ⟨wsG_of 971 (by decide +kernel) (by decide +kernel), (fun h => absurd h (by decide +kernel)), (fun _ => wsG_of 972 (by decide +kernel) (by decide +kernel))⟩), ⟨by decide +kernel, by decide +kernel, by decide +kernel, by decide +kernel, by decide +kernel⟩⟩
set_option maxRecDepth 100000 in
theorem mw_X10_read : MO 140 := ⟨wsG_of 985 rfl (by decide +kernel), wsG_of 66 (by decide +kernel) (by decide +kernel), (fun h => absurd h (by decide +kernel)), (fun _ => ⟨wsG_of 983 (by decide +kernel) (by decide +kernel), (fun h => absurd h (by decide +kernel)), (fun _ => wsG_of 984 (by decide +kernel) (by decide +kernel))⟩), ⟨by decide +kernel, by decide +kernel, by decide +kernel, by decide +kernel, by decide +kernel⟩⟩
set_option maxRecDepth 100000 in
theorem mw_X10_shift : MO 141 := ⟨wsG_of 989 rfl (by decide +kernel), wsG_of 66 (by decide +kernel) (by decide +kernel), (fun h => absurd h (by decide +kernel)), (fun _ => ⟨wsG_of 987 (by decide +kernel) (by decide +kernel), (fun h => absurd h (by decide +kernel)), (fun _ => wsG_of 988 (by decide +kernel) (by decide +kernel))⟩), ⟨by decide +kernel, by decide +kernel, by decide +kernel, by decide +kernel, by decide +kernel⟩⟩
set_option maxRecDepth 100000 in
theorem mw_X11_init : MO 142 := ⟨wsG_of 999 rfl (by decide +kernel), wsG_of 77 (by decide +kernel) (by decide +kernel), (fun h => absurd h (by decide +kernel)), (fun _ => ⟨wsG_of 998 (by decide +kernel) (by decide +kernel), (fun _ => by decide +kernel), (fun h => absurd (by decide +kernel) h)⟩), ⟨by decide +kernel, by decide +kernel, by decide +kernel, by decide +kernel, by decide +kernel⟩⟩
set_option maxRecDepth 100000 in
theorem mw_X11_isIn : MO 143 := ⟨wsG_of 1189 rfl (by decide +kernel), wsG_of 77 (by decide +kernel) (by decide +kernel), (fun _ => wsG_of 1188 (by decide +kernel) (by decide +kernel)), (fun h => absurd h (by decide +kernel)), ⟨by decide +kernel, by decide +kernel, by decide +kernel, by decide +kernel, by decide +kernel⟩⟩
set_option maxRecDepth 100000 in
theorem mw_X11_isWalker : MO 144 := ⟨wsG_of 1209 rfl (by decide +kernel), wsG_of 77 (by decide +kernel) (by decide +kernel), (fun h => absurd h (by decide +kernel)), (fun _ => ⟨wsG_of 1208 (by decide +kernel) (by decide +kernel), (fun h => absurd h (by decide +kernel)), (fun _ => wsG_of 43 (by decide +kernel) (by decide +kernel))⟩), ⟨by decide +kernel, by decide +kernel, by decide +kernel, by decide +kernel, by decide +kernel⟩⟩
set_option maxRecDepth 100000 in
theorem mw_X11_isCell : MO 145 := ⟨wsG_of 1186 rfl (by decide +kernel), wsG_of 77 (by decide +kernel) (by decide +kernel), (fun _ => wsG_of 1185 (by decide +kernel) (by decide +kernel)), (fun h => absurd h (by decide +kernel)), ⟨by decide +kernel, by decide +kernel, by decide +kernel, by decide +kernel, by decide +kernel⟩⟩
set_option maxRecDepth 100000 in
theorem mw_X11_get : MO 146 := ⟨wsG_of 1217 rfl (by decide +kernel), wsG_of 77 (by decide +kernel) (by decide +kernel), (fun h => absurd h (by decide +kernel)), (fun _ => ⟨wsG_of 1216 (by decide +kernel) (by decide +kernel), (fun h => absurd h (by decide +kernel)), (fun _ => wsG_of 45 (by decide +kernel) (by decide +kernel))⟩), ⟨by decide +kernel, by decide +kernel, by decide +kernel, by decide +kernel, by decide +kernel⟩⟩
set_option maxRecDepth 100000 in
theorem mw_X11_puts : MO 147 := ⟨wsG_of 1201 rfl (by decide +kernel), wsG_of 77 (by decide +kernel) (by decide +kernel), (fun h => absurd h (by decide +kernel)), (fun _ => ⟨wsG_of 1200 (by decide +kernel) (by decide +kernel), (fun h => absurd h (by decide +kernel)), (fun _ => wsG_of 42 (by decide +kernel) (by decide +kernel))⟩), ⟨by decide +kernel, by decide +kernel, by decide +kernel, by decide +kernel, by decide +kernel⟩⟩
set_option maxRecDepth 100000 in
theorem mw_X11_feed : MO 148 := ⟨wsG_of 1108 rfl (by decide +kernel), wsG_of 77 (by decide +kernel) (by decide +kernel), (fun h => absurd h (by decide +kernel)), (fun _ => ⟨wsG_of 1106 (by decide +kernel) (by decide +kernel), (fun h => absurd h (by decide +kernel)), (fun _ => wsG_of 1107 (by decide +kernel) (by decide +kernel))⟩), ⟨by decide +kernel, by decide +kernel, by decide +kernel, by decide +kernel, by decide +kernel⟩⟩
set_option maxRecDepth 100000 in
theorem mw_X11_here : MO 149 := ⟨wsG_of 1124 rfl (by decide +kernel), wsG_of 77 (by decide +kernel) (by decide +kernel), (fun h => absurd h (by decide +kernel)), (fun _ => ⟨wsG_of 1123 (by decide +kernel) (by decide +kernel), (fun h => absurd h (by decide +kernel)), (fun _ => wsG_of 30 (by decide +kernel) (by decide +kernel))⟩), ⟨by decide +kernel, by decide +kernel, by decide +kernel, by decide +kernel, by decide +kernel⟩⟩
set_option maxRecDepth 100000 in
theorem mw_X11_takes : MO 150 := ⟨wsG_of 1132 rfl (by decide +kernel), wsG_of 77 (by decide +kernel) (by decide +kernel), (fun h => absurd h (by decide +kernel)), (fun _ => ⟨wsG_of 1131 (by decide +kernel) (by decide +kernel), (fun h => absurd h (by decide +kernel)), (fun _ => wsG_of 32 (by decide +kernel) (by decide +kernel))⟩), ⟨by decide +kernel, by decide +kernel, by decide +kernel, by decide +kernel, by decide +kernel⟩⟩
set_option maxRecDepth 100000 in
theorem mw_X11_number : MO 151 := ⟨wsG_of 1136 rfl (by decide +kernel), wsG_of 77 (by decide +kernel) (by decide +kernel), (fun h => absurd h (by decide +kernel)), (fun _ => ⟨wsG_of 1135 (by decide +kernel) (by decide +kernel), (fun h => absurd h (by decide +kernel)), (fun _ => wsG_of 33 (by decide +kernel) (by decide +kernel))⟩), ⟨by decide +kernel, by decide +kernel, by decide +kernel, by decide +kernel, by decide +kernel⟩⟩
set_option maxRecDepth 100000 in
theorem mw_X11_amount : MO 152 := ⟨wsG_of 1162 rfl (by decide +kernel), wsG_of 77 (by decide +kernel) (by decide +kernel), (fun _ => wsG_of 1161 (by decide +kernel) (by decide +kernel)), (fun h => absurd h (by decide +kernel)), ⟨by decide +kernel, by decide +kernel, by decide +kernel, by decide +kernel, by decide +kernel⟩⟩
set_option maxRecDepth 100000 in
theorem mw_X11_valueOf : MO 153 := ⟨wsG_of 1159 rfl (by decide +kernel), wsG_of 77 (by decide +kernel) (by decide +kernel), (fun _ => wsG_of 1158 (by decide +kernel) (by decide +kernel)), (fun h => absurd h (by decide +kernel)), ⟨by decide +kernel, by decide +kernel, by decide +kernel, by decide +kernel, by decide +kernel⟩⟩
set_option maxRecDepth 100000 in
theorem mw_X11_test : MO 154 := ⟨wsG_of 1156 rfl (by decide +kernel), wsG_of 77 (by decide +kernel) (by decide +kernel), (fun h => absurd h (by decide +kernel)), (fun _ => ⟨wsG_of 1155 (by decide +kernel) (by decide +kernel), (fun h => absurd h (by decide +kernel)), (fun _ => wsG_of 38 (by decide +kernel) (by decide +kernel))⟩), ⟨by decide +kernel, by decide +kernel, by decide +kernel, by decide +kernel, by decide +kernel⟩⟩
set_option maxRecDepth 100000 in
theorem mw_X11_either : MO 155 := ⟨wsG_of 1144 rfl (by decide +kernel), wsG_of 77 (by decide +kernel) (by decide +kernel), (fun h => absurd h (by decide +kernel)), (fun _ => ⟨wsG_of 1143 (by decide +kernel) (by decide +kernel), (fun h => absurd h (by decide +kernel)), (fun _ => wsG_of 35 (by decide +kernel) (by decide +kernel))⟩), ⟨by decide +kernel, by decide +kernel, by decide +kernel, by decide +kernel, by decide +kernel⟩⟩
set_option maxRecDepth 100000 in
theorem mw_X11_factor : MO 156 := ⟨wsG_of 1152 rfl (by decide +kernel), wsG_of 77 (by decide +kernel) (by decide +kernel), (fun h => absurd h (by decide +kernel)), (fun _ => ⟨wsG_of 1151 (by decide +kernel) (by decide +kernel), (fun h => absurd h (by decide +kernel)), (fun _ => wsG_of 37 (by decide +kernel) (by decide +kernel))⟩), ⟨by decide +kernel, by decide +kernel, by decide +kernel, by decide +kernel, by decide +kernel⟩⟩
set_option maxRecDepth 100000 in
theorem mw_X11_term : MO 157 := ⟨wsG_of 1148 rfl (by decide +kernel), wsG_of 77 (by decide +kernel) (by decide +kernel), (fun h => absurd h (by decide +kernel)), (fun _ => ⟨wsG_of 1147 (by decide +kernel) (by decide +kernel), (fun h => absurd h (by decide +kernel)), (fun _ => wsG_of 36 (by decide +kernel) (by decide +kernel))⟩), ⟨by decide +kernel, by decide +kernel, by decide +kernel, by decide +kernel, by decide +kernel⟩⟩
set_option maxRecDepth 100000 in
theorem mw_X11_word : MO 158 := ⟨wsG_of 1128 rfl (by decide +kernel), wsG_of 77 (by decide +kernel) (by decide +kernel), (fun h => absurd h (by decide +kernel)), (fun _ => ⟨wsG_of 1127 (by decide +kernel) (by decide +kernel), (fun h => absurd h (by decide +kernel)), (fun _ => wsG_of 31 (by decide +kernel) (by decide +kernel))⟩), ⟨by decide +kernel, by decide +kernel, by decide +kernel, by decide +kernel, by decide +kernel⟩⟩
set_option maxRecDepth 100000 in
theorem mw_X11_marksBy : MO 159 := ⟨wsG_of 1140 rfl (by decide +kernel), wsG_of 77 (by decide +kernel) (by decide +kernel), (fun h => absurd h (by decide +kernel)), (fun _ => ⟨wsG_of 1139 (by decide +kernel) (by decide +kernel), (fun h => absurd h (by decide +kernel)), (fun _ => wsG_of 34 (by decide +kernel) (by decide +kernel))⟩), ⟨by decide +kernel, by decide +kernel, by decide +kernel, by decide +kernel, by decide +kernel⟩⟩
set_option maxRecDepth 100000 in
theorem mw_X11_clause : MO 160 := ⟨wsG_of 1120 rfl (by decide +kernel), wsG_of 77 (by decide +kernel) (by decide +kernel), (fun h => absurd h (by decide +kernel)), (fun _ => ⟨wsG_of 1119 (by decide +kernel) (by decide +kernel), (fun h => absurd h (by decide +kernel)), (fun _ => wsG_of 29 (by decide +kernel) (by decide +kernel))⟩), ⟨by decide +kernel, by decide +kernel, by decide +kernel, by decide +kernel, by decide +kernel⟩⟩
set_option maxRecDepth 100000 in
theorem mw_X11_held : MO 161 := ⟨wsG_of 1167 rfl (by decide +kernel), wsG_of 77 (by decide +kernel) (by decide +kernel), (fun _ => wsG_of 1166 (by decide +kernel) (by decide +kernel)), (fun h => absurd h (by decide +kernel)), ⟨by decide +kernel, by decide +kernel, by decide +kernel, by decide +kernel, by decide +kernel⟩⟩
set_option maxRecDepth 100000 in
theorem mw_X11_reads : MO 162 := ⟨wsG_of 1116 rfl (by decide +kernel), wsG_of 77 (by decide +kernel) (by decide +kernel), (fun h => absurd h (by decide +kernel)), (fun _ => ⟨wsG_of 1115 (by decide +kernel) (by decide +kernel), (fun h => absurd h (by decide +kernel)), (fun _ => wsG_of 28 (by decide +kernel) (by decide +kernel))⟩), ⟨by decide +kernel, by decide +kernel, by decide +kernel, by decide +kernel, by decide +kernel⟩⟩
set_option maxRecDepth 100000 in
theorem mw_X11_land : MO 163 := ⟨wsG_of 1112 rfl (by decide +kernel), wsG_of 77 (by decide +kernel) (by decide +kernel), (fun h => absurd h (by decide +kernel)), (fun _ => ⟨wsG_of 1110 (by decide +kernel) (by decide +kernel), (fun h => absurd h (by decide +kernel)), (fun _ => wsG_of 1111 (by decide +kernel) (by decide +kernel))⟩), ⟨by decide +kernel, by decide +kernel, by decide +kernel, by decide +kernel, by decide +kernel⟩⟩
set_option maxRecDepth 100000 in
theorem mw_X11_onBeats : MO 164 := ⟨wsG_of 1175 rfl (by decide +kernel), wsG_of 77 (by decide +kernel) (by decide +kernel), (fun h => absurd h (by decide +kernel)), (fun _ => ⟨wsG_of 1174 (by decide +kernel) (by decide +kernel), (fun h => absurd h (by decide +kernel)), (fun _ => wsG_of 39 (by decide +kernel) (by decide +kernel))⟩), ⟨by decide +kernel, by decide +kernel, by decide +kernel, by decide +kernel, by decide +kernel⟩⟩
set_option maxRecDepth 100000 in
theorem mw_X11_beats : MO 165 := ⟨wsG_of 1179 rfl (by decide +kernel), wsG_of 77 (by decide +kernel) (by decide +kernel), (fun h => absurd h (by decide +kernel)), (fun _ => ⟨wsG_of 1178 (by decide +kernel) (by decide +kernel), (fun h => absurd h (by decide +kernel)), (fun _ => wsG_of 40 (by decide +kernel) (by decide +kernel))⟩), ⟨by decide +kernel, by decide +kernel, by decide +kernel, by decide +kernel, by decide +kernel⟩⟩
set_option maxRecDepth 100000 in
theorem mw_X11_told : MO 166 := ⟨wsG_of 1171 rfl (by decide +kernel), wsG_of 77 (by decide +kernel) (by decide +kernel), (fun h => absurd h (by decide +kernel)), (fun _ => ⟨wsG_of 1169 (by decide +kernel) (by decide +kernel), (fun h => absurd h (by decide +kernel)), (fun _ => wsG_of 1170 (by decide +kernel) (by decide +kernel))⟩), ⟨by decide +kernel, by decide +kernel, by decide +kernel, by decide +kernel, by decide +kernel⟩⟩
set_option maxRecDepth 100000 in
theorem mw_X11_isMarked : MO 167 := ⟨wsG_of 1193 rfl (by decide +kernel), wsG_of 77 (by decide +kernel) (by decide +kernel), (fun h => absurd h (by decide +kernel)), (fun _ => ⟨wsG_of 1192 (by decide +kernel) (by decide +kernel), (fun h => absurd h (by decide +kernel)), (fun _ => wsG_of 41 (by decide +kernel) (by decide +kernel))⟩), ⟨by decide +kernel, by decide +kernel, by decide +kernel, by decide +kernel, by decide +kernel⟩⟩
set_option maxRecDepth 100000 in
theorem mw_X11_ground : MO 168 := ⟨wsG_of 1183 rfl (by decide +kernel), wsG_of 77 (by decide +kernel) (by decide +kernel), (fun h => absurd h (by decide +kernel)), (fun _ => ⟨wsG_of 1181 (by decide +kernel) (by decide +kernel), (fun h => absurd h (by decide +kernel)), (fun _ => wsG_of 1182 (by decide +kernel) (by decide +kernel))⟩), ⟨by decide +kernel, by decide +kernel, by decide +kernel, by decide +kernel, by decide +kernel⟩⟩
set_option maxRecDepth 100000 in
theorem mw_X11_walker : MO 169 := ⟨wsG_of 1197 rfl (by decide +kernel), wsG_of 77 (by decide +kernel) (by decide +kernel), (fun h => absurd h (by decide +kernel)), (fun _ => ⟨wsG_of 1195 (by decide +kernel) (by decide +kernel), (fun h => absurd h (by decide +kernel)), (fun _ => wsG_of 1196 (by decide +kernel) (by decide +kernel))⟩), ⟨by decide +kernel, by decide +kernel, by decide +kernel, by decide +kernel, by decide +kernel⟩⟩
set_option maxRecDepth 100000 in
theorem mw_X11_beatOf : MO 170 := ⟨wsG_of 1213 rfl (by decide +kernel), wsG_of 77 (by decide +kernel) (by decide +kernel), (fun h => absurd h (by decide +kernel)), (fun _ => ⟨wsG_of 1212 (by decide +kernel) (by decide +kernel), (fun h => absurd h (by decide +kernel)), (fun _ => wsG_of 44 (by decide +kernel) (by decide +kernel))⟩), ⟨by decide +kernel, by decide +kernel, by decide +kernel, by decide +kernel, by decide +kernel⟩⟩
set_option maxRecDepth 100000 in
theorem mw_X11_of : MO 171 := ⟨wsG_of 1205 rfl (by decide +kernel), wsG_of 77 (by decide +kernel) (by decide +kernel), (fun h => absurd h (by decide +kernel)), (fun _ => ⟨wsG_of 1203 (by decide +kernel) (by decide +kernel), (fun h => absurd h (by decide +kernel)), (fun _ => wsG_of 1204 (by decide +kernel) (by decide +kernel))⟩), ⟨by decide +kernel, by decide +kernel, by decide +kernel, by decide +kernel, by decide +kernel⟩⟩
set_option maxRecDepth 100000 in
theorem mw_X11_put : MO 172 := ⟨wsG_of 1221 rfl (by decide +kernel), wsG_of 77 (by decide +kernel) (by decide +kernel), (fun h => absurd h (by decide +kernel)), (fun _ => ⟨wsG_of 1219 (by decide +kernel) (by decide +kernel), (fun h => absurd h (by decide +kernel)), (fun _ => wsG_of 1220 (by decide +kernel) (by decide +kernel))⟩), ⟨by decide +kernel, by decide +kernel, by decide +kernel, by decide +kernel, by decide +kernel⟩⟩
set_option maxRecDepth 100000 in
theorem mw_X11_beside : MO 173 := ⟨wsG_of 1244 rfl (by decide +kernel), wsG_of 77 (by decide +kernel) (by decide +kernel), (fun _ => wsG_of 1243 (by decide +kernel) (by decide +kernel)), (fun h => absurd h (by decide +kernel)), ⟨by decide +kernel, by decide +kernel, by decide +kernel, by decide +kernel, by decide +kernel⟩⟩
set_option maxRecDepth 100000 in
theorem mw_X11_goesOn : MO 174 := ⟨wsG_of 1241 rfl (by decide +kernel), wsG_of 77 (by decide +kernel) (by decide +kernel), (fun h => absurd h (by decide +kernel)), (fun _ => ⟨wsG_of 1240 (by decide +kernel) (by decide +kernel), (fun h => absurd h (by decide +kernel)), (fun _ => wsG_of 49 (by decide +kernel) (by decide +kernel))⟩), ⟨by decide +kernel, by decide +kernel, by decide +kernel, by decide +kernel, by decide +kernel⟩⟩
set_option maxRecDepth 100000 in
theorem mw_X11_backTo : MO 175 := ⟨wsG_of 1252 rfl (by decide +kernel), wsG_of 77 (by decide +kernel) (by decide +kernel), (fun h => absurd h (by decide +kernel)), (fun _ => ⟨wsG_of 1251 (by decide +kernel) (by decide +kernel), (fun h => absurd h (by decide +kernel)), (fun _ => wsG_of 51 (by decide +kernel) (by decide +kernel))⟩), ⟨by decide +kernel, by decide +kernel, by decide +kernel, by decide +kernel, by decide +kernel⟩⟩
set_option maxRecDepth 100000 in
theorem mw_X11_goesBack : MO 176 := ⟨wsG_of 1248 rfl (by decide +kernel), wsG_of 77 (by decide +kernel) (by decide +kernel), (fun h => absurd h (by decide +kernel)), (fun _ => ⟨wsG_of 1247 (by decide +kernel) (by decide +kernel), (fun h => absurd h (by decide +kernel)), (fun _ => wsG_of 50 (by decide +kernel) (by decide +kernel))⟩), ⟨by decide +kernel, by decide +kernel, by decide +kernel, by decide +kernel, by decide +kernel⟩⟩
set_option maxRecDepth 100000 in
theorem mw_X11_mayOn : MO 177 := ⟨wsG_of 1237 rfl (by decide +kernel), wsG_of 77 (by decide +kernel) (by decide +kernel), (fun h => absurd h (by decide +kernel)), (fun _ => ⟨wsG_of 1236 (by decide +kernel) (by decide +kernel), (fun h => absurd h (by decide +kernel)), (fun _ => wsG_of 48 (by decide +kernel) (by decide +kernel))⟩), ⟨by decide +kernel, by decide +kernel, by decide +kernel, by decide +kernel, by decide +kernel⟩⟩
set_option maxRecDepth 100000 in
theorem mw_X11_mayBy : MO 178 := ⟨wsG_of 1233 rfl (by decide +kernel), wsG_of 77 (by decide +kernel) (by decide +kernel), (fun h => absurd h (by decide +kernel)), (fun _ => ⟨wsG_of 1232 (by decide +kernel) (by decide +kernel), (fun h => absurd h (by decide +kernel)), (fun _ => wsG_of 47 (by decide +kernel) (by decide +kernel))⟩), ⟨by decide +kernel, by decide +kernel, by decide +kernel, by decide +kernel, by decide +kernel⟩⟩
set_option maxRecDepth 100000 in
theorem mw_X11_mayNow : MO 179 := ⟨wsG_of 1229 rfl (by decide +kernel), wsG_of 77 (by decide +kernel) (by decide +kernel), (fun h => absurd h (by decide +kernel)), (fun _ => ⟨wsG_of 1228 (by decide +kernel) (by decide +kernel), (fun h => absurd h (by decide +kernel)), (fun _ => wsG_of 46 (by decide +kernel) (by decide +kernel))⟩), ⟨by decide +kernel, by decide +kernel, by decide +kernel, by decide +kernel, by decide +kernel⟩⟩
set_option maxRecDepth 100000 in
theorem mw_X11_may : MO 180 := ⟨wsG_of 1225 rfl (by decide +kernel), wsG_of 77 (by decide +kernel) (by decide +kernel), (fun h => absurd h (by decide +kernel)), (fun _ => ⟨wsG_of 1223 (by decide +kernel) (by decide +kernel), (fun h => absurd h (by decide +kernel)), (fun _ => wsG_of 1224 (by decide +kernel) (by decide +kernel))⟩), ⟨by decide +kernel, by decide +kernel, by decide +kernel, by decide +kernel, by decide +kernel⟩⟩
set_option maxRecDepth 100000 in
theorem mw_X11_steps : MO 181 := ⟨wsG_of 1260 rfl (by decide +kernel), wsG_of 77 (by decide +kernel) (by decide +kernel), (fun h => absurd h (by decide +kernel)), (fun _ => ⟨wsG_of 1259 (by decide +kernel) (by decide +kernel), (fun h => absurd h (by decide +kernel)), (fun _ => wsG_of 52 (by decide +kernel) (by decide +kernel))⟩), ⟨by decide +kernel, by decide +kernel, by decide +kernel, by decide +kernel, by decide +kernel⟩⟩
set_option maxRecDepth 100000 in
theorem mw_X11_step : MO 182 := ⟨wsG_of 1256 rfl (by decide +kernel), wsG_of 77 (by decide +kernel) (by decide +kernel), (fun h => absurd h (by decide +kernel)), (fun _ => ⟨wsG_of 1254 (by decide +kernel) (by decide +kernel), (fun h => absurd h (by decide +kernel)), (fun _ => wsG_of 1255 (by decide +kernel) (by decide +kernel))⟩), ⟨by decide +kernel, by decide +kernel, by decide +kernel, by decide +kernel, by decide +kernel⟩⟩
set_option maxRecDepth 100000 in
theorem mw_X11_stateOf : MO 183 := ⟨wsG_of 1275 rfl (by decide +kernel), wsG_of 77 (by decide +kernel) (by decide +kernel), (fun _ => wsG_of 1274 (by decide +kernel) (by decide +kernel)), (fun h => absurd h (by decide +kernel)), ⟨by decide +kernel, by decide +kernel, by decide +kernel, by decide +kernel, by decide +kernel⟩⟩
set_option maxRecDepth 100000 in
theorem mw_X11_comesTo : MO 184 := ⟨wsG_of 1286 rfl (by decide +kernel), wsG_of 77 (by decide +kernel) (by decide +kernel), (fun _ => wsG_of 1285 (by decide +kernel) (by decide +kernel)), (fun h => absurd h (by decide +kernel)), ⟨by decide +kernel, by decide +kernel, by decide +kernel, by decide +kernel, by decide +kernel⟩⟩
set_option maxRecDepth 100000 in
theorem mw_X11_begins : MO 185 := ⟨wsG_of 1272 rfl (by decide +kernel), wsG_of 77 (by decide +kernel) (by decide +kernel), (fun h => absurd h (by decide +kernel)), (fun _ => ⟨wsG_of 1271 (by decide +kernel) (by decide +kernel), (fun h => absurd h (by decide +kernel)), (fun _ => wsG_of 54 (by decide +kernel) (by decide +kernel))⟩), ⟨by decide +kernel, by decide +kernel, by decide +kernel, by decide +kernel, by decide +kernel⟩⟩
set_option maxRecDepth 100000 in
theorem mw_X11_beginsAs : MO 186 := ⟨wsG_of 1268 rfl (by decide +kernel), wsG_of 77 (by decide +kernel) (by decide +kernel), (fun h => absurd h (by decide +kernel)), (fun _ => ⟨wsG_of 1267 (by decide +kernel) (by decide +kernel), (fun h => absurd h (by decide +kernel)), (fun _ => wsG_of 53 (by decide +kernel) (by decide +kernel))⟩), ⟨by decide +kernel, by decide +kernel, by decide +kernel, by decide +kernel, by decide +kernel⟩⟩
set_option maxRecDepth 100000 in
theorem mw_X11_bits : MO 187 := ⟨wsG_of 1289 rfl (by decide +kernel), wsG_of 77 (by decide +kernel) (by decide +kernel), (fun _ => wsG_of 1288 (by decide +kernel) (by decide +kernel)), (fun h => absurd h (by decide +kernel)), ⟨by decide +kernel, by decide +kernel, by decide +kernel, by decide +kernel, by decide +kernel⟩⟩
set_option maxRecDepth 100000 in
theorem mw_X11_goesBeat : MO 188 := ⟨wsG_of 1283 rfl (by decide +kernel), wsG_of 77 (by decide +kernel) (by decide +kernel), (fun h => absurd h (by decide +kernel)), (fun _ => ⟨wsG_of 1282 (by decide +kernel) (by decide +kernel), (fun h => absurd h (by decide +kernel)), (fun _ => wsG_of 56 (by decide +kernel) (by decide +kernel))⟩), ⟨by decide +kernel, by decide +kernel, by decide +kernel, by decide +kernel, by decide +kernel⟩⟩
set_option maxRecDepth 100000 in
theorem mw_X11_cellsNow : MO 189 := ⟨wsG_of 1309 rfl (by decide +kernel), wsG_of 77 (by decide +kernel) (by decide +kernel), (fun h => absurd h (by decide +kernel)), (fun _ => ⟨wsG_of 1308 (by decide +kernel) (by decide +kernel), (fun h => absurd h (by decide +kernel)), (fun _ => wsG_of 59 (by decide +kernel) (by decide +kernel))⟩), ⟨by decide +kernel, by decide +kernel, by decide +kernel, by decide +kernel, by decide +kernel⟩⟩
set_option maxRecDepth 100000 in
theorem mw_X11_firstTo : MO 190 := ⟨wsG_of 1293 rfl (by decide +kernel), wsG_of 77 (by decide +kernel) (by decide +kernel), (fun h => absurd h (by decide +kernel)), (fun _ => ⟨wsG_of 1292 (by decide +kernel) (by decide +kernel), (fun h => absurd h (by decide +kernel)), (fun _ => wsG_of 57 (by decide +kernel) (by decide +kernel))⟩), ⟨by decide +kernel, by decide +kernel, by decide +kernel, by decide +kernel, by decide +kernel⟩⟩
set_option maxRecDepth 100000 in
theorem mw_X11_soonestTo : MO 191 := ⟨wsG_of 1279 rfl (by decide +kernel), wsG_of 77 (by decide +kernel) (by decide +kernel), (fun h => absurd h (by decide +kernel)), (fun _ => ⟨wsG_of 1278 (by decide +kernel) (by decide +kernel), (fun h => absurd h (by decide +kernel)), (fun _ => wsG_of 55 (by decide +kernel) (by decide +kernel))⟩), ⟨by decide +kernel, by decide +kernel, by decide +kernel, by decide +kernel, by decide +kernel⟩⟩
set_option maxRecDepth 100000 in
theorem mw_X11_soonest : MO 192 := ⟨wsG_of 1264 rfl (by decide +kernel), wsG_of 77 (by decide +kernel) (by decide +kernel), (fun h => absurd h (by decide +kernel)), (fun _ => ⟨wsG_of 1262 (by decide +kernel) (by decide +kernel), (fun h => absurd h (by decide +kernel)), (fun _ => wsG_of 1263 (by decide +kernel) (by decide +kernel))⟩), ⟨by decide +kernel, by decide +kernel, by decide +kernel, by decide +kernel, by decide +kernel⟩⟩
set_option maxRecDepth 100000 in
theorem mw_X11_begin : MO 193 := ⟨wsG_of 1297 rfl (by decide +kernel), wsG_of 77 (by decide +kernel) (by decide +kernel), (fun h => absurd h (by decide +kernel)), (fun _ => ⟨wsG_of 1295 (by decide +kernel) (by decide +kernel), (fun h => absurd h (by decide +kernel)), (fun _ => wsG_of 1296 (by decide +kernel) (by decide +kernel))⟩), ⟨by decide +kernel, by decide +kernel, by decide +kernel, by decide +kernel, by decide +kernel⟩⟩
set_option maxRecDepth 100000 in
theorem mw_X11_within : MO 194 := ⟨wsG_of 1305 rfl (by decide +kernel), wsG_of 77 (by decide +kernel) (by decide +kernel), (fun h => absurd h (by decide +kernel)), (fun _ => ⟨wsG_of 1304 (by decide +kernel) (by decide +kernel), (fun h => absurd h (by decide +kernel)), (fun _ => wsG_of 58 (by decide +kernel) (by decide +kernel))⟩), ⟨by decide +kernel, by decide +kernel, by decide +kernel, by decide +kernel, by decide +kernel⟩⟩
set_option maxRecDepth 100000 in
theorem mw_X11_reached : MO 195 := ⟨wsG_of 1301 rfl (by decide +kernel), wsG_of 77 (by decide +kernel) (by decide +kernel), (fun h => absurd h (by decide +kernel)), (fun _ => ⟨wsG_of 1299 (by decide +kernel) (by decide +kernel), (fun h => absurd h (by decide +kernel)), (fun _ => wsG_of 1300 (by decide +kernel) (by decide +kernel))⟩), ⟨by decide +kernel, by decide +kernel, by decide +kernel, by decide +kernel, by decide +kernel⟩⟩
set_option maxRecDepth 100000 in
theorem mw_X11_never : MO 196 := ⟨wsG_of 1314 rfl (by decide +kernel), wsG_of 77 (by decide +kernel) (by decide +kernel), (fun h => absurd h (by decide +kernel)), (fun _ => ⟨wsG_of 1312 (by decide +kernel) (by decide +kernel), (fun h => absurd h (by decide +kernel)), (fun _ => wsG_of 1313 (by decide +kernel) (by decide +kernel))⟩), ⟨by decide +kernel, by decide +kernel, by decide +kernel, by decide +kernel, by decide +kernel⟩⟩
set_option maxRecDepth 100000 in
theorem mw_X11_meet : MO 197 := ⟨wsG_of 1318 rfl (by decide +kernel), wsG_of 77 (by decide +kernel) (by decide +kernel), (fun h => absurd h (by decide +kernel)), (fun _ => ⟨wsG_of 1316 (by decide +kernel) (by decide +kernel), (fun h => absurd h (by decide +kernel)), (fun _ => wsG_of 1317 (by decide +kernel) (by decide +kernel))⟩), ⟨by decide +kernel, by decide +kernel, by decide +kernel, by decide +kernel, by decide +kernel⟩⟩
set_option maxRecDepth 100000 in
theorem mw_X11_home : MO 198 := ⟨wsG_of 1322 rfl (by decide +kernel), wsG_of 77 (by decide +kernel) (by decide +kernel), (fun h => absurd h (by decide +kernel)), (fun _ => ⟨wsG_of 1320 (by decide +kernel) (by decide +kernel), (fun h => absurd h (by decide +kernel)), (fun _ => wsG_of 1321 (by decide +kernel) (by decide +kernel))⟩), ⟨by decide +kernel, by decide +kernel, by decide +kernel, by decide +kernel, by decide +kernel⟩⟩
set_option maxRecDepth 100000 in
theorem mw_X11_row : MO 199 := ⟨wsG_of 1326 rfl (by decide +kernel), wsG_of 77 (by decide +kernel) (by decide +kernel), (fun h => absurd h (by decide +kernel)), (fun _ => ⟨wsG_of 1324 (by decide +kernel) (by decide +kernel), (fun h => absurd h (by decide +kernel)), (fun _ => wsG_of 1325 (by decide +kernel) (by decide +kernel))⟩), ⟨by decide +kernel, by decide +kernel, by decide +kernel, by decide +kernel, by decide +kernel⟩⟩
set_option maxRecDepth 100000 in
theorem mw_X11_hand : MO 200 := ⟨wsG_of 1330 rfl (by decide +kernel), wsG_of 77 (by decide +kernel) (by decide +kernel), (fun h => absurd h (by decide +kernel)), (fun _ => ⟨wsG_of 1328 (by decide +kernel) (by decide +kernel), (fun h => absurd h (by decide +kernel)), (fun _ => wsG_of 1329 (by decide +kernel) (by decide +kernel))⟩), ⟨by decide +kernel, by decide +kernel, by decide +kernel, by decide +kernel, by decide +kernel⟩⟩
set_option maxRecDepth 100000 in
theorem mw_X11_track : MO 201 := ⟨wsG_of 1334 rfl (by decide +kernel), wsG_of 77 (by decide +kernel) (by decide +kernel), (fun h => absurd h (by decide +kernel)), (fun _ => ⟨wsG_of 1332 (by decide +kernel) (by decide +kernel), (fun h => absurd h (by decide +kernel)), (fun _ => wsG_of 1333 (by decide +kernel) (by decide +kernel))⟩), ⟨by decide +kernel, by decide +kernel, by decide +kernel, by decide +kernel, by decide +kernel⟩⟩
set_option maxRecDepth 100000 in
theorem mw_X11_mightHave : MO 202 := ⟨wsG_of 1342 rfl (by decide +kernel), wsG_of 77 (by decide +kernel) (by decide +kernel), (fun h => absurd h (by decide +kernel)), (fun _ => ⟨wsG_of 1341 (by decide +kernel) (by decide +kernel), (fun h => absurd h (by decide +kernel)), (fun _ => wsG_of 60 (by decide +kernel) (by decide +kernel))⟩), ⟨by decide +kernel, by decide +kernel, by decide +kernel, by decide +kernel, by decide +kernel⟩⟩
set_option maxRecDepth 100000 in
theorem mw_X11_tracks : MO 203 := ⟨wsG_of 1338 rfl (by decide +kernel), wsG_of 77 (by decide +kernel) (by decide +kernel), (fun h => absurd h (by decide +kernel)), (fun _ => ⟨wsG_of 1336 (by decide +kernel) (by decide +kernel), (fun h => absurd h (by decide +kernel)), (fun _ => wsG_of 1337 (by decide +kernel) (by decide +kernel))⟩), ⟨by decide +kernel, by decide +kernel, by decide +kernel, by decide +kernel, by decide +kernel⟩⟩
set_option maxRecDepth 100000 in
theorem mw_X11_common : MO 204 := ⟨wsG_of 1350 rfl (by decide +kernel), wsG_of 77 (by decide +kernel) (by decide +kernel), (fun _ => wsG_of 1349 (by decide +kernel) (by decide +kernel)), (fun h => absurd h (by decide +kernel)), ⟨by decide +kernel, by decide +kernel, by decide +kernel, by decide +kernel, by decide +kernel⟩⟩
set_option maxRecDepth 100000 in
theorem mw_X11_lot : MO 205 := ⟨wsG_of 1346 rfl (by decide +kernel), wsG_of 77 (by decide +kernel) (by decide +kernel), (fun h => absurd h (by decide +kernel)), (fun _ => ⟨wsG_of 1344 (by decide +kernel) (by decide +kernel), (fun h => absurd h (by decide +kernel)), (fun _ => wsG_of 1345 (by decide +kernel) (by decide +kernel))⟩), ⟨by decide +kernel, by decide +kernel, by decide +kernel, by decide +kernel, by decide +kernel⟩⟩
set_option maxRecDepth 100000 in
theorem mw_X11_soonestBy : MO 206 := ⟨wsG_of 1358 rfl (by decide +kernel), wsG_of 77 (by decide +kernel) (by decide +kernel), (fun h => absurd h (by decide +kernel)), (fun _ => ⟨wsG_of 1357 (by decide +kernel) (by decide +kernel), (fun h => absurd h (by decide +kernel)), (fun _ => wsG_of 61 (by decide +kernel) (by decide +kernel))⟩), ⟨by decide +kernel, by decide +kernel, by decide +kernel, by decide +kernel, by decide +kernel⟩⟩
set_option maxRecDepth 100000 in
theorem mw_X11_slower : MO 207 := ⟨wsG_of 1354 rfl (by decide +kernel), wsG_of 77 (by decide +kernel) (by decide +kernel), (fun h => absurd h (by decide +kernel)), (fun _ => ⟨wsG_of 1352 (by decide +kernel) (by decide +kernel), (fun h => absurd h (by decide +kernel)), (fun _ => wsG_of 1353 (by decide +kernel) (by decide +kernel))⟩), ⟨by decide +kernel, by decide +kernel, by decide +kernel, by decide +kernel, by decide +kernel⟩⟩
set_option maxRecDepth 100000 in
theorem mw_X11_above : MO 208 := ⟨wsG_of 1376 rfl (by decide +kernel), wsG_of 77 (by decide +kernel) (by decide +kernel), (fun _ => wsG_of 1375 (by decide +kernel) (by decide +kernel)), (fun h => absurd h (by decide +kernel)), ⟨by decide +kernel, by decide +kernel, by decide +kernel, by decide +kernel, by decide +kernel⟩⟩
set_option maxRecDepth 100000 in
theorem mw_X11_runs : MO 209 := ⟨wsG_of 1380 rfl (by decide +kernel), wsG_of 77 (by decide +kernel) (by decide +kernel), (fun h => absurd h (by decide +kernel)), (fun _ => ⟨wsG_of 1379 (by decide +kernel) (by decide +kernel), (fun h => absurd h (by decide +kernel)), (fun _ => wsG_of 64 (by decide +kernel) (by decide +kernel))⟩), ⟨by decide +kernel, by decide +kernel, by decide +kernel, by decide +kernel, by decide +kernel⟩⟩
set_option maxRecDepth 100000 in
theorem mw_X11_hasBody : MO 210 := ⟨wsG_of 1373 rfl (by decide +kernel), wsG_of 77 (by decide +kernel) (by decide +kernel), (fun _ => wsG_of 1372 (by decide +kernel) (by decide +kernel)), (fun h => absurd h (by decide +kernel)), ⟨by decide +kernel, by decide +kernel, by decide +kernel, by decide +kernel, by decide +kernel⟩⟩
set_option maxRecDepth 100000 in
theorem mw_X11_acts : MO 211 := ⟨wsG_of 1366 rfl (by decide +kernel), wsG_of 77 (by decide +kernel) (by decide +kernel), (fun h => absurd h (by decide +kernel)), (fun _ => ⟨wsG_of 1365 (by decide +kernel) (by decide +kernel), (fun h => absurd h (by decide +kernel)), (fun _ => wsG_of 62 (by decide +kernel) (by decide +kernel))⟩), ⟨by decide +kernel, by decide +kernel, by decide +kernel, by decide +kernel, by decide +kernel⟩⟩
set_option maxRecDepth 100000 in
theorem mw_X11_bodyOf : MO 212 := ⟨wsG_of 1370 rfl (by decide +kernel), wsG_of 77 (by decide +kernel) (by decide +kernel), (fun h => absurd h (by decide +kernel)), (fun _ => ⟨wsG_of 1369 (by decide +kernel) (by decide +kernel), (fun h => absurd h (by decide +kernel)), (fun _ => wsG_of 63 (by decide +kernel) (by decide +kernel))⟩), ⟨by decide +kernel, by decide +kernel, by decide +kernel, by decide +kernel, by decide +kernel⟩⟩
set_option maxRecDepth 100000 in
theorem mw_X11_act : MO 213 := ⟨wsG_of 1362 rfl (by decide +kernel), wsG_of 77 (by decide +kernel) (by decide +kernel), (fun h => absurd h (by decide +kernel)), (fun _ => ⟨wsG_of 1360 (by decide +kernel) (by decide +kernel), (fun h => absurd h (by decide +kernel)), (fun _ => wsG_of 1361 (by decide +kernel) (by decide +kernel))⟩), ⟨by decide +kernel, by decide +kernel, by decide +kernel, by decide +kernel, by decide +kernel⟩⟩
set_option maxRecDepth 100000 in
theorem mw_X11_trace : MO 214 := ⟨wsG_of 1384 rfl (by decide +kernel), wsG_of 77 (by decide +kernel) (by decide +kernel), (fun h => absurd h (by decide +kernel)), (fun _ => ⟨wsG_of 1382 (by decide +kernel) (by decide +kernel), (fun h => absurd h (by decide +kernel)), (fun _ => wsG_of 1383 (by decide +kernel) (by decide +kernel))⟩), ⟨by decide +kernel, by decide +kernel, by decide +kernel, by decide +kernel, by decide +kernel⟩⟩
set_option maxRecDepth 100000 in
theorem mw_X11_taken : MO 215 := ⟨wsG_of 1388 rfl (by decide +kernel), wsG_of 77 (by decide +kernel) (by decide +kernel), (fun h => absurd h (by decide +kernel)), (fun _ => ⟨wsG_of 1386 (by decide +kernel) (by decide +kernel), (fun h => absurd h (by decide +kernel)), (fun _ => wsG_of 1387 (by decide +kernel) (by decide +kernel))⟩), ⟨by decide +kernel, by decide +kernel, by decide +kernel, by decide +kernel, by decide +kernel⟩⟩
set_option maxRecDepth 100000 in
theorem mw_X11_judge : MO 216 := ⟨wsG_of 1392 rfl (by decide +kernel), wsG_of 77 (by decide +kernel) (by decide +kernel), (fun h => absurd h (by decide +kernel)), (fun _ => ⟨wsG_of 1390 (by decide +kernel) (by decide +kernel), (fun h => absurd h (by decide +kernel)), (fun _ => wsG_of 1391 (by decide +kernel) (by decide +kernel))⟩), ⟨by decide +kernel, by decide +kernel, by decide +kernel, by decide +kernel, by decide +kernel⟩⟩
set_option maxRecDepth 100000 in
theorem mw_X11_image : MO 217 := ⟨wsG_of 1396 rfl (by decide +kernel), wsG_of 77 (by decide +kernel) (by decide +kernel), (fun h => absurd h (by decide +kernel)), (fun _ => ⟨wsG_of 1394 (by decide +kernel) (by decide +kernel), (fun h => absurd h (by decide +kernel)), (fun _ => wsG_of 1395 (by decide +kernel) (by decide +kernel))⟩), ⟨by decide +kernel, by decide +kernel, by decide +kernel, by decide +kernel, by decide +kernel⟩⟩
set_option maxRecDepth 100000 in
theorem mw_X11_undo : MO 218 := ⟨wsG_of 1400 rfl (by decide +kernel), wsG_of 77 (by decide +kernel) (by decide +kernel), (fun h => absurd h (by decide +kernel)), (fun _ => ⟨wsG_of 1398 (by decide +kernel) (by decide +kernel), (fun h => absurd h (by decide +kernel)), (fun _ => wsG_of 1399 (by decide +kernel) (by decide +kernel))⟩), ⟨by decide +kernel, by decide +kernel, by decide +kernel, by decide +kernel, by decide +kernel⟩⟩
set_option maxRecDepth 100000 in
theorem mw_X11_count : MO 219 := ⟨wsG_of 1404 rfl (by decide +kernel), wsG_of 77 (by decide +kernel) (by decide +kernel), (fun h => absurd h (by decide +kernel)), (fun _ => ⟨wsG_of 1402 (by decide +kernel) (by decide +kernel), (fun h => absurd h (by decide +kernel)), (fun _ => wsG_of 1403 (by decide +kernel) (by decide +kernel))⟩), ⟨by decide +kernel, by decide +kernel, by decide +kernel, by decide +kernel, by decide +kernel⟩⟩
set_option maxRecDepth 100000 in
theorem mw_X11_tape : MO 220 := ⟨wsG_of 1408 rfl (by decide +kernel), wsG_of 77 (by decide +kernel) (by decide +kernel), (fun h => absurd h (by decide +kernel)), (fun _ => ⟨wsG_of 1406 (by decide +kernel) (by decide +kernel), (fun h => absurd h (by decide +kernel)), (fun _ => wsG_of 1407 (by decide +kernel) (by decide +kernel))⟩), ⟨by decide +kernel, by decide +kernel, by decide +kernel, by decide +kernel, by decide +kernel⟩⟩
set_option maxRecDepth 100000 in
theorem mw_X11_item : MO 221 := ⟨wsG_of 1412 rfl (by decide +kernel), wsG_of 77 (by decide +kernel) (by decide +kernel), (fun h => absurd h (by decide +kernel)), (fun _ => ⟨wsG_of 1410 (by decide +kernel) (by decide +kernel), (fun h => absurd h (by decide +kernel)), (fun _ => wsG_of 1411 (by decide +kernel) (by decide +kernel))⟩), ⟨by decide +kernel, by decide +kernel, by decide +kernel, by decide +kernel, by decide +kernel⟩⟩
set_option maxRecDepth 100000 in
theorem mw_X11_read : MO 222 := ⟨wsG_of 1416 rfl (by decide +kernel), wsG_of 77 (by decide +kernel) (by decide +kernel), (fun h => absurd h (by decide +kernel)), (fun _ => ⟨wsG_of 1414 (by decide +kernel) (by decide +kernel), (fun h => absurd h (by decide +kernel)), (fun _ => wsG_of 1415 (by decide +kernel) (by decide +kernel))⟩), ⟨by decide +kernel, by decide +kernel, by decide +kernel, by decide +kernel, by decide +kernel⟩⟩
set_option maxRecDepth 100000 in
theorem mw_X11_shift : MO 223 := ⟨wsG_of 1420 rfl (by decide +kernel), wsG_of 77 (by decide +kernel) (by decide +kernel), (fun h => absurd h (by decide +kernel)), (fun _ => ⟨wsG_of 1418 (by decide +kernel) (by decide +kernel), (fun h => absurd h (by decide +kernel)), (fun _ => wsG_of 1419 (by decide +kernel) (by decide +kernel))⟩), ⟨by decide +kernel, by decide +kernel, by decide +kernel, by decide +kernel, by decide +kernel⟩⟩
theorem mo_1 : ∀ a, a < 1 → MO a := lt_s lt_0 mw_J0_coder_7d493
theorem mo_2 : ∀ a, a < 2 → MO a := lt_s mo_1 mw_J0_length_8abf5
theorem mo_3 : ∀ a, a < 3 → MO a := lt_s mo_2 mw_J0_isLatin1_aae02
theorem mo_4 : ∀ a, a < 4 → MO a := lt_s mo_3 mw_J0_checkIndex_df160
theorem mo_5 : ∀ a, a < 5 → MO a := lt_s mo_4 mw_J0_charAt_5068e
theorem mo_6 : ∀ a, a < 6 → MO a := lt_s mo_5 mw_J1_charAt_3b067
theorem mo_7 : ∀ a, a < 7 → MO a := lt_s mo_6 mw_J3_checkIndex_8e157
theorem mo_8 : ∀ a, a < 8 → MO a := lt_s mo_7 mw_J6_bitCount_0f7a4
theorem mo_9 : ∀ a, a < 9 → MO a := lt_s mo_8 mw_J6_compare_7cf53
theorem mo_10 : ∀ a, a < 10 → MO a := lt_s mo_9 mw_J6_numberOfTrailingZeros_0f7a4
theorem mo_11 : ∀ a, a < 11 → MO a := lt_s mo_10 mw_J7_fill_d0a16
theorem mo_12 : ∀ a, a < 12 → MO a := lt_s mo_11 mw_J13_numberOfTrailingZeros_95d88
theorem mo_13 : ∀ a, a < 13 → MO a := lt_s mo_12 mw_X0_init
theorem mo_14 : ∀ a, a < 14 → MO a := lt_s mo_13 mw_X0_become
theorem mo_15 : ∀ a, a < 15 → MO a := lt_s mo_14 mw_X0_begins
theorem mo_16 : ∀ a, a < 16 → MO a := lt_s mo_15 mw_X0_plainSteps
theorem mo_17 : ∀ a, a < 17 → MO a := lt_s mo_16 mw_X0_steps
theorem mo_18 : ∀ a, a < 18 → MO a := lt_s mo_17 mw_X0_plainTurns
theorem mo_19 : ∀ a, a < 19 → MO a := lt_s mo_18 mw_X0_turns
theorem mo_20 : ∀ a, a < 20 → MO a := lt_s mo_19 mw_X0_plainTells
theorem mo_21 : ∀ a, a < 21 → MO a := lt_s mo_20 mw_X0_tells
theorem mo_22 : ∀ a, a < 22 → MO a := lt_s mo_21 mw_X1_init
theorem mo_23 : ∀ a, a < 23 → MO a := lt_s mo_22 mw_X1_join
theorem mo_24 : ∀ a, a < 24 → MO a := lt_s mo_23 mw_X1_alone_
theorem mo_25 : ∀ a, a < 25 → MO a := lt_s mo_24 mw_X1_alone
theorem mo_26 : ∀ a, a < 26 → MO a := lt_s mo_25 mw_X1_around
theorem mo_27 : ∀ a, a < 27 → MO a := lt_s mo_26 mw_X1_among
theorem mo_28 : ∀ a, a < 28 → MO a := lt_s mo_27 mw_X1_spread
theorem mo_29 : ∀ a, a < 29 → MO a := lt_s mo_28 mw_X1_advance
theorem mo_30 : ∀ a, a < 30 → MO a := lt_s mo_29 mw_X1_keep
theorem mo_31 : ∀ a, a < 31 → MO a := lt_s mo_30 mw_X1_cells
theorem mo_32 : ∀ a, a < 32 → MO a := lt_s mo_31 mw_X1_facing
theorem mo_33 : ∀ a, a < 33 → MO a := lt_s mo_32 mw_X1_beatsTo
theorem mo_34 : ∀ a, a < 34 → MO a := lt_s mo_33 mw_X2_init
theorem mo_35 : ∀ a, a < 35 → MO a := lt_s mo_34 mw_X2_become
theorem mo_36 : ∀ a, a < 36 → MO a := lt_s mo_35 mw_X2_isOn
theorem mo_37 : ∀ a, a < 37 → MO a := lt_s mo_36 mw_X2_rests
theorem mo_38 : ∀ a, a < 38 → MO a := lt_s mo_37 mw_X2_isRound
theorem mo_39 : ∀ a, a < 39 → MO a := lt_s mo_38 mw_X2_way
theorem mo_40 : ∀ a, a < 40 → MO a := lt_s mo_39 mw_X2_ons
theorem mo_41 : ∀ a, a < 41 → MO a := lt_s mo_40 mw_X2_leaves
theorem mo_42 : ∀ a, a < 42 → MO a := lt_s mo_41 mw_X2_starts
theorem mo_43 : ∀ a, a < 43 → MO a := lt_s mo_42 mw_X2_tick
theorem mo_44 : ∀ a, a < 44 → MO a := lt_s mo_43 mw_X2_steps
theorem mo_45 : ∀ a, a < 45 → MO a := lt_s mo_44 mw_X3_rhythm
theorem mo_46 : ∀ a, a < 46 → MO a := lt_s mo_45 mw_X3_beat
theorem mo_47 : ∀ a, a < 47 → MO a := lt_s mo_46 mw_X3_backward
theorem mo_48 : ∀ a, a < 48 → MO a := lt_s mo_47 mw_X3_onward
theorem mo_49 : ∀ a, a < 49 → MO a := lt_s mo_48 mw_X3_init
theorem mo_50 : ∀ a, a < 50 → MO a := lt_s mo_49 mw_X3_marked
theorem mo_51 : ∀ a, a < 51 → MO a := lt_s mo_50 mw_X4_init
theorem mo_52 : ∀ a, a < 52 → MO a := lt_s mo_51 mw_X4_join
theorem mo_53 : ∀ a, a < 53 → MO a := lt_s mo_52 mw_X4_alone
theorem mo_54 : ∀ a, a < 54 → MO a := lt_s mo_53 mw_X4_part
theorem mo_55 : ∀ a, a < 55 → MO a := lt_s mo_54 mw_X4_advance
theorem mo_56 : ∀ a, a < 56 → MO a := lt_s mo_55 mw_X4_shares
theorem mo_57 : ∀ a, a < 57 → MO a := lt_s mo_56 mw_X5_init
theorem mo_58 : ∀ a, a < 58 → MO a := lt_s mo_57 mw_X5_who
theorem mo_59 : ∀ a, a < 59 → MO a := lt_s mo_58 mw_X5_added
theorem mo_60 : ∀ a, a < 60 → MO a := lt_s mo_59 mw_X5_become
theorem mo_61 : ∀ a, a < 61 → MO a := lt_s mo_60 mw_X6_init
theorem mo_62 : ∀ a, a < 62 → MO a := lt_s mo_61 mw_X6_become
theorem mo_63 : ∀ a, a < 63 → MO a := lt_s mo_62 mw_X6_has
theorem mo_64 : ∀ a, a < 64 → MO a := lt_s mo_63 mw_X6_reaches
theorem mo_65 : ∀ a, a < 65 → MO a := lt_s mo_64 mw_X6_value
theorem mo_66 : ∀ a, a < 66 → MO a := lt_s mo_65 mw_X6_cut
theorem mo_67 : ∀ a, a < 67 → MO a := lt_s mo_66 mw_X6_write
theorem mo_68 : ∀ a, a < 68 → MO a := lt_s mo_67 mw_X7_init
theorem mo_69 : ∀ a, a < 69 → MO a := lt_s mo_68 mw_X7_add
theorem mo_70 : ∀ a, a < 70 → MO a := lt_s mo_69 mw_X7_takes
theorem mo_71 : ∀ a, a < 71 → MO a := lt_s mo_70 mw_X7_needs
theorem mo_72 : ∀ a, a < 72 → MO a := lt_s mo_71 mw_X7_oneIf
theorem mo_73 : ∀ a, a < 73 → MO a := lt_s mo_72 mw_X7_number
theorem mo_74 : ∀ a, a < 74 → MO a := lt_s mo_73 mw_X7_oneOf
theorem mo_75 : ∀ a, a < 75 → MO a := lt_s mo_74 mw_X7_measure
theorem mo_76 : ∀ a, a < 76 → MO a := lt_s mo_75 mw_X7_tested
theorem mo_77 : ∀ a, a < 77 → MO a := lt_s mo_76 mw_X7_both
theorem mo_78 : ∀ a, a < 78 → MO a := lt_s mo_77 mw_X7_either
theorem mo_79 : ∀ a, a < 79 → MO a := lt_s mo_78 mw_X7_single
theorem mo_80 : ∀ a, a < 80 → MO a := lt_s mo_79 mw_X7_clause
theorem mo_81 : ∀ a, a < 81 → MO a := lt_s mo_80 mw_X7_parsed
theorem mo_82 : ∀ a, a < 82 → MO a := lt_s mo_81 mw_X8_init
theorem mo_83 : ∀ a, a < 83 → MO a := lt_s mo_82 mw_X8_become
theorem mo_84 : ∀ a, a < 84 → MO a := lt_s mo_83 mw_X8_at
theorem mo_85 : ∀ a, a < 85 → MO a := lt_s mo_84 mw_X8_tell
theorem mo_86 : ∀ a, a < 86 → MO a := lt_s mo_85 mw_X9_init
theorem mo_87 : ∀ a, a < 87 → MO a := lt_s mo_86 mw_X9_become
theorem mo_88 : ∀ a, a < 88 → MO a := lt_s mo_87 mw_X9_stands
theorem mo_89 : ∀ a, a < 89 → MO a := lt_s mo_88 mw_X10_across
theorem mo_90 : ∀ a, a < 90 → MO a := lt_s mo_89 mw_X10_facingBy
theorem mo_91 : ∀ a, a < 91 → MO a := lt_s mo_90 mw_X10_cameBy
theorem mo_92 : ∀ a, a < 92 → MO a := lt_s mo_91 mw_X10_moved
theorem mo_93 : ∀ a, a < 93 → MO a := lt_s mo_92 mw_X10_holds
theorem mo_94 : ∀ a, a < 94 → MO a := lt_s mo_93 mw_X10_next
theorem mo_95 : ∀ a, a < 95 → MO a := lt_s mo_94 mw_X10_init
theorem mo_96 : ∀ a, a < 96 → MO a := lt_s mo_95 mw_X10_feed
theorem mo_97 : ∀ a, a < 97 → MO a := lt_s mo_96 mw_X10_land
theorem mo_98 : ∀ a, a < 98 → MO a := lt_s mo_97 mw_X10_told
theorem mo_99 : ∀ a, a < 99 → MO a := lt_s mo_98 mw_X10_isCell
theorem mo_100 : ∀ a, a < 100 → MO a := lt_s mo_99 mw_X10_ground
theorem mo_101 : ∀ a, a < 101 → MO a := lt_s mo_100 mw_X10_isKind
theorem mo_102 : ∀ a, a < 102 → MO a := lt_s mo_101 mw_X10_isWay
theorem mo_103 : ∀ a, a < 103 → MO a := lt_s mo_102 mw_X10_isNumber
theorem mo_104 : ∀ a, a < 104 → MO a := lt_s mo_103 mw_X10_walker
theorem mo_105 : ∀ a, a < 105 → MO a := lt_s mo_104 mw_X10_of
theorem mo_106 : ∀ a, a < 106 → MO a := lt_s mo_105 mw_X10_put
theorem mo_107 : ∀ a, a < 107 → MO a := lt_s mo_106 mw_X10_allowed
theorem mo_108 : ∀ a, a < 108 → MO a := lt_s mo_107 mw_X10_may
theorem mo_109 : ∀ a, a < 109 → MO a := lt_s mo_108 mw_X10_isStep
theorem mo_110 : ∀ a, a < 110 → MO a := lt_s mo_109 mw_X10_goes
theorem mo_111 : ∀ a, a < 111 → MO a := lt_s mo_110 mw_X10_step
theorem mo_112 : ∀ a, a < 112 → MO a := lt_s mo_111 mw_X10_isPart
theorem mo_113 : ∀ a, a < 113 → MO a := lt_s mo_112 mw_X10_firstStep
theorem mo_114 : ∀ a, a < 114 → MO a := lt_s mo_113 mw_X10_soonest
theorem mo_115 : ∀ a, a < 115 → MO a := lt_s mo_114 mw_X10_begin
theorem mo_116 : ∀ a, a < 116 → MO a := lt_s mo_115 mw_X10_within
theorem mo_117 : ∀ a, a < 117 → MO a := lt_s mo_116 mw_X10_reached
theorem mo_118 : ∀ a, a < 118 → MO a := lt_s mo_117 mw_X10_never
theorem mo_119 : ∀ a, a < 119 → MO a := lt_s mo_118 mw_X10_meet
theorem mo_120 : ∀ a, a < 120 → MO a := lt_s mo_119 mw_X10_home
theorem mo_121 : ∀ a, a < 121 → MO a := lt_s mo_120 mw_X10_row
theorem mo_122 : ∀ a, a < 122 → MO a := lt_s mo_121 mw_X10_hand
theorem mo_123 : ∀ a, a < 123 → MO a := lt_s mo_122 mw_X10_track
theorem mo_124 : ∀ a, a < 124 → MO a := lt_s mo_123 mw_X10_left
theorem mo_125 : ∀ a, a < 125 → MO a := lt_s mo_124 mw_X10_tracks
theorem mo_126 : ∀ a, a < 126 → MO a := lt_s mo_125 mw_X10_common
theorem mo_127 : ∀ a, a < 127 → MO a := lt_s mo_126 mw_X10_lot
theorem mo_128 : ∀ a, a < 128 → MO a := lt_s mo_127 mw_X10_slower
theorem mo_129 : ∀ a, a < 129 → MO a := lt_s mo_128 mw_X10_tapeAt
theorem mo_130 : ∀ a, a < 130 → MO a := lt_s mo_129 mw_X10_judge
theorem mo_131 : ∀ a, a < 131 → MO a := lt_s mo_130 mw_X10_image
theorem mo_132 : ∀ a, a < 132 → MO a := lt_s mo_131 mw_X10_undo
theorem mo_133 : ∀ a, a < 133 → MO a := lt_s mo_132 mw_X10_act
theorem mo_134 : ∀ a, a < 134 → MO a := lt_s mo_133 mw_X10_trace
theorem mo_135 : ∀ a, a < 135 → MO a := lt_s mo_134 mw_X10_above
theorem mo_136 : ∀ a, a < 136 → MO a := lt_s mo_135 mw_X10_isUnder
theorem mo_137 : ∀ a, a < 137 → MO a := lt_s mo_136 mw_X10_taken
theorem mo_138 : ∀ a, a < 138 → MO a := lt_s mo_137 mw_X10_count
theorem mo_139 : ∀ a, a < 139 → MO a := lt_s mo_138 mw_X10_tape
theorem mo_140 : ∀ a, a < 140 → MO a := lt_s mo_139 mw_X10_item
theorem mo_141 : ∀ a, a < 141 → MO a := lt_s mo_140 mw_X10_read
theorem mo_142 : ∀ a, a < 142 → MO a := lt_s mo_141 mw_X10_shift
theorem mo_143 : ∀ a, a < 143 → MO a := lt_s mo_142 mw_X11_init
theorem mo_144 : ∀ a, a < 144 → MO a := lt_s mo_143 mw_X11_isIn
theorem mo_145 : ∀ a, a < 145 → MO a := lt_s mo_144 mw_X11_isWalker
theorem mo_146 : ∀ a, a < 146 → MO a := lt_s mo_145 mw_X11_isCell
theorem mo_147 : ∀ a, a < 147 → MO a := lt_s mo_146 mw_X11_get
theorem mo_148 : ∀ a, a < 148 → MO a := lt_s mo_147 mw_X11_puts
theorem mo_149 : ∀ a, a < 149 → MO a := lt_s mo_148 mw_X11_feed
theorem mo_150 : ∀ a, a < 150 → MO a := lt_s mo_149 mw_X11_here
theorem mo_151 : ∀ a, a < 151 → MO a := lt_s mo_150 mw_X11_takes
theorem mo_152 : ∀ a, a < 152 → MO a := lt_s mo_151 mw_X11_number
theorem mo_153 : ∀ a, a < 153 → MO a := lt_s mo_152 mw_X11_amount
theorem mo_154 : ∀ a, a < 154 → MO a := lt_s mo_153 mw_X11_valueOf
theorem mo_155 : ∀ a, a < 155 → MO a := lt_s mo_154 mw_X11_test
theorem mo_156 : ∀ a, a < 156 → MO a := lt_s mo_155 mw_X11_either
theorem mo_157 : ∀ a, a < 157 → MO a := lt_s mo_156 mw_X11_factor
theorem mo_158 : ∀ a, a < 158 → MO a := lt_s mo_157 mw_X11_term
theorem mo_159 : ∀ a, a < 159 → MO a := lt_s mo_158 mw_X11_word
theorem mo_160 : ∀ a, a < 160 → MO a := lt_s mo_159 mw_X11_marksBy
theorem mo_161 : ∀ a, a < 161 → MO a := lt_s mo_160 mw_X11_clause
theorem mo_162 : ∀ a, a < 162 → MO a := lt_s mo_161 mw_X11_held
theorem mo_163 : ∀ a, a < 163 → MO a := lt_s mo_162 mw_X11_reads
theorem mo_164 : ∀ a, a < 164 → MO a := lt_s mo_163 mw_X11_land
theorem mo_165 : ∀ a, a < 165 → MO a := lt_s mo_164 mw_X11_onBeats
theorem mo_166 : ∀ a, a < 166 → MO a := lt_s mo_165 mw_X11_beats
theorem mo_167 : ∀ a, a < 167 → MO a := lt_s mo_166 mw_X11_told
theorem mo_168 : ∀ a, a < 168 → MO a := lt_s mo_167 mw_X11_isMarked
theorem mo_169 : ∀ a, a < 169 → MO a := lt_s mo_168 mw_X11_ground
theorem mo_170 : ∀ a, a < 170 → MO a := lt_s mo_169 mw_X11_walker
theorem mo_171 : ∀ a, a < 171 → MO a := lt_s mo_170 mw_X11_beatOf
theorem mo_172 : ∀ a, a < 172 → MO a := lt_s mo_171 mw_X11_of
theorem mo_173 : ∀ a, a < 173 → MO a := lt_s mo_172 mw_X11_put
theorem mo_174 : ∀ a, a < 174 → MO a := lt_s mo_173 mw_X11_beside
theorem mo_175 : ∀ a, a < 175 → MO a := lt_s mo_174 mw_X11_goesOn
theorem mo_176 : ∀ a, a < 176 → MO a := lt_s mo_175 mw_X11_backTo
theorem mo_177 : ∀ a, a < 177 → MO a := lt_s mo_176 mw_X11_goesBack
theorem mo_178 : ∀ a, a < 178 → MO a := lt_s mo_177 mw_X11_mayOn
theorem mo_179 : ∀ a, a < 179 → MO a := lt_s mo_178 mw_X11_mayBy
theorem mo_180 : ∀ a, a < 180 → MO a := lt_s mo_179 mw_X11_mayNow
theorem mo_181 : ∀ a, a < 181 → MO a := lt_s mo_180 mw_X11_may
theorem mo_182 : ∀ a, a < 182 → MO a := lt_s mo_181 mw_X11_steps
theorem mo_183 : ∀ a, a < 183 → MO a := lt_s mo_182 mw_X11_step
theorem mo_184 : ∀ a, a < 184 → MO a := lt_s mo_183 mw_X11_stateOf
theorem mo_185 : ∀ a, a < 185 → MO a := lt_s mo_184 mw_X11_comesTo
theorem mo_186 : ∀ a, a < 186 → MO a := lt_s mo_185 mw_X11_begins
theorem mo_187 : ∀ a, a < 187 → MO a := lt_s mo_186 mw_X11_beginsAs
theorem mo_188 : ∀ a, a < 188 → MO a := lt_s mo_187 mw_X11_bits
theorem mo_189 : ∀ a, a < 189 → MO a := lt_s mo_188 mw_X11_goesBeat
theorem mo_190 : ∀ a, a < 190 → MO a := lt_s mo_189 mw_X11_cellsNow
theorem mo_191 : ∀ a, a < 191 → MO a := lt_s mo_190 mw_X11_firstTo
theorem mo_192 : ∀ a, a < 192 → MO a := lt_s mo_191 mw_X11_soonestTo
theorem mo_193 : ∀ a, a < 193 → MO a := lt_s mo_192 mw_X11_soonest
theorem mo_194 : ∀ a, a < 194 → MO a := lt_s mo_193 mw_X11_begin
theorem mo_195 : ∀ a, a < 195 → MO a := lt_s mo_194 mw_X11_within
theorem mo_196 : ∀ a, a < 196 → MO a := lt_s mo_195 mw_X11_reached
theorem mo_197 : ∀ a, a < 197 → MO a := lt_s mo_196 mw_X11_never
theorem mo_198 : ∀ a, a < 198 → MO a := lt_s mo_197 mw_X11_meet
theorem mo_199 : ∀ a, a < 199 → MO a := lt_s mo_198 mw_X11_home
theorem mo_200 : ∀ a, a < 200 → MO a := lt_s mo_199 mw_X11_row
theorem mo_201 : ∀ a, a < 201 → MO a := lt_s mo_200 mw_X11_hand
theorem mo_202 : ∀ a, a < 202 → MO a := lt_s mo_201 mw_X11_track
theorem mo_203 : ∀ a, a < 203 → MO a := lt_s mo_202 mw_X11_mightHave
theorem mo_204 : ∀ a, a < 204 → MO a := lt_s mo_203 mw_X11_tracks
theorem mo_205 : ∀ a, a < 205 → MO a := lt_s mo_204 mw_X11_common
theorem mo_206 : ∀ a, a < 206 → MO a := lt_s mo_205 mw_X11_lot
theorem mo_207 : ∀ a, a < 207 → MO a := lt_s mo_206 mw_X11_soonestBy
theorem mo_208 : ∀ a, a < 208 → MO a := lt_s mo_207 mw_X11_slower
theorem mo_209 : ∀ a, a < 209 → MO a := lt_s mo_208 mw_X11_above
theorem mo_210 : ∀ a, a < 210 → MO a := lt_s mo_209 mw_X11_runs
theorem mo_211 : ∀ a, a < 211 → MO a := lt_s mo_210 mw_X11_hasBody
theorem mo_212 : ∀ a, a < 212 → MO a := lt_s mo_211 mw_X11_acts
theorem mo_213 : ∀ a, a < 213 → MO a := lt_s mo_212 mw_X11_bodyOf
theorem mo_214 : ∀ a, a < 214 → MO a := lt_s mo_213 mw_X11_act
theorem mo_215 : ∀ a, a < 215 → MO a := lt_s mo_214 mw_X11_trace
theorem mo_216 : ∀ a, a < 216 → MO a := lt_s mo_215 mw_X11_taken
theorem mo_217 : ∀ a, a < 217 → MO a := lt_s mo_216 mw_X11_judge
theorem mo_218 : ∀ a, a < 218 → MO a := lt_s mo_217 mw_X11_image
theorem mo_219 : ∀ a, a < 219 → MO a := lt_s mo_218 mw_X11_undo
theorem mo_220 : ∀ a, a < 220 → MO a := lt_s mo_219 mw_X11_count
theorem mo_221 : ∀ a, a < 221 → MO a := lt_s mo_220 mw_X11_tape
theorem mo_222 : ∀ a, a < 222 → MO a := lt_s mo_221 mw_X11_item
theorem mo_223 : ∀ a, a < 223 → MO a := lt_s mo_222 mw_X11_read
theorem mo_224 : ∀ a, a < 224 → MO a := lt_s mo_223 mw_X11_shift
theorem met_ok {k : Nat} (h : k < 224) : MO k := mo_224 k h
