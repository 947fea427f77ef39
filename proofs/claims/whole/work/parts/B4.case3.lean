/-! the law: calls 16 to 23 -/
theorem dL_665 : decode code 665 = .ok (.aload_n 1, 1) := by decide +kernel
theorem dL_666 : decode code 666 = .ok (.aload_n 0, 1) := by decide +kernel
theorem dL_667 : decode code 667 = .ok (.iload_n 3, 1) := by decide +kernel
theorem dL_668 : decode code 668 = .ok (.iconst 1, 1) := by decide +kernel
theorem dL_669 : decode code 669 = .ok (.iadd, 1) := by decide +kernel
theorem dL_670 : decode code 670 = .ok (.iaload, 1) := by decide +kernel
theorem dL_671 : decode code 671 = .ok (.aload_n 0, 1) := by decide +kernel
theorem dL_672 : decode code 672 = .ok (.iload_n 3, 1) := by decide +kernel
theorem dL_673 : decode code 673 = .ok (.iconst 2, 1) := by decide +kernel
theorem dL_674 : decode code 674 = .ok (.iadd, 1) := by decide +kernel
theorem dL_675 : decode code 675 = .ok (.iaload, 1) := by decide +kernel
theorem dL_676 : decode code 676 = .ok (.invokevirtual 84, 3) := by decide +kernel
theorem dL_679 : decode code 679 = .ok (.aload_n 2, 1) := by decide +kernel
theorem dL_680 : decode code 680 = .ok (.aload_n 0, 1) := by decide +kernel
theorem dL_681 : decode code 681 = .ok (.iload_n 3, 1) := by decide +kernel
theorem dL_682 : decode code 682 = .ok (.iconst 1, 1) := by decide +kernel
theorem dL_683 : decode code 683 = .ok (.iadd, 1) := by decide +kernel
theorem dL_684 : decode code 684 = .ok (.iaload, 1) := by decide +kernel
theorem dL_685 : decode code 685 = .ok (.aload_n 0, 1) := by decide +kernel
theorem dL_686 : decode code 686 = .ok (.iload_n 3, 1) := by decide +kernel
theorem dL_687 : decode code 687 = .ok (.iconst 2, 1) := by decide +kernel
theorem dL_688 : decode code 688 = .ok (.iadd, 1) := by decide +kernel
theorem dL_689 : decode code 689 = .ok (.iaload, 1) := by decide +kernel
theorem dL_690 : decode code 690 = .ok (.invokevirtual 87, 3) := by decide +kernel
theorem dL_693 : decode code 693 = .ok (.if_icmp .eq 371, 3) := by decide +kernel
theorem lc_16 {C : Ct} {i : Nat} {I1 : Ii} {J1 : Jj} {I2 : Ii} {J2 : Jj} {sc : Sx} {L : Nat → List Nat} {s : Sx} {ps : Nat → Sx} {g : Sx} (hi : i + 6 ≤ CL C) (hL : CL C ≤ 3072) (hX : EnX I1 sc L s ps g) (hM : EnM I2 J2 sc L s ps g) (h : ∀ I1' J1' I2' J2' sc' L' s' ps' g', EnX I1' sc' L' s' ps' g' → EnM I2' J2' sc' L' s' ps' g' → LW C 1064 (lsC C i) [] I1' J1' I2' J2') : LW C 665 (lsC C i) [] I1 J1 I2 J2 := by
  refine l_aload dL_665 1 1 rfl rfl ?_
  refine l_aload dL_666 0 0 rfl rfl ?_
  refine l_iload dL_667 3 3 rfl rfl ?_
  refine l_iconst (v := nI 1) dL_668 rfl ?_
  refine l_iadd (z := nI (i + 1)) dL_669 (nI_add i 1) ?_
  refine l_iald dL_670 (by omega) hL ?_
  refine l_aload dL_671 0 0 rfl rfl ?_
  refine l_iload dL_672 3 3 rfl rfl ?_
  refine l_iconst (v := nI 2) dL_673 rfl ?_
  refine l_iadd (z := nI (i + 2)) dL_674 (nI_add i 2) ?_
  refine l_iald dL_675 (by omega) hL ?_
  refine l_callX (As := [.int (Cx C (i + 1)), .int (Cx C (i + 2))]) (rest := []) dL_676 ml_L_84 md_X12_law mv_X12_law rfl rfl (fun _ => rfl) rfl (by decide) (by decide) (x_law (d := 0) (K := fun x I' _ => x = (r_law sc L s (Cx C (i + 1)) (Cx C (i + 2))) ∧ EnX I' sc L s ps g) hX (fun I' h9 => ⟨rfl, h9⟩)) (fun r I' J' q => ?_)
  obtain ⟨x, rfl, rfl, hX1⟩ := q
  refine ⟨fun _ => rfl, ?_⟩
  refine l_aload dL_679 2 2 rfl rfl ?_
  refine l_aload dL_680 0 0 rfl rfl ?_
  refine l_iload dL_681 3 3 rfl rfl ?_
  refine l_iconst (v := nI 1) dL_682 rfl ?_
  refine l_iadd (z := nI (i + 1)) dL_683 (nI_add i 1) ?_
  refine l_iald dL_684 (by omega) hL ?_
  refine l_aload dL_685 0 0 rfl rfl ?_
  refine l_iload dL_686 3 3 rfl rfl ?_
  refine l_iconst (v := nI 2) dL_687 rfl ?_
  refine l_iadd (z := nI (i + 2)) dL_688 (nI_add i 2) ?_
  refine l_iald dL_689 (by omega) hL ?_
  refine l_callM (As := [.int (Cx C (i + 1)), .int (Cx C (i + 2))]) (rest := [.int ((r_law sc L s (Cx C (i + 1)) (Cx C (i + 2))))]) dL_690 ml_L_87 md_X13_law mv_X13_law rfl rfl (fun _ => rfl) rfl (Nat.le_of_ble_eq_true rfl) (by decide) (y_law (d := 0) (K := fun x I' J' => x = (r_law sc L s (Cx C (i + 1)) (Cx C (i + 2))) ∧ EnM I' J' sc L s ps g) hM (fun I' J' h9 => ⟨rfl, h9⟩)) (fun r I2' J2' q => ?_)
  obtain ⟨x, rfl, rfl, hM1⟩ := q
  refine ⟨fun _ => rfl, ?_⟩
  exact l_same dL_693 rfl (h _ _ _ _ _ _ _ _ _ hX1 hM1)
theorem dL_698 : decode code 698 = .ok (.aload_n 1, 1) := by decide +kernel
theorem dL_699 : decode code 699 = .ok (.invokevirtual 88, 3) := by decide +kernel
theorem dL_702 : decode code 702 = .ok (.aload_n 2, 1) := by decide +kernel
theorem dL_703 : decode code 703 = .ok (.invokevirtual 91, 3) := by decide +kernel
theorem dL_706 : decode code 706 = .ok (.if_icmp .eq 358, 3) := by decide +kernel
theorem lc_17 {C : Ct} {i : Nat} {I1 : Ii} {J1 : Jj} {I2 : Ii} {J2 : Jj} {sc : Sx} {L : Nat → List Nat} {s : Sx} {ps : Nat → Sx} {g : Sx} (hi : i + 6 ≤ CL C) (hL : CL C ≤ 3072) (hX : EnX I1 sc L s ps g) (hM : EnM I2 J2 sc L s ps g) (h : ∀ I1' J1' I2' J2' sc' L' s' ps' g', EnX I1' sc' L' s' ps' g' → EnM I2' J2' sc' L' s' ps' g' → LW C 1064 (lsC C i) [] I1' J1' I2' J2') : LW C 698 (lsC C i) [] I1 J1 I2 J2 := by
  refine l_aload dL_698 1 1 rfl rfl ?_
  refine l_callX (As := []) (rest := []) dL_699 ml_L_88 md_X12_hear mv_X12_hear rfl rfl (fun _ => rfl) rfl (by decide) (by decide) (x_hear (d := 0) (K := fun x I' _ => x = (r_hear sc g) ∧ EnX I' sc L s ps (g_hear sc g)) hX (fun I' h9 => ⟨rfl, h9⟩)) (fun r I' J' q => ?_)
  obtain ⟨x, rfl, rfl, hX1⟩ := q
  refine ⟨fun _ => rfl, ?_⟩
  refine l_aload dL_702 2 2 rfl rfl ?_
  refine l_callM (As := []) (rest := [.int ((r_hear sc g))]) dL_703 ml_L_91 md_X13_hear mv_X13_hear rfl rfl (fun _ => rfl) rfl (Nat.le_of_ble_eq_true rfl) (by decide) (y_hear (d := 0) (K := fun x I' J' => x = (r_hear sc g) ∧ EnM I' J' sc L s ps (g_hear sc g)) hM (fun I' J' h9 => ⟨rfl, h9⟩)) (fun r I2' J2' q => ?_)
  obtain ⟨x, rfl, rfl, hM1⟩ := q
  refine ⟨fun _ => rfl, ?_⟩
  exact l_same dL_706 rfl (h _ _ _ _ _ _ _ _ _ hX1 hM1)
theorem dL_711 : decode code 711 = .ok (.aload_n 1, 1) := by decide +kernel
theorem dL_712 : decode code 712 = .ok (.aload_n 0, 1) := by decide +kernel
theorem dL_713 : decode code 713 = .ok (.iload_n 3, 1) := by decide +kernel
theorem dL_714 : decode code 714 = .ok (.iconst 1, 1) := by decide +kernel
theorem dL_715 : decode code 715 = .ok (.iadd, 1) := by decide +kernel
theorem dL_716 : decode code 716 = .ok (.iaload, 1) := by decide +kernel
theorem dL_717 : decode code 717 = .ok (.aload_n 0, 1) := by decide +kernel
theorem dL_718 : decode code 718 = .ok (.iload_n 3, 1) := by decide +kernel
theorem dL_719 : decode code 719 = .ok (.iconst 2, 1) := by decide +kernel
theorem dL_720 : decode code 720 = .ok (.iadd, 1) := by decide +kernel
theorem dL_721 : decode code 721 = .ok (.iaload, 1) := by decide +kernel
theorem dL_722 : decode code 722 = .ok (.invokevirtual 92, 3) := by decide +kernel
theorem dL_725 : decode code 725 = .ok (.aload_n 2, 1) := by decide +kernel
theorem dL_726 : decode code 726 = .ok (.aload_n 0, 1) := by decide +kernel
theorem dL_727 : decode code 727 = .ok (.iload_n 3, 1) := by decide +kernel
theorem dL_728 : decode code 728 = .ok (.iconst 1, 1) := by decide +kernel
theorem dL_729 : decode code 729 = .ok (.iadd, 1) := by decide +kernel
theorem dL_730 : decode code 730 = .ok (.iaload, 1) := by decide +kernel
theorem dL_731 : decode code 731 = .ok (.aload_n 0, 1) := by decide +kernel
theorem dL_732 : decode code 732 = .ok (.iload_n 3, 1) := by decide +kernel
theorem dL_733 : decode code 733 = .ok (.iconst 2, 1) := by decide +kernel
theorem dL_734 : decode code 734 = .ok (.iadd, 1) := by decide +kernel
theorem dL_735 : decode code 735 = .ok (.iaload, 1) := by decide +kernel
theorem dL_736 : decode code 736 = .ok (.invokevirtual 95, 3) := by decide +kernel
theorem dL_739 : decode code 739 = .ok (.if_icmp .eq 325, 3) := by decide +kernel
theorem lc_18 {C : Ct} {i : Nat} {I1 : Ii} {J1 : Jj} {I2 : Ii} {J2 : Jj} {sc : Sx} {L : Nat → List Nat} {s : Sx} {ps : Nat → Sx} {g : Sx} (hi : i + 6 ≤ CL C) (hL : CL C ≤ 3072) (hX : EnX I1 sc L s ps g) (hM : EnM I2 J2 sc L s ps g) (h : ∀ I1' J1' I2' J2' sc' L' s' ps' g', EnX I1' sc' L' s' ps' g' → EnM I2' J2' sc' L' s' ps' g' → LW C 1064 (lsC C i) [] I1' J1' I2' J2') : LW C 711 (lsC C i) [] I1 J1 I2 J2 := by
  refine l_aload dL_711 1 1 rfl rfl ?_
  refine l_aload dL_712 0 0 rfl rfl ?_
  refine l_iload dL_713 3 3 rfl rfl ?_
  refine l_iconst (v := nI 1) dL_714 rfl ?_
  refine l_iadd (z := nI (i + 1)) dL_715 (nI_add i 1) ?_
  refine l_iald dL_716 (by omega) hL ?_
  refine l_aload dL_717 0 0 rfl rfl ?_
  refine l_iload dL_718 3 3 rfl rfl ?_
  refine l_iconst (v := nI 2) dL_719 rfl ?_
  refine l_iadd (z := nI (i + 2)) dL_720 (nI_add i 2) ?_
  refine l_iald dL_721 (by omega) hL ?_
  refine l_callX (As := [.int (Cx C (i + 1)), .int (Cx C (i + 2))]) (rest := []) dL_722 ml_L_92 md_X12_sources mv_X12_sources rfl rfl (fun _ => rfl) rfl (by decide) (by decide) (x_sources (d := 0) (K := fun x I' _ => x = (r_sources sc L s g (Cx C (i + 1)) (Cx C (i + 2))) ∧ EnX I' sc L s ps g) hX (fun I' h9 => ⟨rfl, h9⟩)) (fun r I' J' q => ?_)
  obtain ⟨x, rfl, rfl, hX1⟩ := q
  refine ⟨fun _ => rfl, ?_⟩
  refine l_aload dL_725 2 2 rfl rfl ?_
  refine l_aload dL_726 0 0 rfl rfl ?_
  refine l_iload dL_727 3 3 rfl rfl ?_
  refine l_iconst (v := nI 1) dL_728 rfl ?_
  refine l_iadd (z := nI (i + 1)) dL_729 (nI_add i 1) ?_
  refine l_iald dL_730 (by omega) hL ?_
  refine l_aload dL_731 0 0 rfl rfl ?_
  refine l_iload dL_732 3 3 rfl rfl ?_
  refine l_iconst (v := nI 2) dL_733 rfl ?_
  refine l_iadd (z := nI (i + 2)) dL_734 (nI_add i 2) ?_
  refine l_iald dL_735 (by omega) hL ?_
  refine l_callM (As := [.int (Cx C (i + 1)), .int (Cx C (i + 2))]) (rest := [.int ((r_sources sc L s g (Cx C (i + 1)) (Cx C (i + 2))))]) dL_736 ml_L_95 md_X13_sources mv_X13_sources rfl rfl (fun _ => rfl) rfl (Nat.le_of_ble_eq_true rfl) (by decide) (y_sources (d := 0) (K := fun x I' J' => x = (r_sources sc L s g (Cx C (i + 1)) (Cx C (i + 2))) ∧ EnM I' J' sc L s ps g) hM (fun I' J' h9 => ⟨rfl, h9⟩)) (fun r I2' J2' q => ?_)
  obtain ⟨x, rfl, rfl, hM1⟩ := q
  refine ⟨fun _ => rfl, ?_⟩
  exact l_same dL_739 rfl (h _ _ _ _ _ _ _ _ _ hX1 hM1)
theorem dL_744 : decode code 744 = .ok (.aload_n 1, 1) := by decide +kernel
theorem dL_745 : decode code 745 = .ok (.aload_n 0, 1) := by decide +kernel
theorem dL_746 : decode code 746 = .ok (.iload_n 3, 1) := by decide +kernel
theorem dL_747 : decode code 747 = .ok (.iconst 1, 1) := by decide +kernel
theorem dL_748 : decode code 748 = .ok (.iadd, 1) := by decide +kernel
theorem dL_749 : decode code 749 = .ok (.iaload, 1) := by decide +kernel
theorem dL_750 : decode code 750 = .ok (.aload_n 0, 1) := by decide +kernel
theorem dL_751 : decode code 751 = .ok (.iload_n 3, 1) := by decide +kernel
theorem dL_752 : decode code 752 = .ok (.iconst 2, 1) := by decide +kernel
theorem dL_753 : decode code 753 = .ok (.iadd, 1) := by decide +kernel
theorem dL_754 : decode code 754 = .ok (.iaload, 1) := by decide +kernel
theorem dL_755 : decode code 755 = .ok (.aload_n 0, 1) := by decide +kernel
theorem dL_756 : decode code 756 = .ok (.iload_n 3, 1) := by decide +kernel
theorem dL_757 : decode code 757 = .ok (.iconst 3, 1) := by decide +kernel
theorem dL_758 : decode code 758 = .ok (.iadd, 1) := by decide +kernel
theorem dL_759 : decode code 759 = .ok (.iaload, 1) := by decide +kernel
theorem dL_760 : decode code 760 = .ok (.invokevirtual 96, 3) := by decide +kernel
theorem dL_763 : decode code 763 = .ok (.aload_n 2, 1) := by decide +kernel
theorem dL_764 : decode code 764 = .ok (.aload_n 0, 1) := by decide +kernel
theorem dL_765 : decode code 765 = .ok (.iload_n 3, 1) := by decide +kernel
theorem dL_766 : decode code 766 = .ok (.iconst 1, 1) := by decide +kernel
theorem dL_767 : decode code 767 = .ok (.iadd, 1) := by decide +kernel
theorem dL_768 : decode code 768 = .ok (.iaload, 1) := by decide +kernel
theorem dL_769 : decode code 769 = .ok (.aload_n 0, 1) := by decide +kernel
theorem dL_770 : decode code 770 = .ok (.iload_n 3, 1) := by decide +kernel
theorem dL_771 : decode code 771 = .ok (.iconst 2, 1) := by decide +kernel
theorem dL_772 : decode code 772 = .ok (.iadd, 1) := by decide +kernel
theorem dL_773 : decode code 773 = .ok (.iaload, 1) := by decide +kernel
theorem dL_774 : decode code 774 = .ok (.aload_n 0, 1) := by decide +kernel
theorem dL_775 : decode code 775 = .ok (.iload_n 3, 1) := by decide +kernel
theorem dL_776 : decode code 776 = .ok (.iconst 3, 1) := by decide +kernel
theorem dL_777 : decode code 777 = .ok (.iadd, 1) := by decide +kernel
theorem dL_778 : decode code 778 = .ok (.iaload, 1) := by decide +kernel
theorem dL_779 : decode code 779 = .ok (.invokevirtual 99, 3) := by decide +kernel
theorem dL_782 : decode code 782 = .ok (.if_icmp .eq 282, 3) := by decide +kernel
theorem lc_19 {C : Ct} {i : Nat} {I1 : Ii} {J1 : Jj} {I2 : Ii} {J2 : Jj} {sc : Sx} {L : Nat → List Nat} {s : Sx} {ps : Nat → Sx} {g : Sx} (hi : i + 6 ≤ CL C) (hL : CL C ≤ 3072) (hX : EnX I1 sc L s ps g) (hM : EnM I2 J2 sc L s ps g) (h : ∀ I1' J1' I2' J2' sc' L' s' ps' g', EnX I1' sc' L' s' ps' g' → EnM I2' J2' sc' L' s' ps' g' → LW C 1064 (lsC C i) [] I1' J1' I2' J2') : LW C 744 (lsC C i) [] I1 J1 I2 J2 := by
  refine l_aload dL_744 1 1 rfl rfl ?_
  refine l_aload dL_745 0 0 rfl rfl ?_
  refine l_iload dL_746 3 3 rfl rfl ?_
  refine l_iconst (v := nI 1) dL_747 rfl ?_
  refine l_iadd (z := nI (i + 1)) dL_748 (nI_add i 1) ?_
  refine l_iald dL_749 (by omega) hL ?_
  refine l_aload dL_750 0 0 rfl rfl ?_
  refine l_iload dL_751 3 3 rfl rfl ?_
  refine l_iconst (v := nI 2) dL_752 rfl ?_
  refine l_iadd (z := nI (i + 2)) dL_753 (nI_add i 2) ?_
  refine l_iald dL_754 (by omega) hL ?_
  refine l_aload dL_755 0 0 rfl rfl ?_
  refine l_iload dL_756 3 3 rfl rfl ?_
  refine l_iconst (v := nI 3) dL_757 rfl ?_
  refine l_iadd (z := nI (i + 3)) dL_758 (nI_add i 3) ?_
  refine l_iald dL_759 (by omega) hL ?_
  refine l_callX (As := [.int (Cx C (i + 1)), .int (Cx C (i + 2)), .int (Cx C (i + 3))]) (rest := []) dL_760 ml_L_96 md_X12_probe mv_X12_probe rfl rfl (fun _ => rfl) rfl (by decide) (by decide) (x_probe (d := 0) (K := fun x I' _ => x = (r_probe sc L s g (Cx C (i + 1)) (Cx C (i + 2)) (Cx C (i + 3))) ∧ EnX I' sc L s ps g) hX (fun I' h9 => ⟨rfl, h9⟩)) (fun r I' J' q => ?_)
  obtain ⟨x, rfl, rfl, hX1⟩ := q
  refine ⟨fun _ => rfl, ?_⟩
  refine l_aload dL_763 2 2 rfl rfl ?_
  refine l_aload dL_764 0 0 rfl rfl ?_
  refine l_iload dL_765 3 3 rfl rfl ?_
  refine l_iconst (v := nI 1) dL_766 rfl ?_
  refine l_iadd (z := nI (i + 1)) dL_767 (nI_add i 1) ?_
  refine l_iald dL_768 (by omega) hL ?_
  refine l_aload dL_769 0 0 rfl rfl ?_
  refine l_iload dL_770 3 3 rfl rfl ?_
  refine l_iconst (v := nI 2) dL_771 rfl ?_
  refine l_iadd (z := nI (i + 2)) dL_772 (nI_add i 2) ?_
  refine l_iald dL_773 (by omega) hL ?_
  refine l_aload dL_774 0 0 rfl rfl ?_
  refine l_iload dL_775 3 3 rfl rfl ?_
  refine l_iconst (v := nI 3) dL_776 rfl ?_
  refine l_iadd (z := nI (i + 3)) dL_777 (nI_add i 3) ?_
  refine l_iald dL_778 (by omega) hL ?_
  refine l_callM (As := [.int (Cx C (i + 1)), .int (Cx C (i + 2)), .int (Cx C (i + 3))]) (rest := [.int ((r_probe sc L s g (Cx C (i + 1)) (Cx C (i + 2)) (Cx C (i + 3))))]) dL_779 ml_L_99 md_X13_probe mv_X13_probe rfl rfl (fun _ => rfl) rfl (Nat.le_of_ble_eq_true rfl) (by decide) (y_probe (d := 0) (K := fun x I' J' => x = (r_probe sc L s g (Cx C (i + 1)) (Cx C (i + 2)) (Cx C (i + 3))) ∧ EnM I' J' sc L s ps g) hM (fun I' J' h9 => ⟨rfl, h9⟩)) (fun r I2' J2' q => ?_)
  obtain ⟨x, rfl, rfl, hM1⟩ := q
  refine ⟨fun _ => rfl, ?_⟩
  exact l_same dL_782 rfl (h _ _ _ _ _ _ _ _ _ hX1 hM1)
theorem dL_787 : decode code 787 = .ok (.aload_n 1, 1) := by decide +kernel
theorem dL_788 : decode code 788 = .ok (.aload_n 0, 1) := by decide +kernel
theorem dL_789 : decode code 789 = .ok (.iload_n 3, 1) := by decide +kernel
theorem dL_790 : decode code 790 = .ok (.iconst 1, 1) := by decide +kernel
theorem dL_791 : decode code 791 = .ok (.iadd, 1) := by decide +kernel
theorem dL_792 : decode code 792 = .ok (.iaload, 1) := by decide +kernel
theorem dL_793 : decode code 793 = .ok (.aload_n 0, 1) := by decide +kernel
theorem dL_794 : decode code 794 = .ok (.iload_n 3, 1) := by decide +kernel
theorem dL_795 : decode code 795 = .ok (.iconst 2, 1) := by decide +kernel
theorem dL_796 : decode code 796 = .ok (.iadd, 1) := by decide +kernel
theorem dL_797 : decode code 797 = .ok (.iaload, 1) := by decide +kernel
theorem dL_798 : decode code 798 = .ok (.invokevirtual 100, 3) := by decide +kernel
theorem dL_801 : decode code 801 = .ok (.aload_n 2, 1) := by decide +kernel
theorem dL_802 : decode code 802 = .ok (.aload_n 0, 1) := by decide +kernel
theorem dL_803 : decode code 803 = .ok (.iload_n 3, 1) := by decide +kernel
theorem dL_804 : decode code 804 = .ok (.iconst 1, 1) := by decide +kernel
theorem dL_805 : decode code 805 = .ok (.iadd, 1) := by decide +kernel
theorem dL_806 : decode code 806 = .ok (.iaload, 1) := by decide +kernel
theorem dL_807 : decode code 807 = .ok (.aload_n 0, 1) := by decide +kernel
theorem dL_808 : decode code 808 = .ok (.iload_n 3, 1) := by decide +kernel
theorem dL_809 : decode code 809 = .ok (.iconst 2, 1) := by decide +kernel
theorem dL_810 : decode code 810 = .ok (.iadd, 1) := by decide +kernel
theorem dL_811 : decode code 811 = .ok (.iaload, 1) := by decide +kernel
theorem dL_812 : decode code 812 = .ok (.invokevirtual 103, 3) := by decide +kernel
theorem dL_815 : decode code 815 = .ok (.if_icmp .eq 249, 3) := by decide +kernel
theorem lc_20 {C : Ct} {i : Nat} {I1 : Ii} {J1 : Jj} {I2 : Ii} {J2 : Jj} {sc : Sx} {L : Nat → List Nat} {s : Sx} {ps : Nat → Sx} {g : Sx} (hi : i + 6 ≤ CL C) (hL : CL C ≤ 3072) (hX : EnX I1 sc L s ps g) (hM : EnM I2 J2 sc L s ps g) (h : ∀ I1' J1' I2' J2' sc' L' s' ps' g', EnX I1' sc' L' s' ps' g' → EnM I2' J2' sc' L' s' ps' g' → LW C 1064 (lsC C i) [] I1' J1' I2' J2') : LW C 787 (lsC C i) [] I1 J1 I2 J2 := by
  refine l_aload dL_787 1 1 rfl rfl ?_
  refine l_aload dL_788 0 0 rfl rfl ?_
  refine l_iload dL_789 3 3 rfl rfl ?_
  refine l_iconst (v := nI 1) dL_790 rfl ?_
  refine l_iadd (z := nI (i + 1)) dL_791 (nI_add i 1) ?_
  refine l_iald dL_792 (by omega) hL ?_
  refine l_aload dL_793 0 0 rfl rfl ?_
  refine l_iload dL_794 3 3 rfl rfl ?_
  refine l_iconst (v := nI 2) dL_795 rfl ?_
  refine l_iadd (z := nI (i + 2)) dL_796 (nI_add i 2) ?_
  refine l_iald dL_797 (by omega) hL ?_
  refine l_callX (As := [.int (Cx C (i + 1)), .int (Cx C (i + 2))]) (rest := []) dL_798 ml_L_100 md_X12_part mv_X12_part rfl rfl (fun _ => rfl) rfl (by decide) (by decide) (x_part (d := 0) (K := fun x I' _ => x = (r_part sc s (Cx C (i + 1)) (Cx C (i + 2))) ∧ EnX I' sc L s ps g) hX ⟨rfl, hX⟩) (fun r I' J' q => ?_)
  obtain ⟨x, rfl, rfl, hX1⟩ := q
  refine ⟨fun _ => rfl, ?_⟩
  refine l_aload dL_801 2 2 rfl rfl ?_
  refine l_aload dL_802 0 0 rfl rfl ?_
  refine l_iload dL_803 3 3 rfl rfl ?_
  refine l_iconst (v := nI 1) dL_804 rfl ?_
  refine l_iadd (z := nI (i + 1)) dL_805 (nI_add i 1) ?_
  refine l_iald dL_806 (by omega) hL ?_
  refine l_aload dL_807 0 0 rfl rfl ?_
  refine l_iload dL_808 3 3 rfl rfl ?_
  refine l_iconst (v := nI 2) dL_809 rfl ?_
  refine l_iadd (z := nI (i + 2)) dL_810 (nI_add i 2) ?_
  refine l_iald dL_811 (by omega) hL ?_
  refine l_callM (As := [.int (Cx C (i + 1)), .int (Cx C (i + 2))]) (rest := [.int ((r_part sc s (Cx C (i + 1)) (Cx C (i + 2))))]) dL_812 ml_L_103 md_X13_part mv_X13_part rfl rfl (fun _ => rfl) rfl (Nat.le_of_ble_eq_true rfl) (by decide) (y_part (d := 0) (K := fun x I' J' => x = (r_part sc s (Cx C (i + 1)) (Cx C (i + 2))) ∧ EnM I' J' sc L s ps g) hM ⟨rfl, hM⟩) (fun r I2' J2' q => ?_)
  obtain ⟨x, rfl, rfl, hM1⟩ := q
  refine ⟨fun _ => rfl, ?_⟩
  exact l_same dL_815 rfl (h _ _ _ _ _ _ _ _ _ hX1 hM1)
theorem dL_820 : decode code 820 = .ok (.aload_n 1, 1) := by decide +kernel
theorem dL_821 : decode code 821 = .ok (.aload_n 0, 1) := by decide +kernel
theorem dL_822 : decode code 822 = .ok (.iload_n 3, 1) := by decide +kernel
theorem dL_823 : decode code 823 = .ok (.iconst 1, 1) := by decide +kernel
theorem dL_824 : decode code 824 = .ok (.iadd, 1) := by decide +kernel
theorem dL_825 : decode code 825 = .ok (.iaload, 1) := by decide +kernel
theorem dL_826 : decode code 826 = .ok (.aload_n 0, 1) := by decide +kernel
theorem dL_827 : decode code 827 = .ok (.iload_n 3, 1) := by decide +kernel
theorem dL_828 : decode code 828 = .ok (.iconst 2, 1) := by decide +kernel
theorem dL_829 : decode code 829 = .ok (.iadd, 1) := by decide +kernel
theorem dL_830 : decode code 830 = .ok (.iaload, 1) := by decide +kernel
theorem dL_831 : decode code 831 = .ok (.invokevirtual 104, 3) := by decide +kernel
theorem dL_834 : decode code 834 = .ok (.aload_n 2, 1) := by decide +kernel
theorem dL_835 : decode code 835 = .ok (.aload_n 0, 1) := by decide +kernel
theorem dL_836 : decode code 836 = .ok (.iload_n 3, 1) := by decide +kernel
theorem dL_837 : decode code 837 = .ok (.iconst 1, 1) := by decide +kernel
theorem dL_838 : decode code 838 = .ok (.iadd, 1) := by decide +kernel
theorem dL_839 : decode code 839 = .ok (.iaload, 1) := by decide +kernel
theorem dL_840 : decode code 840 = .ok (.aload_n 0, 1) := by decide +kernel
theorem dL_841 : decode code 841 = .ok (.iload_n 3, 1) := by decide +kernel
theorem dL_842 : decode code 842 = .ok (.iconst 2, 1) := by decide +kernel
theorem dL_843 : decode code 843 = .ok (.iadd, 1) := by decide +kernel
theorem dL_844 : decode code 844 = .ok (.iaload, 1) := by decide +kernel
theorem dL_845 : decode code 845 = .ok (.invokevirtual 108, 3) := by decide +kernel
theorem dL_848 : decode code 848 = .ok (.if_icmp .eq 216, 3) := by decide +kernel
theorem lc_21 {C : Ct} {i : Nat} {I1 : Ii} {J1 : Jj} {I2 : Ii} {J2 : Jj} {sc : Sx} {L : Nat → List Nat} {s : Sx} {ps : Nat → Sx} {g : Sx} (hi : i + 6 ≤ CL C) (hL : CL C ≤ 3072) (hX : EnX I1 sc L s ps g) (hM : EnM I2 J2 sc L s ps g) (h : ∀ I1' J1' I2' J2' sc' L' s' ps' g', EnX I1' sc' L' s' ps' g' → EnM I2' J2' sc' L' s' ps' g' → LW C 1064 (lsC C i) [] I1' J1' I2' J2') : LW C 820 (lsC C i) [] I1 J1 I2 J2 := by
  refine l_aload dL_820 1 1 rfl rfl ?_
  refine l_aload dL_821 0 0 rfl rfl ?_
  refine l_iload dL_822 3 3 rfl rfl ?_
  refine l_iconst (v := nI 1) dL_823 rfl ?_
  refine l_iadd (z := nI (i + 1)) dL_824 (nI_add i 1) ?_
  refine l_iald dL_825 (by omega) hL ?_
  refine l_aload dL_826 0 0 rfl rfl ?_
  refine l_iload dL_827 3 3 rfl rfl ?_
  refine l_iconst (v := nI 2) dL_828 rfl ?_
  refine l_iadd (z := nI (i + 2)) dL_829 (nI_add i 2) ?_
  refine l_iald dL_830 (by omega) hL ?_
  refine l_callX (As := [.int (Cx C (i + 1)), .int (Cx C (i + 2))]) (rest := []) dL_831 ml_L_104 md_X12_teach mv_X12_teach rfl rfl (fun _ => rfl) rfl (by decide) (by decide) (x_teach (d := 0) (K := fun x I' _ => x = (b01 (tcq sc s (Cx C (i + 1)) (Cx C (i + 2)))) ∧ EnX I' sc L (s_tc sc s (Cx C (i + 1)) (Cx C (i + 2))) (ps_tc sc s ps g (Cx C (i + 1)) (Cx C (i + 2))) (g_tc sc s g (Cx C (i + 1)) (Cx C (i + 2)))) hX (fun I' h9 => ⟨rfl, h9⟩)) (fun r I' J' q => ?_)
  obtain ⟨x, rfl, rfl, hX1⟩ := q
  refine ⟨fun _ => rfl, ?_⟩
  refine l_aload dL_834 2 2 rfl rfl ?_
  refine l_aload dL_835 0 0 rfl rfl ?_
  refine l_iload dL_836 3 3 rfl rfl ?_
  refine l_iconst (v := nI 1) dL_837 rfl ?_
  refine l_iadd (z := nI (i + 1)) dL_838 (nI_add i 1) ?_
  refine l_iald dL_839 (by omega) hL ?_
  refine l_aload dL_840 0 0 rfl rfl ?_
  refine l_iload dL_841 3 3 rfl rfl ?_
  refine l_iconst (v := nI 2) dL_842 rfl ?_
  refine l_iadd (z := nI (i + 2)) dL_843 (nI_add i 2) ?_
  refine l_iald dL_844 (by omega) hL ?_
  refine l_callM (As := [.int (Cx C (i + 1)), .int (Cx C (i + 2))]) (rest := [.int ((b01 (tcq sc s (Cx C (i + 1)) (Cx C (i + 2)))))]) dL_845 ml_L_108 md_X13_teach mv_X13_teach rfl rfl (fun _ => rfl) rfl (Nat.le_of_ble_eq_true rfl) (by decide) (y_teach (d := 0) (K := fun x I' J' => x = (b01 (tcq sc s (Cx C (i + 1)) (Cx C (i + 2)))) ∧ EnM I' J' sc L (s_tc sc s (Cx C (i + 1)) (Cx C (i + 2))) (ps_tc sc s ps g (Cx C (i + 1)) (Cx C (i + 2))) (g_tc sc s g (Cx C (i + 1)) (Cx C (i + 2)))) hM (fun I' J' h9 => ⟨rfl, h9⟩)) (fun r I2' J2' q => ?_)
  obtain ⟨x, rfl, rfl, hM1⟩ := q
  refine ⟨fun _ => rfl, ?_⟩
  exact l_same dL_848 rfl (h _ _ _ _ _ _ _ _ _ hX1 hM1)
theorem dL_853 : decode code 853 = .ok (.aload_n 1, 1) := by decide +kernel
theorem dL_854 : decode code 854 = .ok (.aload_n 0, 1) := by decide +kernel
theorem dL_855 : decode code 855 = .ok (.iload_n 3, 1) := by decide +kernel
theorem dL_856 : decode code 856 = .ok (.iconst 1, 1) := by decide +kernel
theorem dL_857 : decode code 857 = .ok (.iadd, 1) := by decide +kernel
theorem dL_858 : decode code 858 = .ok (.iaload, 1) := by decide +kernel
theorem dL_859 : decode code 859 = .ok (.aload_n 0, 1) := by decide +kernel
theorem dL_860 : decode code 860 = .ok (.iload_n 3, 1) := by decide +kernel
theorem dL_861 : decode code 861 = .ok (.iconst 2, 1) := by decide +kernel
theorem dL_862 : decode code 862 = .ok (.iadd, 1) := by decide +kernel
theorem dL_863 : decode code 863 = .ok (.iaload, 1) := by decide +kernel
theorem dL_864 : decode code 864 = .ok (.invokevirtual 109, 3) := by decide +kernel
theorem dL_867 : decode code 867 = .ok (.aload_n 2, 1) := by decide +kernel
theorem dL_868 : decode code 868 = .ok (.aload_n 0, 1) := by decide +kernel
theorem dL_869 : decode code 869 = .ok (.iload_n 3, 1) := by decide +kernel
theorem dL_870 : decode code 870 = .ok (.iconst 1, 1) := by decide +kernel
theorem dL_871 : decode code 871 = .ok (.iadd, 1) := by decide +kernel
theorem dL_872 : decode code 872 = .ok (.iaload, 1) := by decide +kernel
theorem dL_873 : decode code 873 = .ok (.aload_n 0, 1) := by decide +kernel
theorem dL_874 : decode code 874 = .ok (.iload_n 3, 1) := by decide +kernel
theorem dL_875 : decode code 875 = .ok (.iconst 2, 1) := by decide +kernel
theorem dL_876 : decode code 876 = .ok (.iadd, 1) := by decide +kernel
theorem dL_877 : decode code 877 = .ok (.iaload, 1) := by decide +kernel
theorem dL_878 : decode code 878 = .ok (.invokevirtual 112, 3) := by decide +kernel
theorem dL_881 : decode code 881 = .ok (.if_icmp .eq 183, 3) := by decide +kernel
theorem lc_22 {C : Ct} {i : Nat} {I1 : Ii} {J1 : Jj} {I2 : Ii} {J2 : Jj} {sc : Sx} {L : Nat → List Nat} {s : Sx} {ps : Nat → Sx} {g : Sx} (hi : i + 6 ≤ CL C) (hL : CL C ≤ 3072) (hX : EnX I1 sc L s ps g) (hM : EnM I2 J2 sc L s ps g) (h : ∀ I1' J1' I2' J2' sc' L' s' ps' g', EnX I1' sc' L' s' ps' g' → EnM I2' J2' sc' L' s' ps' g' → LW C 1064 (lsC C i) [] I1' J1' I2' J2') : LW C 853 (lsC C i) [] I1 J1 I2 J2 := by
  refine l_aload dL_853 1 1 rfl rfl ?_
  refine l_aload dL_854 0 0 rfl rfl ?_
  refine l_iload dL_855 3 3 rfl rfl ?_
  refine l_iconst (v := nI 1) dL_856 rfl ?_
  refine l_iadd (z := nI (i + 1)) dL_857 (nI_add i 1) ?_
  refine l_iald dL_858 (by omega) hL ?_
  refine l_aload dL_859 0 0 rfl rfl ?_
  refine l_iload dL_860 3 3 rfl rfl ?_
  refine l_iconst (v := nI 2) dL_861 rfl ?_
  refine l_iadd (z := nI (i + 2)) dL_862 (nI_add i 2) ?_
  refine l_iald dL_863 (by omega) hL ?_
  refine l_callX (As := [.int (Cx C (i + 1)), .int (Cx C (i + 2))]) (rest := []) dL_864 ml_L_109 md_X12_tell mv_X12_tell rfl rfl (fun _ => rfl) rfl (by decide) (by decide) (x_tell (d := 0) (K := fun x I' _ => x = (b01 (tlq sc s (Cx C (i + 1)) (Cx C (i + 2)))) ∧ EnX I' sc L (s_tl sc s (Cx C (i + 1)) (Cx C (i + 2))) (ps_tl sc s ps g (Cx C (i + 1)) (Cx C (i + 2))) (g_tl sc s g (Cx C (i + 1)) (Cx C (i + 2)))) hX (fun I' h9 => ⟨rfl, h9⟩)) (fun r I' J' q => ?_)
  obtain ⟨x, rfl, rfl, hX1⟩ := q
  refine ⟨fun _ => rfl, ?_⟩
  refine l_aload dL_867 2 2 rfl rfl ?_
  refine l_aload dL_868 0 0 rfl rfl ?_
  refine l_iload dL_869 3 3 rfl rfl ?_
  refine l_iconst (v := nI 1) dL_870 rfl ?_
  refine l_iadd (z := nI (i + 1)) dL_871 (nI_add i 1) ?_
  refine l_iald dL_872 (by omega) hL ?_
  refine l_aload dL_873 0 0 rfl rfl ?_
  refine l_iload dL_874 3 3 rfl rfl ?_
  refine l_iconst (v := nI 2) dL_875 rfl ?_
  refine l_iadd (z := nI (i + 2)) dL_876 (nI_add i 2) ?_
  refine l_iald dL_877 (by omega) hL ?_
  refine l_callM (As := [.int (Cx C (i + 1)), .int (Cx C (i + 2))]) (rest := [.int ((b01 (tlq sc s (Cx C (i + 1)) (Cx C (i + 2)))))]) dL_878 ml_L_112 md_X13_tell mv_X13_tell rfl rfl (fun _ => rfl) rfl (Nat.le_of_ble_eq_true rfl) (by decide) (y_tell (d := 0) (K := fun x I' J' => x = (b01 (tlq sc s (Cx C (i + 1)) (Cx C (i + 2)))) ∧ EnM I' J' sc L (s_tl sc s (Cx C (i + 1)) (Cx C (i + 2))) (ps_tl sc s ps g (Cx C (i + 1)) (Cx C (i + 2))) (g_tl sc s g (Cx C (i + 1)) (Cx C (i + 2)))) hM (fun I' J' h9 => ⟨rfl, h9⟩)) (fun r I2' J2' q => ?_)
  obtain ⟨x, rfl, rfl, hM1⟩ := q
  refine ⟨fun _ => rfl, ?_⟩
  exact l_same dL_881 rfl (h _ _ _ _ _ _ _ _ _ hX1 hM1)
theorem dL_886 : decode code 886 = .ok (.aload_n 1, 1) := by decide +kernel
theorem dL_887 : decode code 887 = .ok (.aload_n 0, 1) := by decide +kernel
theorem dL_888 : decode code 888 = .ok (.iload_n 3, 1) := by decide +kernel
theorem dL_889 : decode code 889 = .ok (.iconst 1, 1) := by decide +kernel
theorem dL_890 : decode code 890 = .ok (.iadd, 1) := by decide +kernel
theorem dL_891 : decode code 891 = .ok (.iaload, 1) := by decide +kernel
theorem dL_892 : decode code 892 = .ok (.invokevirtual 113, 3) := by decide +kernel
theorem dL_895 : decode code 895 = .ok (.aload_n 2, 1) := by decide +kernel
theorem dL_896 : decode code 896 = .ok (.aload_n 0, 1) := by decide +kernel
theorem dL_897 : decode code 897 = .ok (.iload_n 3, 1) := by decide +kernel
theorem dL_898 : decode code 898 = .ok (.iconst 1, 1) := by decide +kernel
theorem dL_899 : decode code 899 = .ok (.iadd, 1) := by decide +kernel
theorem dL_900 : decode code 900 = .ok (.iaload, 1) := by decide +kernel
theorem dL_901 : decode code 901 = .ok (.invokevirtual 116, 3) := by decide +kernel
theorem dL_904 : decode code 904 = .ok (.if_icmp .eq 160, 3) := by decide +kernel
theorem lc_23 {C : Ct} {i : Nat} {I1 : Ii} {J1 : Jj} {I2 : Ii} {J2 : Jj} {sc : Sx} {L : Nat → List Nat} {s : Sx} {ps : Nat → Sx} {g : Sx} (hi : i + 6 ≤ CL C) (hL : CL C ≤ 3072) (hX : EnX I1 sc L s ps g) (hM : EnM I2 J2 sc L s ps g) (h : ∀ I1' J1' I2' J2' sc' L' s' ps' g', EnX I1' sc' L' s' ps' g' → EnM I2' J2' sc' L' s' ps' g' → LW C 1064 (lsC C i) [] I1' J1' I2' J2') : LW C 886 (lsC C i) [] I1 J1 I2 J2 := by
  refine l_aload dL_886 1 1 rfl rfl ?_
  refine l_aload dL_887 0 0 rfl rfl ?_
  refine l_iload dL_888 3 3 rfl rfl ?_
  refine l_iconst (v := nI 1) dL_889 rfl ?_
  refine l_iadd (z := nI (i + 1)) dL_890 (nI_add i 1) ?_
  refine l_iald dL_891 (by omega) hL ?_
  refine l_callX (As := [.int (Cx C (i + 1))]) (rest := []) dL_892 ml_L_113 md_X12_years mv_X12_years rfl rfl (fun _ => rfl) rfl (by decide) (by decide) (x_years (d := 0) (K := fun x I' _ => x = (r_years sc L s (Cx C (i + 1))) ∧ EnX I' sc L (s_ye sc L s (Cx C (i + 1))) (ps_ye s ps g (Cx C (i + 1))) (g_ye s g (Cx C (i + 1)))) hX (fun I' h9 => ⟨rfl, h9⟩)) (fun r I' J' q => ?_)
  obtain ⟨x, rfl, rfl, hX1⟩ := q
  refine ⟨fun _ => rfl, ?_⟩
  refine l_aload dL_895 2 2 rfl rfl ?_
  refine l_aload dL_896 0 0 rfl rfl ?_
  refine l_iload dL_897 3 3 rfl rfl ?_
  refine l_iconst (v := nI 1) dL_898 rfl ?_
  refine l_iadd (z := nI (i + 1)) dL_899 (nI_add i 1) ?_
  refine l_iald dL_900 (by omega) hL ?_
  refine l_callM (As := [.int (Cx C (i + 1))]) (rest := [.int ((r_years sc L s (Cx C (i + 1))))]) dL_901 ml_L_116 md_X13_years mv_X13_years rfl rfl (fun _ => rfl) rfl (Nat.le_of_ble_eq_true rfl) (by decide) (y_years (d := 0) (K := fun x I' J' => x = (r_years sc L s (Cx C (i + 1))) ∧ EnM I' J' sc L (s_ye sc L s (Cx C (i + 1))) (ps_ye s ps g (Cx C (i + 1))) (g_ye s g (Cx C (i + 1)))) hM (fun I' J' h9 => ⟨rfl, h9⟩)) (fun r I2' J2' q => ?_)
  obtain ⟨x, rfl, rfl, hM1⟩ := q
  refine ⟨fun _ => rfl, ?_⟩
  exact l_same dL_904 rfl (h _ _ _ _ _ _ _ _ _ hX1 hM1)
