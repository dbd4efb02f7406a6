/-! The law: its calls. -/
section LCS
variable {g : GG} {b L n kc ks : Nat} {xs : Nat → Int32} {σ : Hs} {R : Nat → Nat} {S : SS}
theorem lw_blank (h : LC g b L xs n kc ks σ R S) : Fs g (SL b L xs g) (600000, 7302249, kc, ks) [(3, .int (nI n)), (2, .ref (R 300)), (1, .ref (R 0)), (0, .ref b)] [] 643 σ := by
  obtain ⟨ko, rm, iv, hn, hL, hz1, hz2, next⟩ := h
  have v : Iv S := ⟨iv, ko.wide, ko.qok, ko.upk⟩
  refine fs_aload_n (pc := 643) 2 rfl rfl dl_643 ?_
  refine fs_callV (pc := 644) (As := []) (st := []) (mc := 0) (ms := 0) wd_X11_blank lk_72 ok_X11_blank (by decide) rfl (Nat.le_of_ble_eq_true rfl) dl_644 ⟨show kc + 0 ≤ 600000 by omega, show ks + 0 ≤ 7302249 by omega⟩ kc_X11 (Rc.of ko.1) (do_blank ko) (fun v1 σ1 h1 => ?_)
  obtain ⟨R1, rfl, ko1, rm1, f0, f3⟩ := pair_ok ko rm h1
  obtain ⟨X1, A1, hh1, rq⟩ := rm1
  have d2 := rw_blank rq
  rw [f3] at d2
  have rc2 := rq.1.rc
  rw [f3] at rc2
  refine fs_aload_n (pc := 647) 1 rfl rfl dl_647 ?_
  refine fs_callV (pc := 648) (As := []) (st := [_]) (mc := 0) (ms := 0) wd_X12_blank lk_76 ok_X12_blank (by decide) rfl (Nat.le_of_ble_eq_true rfl) dl_648 ⟨show kc + 0 + 0 ≤ 600000 by omega, show ks + 0 + 0 ≤ 7302249 by omega⟩ kc_X12 rc2 d2 (fun v2 σ2 h2 => ?_)
  obtain ⟨rfl, ko2, rm2⟩ := pair_2 ko1 h2
  refine fs_icmp_eq (pc := 651) (tgt := 1352) (φ := True) (ψ := False) (by decide) dl_651 ⟨fun _ => trivial, fun z => z rfl⟩ (fun _ => ?_) (fun z => z.elim)
  exact next σ2 R1 _ (kc + 0 + 0) (ks + 0 + 0) ko2 rm2 (iv.blank) f0 f3 (by omega) (by omega)
theorem lw_good (h : LC g b L xs n kc ks σ R S) : Fs g (SL b L xs g) (600000, 7302249, kc, ks) [(3, .int (nI n)), (2, .ref (R 300)), (1, .ref (R 0)), (0, .ref b)] [] 656 σ := by
  obtain ⟨ko, rm, iv, hn, hL, hz1, hz2, next⟩ := h
  have v : Iv S := ⟨iv, ko.wide, ko.qok, ko.upk⟩
  refine fs_aload_n (pc := 656) 2 rfl rfl dl_656 ?_
  refine fs_callV (pc := 657) (As := []) (st := []) (mc := 0) (ms := 0) wd_X11_good lk_77 ok_X11_good (by decide) rfl (Nat.le_of_ble_eq_true rfl) dl_657 ⟨show kc + 0 ≤ 600000 by omega, show ks + 0 ≤ 7302249 by omega⟩ kc_X11 (Rc.of ko.1) (do_good ko iv) (fun v1 σ1 h1 => ?_)
  obtain ⟨R1, rfl, ko1, rm1, f0, f3⟩ := pair_ok ko rm h1
  obtain ⟨X1, A1, hh1, rq⟩ := rm1
  have d2 := rw_good rq v
  rw [f3] at d2
  have rc2 := rq.1.rc
  rw [f3] at rc2
  refine fs_aload_n (pc := 660) 1 rfl rfl dl_660 ?_
  refine fs_callV (pc := 661) (As := []) (st := [_]) (mc := 0) (ms := 0) wd_X12_good lk_80 ok_X12_good (by decide) rfl (Nat.le_of_ble_eq_true rfl) dl_661 ⟨show kc + 0 + 0 ≤ 600000 by omega, show ks + 0 + 0 ≤ 7302249 by omega⟩ kc_X12 rc2 d2 (fun v2 σ2 h2 => ?_)
  obtain ⟨rfl, ko2, rm2⟩ := pair_2 ko1 h2
  refine fs_icmp_eq (pc := 664) (tgt := 1352) (φ := True) (ψ := False) (by decide) dl_664 ⟨fun _ => trivial, fun z => z rfl⟩ (fun _ => ?_) (fun z => z.elim)
  exact next σ2 R1 _ (kc + 0 + 0) (ks + 0 + 0) ko2 rm2 (iv) f0 f3 (by omega) (by omega)
theorem lw_ask (h : LC g b L xs n kc ks σ R S) : Fs g (SL b L xs g) (600000, 7302249, kc, ks) [(3, .int (nI n)), (2, .ref (R 300)), (1, .ref (R 0)), (0, .ref b)] [] 669 σ := by
  obtain ⟨ko, rm, iv, hn, hL, hz1, hz2, next⟩ := h
  have v : Iv S := ⟨iv, ko.wide, ko.qok, ko.upk⟩
  refine fs_aload_n (pc := 669) 2 rfl rfl dl_669 ?_
  refine fs_callV (pc := 670) (As := []) (st := []) (mc := 5) (ms := 17) wd_X11_ask lk_81 ok_X11_ask (by decide) rfl (Nat.le_of_ble_eq_true rfl) dl_670 ⟨show kc + 5 ≤ 600000 by omega, show ks + 17 ≤ 7302249 by omega⟩ kc_X11 (Rc.of ko.1) (do_ask ko iv) (fun v1 σ1 h1 => ?_)
  obtain ⟨R1, rfl, ko1, rm1, f0, f3⟩ := pair_ok ko rm h1
  obtain ⟨X1, A1, hh1, rq⟩ := rm1
  have d2 := rw_ask rq v
  rw [f3] at d2
  have rc2 := rq.1.rc
  rw [f3] at rc2
  refine fs_aload_n (pc := 673) 1 rfl rfl dl_673 ?_
  refine fs_callV (pc := 674) (As := []) (st := [_]) (mc := 0) (ms := 0) wd_X12_ask lk_84 ok_X12_ask (by decide) rfl (Nat.le_of_ble_eq_true rfl) dl_674 ⟨show kc + 5 + 0 ≤ 600000 by omega, show ks + 17 + 0 ≤ 7302249 by omega⟩ kc_X12 rc2 d2 (fun v2 σ2 h2 => ?_)
  obtain ⟨rfl, ko2, rm2⟩ := pair_2 ko1 h2
  refine fs_icmp_eq (pc := 677) (tgt := 1352) (φ := True) (ψ := False) (by decide) dl_677 ⟨fun _ => trivial, fun z => z rfl⟩ (fun _ => ?_) (fun z => z.elim)
  exact next σ2 R1 _ (kc + 5 + 0) (ks + 17 + 0) ko2 rm2 (iv.ask) f0 f3 (by omega) (by omega)
theorem lw_bound (h : LC g b L xs n kc ks σ R S) : Fs g (SL b L xs g) (600000, 7302249, kc, ks) [(3, .int (nI n)), (2, .ref (R 300)), (1, .ref (R 0)), (0, .ref b)] [] 682 σ := by
  obtain ⟨ko, rm, iv, hn, hL, hz1, hz2, next⟩ := h
  have v : Iv S := ⟨iv, ko.wide, ko.qok, ko.upk⟩
  refine fs_aload_n (pc := 682) 2 rfl rfl dl_682 ?_
  refine fs_aload_n (pc := 683) 3 rfl rfl dl_683 ?_
  refine fs_iload_n (pc := 684) 0 rfl rfl dl_684 ?_
  refine fs_iconst (pc := 685) 1 (by decide) dl_685 ?_
  refine fs_iadd (pc := 686) dl_686 ?_
  refine fs_sld (pc := 687) (vin (k := 1) hn hL (by decide)) dl_687 ?_
  refine fs_aload_n (pc := 688) 3 rfl rfl dl_688 ?_
  refine fs_iload_n (pc := 689) 0 rfl rfl dl_689 ?_
  refine fs_iconst (pc := 690) 2 (by decide) dl_690 ?_
  refine fs_iadd (pc := 691) dl_691 ?_
  refine fs_sld (pc := 692) (vin (k := 2) hn hL (by decide)) dl_692 ?_
  refine fs_aload_n (pc := 693) 3 rfl rfl dl_693 ?_
  refine fs_iload_n (pc := 694) 0 rfl rfl dl_694 ?_
  refine fs_iconst (pc := 695) 3 (by decide) dl_695 ?_
  refine fs_iadd (pc := 696) dl_696 ?_
  refine fs_sld (pc := 697) (vin (k := 3) hn hL (by decide)) dl_697 ?_
  refine fs_callV (pc := 698) (As := [.int (xs (nI n + 1).toNatClampNeg), .int (xs (nI n + 2).toNatClampNeg), .int (xs (nI n + 3).toNatClampNeg)]) (st := []) (mc := 0) (ms := 0) wd_X11_bound lk_85 ok_X11_bound (by decide) rfl (Nat.le_of_ble_eq_true rfl) dl_698 ⟨show kc + 0 ≤ 600000 by omega, show ks + 0 ≤ 7302249 by omega⟩ kc_X11 (Rc.of ko.1) (KP.rd ko (rd_bound ko (xs (nI n + 1).toNatClampNeg) (xs (nI n + 2).toNatClampNeg) (xs (nI n + 3).toNatClampNeg))) (fun v1 σ1 h1 => ?_)
  obtain ⟨R1, rfl, ko1, rm1, f0, f3⟩ := pair_ok ko rm h1
  obtain ⟨X1, A1, hh1, rq⟩ := rm1
  have d2 := RP.rd rq (rr_bound rq v (xs (nI n + 1).toNatClampNeg) (xs (nI n + 2).toNatClampNeg) (xs (nI n + 3).toNatClampNeg))
  rw [f3] at d2
  have rc2 := rq.1.rc
  rw [f3] at rc2
  refine fs_aload_n (pc := 701) 1 rfl rfl dl_701 ?_
  refine fs_aload_n (pc := 702) 3 rfl rfl dl_702 ?_
  refine fs_iload_n (pc := 703) 0 rfl rfl dl_703 ?_
  refine fs_iconst (pc := 704) 1 (by decide) dl_704 ?_
  refine fs_iadd (pc := 705) dl_705 ?_
  refine fs_sld (pc := 706) (vin (k := 1) hn hL (by decide)) dl_706 ?_
  refine fs_aload_n (pc := 707) 3 rfl rfl dl_707 ?_
  refine fs_iload_n (pc := 708) 0 rfl rfl dl_708 ?_
  refine fs_iconst (pc := 709) 2 (by decide) dl_709 ?_
  refine fs_iadd (pc := 710) dl_710 ?_
  refine fs_sld (pc := 711) (vin (k := 2) hn hL (by decide)) dl_711 ?_
  refine fs_aload_n (pc := 712) 3 rfl rfl dl_712 ?_
  refine fs_iload_n (pc := 713) 0 rfl rfl dl_713 ?_
  refine fs_iconst (pc := 714) 3 (by decide) dl_714 ?_
  refine fs_iadd (pc := 715) dl_715 ?_
  refine fs_sld (pc := 716) (vin (k := 3) hn hL (by decide)) dl_716 ?_
  refine fs_callV (pc := 717) (As := [.int (xs (nI n + 1).toNatClampNeg), .int (xs (nI n + 2).toNatClampNeg), .int (xs (nI n + 3).toNatClampNeg)]) (st := [_]) (mc := 0) (ms := 0) wd_X12_bound lk_88 ok_X12_bound (by decide) rfl (Nat.le_of_ble_eq_true rfl) dl_717 ⟨show kc + 0 + 0 ≤ 600000 by omega, show ks + 0 + 0 ≤ 7302249 by omega⟩ kc_X12 rc2 d2 (fun v2 σ2 h2 => ?_)
  obtain ⟨rfl, ko2, rm2⟩ := pair_2 ko1 h2
  refine fs_icmp_eq (pc := 720) (tgt := 1352) (φ := True) (ψ := False) (by decide) dl_720 ⟨fun _ => trivial, fun z => z rfl⟩ (fun _ => ?_) (fun z => z.elim)
  exact next σ2 R1 _ (kc + 0 + 0) (ks + 0 + 0) ko2 rm2 (iv) f0 f3 (by omega) (by omega)
theorem lw_weight (h : LC g b L xs n kc ks σ R S) : Fs g (SL b L xs g) (600000, 7302249, kc, ks) [(3, .int (nI n)), (2, .ref (R 300)), (1, .ref (R 0)), (0, .ref b)] [] 725 σ := by
  obtain ⟨ko, rm, iv, hn, hL, hz1, hz2, next⟩ := h
  have v : Iv S := ⟨iv, ko.wide, ko.qok, ko.upk⟩
  refine fs_aload_n (pc := 725) 2 rfl rfl dl_725 ?_
  refine fs_aload_n (pc := 726) 3 rfl rfl dl_726 ?_
  refine fs_iload_n (pc := 727) 0 rfl rfl dl_727 ?_
  refine fs_iconst (pc := 728) 1 (by decide) dl_728 ?_
  refine fs_iadd (pc := 729) dl_729 ?_
  refine fs_sld (pc := 730) (vin (k := 1) hn hL (by decide)) dl_730 ?_
  refine fs_aload_n (pc := 731) 3 rfl rfl dl_731 ?_
  refine fs_iload_n (pc := 732) 0 rfl rfl dl_732 ?_
  refine fs_iconst (pc := 733) 2 (by decide) dl_733 ?_
  refine fs_iadd (pc := 734) dl_734 ?_
  refine fs_sld (pc := 735) (vin (k := 2) hn hL (by decide)) dl_735 ?_
  refine fs_callV (pc := 736) (As := [.int (xs (nI n + 1).toNatClampNeg), .int (xs (nI n + 2).toNatClampNeg)]) (st := []) (mc := 0) (ms := 0) wd_X11_weight lk_89 ok_X11_weight (by decide) rfl (Nat.le_of_ble_eq_true rfl) dl_736 ⟨show kc + 0 ≤ 600000 by omega, show ks + 0 ≤ 7302249 by omega⟩ kc_X11 (Rc.of ko.1) (do_weight ko (xs (nI n + 1).toNatClampNeg) (xs (nI n + 2).toNatClampNeg)) (fun v1 σ1 h1 => ?_)
  obtain ⟨R1, rfl, ko1, rm1, f0, f3⟩ := pair_ok ko rm h1
  obtain ⟨X1, A1, hh1, rq⟩ := rm1
  have d2 := rw_weight rq v (xs (nI n + 1).toNatClampNeg) (xs (nI n + 2).toNatClampNeg)
  rw [f3] at d2
  have rc2 := rq.1.rc
  rw [f3] at rc2
  refine fs_aload_n (pc := 739) 1 rfl rfl dl_739 ?_
  refine fs_aload_n (pc := 740) 3 rfl rfl dl_740 ?_
  refine fs_iload_n (pc := 741) 0 rfl rfl dl_741 ?_
  refine fs_iconst (pc := 742) 1 (by decide) dl_742 ?_
  refine fs_iadd (pc := 743) dl_743 ?_
  refine fs_sld (pc := 744) (vin (k := 1) hn hL (by decide)) dl_744 ?_
  refine fs_aload_n (pc := 745) 3 rfl rfl dl_745 ?_
  refine fs_iload_n (pc := 746) 0 rfl rfl dl_746 ?_
  refine fs_iconst (pc := 747) 2 (by decide) dl_747 ?_
  refine fs_iadd (pc := 748) dl_748 ?_
  refine fs_sld (pc := 749) (vin (k := 2) hn hL (by decide)) dl_749 ?_
  refine fs_callV (pc := 750) (As := [.int (xs (nI n + 1).toNatClampNeg), .int (xs (nI n + 2).toNatClampNeg)]) (st := [_]) (mc := 0) (ms := 0) wd_X12_weight lk_92 ok_X12_weight (by decide) rfl (Nat.le_of_ble_eq_true rfl) dl_750 ⟨show kc + 0 + 0 ≤ 600000 by omega, show ks + 0 + 0 ≤ 7302249 by omega⟩ kc_X12 rc2 d2 (fun v2 σ2 h2 => ?_)
  obtain ⟨rfl, ko2, rm2⟩ := pair_2 ko1 h2
  refine fs_icmp_eq (pc := 753) (tgt := 1352) (φ := True) (ψ := False) (by decide) dl_753 ⟨fun _ => trivial, fun z => z rfl⟩ (fun _ => ?_) (fun z => z.elim)
  exact next σ2 R1 _ (kc + 0 + 0) (ks + 0 + 0) ko2 rm2 (iv.weight (xs (nI n + 1).toNatClampNeg) (xs (nI n + 2).toNatClampNeg)) f0 f3 (by omega) (by omega)
theorem lw_answers (h : LC g b L xs n kc ks σ R S) : Fs g (SL b L xs g) (600000, 7302249, kc, ks) [(3, .int (nI n)), (2, .ref (R 300)), (1, .ref (R 0)), (0, .ref b)] [] 758 σ := by
  obtain ⟨ko, rm, iv, hn, hL, hz1, hz2, next⟩ := h
  have v : Iv S := ⟨iv, ko.wide, ko.qok, ko.upk⟩
  refine fs_aload_n (pc := 758) 2 rfl rfl dl_758 ?_
  refine fs_aload_n (pc := 759) 3 rfl rfl dl_759 ?_
  refine fs_iload_n (pc := 760) 0 rfl rfl dl_760 ?_
  refine fs_iconst (pc := 761) 1 (by decide) dl_761 ?_
  refine fs_iadd (pc := 762) dl_762 ?_
  refine fs_sld (pc := 763) (vin (k := 1) hn hL (by decide)) dl_763 ?_
  refine fs_callV (pc := 764) (As := [.int (xs (nI n + 1).toNatClampNeg)]) (st := []) (mc := 0) (ms := 0) wd_X11_answers lk_93 ok_X11_answers (by decide) rfl (Nat.le_of_ble_eq_true rfl) dl_764 ⟨show kc + 0 ≤ 600000 by omega, show ks + 0 ≤ 7302249 by omega⟩ kc_X11 (Rc.of ko.1) (KP.rd ko (rd_answers ko (xs (nI n + 1).toNatClampNeg))) (fun v1 σ1 h1 => ?_)
  obtain ⟨R1, rfl, ko1, rm1, f0, f3⟩ := pair_ok ko rm h1
  obtain ⟨X1, A1, hh1, rq⟩ := rm1
  have d2 := RP.rd rq (rr_answers rq v (xs (nI n + 1).toNatClampNeg))
  rw [f3] at d2
  have rc2 := rq.1.rc
  rw [f3] at rc2
  refine fs_aload_n (pc := 767) 1 rfl rfl dl_767 ?_
  refine fs_aload_n (pc := 768) 3 rfl rfl dl_768 ?_
  refine fs_iload_n (pc := 769) 0 rfl rfl dl_769 ?_
  refine fs_iconst (pc := 770) 1 (by decide) dl_770 ?_
  refine fs_iadd (pc := 771) dl_771 ?_
  refine fs_sld (pc := 772) (vin (k := 1) hn hL (by decide)) dl_772 ?_
  refine fs_callV (pc := 773) (As := [.int (xs (nI n + 1).toNatClampNeg)]) (st := [_]) (mc := 0) (ms := 0) wd_X12_answers lk_96 ok_X12_answers (by decide) rfl (Nat.le_of_ble_eq_true rfl) dl_773 ⟨show kc + 0 + 0 ≤ 600000 by omega, show ks + 0 + 0 ≤ 7302249 by omega⟩ kc_X12 rc2 d2 (fun v2 σ2 h2 => ?_)
  obtain ⟨rfl, ko2, rm2⟩ := pair_2 ko1 h2
  refine fs_icmp_eq (pc := 776) (tgt := 1352) (φ := True) (ψ := False) (by decide) dl_776 ⟨fun _ => trivial, fun z => z rfl⟩ (fun _ => ?_) (fun z => z.elim)
  exact next σ2 R1 _ (kc + 0 + 0) (ks + 0 + 0) ko2 rm2 (iv) f0 f3 (by omega) (by omega)
theorem lw_answer (h : LC g b L xs n kc ks σ R S) : Fs g (SL b L xs g) (600000, 7302249, kc, ks) [(3, .int (nI n)), (2, .ref (R 300)), (1, .ref (R 0)), (0, .ref b)] [] 781 σ := by
  obtain ⟨ko, rm, iv, hn, hL, hz1, hz2, next⟩ := h
  have v : Iv S := ⟨iv, ko.wide, ko.qok, ko.upk⟩
  refine fs_aload_n (pc := 781) 2 rfl rfl dl_781 ?_
  refine fs_aload_n (pc := 782) 3 rfl rfl dl_782 ?_
  refine fs_iload_n (pc := 783) 0 rfl rfl dl_783 ?_
  refine fs_iconst (pc := 784) 1 (by decide) dl_784 ?_
  refine fs_iadd (pc := 785) dl_785 ?_
  refine fs_sld (pc := 786) (vin (k := 1) hn hL (by decide)) dl_786 ?_
  refine fs_aload_n (pc := 787) 3 rfl rfl dl_787 ?_
  refine fs_iload_n (pc := 788) 0 rfl rfl dl_788 ?_
  refine fs_iconst (pc := 789) 2 (by decide) dl_789 ?_
  refine fs_iadd (pc := 790) dl_790 ?_
  refine fs_sld (pc := 791) (vin (k := 2) hn hL (by decide)) dl_791 ?_
  refine fs_callV (pc := 792) (As := [.int (xs (nI n + 1).toNatClampNeg), .int (xs (nI n + 2).toNatClampNeg)]) (st := []) (mc := 0) (ms := 0) wd_X11_answer lk_97 ok_X11_answer (by decide) rfl (Nat.le_of_ble_eq_true rfl) dl_792 ⟨show kc + 0 ≤ 600000 by omega, show ks + 0 ≤ 7302249 by omega⟩ kc_X11 (Rc.of ko.1) (KP.rd ko (rd_answer ko (xs (nI n + 1).toNatClampNeg) (xs (nI n + 2).toNatClampNeg))) (fun v1 σ1 h1 => ?_)
  obtain ⟨R1, rfl, ko1, rm1, f0, f3⟩ := pair_ok ko rm h1
  obtain ⟨X1, A1, hh1, rq⟩ := rm1
  have d2 := RP.rd rq (rr_answer rq v (xs (nI n + 1).toNatClampNeg) (xs (nI n + 2).toNatClampNeg))
  rw [f3] at d2
  have rc2 := rq.1.rc
  rw [f3] at rc2
  refine fs_aload_n (pc := 795) 1 rfl rfl dl_795 ?_
  refine fs_aload_n (pc := 796) 3 rfl rfl dl_796 ?_
  refine fs_iload_n (pc := 797) 0 rfl rfl dl_797 ?_
  refine fs_iconst (pc := 798) 1 (by decide) dl_798 ?_
  refine fs_iadd (pc := 799) dl_799 ?_
  refine fs_sld (pc := 800) (vin (k := 1) hn hL (by decide)) dl_800 ?_
  refine fs_aload_n (pc := 801) 3 rfl rfl dl_801 ?_
  refine fs_iload_n (pc := 802) 0 rfl rfl dl_802 ?_
  refine fs_iconst (pc := 803) 2 (by decide) dl_803 ?_
  refine fs_iadd (pc := 804) dl_804 ?_
  refine fs_sld (pc := 805) (vin (k := 2) hn hL (by decide)) dl_805 ?_
  refine fs_callV (pc := 806) (As := [.int (xs (nI n + 1).toNatClampNeg), .int (xs (nI n + 2).toNatClampNeg)]) (st := [_]) (mc := 0) (ms := 0) wd_X12_answer lk_100 ok_X12_answer (by decide) rfl (Nat.le_of_ble_eq_true rfl) dl_806 ⟨show kc + 0 + 0 ≤ 600000 by omega, show ks + 0 + 0 ≤ 7302249 by omega⟩ kc_X12 rc2 d2 (fun v2 σ2 h2 => ?_)
  obtain ⟨rfl, ko2, rm2⟩ := pair_2 ko1 h2
  refine fs_icmp_eq (pc := 809) (tgt := 1352) (φ := True) (ψ := False) (by decide) dl_809 ⟨fun _ => trivial, fun z => z rfl⟩ (fun _ => ?_) (fun z => z.elim)
  exact next σ2 R1 _ (kc + 0 + 0) (ks + 0 + 0) ko2 rm2 (iv) f0 f3 (by omega) (by omega)
theorem lw_looks (h : LC g b L xs n kc ks σ R S) : Fs g (SL b L xs g) (600000, 7302249, kc, ks) [(3, .int (nI n)), (2, .ref (R 300)), (1, .ref (R 0)), (0, .ref b)] [] 814 σ := by
  obtain ⟨ko, rm, iv, hn, hL, hz1, hz2, next⟩ := h
  have v : Iv S := ⟨iv, ko.wide, ko.qok, ko.upk⟩
  refine fs_aload_n (pc := 814) 2 rfl rfl dl_814 ?_
  refine fs_aload_n (pc := 815) 3 rfl rfl dl_815 ?_
  refine fs_iload_n (pc := 816) 0 rfl rfl dl_816 ?_
  refine fs_iconst (pc := 817) 1 (by decide) dl_817 ?_
  refine fs_iadd (pc := 818) dl_818 ?_
  refine fs_sld (pc := 819) (vin (k := 1) hn hL (by decide)) dl_819 ?_
  refine fs_aload_n (pc := 820) 3 rfl rfl dl_820 ?_
  refine fs_iload_n (pc := 821) 0 rfl rfl dl_821 ?_
  refine fs_iconst (pc := 822) 2 (by decide) dl_822 ?_
  refine fs_iadd (pc := 823) dl_823 ?_
  refine fs_sld (pc := 824) (vin (k := 2) hn hL (by decide)) dl_824 ?_
  refine fs_callV (pc := 825) (As := [.int (xs (nI n + 1).toNatClampNeg), .int (xs (nI n + 2).toNatClampNeg)]) (st := []) (mc := 0) (ms := 0) wd_X11_looks lk_101 ok_X11_looks (by decide) rfl (Nat.le_of_ble_eq_true rfl) dl_825 ⟨show kc + 0 ≤ 600000 by omega, show ks + 0 ≤ 7302249 by omega⟩ kc_X11 (Rc.of ko.1) (do_looks ko (xs (nI n + 1).toNatClampNeg) (xs (nI n + 2).toNatClampNeg)) (fun v1 σ1 h1 => ?_)
  obtain ⟨R1, rfl, ko1, rm1, f0, f3⟩ := pair_ok ko rm h1
  obtain ⟨X1, A1, hh1, rq⟩ := rm1
  have d2 := RP.rd rq (rr_looks rq v (xs (nI n + 1).toNatClampNeg) (xs (nI n + 2).toNatClampNeg))
  rw [f3] at d2
  have rc2 := rq.1.rc
  rw [f3] at rc2
  refine fs_aload_n (pc := 828) 1 rfl rfl dl_828 ?_
  refine fs_aload_n (pc := 829) 3 rfl rfl dl_829 ?_
  refine fs_iload_n (pc := 830) 0 rfl rfl dl_830 ?_
  refine fs_iconst (pc := 831) 1 (by decide) dl_831 ?_
  refine fs_iadd (pc := 832) dl_832 ?_
  refine fs_sld (pc := 833) (vin (k := 1) hn hL (by decide)) dl_833 ?_
  refine fs_aload_n (pc := 834) 3 rfl rfl dl_834 ?_
  refine fs_iload_n (pc := 835) 0 rfl rfl dl_835 ?_
  refine fs_iconst (pc := 836) 2 (by decide) dl_836 ?_
  refine fs_iadd (pc := 837) dl_837 ?_
  refine fs_sld (pc := 838) (vin (k := 2) hn hL (by decide)) dl_838 ?_
  refine fs_callV (pc := 839) (As := [.int (xs (nI n + 1).toNatClampNeg), .int (xs (nI n + 2).toNatClampNeg)]) (st := [_]) (mc := 0) (ms := 0) wd_X12_looks lk_104 ok_X12_looks (by decide) rfl (Nat.le_of_ble_eq_true rfl) dl_839 ⟨show kc + 0 + 0 ≤ 600000 by omega, show ks + 0 + 0 ≤ 7302249 by omega⟩ kc_X12 rc2 d2 (fun v2 σ2 h2 => ?_)
  obtain ⟨rfl, ko2, rm2⟩ := pair_2 ko1 h2
  refine fs_icmp_eq (pc := 842) (tgt := 1352) (φ := True) (ψ := False) (by decide) dl_842 ⟨fun _ => trivial, fun z => z rfl⟩ (fun _ => ?_) (fun z => z.elim)
  exact next σ2 R1 _ (kc + 0 + 0) (ks + 0 + 0) ko2 rm2 (iv) f0 f3 (by omega) (by omega)
theorem lw_run (h : LC g b L xs n kc ks σ R S) : Fs g (SL b L xs g) (600000, 7302249, kc, ks) [(3, .int (nI n)), (2, .ref (R 300)), (1, .ref (R 0)), (0, .ref b)] [] 847 σ := by
  obtain ⟨ko, rm, iv, hn, hL, hz1, hz2, next⟩ := h
  have v : Iv S := ⟨iv, ko.wide, ko.qok, ko.upk⟩
  refine fs_aload_n (pc := 847) 2 rfl rfl dl_847 ?_
  refine fs_aload_n (pc := 848) 3 rfl rfl dl_848 ?_
  refine fs_iload_n (pc := 849) 0 rfl rfl dl_849 ?_
  refine fs_iconst (pc := 850) 1 (by decide) dl_850 ?_
  refine fs_iadd (pc := 851) dl_851 ?_
  refine fs_sld (pc := 852) (vin (k := 1) hn hL (by decide)) dl_852 ?_
  refine fs_aload_n (pc := 853) 3 rfl rfl dl_853 ?_
  refine fs_iload_n (pc := 854) 0 rfl rfl dl_854 ?_
  refine fs_iconst (pc := 855) 2 (by decide) dl_855 ?_
  refine fs_iadd (pc := 856) dl_856 ?_
  refine fs_sld (pc := 857) (vin (k := 2) hn hL (by decide)) dl_857 ?_
  refine fs_callV (pc := 858) (As := [.int (xs (nI n + 1).toNatClampNeg), .int (xs (nI n + 2).toNatClampNeg)]) (st := []) (mc := 0) (ms := 0) wd_X11_run lk_105 ok_X11_run (by decide) rfl (Nat.le_of_ble_eq_true rfl) dl_858 ⟨show kc + 0 ≤ 600000 by omega, show ks + 0 ≤ 7302249 by omega⟩ kc_X11 (Rc.of ko.1) (KP.rd ko (rd_run ko (xs (nI n + 1).toNatClampNeg) (xs (nI n + 2).toNatClampNeg))) (fun v1 σ1 h1 => ?_)
  obtain ⟨R1, rfl, ko1, rm1, f0, f3⟩ := pair_ok ko rm h1
  obtain ⟨X1, A1, hh1, rq⟩ := rm1
  have d2 := RP.rd rq (rr_run rq v (xs (nI n + 1).toNatClampNeg) (xs (nI n + 2).toNatClampNeg))
  rw [f3] at d2
  have rc2 := rq.1.rc
  rw [f3] at rc2
  refine fs_aload_n (pc := 861) 1 rfl rfl dl_861 ?_
  refine fs_aload_n (pc := 862) 3 rfl rfl dl_862 ?_
  refine fs_iload_n (pc := 863) 0 rfl rfl dl_863 ?_
  refine fs_iconst (pc := 864) 1 (by decide) dl_864 ?_
  refine fs_iadd (pc := 865) dl_865 ?_
  refine fs_sld (pc := 866) (vin (k := 1) hn hL (by decide)) dl_866 ?_
  refine fs_aload_n (pc := 867) 3 rfl rfl dl_867 ?_
  refine fs_iload_n (pc := 868) 0 rfl rfl dl_868 ?_
  refine fs_iconst (pc := 869) 2 (by decide) dl_869 ?_
  refine fs_iadd (pc := 870) dl_870 ?_
  refine fs_sld (pc := 871) (vin (k := 2) hn hL (by decide)) dl_871 ?_
  refine fs_callV (pc := 872) (As := [.int (xs (nI n + 1).toNatClampNeg), .int (xs (nI n + 2).toNatClampNeg)]) (st := [_]) (mc := 0) (ms := 0) wd_X12_run lk_108 ok_X12_run (by decide) rfl (Nat.le_of_ble_eq_true rfl) dl_872 ⟨show kc + 0 + 0 ≤ 600000 by omega, show ks + 0 + 0 ≤ 7302249 by omega⟩ kc_X12 rc2 d2 (fun v2 σ2 h2 => ?_)
  obtain ⟨rfl, ko2, rm2⟩ := pair_2 ko1 h2
  refine fs_icmp_eq (pc := 875) (tgt := 1352) (φ := True) (ψ := False) (by decide) dl_875 ⟨fun _ => trivial, fun z => z rfl⟩ (fun _ => ?_) (fun z => z.elim)
  exact next σ2 R1 _ (kc + 0 + 0) (ks + 0 + 0) ko2 rm2 (iv) f0 f3 (by omega) (by omega)
theorem lw_best (h : LC g b L xs n kc ks σ R S) : Fs g (SL b L xs g) (600000, 7302249, kc, ks) [(3, .int (nI n)), (2, .ref (R 300)), (1, .ref (R 0)), (0, .ref b)] [] 880 σ := by
  obtain ⟨ko, rm, iv, hn, hL, hz1, hz2, next⟩ := h
  have v : Iv S := ⟨iv, ko.wide, ko.qok, ko.upk⟩
  refine fs_aload_n (pc := 880) 2 rfl rfl dl_880 ?_
  refine fs_aload_n (pc := 881) 3 rfl rfl dl_881 ?_
  refine fs_iload_n (pc := 882) 0 rfl rfl dl_882 ?_
  refine fs_iconst (pc := 883) 1 (by decide) dl_883 ?_
  refine fs_iadd (pc := 884) dl_884 ?_
  refine fs_sld (pc := 885) (vin (k := 1) hn hL (by decide)) dl_885 ?_
  refine fs_aload_n (pc := 886) 3 rfl rfl dl_886 ?_
  refine fs_iload_n (pc := 887) 0 rfl rfl dl_887 ?_
  refine fs_iconst (pc := 888) 2 (by decide) dl_888 ?_
  refine fs_iadd (pc := 889) dl_889 ?_
  refine fs_sld (pc := 890) (vin (k := 2) hn hL (by decide)) dl_890 ?_
  refine fs_callV (pc := 891) (As := [.int (xs (nI n + 1).toNatClampNeg), .int (xs (nI n + 2).toNatClampNeg)]) (st := []) (mc := 0) (ms := 0) wd_X11_best lk_109 ok_X11_best (by decide) rfl (Nat.le_of_ble_eq_true rfl) dl_891 ⟨show kc + 0 ≤ 600000 by omega, show ks + 0 ≤ 7302249 by omega⟩ kc_X11 (Rc.of ko.1) (do_best ko (xs (nI n + 1).toNatClampNeg) (xs (nI n + 2).toNatClampNeg)) (fun v1 σ1 h1 => ?_)
  obtain ⟨R1, rfl, ko1, rm1, f0, f3⟩ := pair_ok ko rm h1
  obtain ⟨X1, A1, hh1, rq⟩ := rm1
  have d2 := rw_best rq v (xs (nI n + 1).toNatClampNeg) (xs (nI n + 2).toNatClampNeg)
  rw [f3] at d2
  have rc2 := rq.1.rc
  rw [f3] at rc2
  refine fs_aload_n (pc := 894) 1 rfl rfl dl_894 ?_
  refine fs_aload_n (pc := 895) 3 rfl rfl dl_895 ?_
  refine fs_iload_n (pc := 896) 0 rfl rfl dl_896 ?_
  refine fs_iconst (pc := 897) 1 (by decide) dl_897 ?_
  refine fs_iadd (pc := 898) dl_898 ?_
  refine fs_sld (pc := 899) (vin (k := 1) hn hL (by decide)) dl_899 ?_
  refine fs_aload_n (pc := 900) 3 rfl rfl dl_900 ?_
  refine fs_iload_n (pc := 901) 0 rfl rfl dl_901 ?_
  refine fs_iconst (pc := 902) 2 (by decide) dl_902 ?_
  refine fs_iadd (pc := 903) dl_903 ?_
  refine fs_sld (pc := 904) (vin (k := 2) hn hL (by decide)) dl_904 ?_
  refine fs_callV (pc := 905) (As := [.int (xs (nI n + 1).toNatClampNeg), .int (xs (nI n + 2).toNatClampNeg)]) (st := [_]) (mc := 0) (ms := 0) wd_X12_best lk_112 ok_X12_best (by decide) rfl (Nat.le_of_ble_eq_true rfl) dl_905 ⟨show kc + 0 + 0 ≤ 600000 by omega, show ks + 0 + 0 ≤ 7302249 by omega⟩ kc_X12 rc2 d2 (fun v2 σ2 h2 => ?_)
  obtain ⟨rfl, ko2, rm2⟩ := pair_2 ko1 h2
  refine fs_icmp_eq (pc := 908) (tgt := 1352) (φ := True) (ψ := False) (by decide) dl_908 ⟨fun _ => trivial, fun z => z rfl⟩ (fun _ => ?_) (fun z => z.elim)
  exact next σ2 R1 _ (kc + 0 + 0) (ks + 0 + 0) ko2 rm2 (iv) f0 f3 (by omega) (by omega)
theorem lw_work (h : LC g b L xs n kc ks σ R S) : Fs g (SL b L xs g) (600000, 7302249, kc, ks) [(3, .int (nI n)), (2, .ref (R 300)), (1, .ref (R 0)), (0, .ref b)] [] 913 σ := by
  obtain ⟨ko, rm, iv, hn, hL, hz1, hz2, next⟩ := h
  have v : Iv S := ⟨iv, ko.wide, ko.qok, ko.upk⟩
  refine fs_aload_n (pc := 913) 2 rfl rfl dl_913 ?_
  refine fs_aload_n (pc := 914) 3 rfl rfl dl_914 ?_
  refine fs_iload_n (pc := 915) 0 rfl rfl dl_915 ?_
  refine fs_iconst (pc := 916) 1 (by decide) dl_916 ?_
  refine fs_iadd (pc := 917) dl_917 ?_
  refine fs_sld (pc := 918) (vin (k := 1) hn hL (by decide)) dl_918 ?_
  refine fs_callV (pc := 919) (As := [.int (xs (nI n + 1).toNatClampNeg)]) (st := []) (mc := 0) (ms := 0) wd_X11_work lk_113 ok_X11_work (by decide) rfl (Nat.le_of_ble_eq_true rfl) dl_919 ⟨show kc + 0 ≤ 600000 by omega, show ks + 0 ≤ 7302249 by omega⟩ kc_X11 (Rc.of ko.1) (do_work ko (xs (nI n + 1).toNatClampNeg)) (fun v1 σ1 h1 => ?_)
  obtain ⟨R1, rfl, ko1, rm1, f0, f3⟩ := pair_ok ko rm h1
  obtain ⟨X1, A1, hh1, rq⟩ := rm1
  have d2 := rw_work rq v (xs (nI n + 1).toNatClampNeg)
  rw [f3] at d2
  have rc2 := rq.1.rc
  rw [f3] at rc2
  refine fs_aload_n (pc := 922) 1 rfl rfl dl_922 ?_
  refine fs_aload_n (pc := 923) 3 rfl rfl dl_923 ?_
  refine fs_iload_n (pc := 924) 0 rfl rfl dl_924 ?_
  refine fs_iconst (pc := 925) 1 (by decide) dl_925 ?_
  refine fs_iadd (pc := 926) dl_926 ?_
  refine fs_sld (pc := 927) (vin (k := 1) hn hL (by decide)) dl_927 ?_
  refine fs_callV (pc := 928) (As := [.int (xs (nI n + 1).toNatClampNeg)]) (st := [_]) (mc := 0) (ms := 0) wd_X12_work lk_116 ok_X12_work (by decide) rfl (Nat.le_of_ble_eq_true rfl) dl_928 ⟨show kc + 0 + 0 ≤ 600000 by omega, show ks + 0 + 0 ≤ 7302249 by omega⟩ kc_X12 rc2 d2 (fun v2 σ2 h2 => ?_)
  obtain ⟨rfl, ko2, rm2⟩ := pair_2 ko1 h2
  refine fs_icmp_eq (pc := 931) (tgt := 1352) (φ := True) (ψ := False) (by decide) dl_931 ⟨fun _ => trivial, fun z => z rfl⟩ (fun _ => ?_) (fun z => z.elim)
  exact next σ2 R1 _ (kc + 0 + 0) (ks + 0 + 0) ko2 rm2 (iv) f0 f3 (by omega) (by omega)
theorem lw_upkeep (h : LC g b L xs n kc ks σ R S) : Fs g (SL b L xs g) (600000, 7302249, kc, ks) [(3, .int (nI n)), (2, .ref (R 300)), (1, .ref (R 0)), (0, .ref b)] [] 936 σ := by
  obtain ⟨ko, rm, iv, hn, hL, hz1, hz2, next⟩ := h
  have v : Iv S := ⟨iv, ko.wide, ko.qok, ko.upk⟩
  refine fs_aload_n (pc := 936) 2 rfl rfl dl_936 ?_
  refine fs_aload_n (pc := 937) 3 rfl rfl dl_937 ?_
  refine fs_iload_n (pc := 938) 0 rfl rfl dl_938 ?_
  refine fs_iconst (pc := 939) 1 (by decide) dl_939 ?_
  refine fs_iadd (pc := 940) dl_940 ?_
  refine fs_sld (pc := 941) (vin (k := 1) hn hL (by decide)) dl_941 ?_
  refine fs_callV (pc := 942) (As := [.int (xs (nI n + 1).toNatClampNeg)]) (st := []) (mc := 0) (ms := 0) wd_X11_upkeep lk_117 ok_X11_upkeep (by decide) rfl (Nat.le_of_ble_eq_true rfl) dl_942 ⟨show kc + 0 ≤ 600000 by omega, show ks + 0 ≤ 7302249 by omega⟩ kc_X11 (Rc.of ko.1) (do_upkeep ko (xs (nI n + 1).toNatClampNeg)) (fun v1 σ1 h1 => ?_)
  obtain ⟨R1, rfl, ko1, rm1, f0, f3⟩ := pair_ok ko rm h1
  obtain ⟨X1, A1, hh1, rq⟩ := rm1
  have d2 := rw_upkeep rq (xs (nI n + 1).toNatClampNeg)
  rw [f3] at d2
  have rc2 := rq.1.rc
  rw [f3] at rc2
  refine fs_aload_n (pc := 945) 1 rfl rfl dl_945 ?_
  refine fs_aload_n (pc := 946) 3 rfl rfl dl_946 ?_
  refine fs_iload_n (pc := 947) 0 rfl rfl dl_947 ?_
  refine fs_iconst (pc := 948) 1 (by decide) dl_948 ?_
  refine fs_iadd (pc := 949) dl_949 ?_
  refine fs_sld (pc := 950) (vin (k := 1) hn hL (by decide)) dl_950 ?_
  refine fs_callV (pc := 951) (As := [.int (xs (nI n + 1).toNatClampNeg)]) (st := [_]) (mc := 0) (ms := 0) wd_X12_upkeep lk_120 ok_X12_upkeep (by decide) rfl (Nat.le_of_ble_eq_true rfl) dl_951 ⟨show kc + 0 + 0 ≤ 600000 by omega, show ks + 0 + 0 ≤ 7302249 by omega⟩ kc_X12 rc2 d2 (fun v2 σ2 h2 => ?_)
  obtain ⟨rfl, ko2, rm2⟩ := pair_2 ko1 h2
  refine fs_icmp_eq (pc := 954) (tgt := 1352) (φ := True) (ψ := False) (by decide) dl_954 ⟨fun _ => trivial, fun z => z rfl⟩ (fun _ => ?_) (fun z => z.elim)
  exact next σ2 R1 _ (kc + 0 + 0) (ks + 0 + 0) ko2 rm2 (iv.upkeep (xs (nI n + 1).toNatClampNeg)) f0 f3 (by omega) (by omega)
theorem lw_choose (h : LC g b L xs n kc ks σ R S) : Fs g (SL b L xs g) (600000, 7302249, kc, ks) [(3, .int (nI n)), (2, .ref (R 300)), (1, .ref (R 0)), (0, .ref b)] [] 959 σ := by
  obtain ⟨ko, rm, iv, hn, hL, hz1, hz2, next⟩ := h
  have v : Iv S := ⟨iv, ko.wide, ko.qok, ko.upk⟩
  refine fs_aload_n (pc := 959) 2 rfl rfl dl_959 ?_
  refine fs_aload_n (pc := 960) 3 rfl rfl dl_960 ?_
  refine fs_iload_n (pc := 961) 0 rfl rfl dl_961 ?_
  refine fs_iconst (pc := 962) 1 (by decide) dl_962 ?_
  refine fs_iadd (pc := 963) dl_963 ?_
  refine fs_sld (pc := 964) (vin (k := 1) hn hL (by decide)) dl_964 ?_
  refine fs_aload_n (pc := 965) 3 rfl rfl dl_965 ?_
  refine fs_iload_n (pc := 966) 0 rfl rfl dl_966 ?_
  refine fs_iconst (pc := 967) 2 (by decide) dl_967 ?_
  refine fs_iadd (pc := 968) dl_968 ?_
  refine fs_sld (pc := 969) (vin (k := 2) hn hL (by decide)) dl_969 ?_
  refine fs_callV (pc := 970) (As := [.int (xs (nI n + 1).toNatClampNeg), .int (xs (nI n + 2).toNatClampNeg)]) (st := []) (mc := 0) (ms := 0) wd_X11_choose lk_121 ok_X11_choose (by decide) rfl (Nat.le_of_ble_eq_true rfl) dl_970 ⟨show kc + 0 ≤ 600000 by omega, show ks + 0 ≤ 7302249 by omega⟩ kc_X11 (Rc.of ko.1) (do_choose ko iv (xs (nI n + 1).toNatClampNeg) (xs (nI n + 2).toNatClampNeg)) (fun v1 σ1 h1 => ?_)
  obtain ⟨R1, rfl, ko1, rm1, f0, f3⟩ := pair_ok ko rm h1
  obtain ⟨X1, A1, hh1, rq⟩ := rm1
  have d2 := rw_choose rq v (xs (nI n + 1).toNatClampNeg) (xs (nI n + 2).toNatClampNeg)
  rw [f3] at d2
  have rc2 := rq.1.rc
  rw [f3] at rc2
  refine fs_aload_n (pc := 973) 1 rfl rfl dl_973 ?_
  refine fs_aload_n (pc := 974) 3 rfl rfl dl_974 ?_
  refine fs_iload_n (pc := 975) 0 rfl rfl dl_975 ?_
  refine fs_iconst (pc := 976) 1 (by decide) dl_976 ?_
  refine fs_iadd (pc := 977) dl_977 ?_
  refine fs_sld (pc := 978) (vin (k := 1) hn hL (by decide)) dl_978 ?_
  refine fs_aload_n (pc := 979) 3 rfl rfl dl_979 ?_
  refine fs_iload_n (pc := 980) 0 rfl rfl dl_980 ?_
  refine fs_iconst (pc := 981) 2 (by decide) dl_981 ?_
  refine fs_iadd (pc := 982) dl_982 ?_
  refine fs_sld (pc := 983) (vin (k := 2) hn hL (by decide)) dl_983 ?_
  refine fs_callV (pc := 984) (As := [.int (xs (nI n + 1).toNatClampNeg), .int (xs (nI n + 2).toNatClampNeg)]) (st := [_]) (mc := 0) (ms := 0) wd_X12_choose lk_124 ok_X12_choose (by decide) rfl (Nat.le_of_ble_eq_true rfl) dl_984 ⟨show kc + 0 + 0 ≤ 600000 by omega, show ks + 0 + 0 ≤ 7302249 by omega⟩ kc_X12 rc2 d2 (fun v2 σ2 h2 => ?_)
  obtain ⟨rfl, ko2, rm2⟩ := pair_2 ko1 h2
  refine fs_icmp_eq (pc := 987) (tgt := 1352) (φ := True) (ψ := False) (by decide) dl_987 ⟨fun _ => trivial, fun z => z rfl⟩ (fun _ => ?_) (fun z => z.elim)
  exact next σ2 R1 _ (kc + 0 + 0) (ks + 0 + 0) ko2 rm2 (iv.choose (xs (nI n + 1).toNatClampNeg) (xs (nI n + 2).toNatClampNeg)) f0 f3 (by omega) (by omega)
end LCS
