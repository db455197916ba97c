set_option maxHeartbeats 8000000 in
set_option maxRecDepth 100000 in
theorem case_21 {p : Program} {l : Launch} {e : Env} {s : State} {m : MethodId} {args : Array Value} {below : List Frame} {meth : Method} {c : Code} {Q : State → Prop} {D : va_G} {cI cR : ClassId} {ad : Nat → Nat} {b L : Nat} {xs : Nat → Int32} {x3 : Int32} (C : LawC p s m args c D cI cR b L xs x3) (kk : AtL p l e s m args below meth c Q D cI cR ad b x3 1110) : AtL p l e s m args below meth c Q D cI cR ad b x3 832 := by
  obtain ⟨hx, hb, hml, hown, hts, hX, hbl, hK, hN, hi1, hi2, hi3, hi4, hi5⟩ := C
  have hA : ∀ q : Nat, s.heap.size ≤ q → AL s q := fun _ h => h
  have hbA : ¬ AL s b := Nat.not_le.mpr hbl
  intro ques trc flt th la le cf kind page asked sees cnt wet which leaf rds d_fittingPages d_leastPage d_greatestPage e_kind e_page e_asked e_sent e_count e_wetSet y_leaves y_led y_firstWrong h_kind h_page h_asked h_sent h_count h_wetSet f_dry f_askedUpTo f_costs f_roots f_size o_aheadOf o_ways o_count sorts slong mcells m_at m_readSlips m_read m_looked m_keptSees m_sumOfLeaves m_ledTo m_firstWrong m_dryOnes m_dryMany m_costs m_roots m_depth m_row m_placeOf H locs ls hI hP hD hS hl
  obtain ⟨y1, hy1⟩ : ∃ y, xs (x3 + 1).toNatClampNeg = y := ⟨_, rfl⟩
  obtain ⟨y2, hy2⟩ : ∃ y, xs (x3 + 2).toNatClampNeg = y := ⟨_, rfl⟩
  obtain ⟨y3, hy3⟩ : ∃ y, xs (x3 + 3).toNatClampNeg = y := ⟨_, rfl⟩
  obtain ⟨k, hk, hr4⟩ := row_pick y1
  rcases (show k = 0 ∨ k = 1 ∨ k = 2 ∨ k = 3 by omega) with rfl | rfl | rfl | rfl
  · obtain ⟨rv, flt_n, r_cells_n, mcells_n, hTx, hTm, hI⟩ := T_put flt th la le cf kind page asked sees cnt wet which leaf rds f_askedUpTo f_costs sorts slong mcells 0 (by decide) y1 y2 y3 hr4 hI
    refine lv_aload_n hx hb dL_law_832 rfl (lv_at hl 1 rfl) ?_
    refine lv_aload_n hx hb dL_law_833 rfl (lv_at hl 0 rfl) ?_
    refine lv_iload_n hx hb dL_law_834 rfl (lv_at hl 3 rfl) ?_
    refine lv_iconst (v := 1) hx hb dL_law_835 (by decide) ?_
    refine lv_iadd hx hb dL_law_836 ?_
    refine q_sld hx hb hX hbl hbA hS hi1 hy1 dL_law_837 ?_
    refine lv_aload_n hx hb dL_law_838 rfl (lv_at hl 0 rfl) ?_
    refine lv_iload_n hx hb dL_law_839 rfl (lv_at hl 3 rfl) ?_
    refine lv_iconst (v := 2) hx hb dL_law_840 (by decide) ?_
    refine lv_iadd hx hb dL_law_841 ?_
    refine q_sld hx hb hX hbl hbA hS hi2 hy2 dL_law_842 ?_
    refine lv_aload_n hx hb dL_law_843 rfl (lv_at hl 0 rfl) ?_
    refine lv_iload_n hx hb dL_law_844 rfl (lv_at hl 3 rfl) ?_
    refine lv_iconst (v := 3) hx hb dL_law_845 (by decide) ?_
    refine lv_iadd hx hb dL_law_846 ?_
    refine q_sld hx hb hX hbl hbA hS hi3 hy3 dL_law_847 ?_
    refine q_wVi (wr := [4, 5, 6, 7, 8, 9, 10, 11, 12, 13, 14, 15, 16, 17, 18, 19, 20, 21, 22, 23, 24, 25, 26, 27, 28, 29, 30, 31, 32, 33, 34, 35, 36, 37, 38, 39, 40, 41, 42, 43, 44, 45, 46, 47, 48, 49, 50, 51, 52, 53, 54].filterMap (fun i => (wL ad cI cR ques trc flt th la le cf kind page asked sees cnt wet which leaf rds d_fittingPages d_leastPage d_greatestPage e_kind e_page e_asked e_sent e_count e_wetSet y_leaves y_led y_firstWrong h_kind h_page h_asked h_sent h_count h_wetSet f_dry f_askedUpTo f_costs f_roots f_size o_aheadOf o_ways o_count sorts slong mcells m_at m_readSlips m_read m_looked m_keptSees m_sumOfLeaves m_ledTo m_firstWrong m_dryOnes m_dryMany m_costs m_roots m_depth m_row m_placeOf)[i]?)) (rest := []) ⟨hx, hb, hml, hown, hts⟩ (kX7_put l D cI cR (ad 0) (ad 1) (ad 10) (ad 15) (ad 23) (ad 29) (ad 34) (ad 2) (ad 3) (rwF ad) ques trc flt (cf 0) (th 0) (la 0) (le 0) y1 y2 y3 (fun h => by rw [hr4 h]; rfl) (rv, flt_n, r_cells_n) hTx) (cwV 3 hts gT_X7_put rfl rfl rfl (by decide +kernel) ⟨Nat.le_of_ble_eq_true rfl, Nat.le_of_ble_eq_true rfl⟩) hP hD hS hA hK hN [0, 1, 2, 3] [4, 5, 6, 7, 8, 9, 10, 11, 12, 13, 14, 15, 16, 17, 18, 19, 20, 21, 22, 23, 24, 25, 26, 27, 28, 29, 30, 31, 32, 33, 34, 35, 36, 37, 38, 39, 40, 41, 42, 43, 44, 45, 46, 47, 48, 49, 50, 51, 52, 53, 54] rfl rfl (by decide) (by decide) (by decide) (va_recv hK hP (ci := 6) (q0 := 0) rfl rfl) rfl hl.1 rfl (Nat.le_of_ble_eq_true rfl) dL_law_848 ⟨Nat.le_of_ble_eq_true rfl, Nat.le_of_ble_eq_true rfl⟩ (fun H locs hP hD hS => ?_)
    have hP := hP.sub (ws' := wL ad cI cR ques trc flt_n th la le (va_up cf 0 r_cells_n) kind page asked sees cnt wet which leaf rds d_fittingPages d_leastPage d_greatestPage e_kind e_page e_asked e_sent e_count e_wetSet y_leaves y_led y_firstWrong h_kind h_page h_asked h_sent h_count h_wetSet f_dry f_askedUpTo f_costs f_roots f_size o_aheadOf o_ways o_count sorts slong mcells m_at m_readSlips m_read m_looked m_keptSees m_sumOfLeaves m_ledTo m_firstWrong m_dryOnes m_dryMany m_costs m_roots m_depth m_row m_placeOf) [51, 52, 53, 54, 0, 1, 2, 3, 4, 5, 6, 7, 8, 9, 10, 11, 12, 13, 14, 15, 16, 17, 18, 19, 20, 21, 22, 23, 24, 25, 26, 27, 28, 29, 30, 31, 32, 33, 34, 35, 36, 37, 38, 39, 40, 41, 42, 43, 44, 45, 46, 47, 48, 49, 50] rfl
    have hD := hD.sub (ws' := wL ad cI cR ques trc flt_n th la le (va_up cf 0 r_cells_n) kind page asked sees cnt wet which leaf rds d_fittingPages d_leastPage d_greatestPage e_kind e_page e_asked e_sent e_count e_wetSet y_leaves y_led y_firstWrong h_kind h_page h_asked h_sent h_count h_wetSet f_dry f_askedUpTo f_costs f_roots f_size o_aheadOf o_ways o_count sorts slong mcells m_at m_readSlips m_read m_looked m_keptSees m_sumOfLeaves m_ledTo m_firstWrong m_dryOnes m_dryMany m_costs m_roots m_depth m_row m_placeOf) [51, 52, 53, 54, 0, 1, 2, 3, 4, 5, 6, 7, 8, 9, 10, 11, 12, 13, 14, 15, 16, 17, 18, 19, 20, 21, 22, 23, 24, 25, 26, 27, 28, 29, 30, 31, 32, 33, 34, 35, 36, 37, 38, 39, 40, 41, 42, 43, 44, 45, 46, 47, 48, 49, 50] (by decide) rfl
    refine lv_aload_n hx hb dL_law_851 rfl (lv_at hl 2 rfl) ?_
    refine lv_aload_n hx hb dL_law_852 rfl (lv_at hl 0 rfl) ?_
    refine lv_iload_n hx hb dL_law_853 rfl (lv_at hl 3 rfl) ?_
    refine lv_iconst (v := 1) hx hb dL_law_854 (by decide) ?_
    refine lv_iadd hx hb dL_law_855 ?_
    refine q_sld hx hb hX hbl hbA hS hi1 hy1 dL_law_856 ?_
    refine lv_aload_n hx hb dL_law_857 rfl (lv_at hl 0 rfl) ?_
    refine lv_iload_n hx hb dL_law_858 rfl (lv_at hl 3 rfl) ?_
    refine lv_iconst (v := 2) hx hb dL_law_859 (by decide) ?_
    refine lv_iadd hx hb dL_law_860 ?_
    refine q_sld hx hb hX hbl hbA hS hi2 hy2 dL_law_861 ?_
    refine lv_aload_n hx hb dL_law_862 rfl (lv_at hl 0 rfl) ?_
    refine lv_iload_n hx hb dL_law_863 rfl (lv_at hl 3 rfl) ?_
    refine lv_iconst (v := 3) hx hb dL_law_864 (by decide) ?_
    refine lv_iadd hx hb dL_law_865 ?_
    refine q_sld hx hb hX hbl hbA hS hi3 hy3 dL_law_866 ?_
    refine q_wVi (wr := [0, 1, 2, 3, 4, 5, 6, 7, 8, 9, 10, 11, 12, 13, 14, 15, 16, 17, 18, 19, 20, 21, 22, 23, 24, 25, 26, 27, 28, 29, 30, 31, 32, 33, 34, 35, 36].filterMap (fun i => (wL ad cI cR ques trc flt_n th la le (va_up cf 0 r_cells_n) kind page asked sees cnt wet which leaf rds d_fittingPages d_leastPage d_greatestPage e_kind e_page e_asked e_sent e_count e_wetSet y_leaves y_led y_firstWrong h_kind h_page h_asked h_sent h_count h_wetSet f_dry f_askedUpTo f_costs f_roots f_size o_aheadOf o_ways o_count sorts slong mcells m_at m_readSlips m_read m_looked m_keptSees m_sumOfLeaves m_ledTo m_firstWrong m_dryOnes m_dryMany m_costs m_roots m_depth m_row m_placeOf)[i]?)) (rest := [.int rv]) ⟨hx, hb, hml, hown, hts⟩ (kX8_put l D cI cR (ad 37) (ad 38) (ad 39) (ad 40) (ad 41) (ad 42) (ad 43) (ad 44) (ad 45) (ad 46) (ad 47) (ad 48) (ad 49) (ad 50) (ad 51) (ad 52) (ad 53) (ad 54) flt_n trc sorts slong mcells cnt ques wet kind page asked sees m_at m_readSlips m_read m_looked m_keptSees m_sumOfLeaves m_ledTo m_firstWrong m_dryOnes m_dryMany m_costs m_roots m_depth m_row m_placeOf rds which leaf y1 y2 y3 (rv, flt_n, mcells_n) hTm) (cwV 3 hts gT_X8_put rfl rfl rfl (by decide +kernel) ⟨Nat.le_of_ble_eq_true rfl, Nat.le_of_ble_eq_true rfl⟩) hP hD hS hA hK hN [37, 38, 39, 40, 41, 42, 43, 44, 45, 46, 47, 48, 49, 50, 51, 52, 53, 54] [0, 1, 2, 3, 4, 5, 6, 7, 8, 9, 10, 11, 12, 13, 14, 15, 16, 17, 18, 19, 20, 21, 22, 23, 24, 25, 26, 27, 28, 29, 30, 31, 32, 33, 34, 35, 36] rfl rfl (by decide) (by decide) (by decide) (va_recv hK hP (ci := 7) (q0 := 37) rfl rfl) rfl hl.1 rfl (Nat.le_of_ble_eq_true rfl) dL_law_867 ⟨Nat.le_of_ble_eq_true rfl, Nat.le_of_ble_eq_true rfl⟩ (fun H locs hP hD hS => ?_)
    have hP := hP.sub (ws' := wL ad cI cR ques trc flt_n th la le (va_up cf 0 r_cells_n) kind page asked sees cnt wet which leaf rds d_fittingPages d_leastPage d_greatestPage e_kind e_page e_asked e_sent e_count e_wetSet y_leaves y_led y_firstWrong h_kind h_page h_asked h_sent h_count h_wetSet f_dry f_askedUpTo f_costs f_roots f_size o_aheadOf o_ways o_count sorts slong mcells_n m_at m_readSlips m_read m_looked m_keptSees m_sumOfLeaves m_ledTo m_firstWrong m_dryOnes m_dryMany m_costs m_roots m_depth m_row m_placeOf) [0, 1, 2, 3, 4, 5, 6, 7, 8, 9, 10, 11, 12, 13, 14, 15, 16, 17, 18, 19, 20, 21, 22, 23, 24, 25, 26, 27, 28, 29, 30, 31, 32, 33, 34, 35, 36, 37, 38, 39, 40, 41, 42, 43, 44, 45, 46, 47, 48, 49, 50, 51, 52, 53, 54] rfl
    have hD := hD.sub (ws' := wL ad cI cR ques trc flt_n th la le (va_up cf 0 r_cells_n) kind page asked sees cnt wet which leaf rds d_fittingPages d_leastPage d_greatestPage e_kind e_page e_asked e_sent e_count e_wetSet y_leaves y_led y_firstWrong h_kind h_page h_asked h_sent h_count h_wetSet f_dry f_askedUpTo f_costs f_roots f_size o_aheadOf o_ways o_count sorts slong mcells_n m_at m_readSlips m_read m_looked m_keptSees m_sumOfLeaves m_ledTo m_firstWrong m_dryOnes m_dryMany m_costs m_roots m_depth m_row m_placeOf) [0, 1, 2, 3, 4, 5, 6, 7, 8, 9, 10, 11, 12, 13, 14, 15, 16, 17, 18, 19, 20, 21, 22, 23, 24, 25, 26, 27, 28, 29, 30, 31, 32, 33, 34, 35, 36, 37, 38, 39, 40, 41, 42, 43, 44, 45, 46, 47, 48, 49, 50, 51, 52, 53, 54] (by decide) rfl
    refine lv_icmp_eq (tgt := 1110) hx hb dL_law_870 (by decide) (fun _ => ?_) (fun h => absurd rfl h)
    exact kk _ _ _ _ _ _ _ _ _ _ _ _ _ _ _ _ _ _ _ _ _ _ _ _ _ _ _ _ _ _ _ _ _ _ _ _ _ _ _ _ _ _ _ _ _ _ _ _ _ _ _ _ _ _ _ _ _ _ _ _ _ _ _ hI hP hD hS hl
  · obtain ⟨rv, flt_n, r_cells_n, mcells_n, hTx, hTm, hI⟩ := T_put flt th la le cf kind page asked sees cnt wet which leaf rds f_askedUpTo f_costs sorts slong mcells 1 (by decide) y1 y2 y3 hr4 hI
    refine lv_aload_n hx hb dL_law_832 rfl (lv_at hl 1 rfl) ?_
    refine lv_aload_n hx hb dL_law_833 rfl (lv_at hl 0 rfl) ?_
    refine lv_iload_n hx hb dL_law_834 rfl (lv_at hl 3 rfl) ?_
    refine lv_iconst (v := 1) hx hb dL_law_835 (by decide) ?_
    refine lv_iadd hx hb dL_law_836 ?_
    refine q_sld hx hb hX hbl hbA hS hi1 hy1 dL_law_837 ?_
    refine lv_aload_n hx hb dL_law_838 rfl (lv_at hl 0 rfl) ?_
    refine lv_iload_n hx hb dL_law_839 rfl (lv_at hl 3 rfl) ?_
    refine lv_iconst (v := 2) hx hb dL_law_840 (by decide) ?_
    refine lv_iadd hx hb dL_law_841 ?_
    refine q_sld hx hb hX hbl hbA hS hi2 hy2 dL_law_842 ?_
    refine lv_aload_n hx hb dL_law_843 rfl (lv_at hl 0 rfl) ?_
    refine lv_iload_n hx hb dL_law_844 rfl (lv_at hl 3 rfl) ?_
    refine lv_iconst (v := 3) hx hb dL_law_845 (by decide) ?_
    refine lv_iadd hx hb dL_law_846 ?_
    refine q_sld hx hb hX hbl hbA hS hi3 hy3 dL_law_847 ?_
    refine q_wVi (wr := [2, 3, 6, 7, 8, 9, 10, 11, 12, 13, 14, 15, 16, 17, 18, 19, 20, 21, 22, 23, 24, 25, 26, 27, 28, 29, 30, 31, 32, 33, 34, 35, 36, 37, 38, 39, 40, 41, 42, 43, 44, 45, 46, 47, 48, 49, 50, 51, 52, 53, 54].filterMap (fun i => (wL ad cI cR ques trc flt th la le cf kind page asked sees cnt wet which leaf rds d_fittingPages d_leastPage d_greatestPage e_kind e_page e_asked e_sent e_count e_wetSet y_leaves y_led y_firstWrong h_kind h_page h_asked h_sent h_count h_wetSet f_dry f_askedUpTo f_costs f_roots f_size o_aheadOf o_ways o_count sorts slong mcells m_at m_readSlips m_read m_looked m_keptSees m_sumOfLeaves m_ledTo m_firstWrong m_dryOnes m_dryMany m_costs m_roots m_depth m_row m_placeOf)[i]?)) (rest := []) ⟨hx, hb, hml, hown, hts⟩ (kX7_put l D cI cR (ad 0) (ad 1) (ad 10) (ad 15) (ad 23) (ad 29) (ad 34) (ad 4) (ad 5) (rwF ad) ques trc flt (cf 1) (th 1) (la 1) (le 1) y1 y2 y3 (fun h => by rw [hr4 h]; rfl) (rv, flt_n, r_cells_n) hTx) (cwV 3 hts gT_X7_put rfl rfl rfl (by decide +kernel) ⟨Nat.le_of_ble_eq_true rfl, Nat.le_of_ble_eq_true rfl⟩) hP hD hS hA hK hN [0, 1, 4, 5] [2, 3, 6, 7, 8, 9, 10, 11, 12, 13, 14, 15, 16, 17, 18, 19, 20, 21, 22, 23, 24, 25, 26, 27, 28, 29, 30, 31, 32, 33, 34, 35, 36, 37, 38, 39, 40, 41, 42, 43, 44, 45, 46, 47, 48, 49, 50, 51, 52, 53, 54] rfl rfl (by decide) (by decide) (by decide) (va_recv hK hP (ci := 6) (q0 := 0) rfl rfl) rfl hl.1 rfl (Nat.le_of_ble_eq_true rfl) dL_law_848 ⟨Nat.le_of_ble_eq_true rfl, Nat.le_of_ble_eq_true rfl⟩ (fun H locs hP hD hS => ?_)
    have hP := hP.sub (ws' := wL ad cI cR ques trc flt_n th la le (va_up cf 1 r_cells_n) kind page asked sees cnt wet which leaf rds d_fittingPages d_leastPage d_greatestPage e_kind e_page e_asked e_sent e_count e_wetSet y_leaves y_led y_firstWrong h_kind h_page h_asked h_sent h_count h_wetSet f_dry f_askedUpTo f_costs f_roots f_size o_aheadOf o_ways o_count sorts slong mcells m_at m_readSlips m_read m_looked m_keptSees m_sumOfLeaves m_ledTo m_firstWrong m_dryOnes m_dryMany m_costs m_roots m_depth m_row m_placeOf) [51, 52, 0, 1, 53, 54, 2, 3, 4, 5, 6, 7, 8, 9, 10, 11, 12, 13, 14, 15, 16, 17, 18, 19, 20, 21, 22, 23, 24, 25, 26, 27, 28, 29, 30, 31, 32, 33, 34, 35, 36, 37, 38, 39, 40, 41, 42, 43, 44, 45, 46, 47, 48, 49, 50] rfl
    have hD := hD.sub (ws' := wL ad cI cR ques trc flt_n th la le (va_up cf 1 r_cells_n) kind page asked sees cnt wet which leaf rds d_fittingPages d_leastPage d_greatestPage e_kind e_page e_asked e_sent e_count e_wetSet y_leaves y_led y_firstWrong h_kind h_page h_asked h_sent h_count h_wetSet f_dry f_askedUpTo f_costs f_roots f_size o_aheadOf o_ways o_count sorts slong mcells m_at m_readSlips m_read m_looked m_keptSees m_sumOfLeaves m_ledTo m_firstWrong m_dryOnes m_dryMany m_costs m_roots m_depth m_row m_placeOf) [51, 52, 0, 1, 53, 54, 2, 3, 4, 5, 6, 7, 8, 9, 10, 11, 12, 13, 14, 15, 16, 17, 18, 19, 20, 21, 22, 23, 24, 25, 26, 27, 28, 29, 30, 31, 32, 33, 34, 35, 36, 37, 38, 39, 40, 41, 42, 43, 44, 45, 46, 47, 48, 49, 50] (by decide) rfl
    refine lv_aload_n hx hb dL_law_851 rfl (lv_at hl 2 rfl) ?_
    refine lv_aload_n hx hb dL_law_852 rfl (lv_at hl 0 rfl) ?_
    refine lv_iload_n hx hb dL_law_853 rfl (lv_at hl 3 rfl) ?_
    refine lv_iconst (v := 1) hx hb dL_law_854 (by decide) ?_
    refine lv_iadd hx hb dL_law_855 ?_
    refine q_sld hx hb hX hbl hbA hS hi1 hy1 dL_law_856 ?_
    refine lv_aload_n hx hb dL_law_857 rfl (lv_at hl 0 rfl) ?_
    refine lv_iload_n hx hb dL_law_858 rfl (lv_at hl 3 rfl) ?_
    refine lv_iconst (v := 2) hx hb dL_law_859 (by decide) ?_
    refine lv_iadd hx hb dL_law_860 ?_
    refine q_sld hx hb hX hbl hbA hS hi2 hy2 dL_law_861 ?_
    refine lv_aload_n hx hb dL_law_862 rfl (lv_at hl 0 rfl) ?_
    refine lv_iload_n hx hb dL_law_863 rfl (lv_at hl 3 rfl) ?_
    refine lv_iconst (v := 3) hx hb dL_law_864 (by decide) ?_
    refine lv_iadd hx hb dL_law_865 ?_
    refine q_sld hx hb hX hbl hbA hS hi3 hy3 dL_law_866 ?_
    refine q_wVi (wr := [0, 1, 2, 3, 4, 5, 6, 7, 8, 9, 10, 11, 12, 13, 14, 15, 16, 17, 18, 19, 20, 21, 22, 23, 24, 25, 26, 27, 28, 29, 30, 31, 32, 33, 34, 35, 36].filterMap (fun i => (wL ad cI cR ques trc flt_n th la le (va_up cf 1 r_cells_n) kind page asked sees cnt wet which leaf rds d_fittingPages d_leastPage d_greatestPage e_kind e_page e_asked e_sent e_count e_wetSet y_leaves y_led y_firstWrong h_kind h_page h_asked h_sent h_count h_wetSet f_dry f_askedUpTo f_costs f_roots f_size o_aheadOf o_ways o_count sorts slong mcells m_at m_readSlips m_read m_looked m_keptSees m_sumOfLeaves m_ledTo m_firstWrong m_dryOnes m_dryMany m_costs m_roots m_depth m_row m_placeOf)[i]?)) (rest := [.int rv]) ⟨hx, hb, hml, hown, hts⟩ (kX8_put l D cI cR (ad 37) (ad 38) (ad 39) (ad 40) (ad 41) (ad 42) (ad 43) (ad 44) (ad 45) (ad 46) (ad 47) (ad 48) (ad 49) (ad 50) (ad 51) (ad 52) (ad 53) (ad 54) flt_n trc sorts slong mcells cnt ques wet kind page asked sees m_at m_readSlips m_read m_looked m_keptSees m_sumOfLeaves m_ledTo m_firstWrong m_dryOnes m_dryMany m_costs m_roots m_depth m_row m_placeOf rds which leaf y1 y2 y3 (rv, flt_n, mcells_n) hTm) (cwV 3 hts gT_X8_put rfl rfl rfl (by decide +kernel) ⟨Nat.le_of_ble_eq_true rfl, Nat.le_of_ble_eq_true rfl⟩) hP hD hS hA hK hN [37, 38, 39, 40, 41, 42, 43, 44, 45, 46, 47, 48, 49, 50, 51, 52, 53, 54] [0, 1, 2, 3, 4, 5, 6, 7, 8, 9, 10, 11, 12, 13, 14, 15, 16, 17, 18, 19, 20, 21, 22, 23, 24, 25, 26, 27, 28, 29, 30, 31, 32, 33, 34, 35, 36] rfl rfl (by decide) (by decide) (by decide) (va_recv hK hP (ci := 7) (q0 := 37) rfl rfl) rfl hl.1 rfl (Nat.le_of_ble_eq_true rfl) dL_law_867 ⟨Nat.le_of_ble_eq_true rfl, Nat.le_of_ble_eq_true rfl⟩ (fun H locs hP hD hS => ?_)
    have hP := hP.sub (ws' := wL ad cI cR ques trc flt_n th la le (va_up cf 1 r_cells_n) kind page asked sees cnt wet which leaf rds d_fittingPages d_leastPage d_greatestPage e_kind e_page e_asked e_sent e_count e_wetSet y_leaves y_led y_firstWrong h_kind h_page h_asked h_sent h_count h_wetSet f_dry f_askedUpTo f_costs f_roots f_size o_aheadOf o_ways o_count sorts slong mcells_n m_at m_readSlips m_read m_looked m_keptSees m_sumOfLeaves m_ledTo m_firstWrong m_dryOnes m_dryMany m_costs m_roots m_depth m_row m_placeOf) [0, 1, 2, 3, 4, 5, 6, 7, 8, 9, 10, 11, 12, 13, 14, 15, 16, 17, 18, 19, 20, 21, 22, 23, 24, 25, 26, 27, 28, 29, 30, 31, 32, 33, 34, 35, 36, 37, 38, 39, 40, 41, 42, 43, 44, 45, 46, 47, 48, 49, 50, 51, 52, 53, 54] rfl
    have hD := hD.sub (ws' := wL ad cI cR ques trc flt_n th la le (va_up cf 1 r_cells_n) kind page asked sees cnt wet which leaf rds d_fittingPages d_leastPage d_greatestPage e_kind e_page e_asked e_sent e_count e_wetSet y_leaves y_led y_firstWrong h_kind h_page h_asked h_sent h_count h_wetSet f_dry f_askedUpTo f_costs f_roots f_size o_aheadOf o_ways o_count sorts slong mcells_n m_at m_readSlips m_read m_looked m_keptSees m_sumOfLeaves m_ledTo m_firstWrong m_dryOnes m_dryMany m_costs m_roots m_depth m_row m_placeOf) [0, 1, 2, 3, 4, 5, 6, 7, 8, 9, 10, 11, 12, 13, 14, 15, 16, 17, 18, 19, 20, 21, 22, 23, 24, 25, 26, 27, 28, 29, 30, 31, 32, 33, 34, 35, 36, 37, 38, 39, 40, 41, 42, 43, 44, 45, 46, 47, 48, 49, 50, 51, 52, 53, 54] (by decide) rfl
    refine lv_icmp_eq (tgt := 1110) hx hb dL_law_870 (by decide) (fun _ => ?_) (fun h => absurd rfl h)
    exact kk _ _ _ _ _ _ _ _ _ _ _ _ _ _ _ _ _ _ _ _ _ _ _ _ _ _ _ _ _ _ _ _ _ _ _ _ _ _ _ _ _ _ _ _ _ _ _ _ _ _ _ _ _ _ _ _ _ _ _ _ _ _ _ hI hP hD hS hl
  · obtain ⟨rv, flt_n, r_cells_n, mcells_n, hTx, hTm, hI⟩ := T_put flt th la le cf kind page asked sees cnt wet which leaf rds f_askedUpTo f_costs sorts slong mcells 2 (by decide) y1 y2 y3 hr4 hI
    refine lv_aload_n hx hb dL_law_832 rfl (lv_at hl 1 rfl) ?_
    refine lv_aload_n hx hb dL_law_833 rfl (lv_at hl 0 rfl) ?_
    refine lv_iload_n hx hb dL_law_834 rfl (lv_at hl 3 rfl) ?_
    refine lv_iconst (v := 1) hx hb dL_law_835 (by decide) ?_
    refine lv_iadd hx hb dL_law_836 ?_
    refine q_sld hx hb hX hbl hbA hS hi1 hy1 dL_law_837 ?_
    refine lv_aload_n hx hb dL_law_838 rfl (lv_at hl 0 rfl) ?_
    refine lv_iload_n hx hb dL_law_839 rfl (lv_at hl 3 rfl) ?_
    refine lv_iconst (v := 2) hx hb dL_law_840 (by decide) ?_
    refine lv_iadd hx hb dL_law_841 ?_
    refine q_sld hx hb hX hbl hbA hS hi2 hy2 dL_law_842 ?_
    refine lv_aload_n hx hb dL_law_843 rfl (lv_at hl 0 rfl) ?_
    refine lv_iload_n hx hb dL_law_844 rfl (lv_at hl 3 rfl) ?_
    refine lv_iconst (v := 3) hx hb dL_law_845 (by decide) ?_
    refine lv_iadd hx hb dL_law_846 ?_
    refine q_sld hx hb hX hbl hbA hS hi3 hy3 dL_law_847 ?_
    refine q_wVi (wr := [2, 3, 4, 5, 8, 9, 10, 11, 12, 13, 14, 15, 16, 17, 18, 19, 20, 21, 22, 23, 24, 25, 26, 27, 28, 29, 30, 31, 32, 33, 34, 35, 36, 37, 38, 39, 40, 41, 42, 43, 44, 45, 46, 47, 48, 49, 50, 51, 52, 53, 54].filterMap (fun i => (wL ad cI cR ques trc flt th la le cf kind page asked sees cnt wet which leaf rds d_fittingPages d_leastPage d_greatestPage e_kind e_page e_asked e_sent e_count e_wetSet y_leaves y_led y_firstWrong h_kind h_page h_asked h_sent h_count h_wetSet f_dry f_askedUpTo f_costs f_roots f_size o_aheadOf o_ways o_count sorts slong mcells m_at m_readSlips m_read m_looked m_keptSees m_sumOfLeaves m_ledTo m_firstWrong m_dryOnes m_dryMany m_costs m_roots m_depth m_row m_placeOf)[i]?)) (rest := []) ⟨hx, hb, hml, hown, hts⟩ (kX7_put l D cI cR (ad 0) (ad 1) (ad 10) (ad 15) (ad 23) (ad 29) (ad 34) (ad 6) (ad 7) (rwF ad) ques trc flt (cf 2) (th 2) (la 2) (le 2) y1 y2 y3 (fun h => by rw [hr4 h]; rfl) (rv, flt_n, r_cells_n) hTx) (cwV 3 hts gT_X7_put rfl rfl rfl (by decide +kernel) ⟨Nat.le_of_ble_eq_true rfl, Nat.le_of_ble_eq_true rfl⟩) hP hD hS hA hK hN [0, 1, 6, 7] [2, 3, 4, 5, 8, 9, 10, 11, 12, 13, 14, 15, 16, 17, 18, 19, 20, 21, 22, 23, 24, 25, 26, 27, 28, 29, 30, 31, 32, 33, 34, 35, 36, 37, 38, 39, 40, 41, 42, 43, 44, 45, 46, 47, 48, 49, 50, 51, 52, 53, 54] rfl rfl (by decide) (by decide) (by decide) (va_recv hK hP (ci := 6) (q0 := 0) rfl rfl) rfl hl.1 rfl (Nat.le_of_ble_eq_true rfl) dL_law_848 ⟨Nat.le_of_ble_eq_true rfl, Nat.le_of_ble_eq_true rfl⟩ (fun H locs hP hD hS => ?_)
    have hP := hP.sub (ws' := wL ad cI cR ques trc flt_n th la le (va_up cf 2 r_cells_n) kind page asked sees cnt wet which leaf rds d_fittingPages d_leastPage d_greatestPage e_kind e_page e_asked e_sent e_count e_wetSet y_leaves y_led y_firstWrong h_kind h_page h_asked h_sent h_count h_wetSet f_dry f_askedUpTo f_costs f_roots f_size o_aheadOf o_ways o_count sorts slong mcells m_at m_readSlips m_read m_looked m_keptSees m_sumOfLeaves m_ledTo m_firstWrong m_dryOnes m_dryMany m_costs m_roots m_depth m_row m_placeOf) [51, 52, 0, 1, 2, 3, 53, 54, 4, 5, 6, 7, 8, 9, 10, 11, 12, 13, 14, 15, 16, 17, 18, 19, 20, 21, 22, 23, 24, 25, 26, 27, 28, 29, 30, 31, 32, 33, 34, 35, 36, 37, 38, 39, 40, 41, 42, 43, 44, 45, 46, 47, 48, 49, 50] rfl
    have hD := hD.sub (ws' := wL ad cI cR ques trc flt_n th la le (va_up cf 2 r_cells_n) kind page asked sees cnt wet which leaf rds d_fittingPages d_leastPage d_greatestPage e_kind e_page e_asked e_sent e_count e_wetSet y_leaves y_led y_firstWrong h_kind h_page h_asked h_sent h_count h_wetSet f_dry f_askedUpTo f_costs f_roots f_size o_aheadOf o_ways o_count sorts slong mcells m_at m_readSlips m_read m_looked m_keptSees m_sumOfLeaves m_ledTo m_firstWrong m_dryOnes m_dryMany m_costs m_roots m_depth m_row m_placeOf) [51, 52, 0, 1, 2, 3, 53, 54, 4, 5, 6, 7, 8, 9, 10, 11, 12, 13, 14, 15, 16, 17, 18, 19, 20, 21, 22, 23, 24, 25, 26, 27, 28, 29, 30, 31, 32, 33, 34, 35, 36, 37, 38, 39, 40, 41, 42, 43, 44, 45, 46, 47, 48, 49, 50] (by decide) rfl
    refine lv_aload_n hx hb dL_law_851 rfl (lv_at hl 2 rfl) ?_
    refine lv_aload_n hx hb dL_law_852 rfl (lv_at hl 0 rfl) ?_
    refine lv_iload_n hx hb dL_law_853 rfl (lv_at hl 3 rfl) ?_
    refine lv_iconst (v := 1) hx hb dL_law_854 (by decide) ?_
    refine lv_iadd hx hb dL_law_855 ?_
    refine q_sld hx hb hX hbl hbA hS hi1 hy1 dL_law_856 ?_
    refine lv_aload_n hx hb dL_law_857 rfl (lv_at hl 0 rfl) ?_
    refine lv_iload_n hx hb dL_law_858 rfl (lv_at hl 3 rfl) ?_
    refine lv_iconst (v := 2) hx hb dL_law_859 (by decide) ?_
    refine lv_iadd hx hb dL_law_860 ?_
    refine q_sld hx hb hX hbl hbA hS hi2 hy2 dL_law_861 ?_
    refine lv_aload_n hx hb dL_law_862 rfl (lv_at hl 0 rfl) ?_
    refine lv_iload_n hx hb dL_law_863 rfl (lv_at hl 3 rfl) ?_
    refine lv_iconst (v := 3) hx hb dL_law_864 (by decide) ?_
    refine lv_iadd hx hb dL_law_865 ?_
    refine q_sld hx hb hX hbl hbA hS hi3 hy3 dL_law_866 ?_
    refine q_wVi (wr := [0, 1, 2, 3, 4, 5, 6, 7, 8, 9, 10, 11, 12, 13, 14, 15, 16, 17, 18, 19, 20, 21, 22, 23, 24, 25, 26, 27, 28, 29, 30, 31, 32, 33, 34, 35, 36].filterMap (fun i => (wL ad cI cR ques trc flt_n th la le (va_up cf 2 r_cells_n) kind page asked sees cnt wet which leaf rds d_fittingPages d_leastPage d_greatestPage e_kind e_page e_asked e_sent e_count e_wetSet y_leaves y_led y_firstWrong h_kind h_page h_asked h_sent h_count h_wetSet f_dry f_askedUpTo f_costs f_roots f_size o_aheadOf o_ways o_count sorts slong mcells m_at m_readSlips m_read m_looked m_keptSees m_sumOfLeaves m_ledTo m_firstWrong m_dryOnes m_dryMany m_costs m_roots m_depth m_row m_placeOf)[i]?)) (rest := [.int rv]) ⟨hx, hb, hml, hown, hts⟩ (kX8_put l D cI cR (ad 37) (ad 38) (ad 39) (ad 40) (ad 41) (ad 42) (ad 43) (ad 44) (ad 45) (ad 46) (ad 47) (ad 48) (ad 49) (ad 50) (ad 51) (ad 52) (ad 53) (ad 54) flt_n trc sorts slong mcells cnt ques wet kind page asked sees m_at m_readSlips m_read m_looked m_keptSees m_sumOfLeaves m_ledTo m_firstWrong m_dryOnes m_dryMany m_costs m_roots m_depth m_row m_placeOf rds which leaf y1 y2 y3 (rv, flt_n, mcells_n) hTm) (cwV 3 hts gT_X8_put rfl rfl rfl (by decide +kernel) ⟨Nat.le_of_ble_eq_true rfl, Nat.le_of_ble_eq_true rfl⟩) hP hD hS hA hK hN [37, 38, 39, 40, 41, 42, 43, 44, 45, 46, 47, 48, 49, 50, 51, 52, 53, 54] [0, 1, 2, 3, 4, 5, 6, 7, 8, 9, 10, 11, 12, 13, 14, 15, 16, 17, 18, 19, 20, 21, 22, 23, 24, 25, 26, 27, 28, 29, 30, 31, 32, 33, 34, 35, 36] rfl rfl (by decide) (by decide) (by decide) (va_recv hK hP (ci := 7) (q0 := 37) rfl rfl) rfl hl.1 rfl (Nat.le_of_ble_eq_true rfl) dL_law_867 ⟨Nat.le_of_ble_eq_true rfl, Nat.le_of_ble_eq_true rfl⟩ (fun H locs hP hD hS => ?_)
    have hP := hP.sub (ws' := wL ad cI cR ques trc flt_n th la le (va_up cf 2 r_cells_n) kind page asked sees cnt wet which leaf rds d_fittingPages d_leastPage d_greatestPage e_kind e_page e_asked e_sent e_count e_wetSet y_leaves y_led y_firstWrong h_kind h_page h_asked h_sent h_count h_wetSet f_dry f_askedUpTo f_costs f_roots f_size o_aheadOf o_ways o_count sorts slong mcells_n m_at m_readSlips m_read m_looked m_keptSees m_sumOfLeaves m_ledTo m_firstWrong m_dryOnes m_dryMany m_costs m_roots m_depth m_row m_placeOf) [0, 1, 2, 3, 4, 5, 6, 7, 8, 9, 10, 11, 12, 13, 14, 15, 16, 17, 18, 19, 20, 21, 22, 23, 24, 25, 26, 27, 28, 29, 30, 31, 32, 33, 34, 35, 36, 37, 38, 39, 40, 41, 42, 43, 44, 45, 46, 47, 48, 49, 50, 51, 52, 53, 54] rfl
    have hD := hD.sub (ws' := wL ad cI cR ques trc flt_n th la le (va_up cf 2 r_cells_n) kind page asked sees cnt wet which leaf rds d_fittingPages d_leastPage d_greatestPage e_kind e_page e_asked e_sent e_count e_wetSet y_leaves y_led y_firstWrong h_kind h_page h_asked h_sent h_count h_wetSet f_dry f_askedUpTo f_costs f_roots f_size o_aheadOf o_ways o_count sorts slong mcells_n m_at m_readSlips m_read m_looked m_keptSees m_sumOfLeaves m_ledTo m_firstWrong m_dryOnes m_dryMany m_costs m_roots m_depth m_row m_placeOf) [0, 1, 2, 3, 4, 5, 6, 7, 8, 9, 10, 11, 12, 13, 14, 15, 16, 17, 18, 19, 20, 21, 22, 23, 24, 25, 26, 27, 28, 29, 30, 31, 32, 33, 34, 35, 36, 37, 38, 39, 40, 41, 42, 43, 44, 45, 46, 47, 48, 49, 50, 51, 52, 53, 54] (by decide) rfl
    refine lv_icmp_eq (tgt := 1110) hx hb dL_law_870 (by decide) (fun _ => ?_) (fun h => absurd rfl h)
    exact kk _ _ _ _ _ _ _ _ _ _ _ _ _ _ _ _ _ _ _ _ _ _ _ _ _ _ _ _ _ _ _ _ _ _ _ _ _ _ _ _ _ _ _ _ _ _ _ _ _ _ _ _ _ _ _ _ _ _ _ _ _ _ _ hI hP hD hS hl
  · obtain ⟨rv, flt_n, r_cells_n, mcells_n, hTx, hTm, hI⟩ := T_put flt th la le cf kind page asked sees cnt wet which leaf rds f_askedUpTo f_costs sorts slong mcells 3 (by decide) y1 y2 y3 hr4 hI
    refine lv_aload_n hx hb dL_law_832 rfl (lv_at hl 1 rfl) ?_
    refine lv_aload_n hx hb dL_law_833 rfl (lv_at hl 0 rfl) ?_
    refine lv_iload_n hx hb dL_law_834 rfl (lv_at hl 3 rfl) ?_
    refine lv_iconst (v := 1) hx hb dL_law_835 (by decide) ?_
    refine lv_iadd hx hb dL_law_836 ?_
    refine q_sld hx hb hX hbl hbA hS hi1 hy1 dL_law_837 ?_
    refine lv_aload_n hx hb dL_law_838 rfl (lv_at hl 0 rfl) ?_
    refine lv_iload_n hx hb dL_law_839 rfl (lv_at hl 3 rfl) ?_
    refine lv_iconst (v := 2) hx hb dL_law_840 (by decide) ?_
    refine lv_iadd hx hb dL_law_841 ?_
    refine q_sld hx hb hX hbl hbA hS hi2 hy2 dL_law_842 ?_
    refine lv_aload_n hx hb dL_law_843 rfl (lv_at hl 0 rfl) ?_
    refine lv_iload_n hx hb dL_law_844 rfl (lv_at hl 3 rfl) ?_
    refine lv_iconst (v := 3) hx hb dL_law_845 (by decide) ?_
    refine lv_iadd hx hb dL_law_846 ?_
    refine q_sld hx hb hX hbl hbA hS hi3 hy3 dL_law_847 ?_
    refine q_wVi (wr := [2, 3, 4, 5, 6, 7, 10, 11, 12, 13, 14, 15, 16, 17, 18, 19, 20, 21, 22, 23, 24, 25, 26, 27, 28, 29, 30, 31, 32, 33, 34, 35, 36, 37, 38, 39, 40, 41, 42, 43, 44, 45, 46, 47, 48, 49, 50, 51, 52, 53, 54].filterMap (fun i => (wL ad cI cR ques trc flt th la le cf kind page asked sees cnt wet which leaf rds d_fittingPages d_leastPage d_greatestPage e_kind e_page e_asked e_sent e_count e_wetSet y_leaves y_led y_firstWrong h_kind h_page h_asked h_sent h_count h_wetSet f_dry f_askedUpTo f_costs f_roots f_size o_aheadOf o_ways o_count sorts slong mcells m_at m_readSlips m_read m_looked m_keptSees m_sumOfLeaves m_ledTo m_firstWrong m_dryOnes m_dryMany m_costs m_roots m_depth m_row m_placeOf)[i]?)) (rest := []) ⟨hx, hb, hml, hown, hts⟩ (kX7_put l D cI cR (ad 0) (ad 1) (ad 10) (ad 15) (ad 23) (ad 29) (ad 34) (ad 8) (ad 9) (rwF ad) ques trc flt (cf 3) (th 3) (la 3) (le 3) y1 y2 y3 (fun h => by rw [hr4 h]; rfl) (rv, flt_n, r_cells_n) hTx) (cwV 3 hts gT_X7_put rfl rfl rfl (by decide +kernel) ⟨Nat.le_of_ble_eq_true rfl, Nat.le_of_ble_eq_true rfl⟩) hP hD hS hA hK hN [0, 1, 8, 9] [2, 3, 4, 5, 6, 7, 10, 11, 12, 13, 14, 15, 16, 17, 18, 19, 20, 21, 22, 23, 24, 25, 26, 27, 28, 29, 30, 31, 32, 33, 34, 35, 36, 37, 38, 39, 40, 41, 42, 43, 44, 45, 46, 47, 48, 49, 50, 51, 52, 53, 54] rfl rfl (by decide) (by decide) (by decide) (va_recv hK hP (ci := 6) (q0 := 0) rfl rfl) rfl hl.1 rfl (Nat.le_of_ble_eq_true rfl) dL_law_848 ⟨Nat.le_of_ble_eq_true rfl, Nat.le_of_ble_eq_true rfl⟩ (fun H locs hP hD hS => ?_)
    have hP := hP.sub (ws' := wL ad cI cR ques trc flt_n th la le (va_up cf 3 r_cells_n) kind page asked sees cnt wet which leaf rds d_fittingPages d_leastPage d_greatestPage e_kind e_page e_asked e_sent e_count e_wetSet y_leaves y_led y_firstWrong h_kind h_page h_asked h_sent h_count h_wetSet f_dry f_askedUpTo f_costs f_roots f_size o_aheadOf o_ways o_count sorts slong mcells m_at m_readSlips m_read m_looked m_keptSees m_sumOfLeaves m_ledTo m_firstWrong m_dryOnes m_dryMany m_costs m_roots m_depth m_row m_placeOf) [51, 52, 0, 1, 2, 3, 4, 5, 53, 54, 6, 7, 8, 9, 10, 11, 12, 13, 14, 15, 16, 17, 18, 19, 20, 21, 22, 23, 24, 25, 26, 27, 28, 29, 30, 31, 32, 33, 34, 35, 36, 37, 38, 39, 40, 41, 42, 43, 44, 45, 46, 47, 48, 49, 50] rfl
    have hD := hD.sub (ws' := wL ad cI cR ques trc flt_n th la le (va_up cf 3 r_cells_n) kind page asked sees cnt wet which leaf rds d_fittingPages d_leastPage d_greatestPage e_kind e_page e_asked e_sent e_count e_wetSet y_leaves y_led y_firstWrong h_kind h_page h_asked h_sent h_count h_wetSet f_dry f_askedUpTo f_costs f_roots f_size o_aheadOf o_ways o_count sorts slong mcells m_at m_readSlips m_read m_looked m_keptSees m_sumOfLeaves m_ledTo m_firstWrong m_dryOnes m_dryMany m_costs m_roots m_depth m_row m_placeOf) [51, 52, 0, 1, 2, 3, 4, 5, 53, 54, 6, 7, 8, 9, 10, 11, 12, 13, 14, 15, 16, 17, 18, 19, 20, 21, 22, 23, 24, 25, 26, 27, 28, 29, 30, 31, 32, 33, 34, 35, 36, 37, 38, 39, 40, 41, 42, 43, 44, 45, 46, 47, 48, 49, 50] (by decide) rfl
    refine lv_aload_n hx hb dL_law_851 rfl (lv_at hl 2 rfl) ?_
    refine lv_aload_n hx hb dL_law_852 rfl (lv_at hl 0 rfl) ?_
    refine lv_iload_n hx hb dL_law_853 rfl (lv_at hl 3 rfl) ?_
    refine lv_iconst (v := 1) hx hb dL_law_854 (by decide) ?_
    refine lv_iadd hx hb dL_law_855 ?_
    refine q_sld hx hb hX hbl hbA hS hi1 hy1 dL_law_856 ?_
    refine lv_aload_n hx hb dL_law_857 rfl (lv_at hl 0 rfl) ?_
    refine lv_iload_n hx hb dL_law_858 rfl (lv_at hl 3 rfl) ?_
    refine lv_iconst (v := 2) hx hb dL_law_859 (by decide) ?_
    refine lv_iadd hx hb dL_law_860 ?_
    refine q_sld hx hb hX hbl hbA hS hi2 hy2 dL_law_861 ?_
    refine lv_aload_n hx hb dL_law_862 rfl (lv_at hl 0 rfl) ?_
    refine lv_iload_n hx hb dL_law_863 rfl (lv_at hl 3 rfl) ?_
    refine lv_iconst (v := 3) hx hb dL_law_864 (by decide) ?_
    refine lv_iadd hx hb dL_law_865 ?_
    refine q_sld hx hb hX hbl hbA hS hi3 hy3 dL_law_866 ?_
    refine q_wVi (wr := [0, 1, 2, 3, 4, 5, 6, 7, 8, 9, 10, 11, 12, 13, 14, 15, 16, 17, 18, 19, 20, 21, 22, 23, 24, 25, 26, 27, 28, 29, 30, 31, 32, 33, 34, 35, 36].filterMap (fun i => (wL ad cI cR ques trc flt_n th la le (va_up cf 3 r_cells_n) kind page asked sees cnt wet which leaf rds d_fittingPages d_leastPage d_greatestPage e_kind e_page e_asked e_sent e_count e_wetSet y_leaves y_led y_firstWrong h_kind h_page h_asked h_sent h_count h_wetSet f_dry f_askedUpTo f_costs f_roots f_size o_aheadOf o_ways o_count sorts slong mcells m_at m_readSlips m_read m_looked m_keptSees m_sumOfLeaves m_ledTo m_firstWrong m_dryOnes m_dryMany m_costs m_roots m_depth m_row m_placeOf)[i]?)) (rest := [.int rv]) ⟨hx, hb, hml, hown, hts⟩ (kX8_put l D cI cR (ad 37) (ad 38) (ad 39) (ad 40) (ad 41) (ad 42) (ad 43) (ad 44) (ad 45) (ad 46) (ad 47) (ad 48) (ad 49) (ad 50) (ad 51) (ad 52) (ad 53) (ad 54) flt_n trc sorts slong mcells cnt ques wet kind page asked sees m_at m_readSlips m_read m_looked m_keptSees m_sumOfLeaves m_ledTo m_firstWrong m_dryOnes m_dryMany m_costs m_roots m_depth m_row m_placeOf rds which leaf y1 y2 y3 (rv, flt_n, mcells_n) hTm) (cwV 3 hts gT_X8_put rfl rfl rfl (by decide +kernel) ⟨Nat.le_of_ble_eq_true rfl, Nat.le_of_ble_eq_true rfl⟩) hP hD hS hA hK hN [37, 38, 39, 40, 41, 42, 43, 44, 45, 46, 47, 48, 49, 50, 51, 52, 53, 54] [0, 1, 2, 3, 4, 5, 6, 7, 8, 9, 10, 11, 12, 13, 14, 15, 16, 17, 18, 19, 20, 21, 22, 23, 24, 25, 26, 27, 28, 29, 30, 31, 32, 33, 34, 35, 36] rfl rfl (by decide) (by decide) (by decide) (va_recv hK hP (ci := 7) (q0 := 37) rfl rfl) rfl hl.1 rfl (Nat.le_of_ble_eq_true rfl) dL_law_867 ⟨Nat.le_of_ble_eq_true rfl, Nat.le_of_ble_eq_true rfl⟩ (fun H locs hP hD hS => ?_)
    have hP := hP.sub (ws' := wL ad cI cR ques trc flt_n th la le (va_up cf 3 r_cells_n) kind page asked sees cnt wet which leaf rds d_fittingPages d_leastPage d_greatestPage e_kind e_page e_asked e_sent e_count e_wetSet y_leaves y_led y_firstWrong h_kind h_page h_asked h_sent h_count h_wetSet f_dry f_askedUpTo f_costs f_roots f_size o_aheadOf o_ways o_count sorts slong mcells_n m_at m_readSlips m_read m_looked m_keptSees m_sumOfLeaves m_ledTo m_firstWrong m_dryOnes m_dryMany m_costs m_roots m_depth m_row m_placeOf) [0, 1, 2, 3, 4, 5, 6, 7, 8, 9, 10, 11, 12, 13, 14, 15, 16, 17, 18, 19, 20, 21, 22, 23, 24, 25, 26, 27, 28, 29, 30, 31, 32, 33, 34, 35, 36, 37, 38, 39, 40, 41, 42, 43, 44, 45, 46, 47, 48, 49, 50, 51, 52, 53, 54] rfl
    have hD := hD.sub (ws' := wL ad cI cR ques trc flt_n th la le (va_up cf 3 r_cells_n) kind page asked sees cnt wet which leaf rds d_fittingPages d_leastPage d_greatestPage e_kind e_page e_asked e_sent e_count e_wetSet y_leaves y_led y_firstWrong h_kind h_page h_asked h_sent h_count h_wetSet f_dry f_askedUpTo f_costs f_roots f_size o_aheadOf o_ways o_count sorts slong mcells_n m_at m_readSlips m_read m_looked m_keptSees m_sumOfLeaves m_ledTo m_firstWrong m_dryOnes m_dryMany m_costs m_roots m_depth m_row m_placeOf) [0, 1, 2, 3, 4, 5, 6, 7, 8, 9, 10, 11, 12, 13, 14, 15, 16, 17, 18, 19, 20, 21, 22, 23, 24, 25, 26, 27, 28, 29, 30, 31, 32, 33, 34, 35, 36, 37, 38, 39, 40, 41, 42, 43, 44, 45, 46, 47, 48, 49, 50, 51, 52, 53, 54] (by decide) rfl
    refine lv_icmp_eq (tgt := 1110) hx hb dL_law_870 (by decide) (fun _ => ?_) (fun h => absurd rfl h)
    exact kk _ _ _ _ _ _ _ _ _ _ _ _ _ _ _ _ _ _ _ _ _ _ _ _ _ _ _ _ _ _ _ _ _ _ _ _ _ _ _ _ _ _ _ _ _ _ _ _ _ _ _ _ _ _ _ _ _ _ _ _ _ _ _ hI hP hD hS hl
set_option maxHeartbeats 8000000 in
set_option maxRecDepth 100000 in
theorem case_22 {p : Program} {l : Launch} {e : Env} {s : State} {m : MethodId} {args : Array Value} {below : List Frame} {meth : Method} {c : Code} {Q : State → Prop} {D : va_G} {cI cR : ClassId} {ad : Nat → Nat} {b L : Nat} {xs : Nat → Int32} {x3 : Int32} (C : LawC p s m args c D cI cR b L xs x3) (kk : AtL p l e s m args below meth c Q D cI cR ad b x3 1110) : AtL p l e s m args below meth c Q D cI cR ad b x3 875 := by
  obtain ⟨hx, hb, hml, hown, hts, hX, hbl, hK, hN, hi1, hi2, hi3, hi4, hi5⟩ := C
  have hA : ∀ q : Nat, s.heap.size ≤ q → AL s q := fun _ h => h
  have hbA : ¬ AL s b := Nat.not_le.mpr hbl
  intro ques trc flt th la le cf kind page asked sees cnt wet which leaf rds d_fittingPages d_leastPage d_greatestPage e_kind e_page e_asked e_sent e_count e_wetSet y_leaves y_led y_firstWrong h_kind h_page h_asked h_sent h_count h_wetSet f_dry f_askedUpTo f_costs f_roots f_size o_aheadOf o_ways o_count sorts slong mcells m_at m_readSlips m_read m_looked m_keptSees m_sumOfLeaves m_ledTo m_firstWrong m_dryOnes m_dryMany m_costs m_roots m_depth m_row m_placeOf H locs ls hI hP hD hS hl
  obtain ⟨y1, hy1⟩ : ∃ y, xs (x3 + 1).toNatClampNeg = y := ⟨_, rfl⟩
  obtain ⟨y2, hy2⟩ : ∃ y, xs (x3 + 2).toNatClampNeg = y := ⟨_, rfl⟩
  obtain ⟨y3, hy3⟩ : ∃ y, xs (x3 + 3).toNatClampNeg = y := ⟨_, rfl⟩
  obtain ⟨k, hk, hr4⟩ := row_pick y1
  rcases (show k = 0 ∨ k = 1 ∨ k = 2 ∨ k = 3 by omega) with rfl | rfl | rfl | rfl
  · obtain ⟨rv, flt_n, hTx, hTm, hI⟩ := T_cell flt th la le cf kind page asked sees cnt wet which leaf rds f_askedUpTo f_costs sorts slong mcells 0 (by decide) y1 y2 y3 hr4 hI
    refine lv_aload_n hx hb dL_law_875 rfl (lv_at hl 1 rfl) ?_
    refine lv_aload_n hx hb dL_law_876 rfl (lv_at hl 0 rfl) ?_
    refine lv_iload_n hx hb dL_law_877 rfl (lv_at hl 3 rfl) ?_
    refine lv_iconst (v := 1) hx hb dL_law_878 (by decide) ?_
    refine lv_iadd hx hb dL_law_879 ?_
    refine q_sld hx hb hX hbl hbA hS hi1 hy1 dL_law_880 ?_
    refine lv_aload_n hx hb dL_law_881 rfl (lv_at hl 0 rfl) ?_
    refine lv_iload_n hx hb dL_law_882 rfl (lv_at hl 3 rfl) ?_
    refine lv_iconst (v := 2) hx hb dL_law_883 (by decide) ?_
    refine lv_iadd hx hb dL_law_884 ?_
    refine q_sld hx hb hX hbl hbA hS hi2 hy2 dL_law_885 ?_
    refine lv_aload_n hx hb dL_law_886 rfl (lv_at hl 0 rfl) ?_
    refine lv_iload_n hx hb dL_law_887 rfl (lv_at hl 3 rfl) ?_
    refine lv_iconst (v := 3) hx hb dL_law_888 (by decide) ?_
    refine lv_iadd hx hb dL_law_889 ?_
    refine q_sld hx hb hX hbl hbA hS hi3 hy3 dL_law_890 ?_
    refine q_wVl (wr := [4, 5, 6, 7, 8, 9, 10, 11, 12, 13, 14, 15, 16, 17, 18, 19, 20, 21, 22, 23, 24, 25, 26, 27, 28, 29, 30, 31, 32, 33, 34, 35, 36, 37, 38, 39, 40, 41, 42, 43, 44, 45, 46, 47, 48, 49, 50, 51, 52, 53, 54].filterMap (fun i => (wL ad cI cR ques trc flt th la le cf kind page asked sees cnt wet which leaf rds d_fittingPages d_leastPage d_greatestPage e_kind e_page e_asked e_sent e_count e_wetSet y_leaves y_led y_firstWrong h_kind h_page h_asked h_sent h_count h_wetSet f_dry f_askedUpTo f_costs f_roots f_size o_aheadOf o_ways o_count sorts slong mcells m_at m_readSlips m_read m_looked m_keptSees m_sumOfLeaves m_ledTo m_firstWrong m_dryOnes m_dryMany m_costs m_roots m_depth m_row m_placeOf)[i]?)) (rest := []) ⟨hx, hb, hml, hown, hts⟩ (kX7_cell l D cI cR (ad 0) (ad 1) (ad 10) (ad 15) (ad 23) (ad 29) (ad 34) (ad 2) (ad 3) (rwF ad) ques trc flt (cf 0) (th 0) (la 0) (le 0) y1 y2 y3 (fun h => by rw [hr4 h]; rfl) (rv, flt_n) hTx) (cwV 3 hts gT_X7_cell rfl rfl rfl (by decide +kernel) ⟨Nat.le_of_ble_eq_true rfl, Nat.le_of_ble_eq_true rfl⟩) hP hD hS hA hK hN [0, 1, 2, 3] [4, 5, 6, 7, 8, 9, 10, 11, 12, 13, 14, 15, 16, 17, 18, 19, 20, 21, 22, 23, 24, 25, 26, 27, 28, 29, 30, 31, 32, 33, 34, 35, 36, 37, 38, 39, 40, 41, 42, 43, 44, 45, 46, 47, 48, 49, 50, 51, 52, 53, 54] rfl rfl (by decide) (by decide) (by decide) (va_recv hK hP (ci := 6) (q0 := 0) rfl rfl) rfl hl.1 rfl (Nat.le_of_ble_eq_true rfl) dL_law_891 ⟨Nat.le_of_ble_eq_true rfl, Nat.le_of_ble_eq_true rfl⟩ (fun H locs hP hD hS => ?_)
    have hP := hP.sub (ws' := wL ad cI cR ques trc flt_n th la le cf kind page asked sees cnt wet which leaf rds d_fittingPages d_leastPage d_greatestPage e_kind e_page e_asked e_sent e_count e_wetSet y_leaves y_led y_firstWrong h_kind h_page h_asked h_sent h_count h_wetSet f_dry f_askedUpTo f_costs f_roots f_size o_aheadOf o_ways o_count sorts slong mcells m_at m_readSlips m_read m_looked m_keptSees m_sumOfLeaves m_ledTo m_firstWrong m_dryOnes m_dryMany m_costs m_roots m_depth m_row m_placeOf) [51, 52, 53, 54, 0, 1, 2, 3, 4, 5, 6, 7, 8, 9, 10, 11, 12, 13, 14, 15, 16, 17, 18, 19, 20, 21, 22, 23, 24, 25, 26, 27, 28, 29, 30, 31, 32, 33, 34, 35, 36, 37, 38, 39, 40, 41, 42, 43, 44, 45, 46, 47, 48, 49, 50] rfl
    have hD := hD.sub (ws' := wL ad cI cR ques trc flt_n th la le cf kind page asked sees cnt wet which leaf rds d_fittingPages d_leastPage d_greatestPage e_kind e_page e_asked e_sent e_count e_wetSet y_leaves y_led y_firstWrong h_kind h_page h_asked h_sent h_count h_wetSet f_dry f_askedUpTo f_costs f_roots f_size o_aheadOf o_ways o_count sorts slong mcells m_at m_readSlips m_read m_looked m_keptSees m_sumOfLeaves m_ledTo m_firstWrong m_dryOnes m_dryMany m_costs m_roots m_depth m_row m_placeOf) [51, 52, 53, 54, 0, 1, 2, 3, 4, 5, 6, 7, 8, 9, 10, 11, 12, 13, 14, 15, 16, 17, 18, 19, 20, 21, 22, 23, 24, 25, 26, 27, 28, 29, 30, 31, 32, 33, 34, 35, 36, 37, 38, 39, 40, 41, 42, 43, 44, 45, 46, 47, 48, 49, 50] (by decide) rfl
    refine lv_aload_n hx hb dL_law_894 rfl (lv_at hl 2 rfl) ?_
    refine lv_aload_n hx hb dL_law_895 rfl (lv_at hl 0 rfl) ?_
    refine lv_iload_n hx hb dL_law_896 rfl (lv_at hl 3 rfl) ?_
    refine lv_iconst (v := 1) hx hb dL_law_897 (by decide) ?_
    refine lv_iadd hx hb dL_law_898 ?_
    refine q_sld hx hb hX hbl hbA hS hi1 hy1 dL_law_899 ?_
    refine lv_aload_n hx hb dL_law_900 rfl (lv_at hl 0 rfl) ?_
    refine lv_iload_n hx hb dL_law_901 rfl (lv_at hl 3 rfl) ?_
    refine lv_iconst (v := 2) hx hb dL_law_902 (by decide) ?_
    refine lv_iadd hx hb dL_law_903 ?_
    refine q_sld hx hb hX hbl hbA hS hi2 hy2 dL_law_904 ?_
    refine lv_aload_n hx hb dL_law_905 rfl (lv_at hl 0 rfl) ?_
    refine lv_iload_n hx hb dL_law_906 rfl (lv_at hl 3 rfl) ?_
    refine lv_iconst (v := 3) hx hb dL_law_907 (by decide) ?_
    refine lv_iadd hx hb dL_law_908 ?_
    refine q_sld hx hb hX hbl hbA hS hi3 hy3 dL_law_909 ?_
    refine q_wVl (wr := [0, 1, 2, 3, 4, 5, 6, 7, 8, 9, 10, 11, 12, 13, 14, 15, 16, 17, 18, 19, 20, 21, 22, 23, 24, 25, 26, 27, 28, 29, 30, 31, 32, 33, 34, 35, 36].filterMap (fun i => (wL ad cI cR ques trc flt_n th la le cf kind page asked sees cnt wet which leaf rds d_fittingPages d_leastPage d_greatestPage e_kind e_page e_asked e_sent e_count e_wetSet y_leaves y_led y_firstWrong h_kind h_page h_asked h_sent h_count h_wetSet f_dry f_askedUpTo f_costs f_roots f_size o_aheadOf o_ways o_count sorts slong mcells m_at m_readSlips m_read m_looked m_keptSees m_sumOfLeaves m_ledTo m_firstWrong m_dryOnes m_dryMany m_costs m_roots m_depth m_row m_placeOf)[i]?)) (rest := [.long rv]) ⟨hx, hb, hml, hown, hts⟩ (kX8_cell l D cI cR (ad 37) (ad 38) (ad 39) (ad 40) (ad 41) (ad 42) (ad 43) (ad 44) (ad 45) (ad 46) (ad 47) (ad 48) (ad 49) (ad 50) (ad 51) (ad 52) (ad 53) (ad 54) flt_n trc sorts slong mcells cnt ques wet kind page asked sees m_at m_readSlips m_read m_looked m_keptSees m_sumOfLeaves m_ledTo m_firstWrong m_dryOnes m_dryMany m_costs m_roots m_depth m_row m_placeOf rds which leaf y1 y2 y3 (rv, flt_n) hTm) (cwV 3 hts gT_X8_cell rfl rfl rfl (by decide +kernel) ⟨Nat.le_of_ble_eq_true rfl, Nat.le_of_ble_eq_true rfl⟩) hP hD hS hA hK hN [37, 38, 39, 40, 41, 42, 43, 44, 45, 46, 47, 48, 49, 50, 51, 52, 53, 54] [0, 1, 2, 3, 4, 5, 6, 7, 8, 9, 10, 11, 12, 13, 14, 15, 16, 17, 18, 19, 20, 21, 22, 23, 24, 25, 26, 27, 28, 29, 30, 31, 32, 33, 34, 35, 36] rfl rfl (by decide) (by decide) (by decide) (va_recv hK hP (ci := 7) (q0 := 37) rfl rfl) rfl hl.1 rfl (Nat.le_of_ble_eq_true rfl) dL_law_910 ⟨Nat.le_of_ble_eq_true rfl, Nat.le_of_ble_eq_true rfl⟩ (fun H locs hP hD hS => ?_)
    have hP := hP.sub (ws' := wL ad cI cR ques trc flt_n th la le cf kind page asked sees cnt wet which leaf rds d_fittingPages d_leastPage d_greatestPage e_kind e_page e_asked e_sent e_count e_wetSet y_leaves y_led y_firstWrong h_kind h_page h_asked h_sent h_count h_wetSet f_dry f_askedUpTo f_costs f_roots f_size o_aheadOf o_ways o_count sorts slong mcells m_at m_readSlips m_read m_looked m_keptSees m_sumOfLeaves m_ledTo m_firstWrong m_dryOnes m_dryMany m_costs m_roots m_depth m_row m_placeOf) [0, 1, 2, 3, 4, 5, 6, 7, 8, 9, 10, 11, 12, 13, 14, 15, 16, 17, 18, 19, 20, 21, 22, 23, 24, 25, 26, 27, 28, 29, 30, 31, 32, 33, 34, 35, 36, 37, 38, 39, 40, 41, 42, 43, 44, 45, 46, 47, 48, 49, 50, 51, 52, 53, 54] rfl
    have hD := hD.sub (ws' := wL ad cI cR ques trc flt_n th la le cf kind page asked sees cnt wet which leaf rds d_fittingPages d_leastPage d_greatestPage e_kind e_page e_asked e_sent e_count e_wetSet y_leaves y_led y_firstWrong h_kind h_page h_asked h_sent h_count h_wetSet f_dry f_askedUpTo f_costs f_roots f_size o_aheadOf o_ways o_count sorts slong mcells m_at m_readSlips m_read m_looked m_keptSees m_sumOfLeaves m_ledTo m_firstWrong m_dryOnes m_dryMany m_costs m_roots m_depth m_row m_placeOf) [0, 1, 2, 3, 4, 5, 6, 7, 8, 9, 10, 11, 12, 13, 14, 15, 16, 17, 18, 19, 20, 21, 22, 23, 24, 25, 26, 27, 28, 29, 30, 31, 32, 33, 34, 35, 36, 37, 38, 39, 40, 41, 42, 43, 44, 45, 46, 47, 48, 49, 50, 51, 52, 53, 54] (by decide) rfl
    refine W.lcmp hx hb dL_law_913 ?_
    refine lv_if_eq (tgt := 1110) hx hb dL_law_914 (by decide) (fun _ => ?_) (fun h => absurd (lgc_self _) h)
    exact kk _ _ _ _ _ _ _ _ _ _ _ _ _ _ _ _ _ _ _ _ _ _ _ _ _ _ _ _ _ _ _ _ _ _ _ _ _ _ _ _ _ _ _ _ _ _ _ _ _ _ _ _ _ _ _ _ _ _ _ _ _ _ _ hI hP hD hS hl
  · obtain ⟨rv, flt_n, hTx, hTm, hI⟩ := T_cell flt th la le cf kind page asked sees cnt wet which leaf rds f_askedUpTo f_costs sorts slong mcells 1 (by decide) y1 y2 y3 hr4 hI
    refine lv_aload_n hx hb dL_law_875 rfl (lv_at hl 1 rfl) ?_
    refine lv_aload_n hx hb dL_law_876 rfl (lv_at hl 0 rfl) ?_
    refine lv_iload_n hx hb dL_law_877 rfl (lv_at hl 3 rfl) ?_
    refine lv_iconst (v := 1) hx hb dL_law_878 (by decide) ?_
    refine lv_iadd hx hb dL_law_879 ?_
    refine q_sld hx hb hX hbl hbA hS hi1 hy1 dL_law_880 ?_
    refine lv_aload_n hx hb dL_law_881 rfl (lv_at hl 0 rfl) ?_
    refine lv_iload_n hx hb dL_law_882 rfl (lv_at hl 3 rfl) ?_
    refine lv_iconst (v := 2) hx hb dL_law_883 (by decide) ?_
    refine lv_iadd hx hb dL_law_884 ?_
    refine q_sld hx hb hX hbl hbA hS hi2 hy2 dL_law_885 ?_
    refine lv_aload_n hx hb dL_law_886 rfl (lv_at hl 0 rfl) ?_
    refine lv_iload_n hx hb dL_law_887 rfl (lv_at hl 3 rfl) ?_
    refine lv_iconst (v := 3) hx hb dL_law_888 (by decide) ?_
    refine lv_iadd hx hb dL_law_889 ?_
    refine q_sld hx hb hX hbl hbA hS hi3 hy3 dL_law_890 ?_
    refine q_wVl (wr := [2, 3, 6, 7, 8, 9, 10, 11, 12, 13, 14, 15, 16, 17, 18, 19, 20, 21, 22, 23, 24, 25, 26, 27, 28, 29, 30, 31, 32, 33, 34, 35, 36, 37, 38, 39, 40, 41, 42, 43, 44, 45, 46, 47, 48, 49, 50, 51, 52, 53, 54].filterMap (fun i => (wL ad cI cR ques trc flt th la le cf kind page asked sees cnt wet which leaf rds d_fittingPages d_leastPage d_greatestPage e_kind e_page e_asked e_sent e_count e_wetSet y_leaves y_led y_firstWrong h_kind h_page h_asked h_sent h_count h_wetSet f_dry f_askedUpTo f_costs f_roots f_size o_aheadOf o_ways o_count sorts slong mcells m_at m_readSlips m_read m_looked m_keptSees m_sumOfLeaves m_ledTo m_firstWrong m_dryOnes m_dryMany m_costs m_roots m_depth m_row m_placeOf)[i]?)) (rest := []) ⟨hx, hb, hml, hown, hts⟩ (kX7_cell l D cI cR (ad 0) (ad 1) (ad 10) (ad 15) (ad 23) (ad 29) (ad 34) (ad 4) (ad 5) (rwF ad) ques trc flt (cf 1) (th 1) (la 1) (le 1) y1 y2 y3 (fun h => by rw [hr4 h]; rfl) (rv, flt_n) hTx) (cwV 3 hts gT_X7_cell rfl rfl rfl (by decide +kernel) ⟨Nat.le_of_ble_eq_true rfl, Nat.le_of_ble_eq_true rfl⟩) hP hD hS hA hK hN [0, 1, 4, 5] [2, 3, 6, 7, 8, 9, 10, 11, 12, 13, 14, 15, 16, 17, 18, 19, 20, 21, 22, 23, 24, 25, 26, 27, 28, 29, 30, 31, 32, 33, 34, 35, 36, 37, 38, 39, 40, 41, 42, 43, 44, 45, 46, 47, 48, 49, 50, 51, 52, 53, 54] rfl rfl (by decide) (by decide) (by decide) (va_recv hK hP (ci := 6) (q0 := 0) rfl rfl) rfl hl.1 rfl (Nat.le_of_ble_eq_true rfl) dL_law_891 ⟨Nat.le_of_ble_eq_true rfl, Nat.le_of_ble_eq_true rfl⟩ (fun H locs hP hD hS => ?_)
    have hP := hP.sub (ws' := wL ad cI cR ques trc flt_n th la le cf kind page asked sees cnt wet which leaf rds d_fittingPages d_leastPage d_greatestPage e_kind e_page e_asked e_sent e_count e_wetSet y_leaves y_led y_firstWrong h_kind h_page h_asked h_sent h_count h_wetSet f_dry f_askedUpTo f_costs f_roots f_size o_aheadOf o_ways o_count sorts slong mcells m_at m_readSlips m_read m_looked m_keptSees m_sumOfLeaves m_ledTo m_firstWrong m_dryOnes m_dryMany m_costs m_roots m_depth m_row m_placeOf) [51, 52, 0, 1, 53, 54, 2, 3, 4, 5, 6, 7, 8, 9, 10, 11, 12, 13, 14, 15, 16, 17, 18, 19, 20, 21, 22, 23, 24, 25, 26, 27, 28, 29, 30, 31, 32, 33, 34, 35, 36, 37, 38, 39, 40, 41, 42, 43, 44, 45, 46, 47, 48, 49, 50] rfl
    have hD := hD.sub (ws' := wL ad cI cR ques trc flt_n th la le cf kind page asked sees cnt wet which leaf rds d_fittingPages d_leastPage d_greatestPage e_kind e_page e_asked e_sent e_count e_wetSet y_leaves y_led y_firstWrong h_kind h_page h_asked h_sent h_count h_wetSet f_dry f_askedUpTo f_costs f_roots f_size o_aheadOf o_ways o_count sorts slong mcells m_at m_readSlips m_read m_looked m_keptSees m_sumOfLeaves m_ledTo m_firstWrong m_dryOnes m_dryMany m_costs m_roots m_depth m_row m_placeOf) [51, 52, 0, 1, 53, 54, 2, 3, 4, 5, 6, 7, 8, 9, 10, 11, 12, 13, 14, 15, 16, 17, 18, 19, 20, 21, 22, 23, 24, 25, 26, 27, 28, 29, 30, 31, 32, 33, 34, 35, 36, 37, 38, 39, 40, 41, 42, 43, 44, 45, 46, 47, 48, 49, 50] (by decide) rfl
    refine lv_aload_n hx hb dL_law_894 rfl (lv_at hl 2 rfl) ?_
    refine lv_aload_n hx hb dL_law_895 rfl (lv_at hl 0 rfl) ?_
    refine lv_iload_n hx hb dL_law_896 rfl (lv_at hl 3 rfl) ?_
    refine lv_iconst (v := 1) hx hb dL_law_897 (by decide) ?_
    refine lv_iadd hx hb dL_law_898 ?_
    refine q_sld hx hb hX hbl hbA hS hi1 hy1 dL_law_899 ?_
    refine lv_aload_n hx hb dL_law_900 rfl (lv_at hl 0 rfl) ?_
    refine lv_iload_n hx hb dL_law_901 rfl (lv_at hl 3 rfl) ?_
    refine lv_iconst (v := 2) hx hb dL_law_902 (by decide) ?_
    refine lv_iadd hx hb dL_law_903 ?_
    refine q_sld hx hb hX hbl hbA hS hi2 hy2 dL_law_904 ?_
    refine lv_aload_n hx hb dL_law_905 rfl (lv_at hl 0 rfl) ?_
    refine lv_iload_n hx hb dL_law_906 rfl (lv_at hl 3 rfl) ?_
    refine lv_iconst (v := 3) hx hb dL_law_907 (by decide) ?_
    refine lv_iadd hx hb dL_law_908 ?_
    refine q_sld hx hb hX hbl hbA hS hi3 hy3 dL_law_909 ?_
    refine q_wVl (wr := [0, 1, 2, 3, 4, 5, 6, 7, 8, 9, 10, 11, 12, 13, 14, 15, 16, 17, 18, 19, 20, 21, 22, 23, 24, 25, 26, 27, 28, 29, 30, 31, 32, 33, 34, 35, 36].filterMap (fun i => (wL ad cI cR ques trc flt_n th la le cf kind page asked sees cnt wet which leaf rds d_fittingPages d_leastPage d_greatestPage e_kind e_page e_asked e_sent e_count e_wetSet y_leaves y_led y_firstWrong h_kind h_page h_asked h_sent h_count h_wetSet f_dry f_askedUpTo f_costs f_roots f_size o_aheadOf o_ways o_count sorts slong mcells m_at m_readSlips m_read m_looked m_keptSees m_sumOfLeaves m_ledTo m_firstWrong m_dryOnes m_dryMany m_costs m_roots m_depth m_row m_placeOf)[i]?)) (rest := [.long rv]) ⟨hx, hb, hml, hown, hts⟩ (kX8_cell l D cI cR (ad 37) (ad 38) (ad 39) (ad 40) (ad 41) (ad 42) (ad 43) (ad 44) (ad 45) (ad 46) (ad 47) (ad 48) (ad 49) (ad 50) (ad 51) (ad 52) (ad 53) (ad 54) flt_n trc sorts slong mcells cnt ques wet kind page asked sees m_at m_readSlips m_read m_looked m_keptSees m_sumOfLeaves m_ledTo m_firstWrong m_dryOnes m_dryMany m_costs m_roots m_depth m_row m_placeOf rds which leaf y1 y2 y3 (rv, flt_n) hTm) (cwV 3 hts gT_X8_cell rfl rfl rfl (by decide +kernel) ⟨Nat.le_of_ble_eq_true rfl, Nat.le_of_ble_eq_true rfl⟩) hP hD hS hA hK hN [37, 38, 39, 40, 41, 42, 43, 44, 45, 46, 47, 48, 49, 50, 51, 52, 53, 54] [0, 1, 2, 3, 4, 5, 6, 7, 8, 9, 10, 11, 12, 13, 14, 15, 16, 17, 18, 19, 20, 21, 22, 23, 24, 25, 26, 27, 28, 29, 30, 31, 32, 33, 34, 35, 36] rfl rfl (by decide) (by decide) (by decide) (va_recv hK hP (ci := 7) (q0 := 37) rfl rfl) rfl hl.1 rfl (Nat.le_of_ble_eq_true rfl) dL_law_910 ⟨Nat.le_of_ble_eq_true rfl, Nat.le_of_ble_eq_true rfl⟩ (fun H locs hP hD hS => ?_)
    have hP := hP.sub (ws' := wL ad cI cR ques trc flt_n th la le cf kind page asked sees cnt wet which leaf rds d_fittingPages d_leastPage d_greatestPage e_kind e_page e_asked e_sent e_count e_wetSet y_leaves y_led y_firstWrong h_kind h_page h_asked h_sent h_count h_wetSet f_dry f_askedUpTo f_costs f_roots f_size o_aheadOf o_ways o_count sorts slong mcells m_at m_readSlips m_read m_looked m_keptSees m_sumOfLeaves m_ledTo m_firstWrong m_dryOnes m_dryMany m_costs m_roots m_depth m_row m_placeOf) [0, 1, 2, 3, 4, 5, 6, 7, 8, 9, 10, 11, 12, 13, 14, 15, 16, 17, 18, 19, 20, 21, 22, 23, 24, 25, 26, 27, 28, 29, 30, 31, 32, 33, 34, 35, 36, 37, 38, 39, 40, 41, 42, 43, 44, 45, 46, 47, 48, 49, 50, 51, 52, 53, 54] rfl
    have hD := hD.sub (ws' := wL ad cI cR ques trc flt_n th la le cf kind page asked sees cnt wet which leaf rds d_fittingPages d_leastPage d_greatestPage e_kind e_page e_asked e_sent e_count e_wetSet y_leaves y_led y_firstWrong h_kind h_page h_asked h_sent h_count h_wetSet f_dry f_askedUpTo f_costs f_roots f_size o_aheadOf o_ways o_count sorts slong mcells m_at m_readSlips m_read m_looked m_keptSees m_sumOfLeaves m_ledTo m_firstWrong m_dryOnes m_dryMany m_costs m_roots m_depth m_row m_placeOf) [0, 1, 2, 3, 4, 5, 6, 7, 8, 9, 10, 11, 12, 13, 14, 15, 16, 17, 18, 19, 20, 21, 22, 23, 24, 25, 26, 27, 28, 29, 30, 31, 32, 33, 34, 35, 36, 37, 38, 39, 40, 41, 42, 43, 44, 45, 46, 47, 48, 49, 50, 51, 52, 53, 54] (by decide) rfl
    refine W.lcmp hx hb dL_law_913 ?_
    refine lv_if_eq (tgt := 1110) hx hb dL_law_914 (by decide) (fun _ => ?_) (fun h => absurd (lgc_self _) h)
    exact kk _ _ _ _ _ _ _ _ _ _ _ _ _ _ _ _ _ _ _ _ _ _ _ _ _ _ _ _ _ _ _ _ _ _ _ _ _ _ _ _ _ _ _ _ _ _ _ _ _ _ _ _ _ _ _ _ _ _ _ _ _ _ _ hI hP hD hS hl
  · obtain ⟨rv, flt_n, hTx, hTm, hI⟩ := T_cell flt th la le cf kind page asked sees cnt wet which leaf rds f_askedUpTo f_costs sorts slong mcells 2 (by decide) y1 y2 y3 hr4 hI
    refine lv_aload_n hx hb dL_law_875 rfl (lv_at hl 1 rfl) ?_
    refine lv_aload_n hx hb dL_law_876 rfl (lv_at hl 0 rfl) ?_
    refine lv_iload_n hx hb dL_law_877 rfl (lv_at hl 3 rfl) ?_
    refine lv_iconst (v := 1) hx hb dL_law_878 (by decide) ?_
    refine lv_iadd hx hb dL_law_879 ?_
    refine q_sld hx hb hX hbl hbA hS hi1 hy1 dL_law_880 ?_
    refine lv_aload_n hx hb dL_law_881 rfl (lv_at hl 0 rfl) ?_
    refine lv_iload_n hx hb dL_law_882 rfl (lv_at hl 3 rfl) ?_
    refine lv_iconst (v := 2) hx hb dL_law_883 (by decide) ?_
    refine lv_iadd hx hb dL_law_884 ?_
    refine q_sld hx hb hX hbl hbA hS hi2 hy2 dL_law_885 ?_
    refine lv_aload_n hx hb dL_law_886 rfl (lv_at hl 0 rfl) ?_
    refine lv_iload_n hx hb dL_law_887 rfl (lv_at hl 3 rfl) ?_
    refine lv_iconst (v := 3) hx hb dL_law_888 (by decide) ?_
    refine lv_iadd hx hb dL_law_889 ?_
    refine q_sld hx hb hX hbl hbA hS hi3 hy3 dL_law_890 ?_
    refine q_wVl (wr := [2, 3, 4, 5, 8, 9, 10, 11, 12, 13, 14, 15, 16, 17, 18, 19, 20, 21, 22, 23, 24, 25, 26, 27, 28, 29, 30, 31, 32, 33, 34, 35, 36, 37, 38, 39, 40, 41, 42, 43, 44, 45, 46, 47, 48, 49, 50, 51, 52, 53, 54].filterMap (fun i => (wL ad cI cR ques trc flt th la le cf kind page asked sees cnt wet which leaf rds d_fittingPages d_leastPage d_greatestPage e_kind e_page e_asked e_sent e_count e_wetSet y_leaves y_led y_firstWrong h_kind h_page h_asked h_sent h_count h_wetSet f_dry f_askedUpTo f_costs f_roots f_size o_aheadOf o_ways o_count sorts slong mcells m_at m_readSlips m_read m_looked m_keptSees m_sumOfLeaves m_ledTo m_firstWrong m_dryOnes m_dryMany m_costs m_roots m_depth m_row m_placeOf)[i]?)) (rest := []) ⟨hx, hb, hml, hown, hts⟩ (kX7_cell l D cI cR (ad 0) (ad 1) (ad 10) (ad 15) (ad 23) (ad 29) (ad 34) (ad 6) (ad 7) (rwF ad) ques trc flt (cf 2) (th 2) (la 2) (le 2) y1 y2 y3 (fun h => by rw [hr4 h]; rfl) (rv, flt_n) hTx) (cwV 3 hts gT_X7_cell rfl rfl rfl (by decide +kernel) ⟨Nat.le_of_ble_eq_true rfl, Nat.le_of_ble_eq_true rfl⟩) hP hD hS hA hK hN [0, 1, 6, 7] [2, 3, 4, 5, 8, 9, 10, 11, 12, 13, 14, 15, 16, 17, 18, 19, 20, 21, 22, 23, 24, 25, 26, 27, 28, 29, 30, 31, 32, 33, 34, 35, 36, 37, 38, 39, 40, 41, 42, 43, 44, 45, 46, 47, 48, 49, 50, 51, 52, 53, 54] rfl rfl (by decide) (by decide) (by decide) (va_recv hK hP (ci := 6) (q0 := 0) rfl rfl) rfl hl.1 rfl (Nat.le_of_ble_eq_true rfl) dL_law_891 ⟨Nat.le_of_ble_eq_true rfl, Nat.le_of_ble_eq_true rfl⟩ (fun H locs hP hD hS => ?_)
    have hP := hP.sub (ws' := wL ad cI cR ques trc flt_n th la le cf kind page asked sees cnt wet which leaf rds d_fittingPages d_leastPage d_greatestPage e_kind e_page e_asked e_sent e_count e_wetSet y_leaves y_led y_firstWrong h_kind h_page h_asked h_sent h_count h_wetSet f_dry f_askedUpTo f_costs f_roots f_size o_aheadOf o_ways o_count sorts slong mcells m_at m_readSlips m_read m_looked m_keptSees m_sumOfLeaves m_ledTo m_firstWrong m_dryOnes m_dryMany m_costs m_roots m_depth m_row m_placeOf) [51, 52, 0, 1, 2, 3, 53, 54, 4, 5, 6, 7, 8, 9, 10, 11, 12, 13, 14, 15, 16, 17, 18, 19, 20, 21, 22, 23, 24, 25, 26, 27, 28, 29, 30, 31, 32, 33, 34, 35, 36, 37, 38, 39, 40, 41, 42, 43, 44, 45, 46, 47, 48, 49, 50] rfl
    have hD := hD.sub (ws' := wL ad cI cR ques trc flt_n th la le cf kind page asked sees cnt wet which leaf rds d_fittingPages d_leastPage d_greatestPage e_kind e_page e_asked e_sent e_count e_wetSet y_leaves y_led y_firstWrong h_kind h_page h_asked h_sent h_count h_wetSet f_dry f_askedUpTo f_costs f_roots f_size o_aheadOf o_ways o_count sorts slong mcells m_at m_readSlips m_read m_looked m_keptSees m_sumOfLeaves m_ledTo m_firstWrong m_dryOnes m_dryMany m_costs m_roots m_depth m_row m_placeOf) [51, 52, 0, 1, 2, 3, 53, 54, 4, 5, 6, 7, 8, 9, 10, 11, 12, 13, 14, 15, 16, 17, 18, 19, 20, 21, 22, 23, 24, 25, 26, 27, 28, 29, 30, 31, 32, 33, 34, 35, 36, 37, 38, 39, 40, 41, 42, 43, 44, 45, 46, 47, 48, 49, 50] (by decide) rfl
    refine lv_aload_n hx hb dL_law_894 rfl (lv_at hl 2 rfl) ?_
    refine lv_aload_n hx hb dL_law_895 rfl (lv_at hl 0 rfl) ?_
    refine lv_iload_n hx hb dL_law_896 rfl (lv_at hl 3 rfl) ?_
    refine lv_iconst (v := 1) hx hb dL_law_897 (by decide) ?_
    refine lv_iadd hx hb dL_law_898 ?_
    refine q_sld hx hb hX hbl hbA hS hi1 hy1 dL_law_899 ?_
    refine lv_aload_n hx hb dL_law_900 rfl (lv_at hl 0 rfl) ?_
    refine lv_iload_n hx hb dL_law_901 rfl (lv_at hl 3 rfl) ?_
    refine lv_iconst (v := 2) hx hb dL_law_902 (by decide) ?_
    refine lv_iadd hx hb dL_law_903 ?_
    refine q_sld hx hb hX hbl hbA hS hi2 hy2 dL_law_904 ?_
    refine lv_aload_n hx hb dL_law_905 rfl (lv_at hl 0 rfl) ?_
    refine lv_iload_n hx hb dL_law_906 rfl (lv_at hl 3 rfl) ?_
    refine lv_iconst (v := 3) hx hb dL_law_907 (by decide) ?_
    refine lv_iadd hx hb dL_law_908 ?_
    refine q_sld hx hb hX hbl hbA hS hi3 hy3 dL_law_909 ?_
    refine q_wVl (wr := [0, 1, 2, 3, 4, 5, 6, 7, 8, 9, 10, 11, 12, 13, 14, 15, 16, 17, 18, 19, 20, 21, 22, 23, 24, 25, 26, 27, 28, 29, 30, 31, 32, 33, 34, 35, 36].filterMap (fun i => (wL ad cI cR ques trc flt_n th la le cf kind page asked sees cnt wet which leaf rds d_fittingPages d_leastPage d_greatestPage e_kind e_page e_asked e_sent e_count e_wetSet y_leaves y_led y_firstWrong h_kind h_page h_asked h_sent h_count h_wetSet f_dry f_askedUpTo f_costs f_roots f_size o_aheadOf o_ways o_count sorts slong mcells m_at m_readSlips m_read m_looked m_keptSees m_sumOfLeaves m_ledTo m_firstWrong m_dryOnes m_dryMany m_costs m_roots m_depth m_row m_placeOf)[i]?)) (rest := [.long rv]) ⟨hx, hb, hml, hown, hts⟩ (kX8_cell l D cI cR (ad 37) (ad 38) (ad 39) (ad 40) (ad 41) (ad 42) (ad 43) (ad 44) (ad 45) (ad 46) (ad 47) (ad 48) (ad 49) (ad 50) (ad 51) (ad 52) (ad 53) (ad 54) flt_n trc sorts slong mcells cnt ques wet kind page asked sees m_at m_readSlips m_read m_looked m_keptSees m_sumOfLeaves m_ledTo m_firstWrong m_dryOnes m_dryMany m_costs m_roots m_depth m_row m_placeOf rds which leaf y1 y2 y3 (rv, flt_n) hTm) (cwV 3 hts gT_X8_cell rfl rfl rfl (by decide +kernel) ⟨Nat.le_of_ble_eq_true rfl, Nat.le_of_ble_eq_true rfl⟩) hP hD hS hA hK hN [37, 38, 39, 40, 41, 42, 43, 44, 45, 46, 47, 48, 49, 50, 51, 52, 53, 54] [0, 1, 2, 3, 4, 5, 6, 7, 8, 9, 10, 11, 12, 13, 14, 15, 16, 17, 18, 19, 20, 21, 22, 23, 24, 25, 26, 27, 28, 29, 30, 31, 32, 33, 34, 35, 36] rfl rfl (by decide) (by decide) (by decide) (va_recv hK hP (ci := 7) (q0 := 37) rfl rfl) rfl hl.1 rfl (Nat.le_of_ble_eq_true rfl) dL_law_910 ⟨Nat.le_of_ble_eq_true rfl, Nat.le_of_ble_eq_true rfl⟩ (fun H locs hP hD hS => ?_)
    have hP := hP.sub (ws' := wL ad cI cR ques trc flt_n th la le cf kind page asked sees cnt wet which leaf rds d_fittingPages d_leastPage d_greatestPage e_kind e_page e_asked e_sent e_count e_wetSet y_leaves y_led y_firstWrong h_kind h_page h_asked h_sent h_count h_wetSet f_dry f_askedUpTo f_costs f_roots f_size o_aheadOf o_ways o_count sorts slong mcells m_at m_readSlips m_read m_looked m_keptSees m_sumOfLeaves m_ledTo m_firstWrong m_dryOnes m_dryMany m_costs m_roots m_depth m_row m_placeOf) [0, 1, 2, 3, 4, 5, 6, 7, 8, 9, 10, 11, 12, 13, 14, 15, 16, 17, 18, 19, 20, 21, 22, 23, 24, 25, 26, 27, 28, 29, 30, 31, 32, 33, 34, 35, 36, 37, 38, 39, 40, 41, 42, 43, 44, 45, 46, 47, 48, 49, 50, 51, 52, 53, 54] rfl
    have hD := hD.sub (ws' := wL ad cI cR ques trc flt_n th la le cf kind page asked sees cnt wet which leaf rds d_fittingPages d_leastPage d_greatestPage e_kind e_page e_asked e_sent e_count e_wetSet y_leaves y_led y_firstWrong h_kind h_page h_asked h_sent h_count h_wetSet f_dry f_askedUpTo f_costs f_roots f_size o_aheadOf o_ways o_count sorts slong mcells m_at m_readSlips m_read m_looked m_keptSees m_sumOfLeaves m_ledTo m_firstWrong m_dryOnes m_dryMany m_costs m_roots m_depth m_row m_placeOf) [0, 1, 2, 3, 4, 5, 6, 7, 8, 9, 10, 11, 12, 13, 14, 15, 16, 17, 18, 19, 20, 21, 22, 23, 24, 25, 26, 27, 28, 29, 30, 31, 32, 33, 34, 35, 36, 37, 38, 39, 40, 41, 42, 43, 44, 45, 46, 47, 48, 49, 50, 51, 52, 53, 54] (by decide) rfl
    refine W.lcmp hx hb dL_law_913 ?_
    refine lv_if_eq (tgt := 1110) hx hb dL_law_914 (by decide) (fun _ => ?_) (fun h => absurd (lgc_self _) h)
    exact kk _ _ _ _ _ _ _ _ _ _ _ _ _ _ _ _ _ _ _ _ _ _ _ _ _ _ _ _ _ _ _ _ _ _ _ _ _ _ _ _ _ _ _ _ _ _ _ _ _ _ _ _ _ _ _ _ _ _ _ _ _ _ _ hI hP hD hS hl
  · obtain ⟨rv, flt_n, hTx, hTm, hI⟩ := T_cell flt th la le cf kind page asked sees cnt wet which leaf rds f_askedUpTo f_costs sorts slong mcells 3 (by decide) y1 y2 y3 hr4 hI
    refine lv_aload_n hx hb dL_law_875 rfl (lv_at hl 1 rfl) ?_
    refine lv_aload_n hx hb dL_law_876 rfl (lv_at hl 0 rfl) ?_
    refine lv_iload_n hx hb dL_law_877 rfl (lv_at hl 3 rfl) ?_
    refine lv_iconst (v := 1) hx hb dL_law_878 (by decide) ?_
    refine lv_iadd hx hb dL_law_879 ?_
    refine q_sld hx hb hX hbl hbA hS hi1 hy1 dL_law_880 ?_
    refine lv_aload_n hx hb dL_law_881 rfl (lv_at hl 0 rfl) ?_
    refine lv_iload_n hx hb dL_law_882 rfl (lv_at hl 3 rfl) ?_
    refine lv_iconst (v := 2) hx hb dL_law_883 (by decide) ?_
    refine lv_iadd hx hb dL_law_884 ?_
    refine q_sld hx hb hX hbl hbA hS hi2 hy2 dL_law_885 ?_
    refine lv_aload_n hx hb dL_law_886 rfl (lv_at hl 0 rfl) ?_
    refine lv_iload_n hx hb dL_law_887 rfl (lv_at hl 3 rfl) ?_
    refine lv_iconst (v := 3) hx hb dL_law_888 (by decide) ?_
    refine lv_iadd hx hb dL_law_889 ?_
    refine q_sld hx hb hX hbl hbA hS hi3 hy3 dL_law_890 ?_
    refine q_wVl (wr := [2, 3, 4, 5, 6, 7, 10, 11, 12, 13, 14, 15, 16, 17, 18, 19, 20, 21, 22, 23, 24, 25, 26, 27, 28, 29, 30, 31, 32, 33, 34, 35, 36, 37, 38, 39, 40, 41, 42, 43, 44, 45, 46, 47, 48, 49, 50, 51, 52, 53, 54].filterMap (fun i => (wL ad cI cR ques trc flt th la le cf kind page asked sees cnt wet which leaf rds d_fittingPages d_leastPage d_greatestPage e_kind e_page e_asked e_sent e_count e_wetSet y_leaves y_led y_firstWrong h_kind h_page h_asked h_sent h_count h_wetSet f_dry f_askedUpTo f_costs f_roots f_size o_aheadOf o_ways o_count sorts slong mcells m_at m_readSlips m_read m_looked m_keptSees m_sumOfLeaves m_ledTo m_firstWrong m_dryOnes m_dryMany m_costs m_roots m_depth m_row m_placeOf)[i]?)) (rest := []) ⟨hx, hb, hml, hown, hts⟩ (kX7_cell l D cI cR (ad 0) (ad 1) (ad 10) (ad 15) (ad 23) (ad 29) (ad 34) (ad 8) (ad 9) (rwF ad) ques trc flt (cf 3) (th 3) (la 3) (le 3) y1 y2 y3 (fun h => by rw [hr4 h]; rfl) (rv, flt_n) hTx) (cwV 3 hts gT_X7_cell rfl rfl rfl (by decide +kernel) ⟨Nat.le_of_ble_eq_true rfl, Nat.le_of_ble_eq_true rfl⟩) hP hD hS hA hK hN [0, 1, 8, 9] [2, 3, 4, 5, 6, 7, 10, 11, 12, 13, 14, 15, 16, 17, 18, 19, 20, 21, 22, 23, 24, 25, 26, 27, 28, 29, 30, 31, 32, 33, 34, 35, 36, 37, 38, 39, 40, 41, 42, 43, 44, 45, 46, 47, 48, 49, 50, 51, 52, 53, 54] rfl rfl (by decide) (by decide) (by decide) (va_recv hK hP (ci := 6) (q0 := 0) rfl rfl) rfl hl.1 rfl (Nat.le_of_ble_eq_true rfl) dL_law_891 ⟨Nat.le_of_ble_eq_true rfl, Nat.le_of_ble_eq_true rfl⟩ (fun H locs hP hD hS => ?_)
    have hP := hP.sub (ws' := wL ad cI cR ques trc flt_n th la le cf kind page asked sees cnt wet which leaf rds d_fittingPages d_leastPage d_greatestPage e_kind e_page e_asked e_sent e_count e_wetSet y_leaves y_led y_firstWrong h_kind h_page h_asked h_sent h_count h_wetSet f_dry f_askedUpTo f_costs f_roots f_size o_aheadOf o_ways o_count sorts slong mcells m_at m_readSlips m_read m_looked m_keptSees m_sumOfLeaves m_ledTo m_firstWrong m_dryOnes m_dryMany m_costs m_roots m_depth m_row m_placeOf) [51, 52, 0, 1, 2, 3, 4, 5, 53, 54, 6, 7, 8, 9, 10, 11, 12, 13, 14, 15, 16, 17, 18, 19, 20, 21, 22, 23, 24, 25, 26, 27, 28, 29, 30, 31, 32, 33, 34, 35, 36, 37, 38, 39, 40, 41, 42, 43, 44, 45, 46, 47, 48, 49, 50] rfl
    have hD := hD.sub (ws' := wL ad cI cR ques trc flt_n th la le cf kind page asked sees cnt wet which leaf rds d_fittingPages d_leastPage d_greatestPage e_kind e_page e_asked e_sent e_count e_wetSet y_leaves y_led y_firstWrong h_kind h_page h_asked h_sent h_count h_wetSet f_dry f_askedUpTo f_costs f_roots f_size o_aheadOf o_ways o_count sorts slong mcells m_at m_readSlips m_read m_looked m_keptSees m_sumOfLeaves m_ledTo m_firstWrong m_dryOnes m_dryMany m_costs m_roots m_depth m_row m_placeOf) [51, 52, 0, 1, 2, 3, 4, 5, 53, 54, 6, 7, 8, 9, 10, 11, 12, 13, 14, 15, 16, 17, 18, 19, 20, 21, 22, 23, 24, 25, 26, 27, 28, 29, 30, 31, 32, 33, 34, 35, 36, 37, 38, 39, 40, 41, 42, 43, 44, 45, 46, 47, 48, 49, 50] (by decide) rfl
    refine lv_aload_n hx hb dL_law_894 rfl (lv_at hl 2 rfl) ?_
    refine lv_aload_n hx hb dL_law_895 rfl (lv_at hl 0 rfl) ?_
    refine lv_iload_n hx hb dL_law_896 rfl (lv_at hl 3 rfl) ?_
    refine lv_iconst (v := 1) hx hb dL_law_897 (by decide) ?_
    refine lv_iadd hx hb dL_law_898 ?_
    refine q_sld hx hb hX hbl hbA hS hi1 hy1 dL_law_899 ?_
    refine lv_aload_n hx hb dL_law_900 rfl (lv_at hl 0 rfl) ?_
    refine lv_iload_n hx hb dL_law_901 rfl (lv_at hl 3 rfl) ?_
    refine lv_iconst (v := 2) hx hb dL_law_902 (by decide) ?_
    refine lv_iadd hx hb dL_law_903 ?_
    refine q_sld hx hb hX hbl hbA hS hi2 hy2 dL_law_904 ?_
    refine lv_aload_n hx hb dL_law_905 rfl (lv_at hl 0 rfl) ?_
    refine lv_iload_n hx hb dL_law_906 rfl (lv_at hl 3 rfl) ?_
    refine lv_iconst (v := 3) hx hb dL_law_907 (by decide) ?_
    refine lv_iadd hx hb dL_law_908 ?_
    refine q_sld hx hb hX hbl hbA hS hi3 hy3 dL_law_909 ?_
    refine q_wVl (wr := [0, 1, 2, 3, 4, 5, 6, 7, 8, 9, 10, 11, 12, 13, 14, 15, 16, 17, 18, 19, 20, 21, 22, 23, 24, 25, 26, 27, 28, 29, 30, 31, 32, 33, 34, 35, 36].filterMap (fun i => (wL ad cI cR ques trc flt_n th la le cf kind page asked sees cnt wet which leaf rds d_fittingPages d_leastPage d_greatestPage e_kind e_page e_asked e_sent e_count e_wetSet y_leaves y_led y_firstWrong h_kind h_page h_asked h_sent h_count h_wetSet f_dry f_askedUpTo f_costs f_roots f_size o_aheadOf o_ways o_count sorts slong mcells m_at m_readSlips m_read m_looked m_keptSees m_sumOfLeaves m_ledTo m_firstWrong m_dryOnes m_dryMany m_costs m_roots m_depth m_row m_placeOf)[i]?)) (rest := [.long rv]) ⟨hx, hb, hml, hown, hts⟩ (kX8_cell l D cI cR (ad 37) (ad 38) (ad 39) (ad 40) (ad 41) (ad 42) (ad 43) (ad 44) (ad 45) (ad 46) (ad 47) (ad 48) (ad 49) (ad 50) (ad 51) (ad 52) (ad 53) (ad 54) flt_n trc sorts slong mcells cnt ques wet kind page asked sees m_at m_readSlips m_read m_looked m_keptSees m_sumOfLeaves m_ledTo m_firstWrong m_dryOnes m_dryMany m_costs m_roots m_depth m_row m_placeOf rds which leaf y1 y2 y3 (rv, flt_n) hTm) (cwV 3 hts gT_X8_cell rfl rfl rfl (by decide +kernel) ⟨Nat.le_of_ble_eq_true rfl, Nat.le_of_ble_eq_true rfl⟩) hP hD hS hA hK hN [37, 38, 39, 40, 41, 42, 43, 44, 45, 46, 47, 48, 49, 50, 51, 52, 53, 54] [0, 1, 2, 3, 4, 5, 6, 7, 8, 9, 10, 11, 12, 13, 14, 15, 16, 17, 18, 19, 20, 21, 22, 23, 24, 25, 26, 27, 28, 29, 30, 31, 32, 33, 34, 35, 36] rfl rfl (by decide) (by decide) (by decide) (va_recv hK hP (ci := 7) (q0 := 37) rfl rfl) rfl hl.1 rfl (Nat.le_of_ble_eq_true rfl) dL_law_910 ⟨Nat.le_of_ble_eq_true rfl, Nat.le_of_ble_eq_true rfl⟩ (fun H locs hP hD hS => ?_)
    have hP := hP.sub (ws' := wL ad cI cR ques trc flt_n th la le cf kind page asked sees cnt wet which leaf rds d_fittingPages d_leastPage d_greatestPage e_kind e_page e_asked e_sent e_count e_wetSet y_leaves y_led y_firstWrong h_kind h_page h_asked h_sent h_count h_wetSet f_dry f_askedUpTo f_costs f_roots f_size o_aheadOf o_ways o_count sorts slong mcells m_at m_readSlips m_read m_looked m_keptSees m_sumOfLeaves m_ledTo m_firstWrong m_dryOnes m_dryMany m_costs m_roots m_depth m_row m_placeOf) [0, 1, 2, 3, 4, 5, 6, 7, 8, 9, 10, 11, 12, 13, 14, 15, 16, 17, 18, 19, 20, 21, 22, 23, 24, 25, 26, 27, 28, 29, 30, 31, 32, 33, 34, 35, 36, 37, 38, 39, 40, 41, 42, 43, 44, 45, 46, 47, 48, 49, 50, 51, 52, 53, 54] rfl
    have hD := hD.sub (ws' := wL ad cI cR ques trc flt_n th la le cf kind page asked sees cnt wet which leaf rds d_fittingPages d_leastPage d_greatestPage e_kind e_page e_asked e_sent e_count e_wetSet y_leaves y_led y_firstWrong h_kind h_page h_asked h_sent h_count h_wetSet f_dry f_askedUpTo f_costs f_roots f_size o_aheadOf o_ways o_count sorts slong mcells m_at m_readSlips m_read m_looked m_keptSees m_sumOfLeaves m_ledTo m_firstWrong m_dryOnes m_dryMany m_costs m_roots m_depth m_row m_placeOf) [0, 1, 2, 3, 4, 5, 6, 7, 8, 9, 10, 11, 12, 13, 14, 15, 16, 17, 18, 19, 20, 21, 22, 23, 24, 25, 26, 27, 28, 29, 30, 31, 32, 33, 34, 35, 36, 37, 38, 39, 40, 41, 42, 43, 44, 45, 46, 47, 48, 49, 50, 51, 52, 53, 54] (by decide) rfl
    refine W.lcmp hx hb dL_law_913 ?_
    refine lv_if_eq (tgt := 1110) hx hb dL_law_914 (by decide) (fun _ => ?_) (fun h => absurd (lgc_self _) h)
    exact kk _ _ _ _ _ _ _ _ _ _ _ _ _ _ _ _ _ _ _ _ _ _ _ _ _ _ _ _ _ _ _ _ _ _ _ _ _ _ _ _ _ _ _ _ _ _ _ _ _ _ _ _ _ _ _ _ _ _ _ _ _ _ _ hI hP hD hS hl
set_option maxHeartbeats 8000000 in
set_option maxRecDepth 100000 in
theorem case_23 {p : Program} {l : Launch} {e : Env} {s : State} {m : MethodId} {args : Array Value} {below : List Frame} {meth : Method} {c : Code} {Q : State → Prop} {D : va_G} {cI cR : ClassId} {ad : Nat → Nat} {b L : Nat} {xs : Nat → Int32} {x3 : Int32} (C : LawC p s m args c D cI cR b L xs x3) (kk : AtL p l e s m args below meth c Q D cI cR ad b x3 1110) : AtL p l e s m args below meth c Q D cI cR ad b x3 919 := by
  obtain ⟨hx, hb, hml, hown, hts, hX, hbl, hK, hN, hi1, hi2, hi3, hi4, hi5⟩ := C
  have hA : ∀ q : Nat, s.heap.size ≤ q → AL s q := fun _ h => h
  have hbA : ¬ AL s b := Nat.not_le.mpr hbl
  intro ques trc flt th la le cf kind page asked sees cnt wet which leaf rds d_fittingPages d_leastPage d_greatestPage e_kind e_page e_asked e_sent e_count e_wetSet y_leaves y_led y_firstWrong h_kind h_page h_asked h_sent h_count h_wetSet f_dry f_askedUpTo f_costs f_roots f_size o_aheadOf o_ways o_count sorts slong mcells m_at m_readSlips m_read m_looked m_keptSees m_sumOfLeaves m_ledTo m_firstWrong m_dryOnes m_dryMany m_costs m_roots m_depth m_row m_placeOf H locs ls hI hP hD hS hl
  obtain ⟨y1, hy1⟩ : ∃ y, xs (x3 + 1).toNatClampNeg = y := ⟨_, rfl⟩
  obtain ⟨y2, hy2⟩ : ∃ y, xs (x3 + 2).toNatClampNeg = y := ⟨_, rfl⟩
  obtain ⟨y3, hy3⟩ : ∃ y, xs (x3 + 3).toNatClampNeg = y := ⟨_, rfl⟩
  obtain ⟨y4, hy4⟩ : ∃ y, xs (x3 + 4).toNatClampNeg = y := ⟨_, rfl⟩
  obtain ⟨y5, hy5⟩ : ∃ y, xs (x3 + 5).toNatClampNeg = y := ⟨_, rfl⟩
  obtain ⟨k, hk, hr4⟩ := row_pick y1
  obtain ⟨k2, hk2, hq4⟩ := row_pick y3
  rcases (show k = 0 ∨ k = 1 ∨ k = 2 ∨ k = 3 by omega) with rfl | rfl | rfl | rfl
  · rcases (show k2 = 0 ∨ k2 = 1 ∨ k2 = 2 ∨ k2 = 3 by omega) with rfl | rfl | rfl | rfl
    · obtain ⟨rv, flt_n, r_cells_n, mcells_n, hTx, hTm, hI⟩ := T_copyS flt th la le cf kind page asked sees cnt wet which leaf rds f_askedUpTo f_costs sorts slong mcells 0 (by decide) y1 y2 y3 y4 y5 hr4 hq4 hI
      refine lv_aload_n hx hb dL_law_919 rfl (lv_at hl 1 rfl) ?_
      refine lv_aload_n hx hb dL_law_920 rfl (lv_at hl 0 rfl) ?_
      refine lv_iload_n hx hb dL_law_921 rfl (lv_at hl 3 rfl) ?_
      refine lv_iconst (v := 1) hx hb dL_law_922 (by decide) ?_
      refine lv_iadd hx hb dL_law_923 ?_
      refine q_sld hx hb hX hbl hbA hS hi1 hy1 dL_law_924 ?_
      refine lv_aload_n hx hb dL_law_925 rfl (lv_at hl 0 rfl) ?_
      refine lv_iload_n hx hb dL_law_926 rfl (lv_at hl 3 rfl) ?_
      refine lv_iconst (v := 2) hx hb dL_law_927 (by decide) ?_
      refine lv_iadd hx hb dL_law_928 ?_
      refine q_sld hx hb hX hbl hbA hS hi2 hy2 dL_law_929 ?_
      refine lv_aload_n hx hb dL_law_930 rfl (lv_at hl 0 rfl) ?_
      refine lv_iload_n hx hb dL_law_931 rfl (lv_at hl 3 rfl) ?_
      refine lv_iconst (v := 3) hx hb dL_law_932 (by decide) ?_
      refine lv_iadd hx hb dL_law_933 ?_
      refine q_sld hx hb hX hbl hbA hS hi3 hy3 dL_law_934 ?_
      refine lv_aload_n hx hb dL_law_935 rfl (lv_at hl 0 rfl) ?_
      refine lv_iload_n hx hb dL_law_936 rfl (lv_at hl 3 rfl) ?_
      refine lv_iconst (v := 4) hx hb dL_law_937 (by decide) ?_
      refine lv_iadd hx hb dL_law_938 ?_
      refine q_sld hx hb hX hbl hbA hS hi4 hy4 dL_law_939 ?_
      refine lv_aload_n hx hb dL_law_940 rfl (lv_at hl 0 rfl) ?_
      refine lv_iload_n hx hb dL_law_941 rfl (lv_at hl 3 rfl) ?_
      refine lv_iconst (v := 5) hx hb dL_law_942 (by decide) ?_
      refine lv_iadd hx hb dL_law_943 ?_
      refine q_sld hx hb hX hbl hbA hS hi5 hy5 dL_law_944 ?_
      refine q_wVi (wr := [4, 5, 6, 7, 8, 9, 10, 11, 12, 13, 14, 15, 16, 17, 18, 19, 20, 21, 22, 23, 24, 25, 26, 27, 28, 29, 30, 31, 32, 33, 34, 35, 36, 37, 38, 39, 40, 41, 42, 43, 44, 45, 46, 47, 48, 49, 50, 51, 52, 53, 54].filterMap (fun i => (wL ad cI cR ques trc flt th la le cf kind page asked sees cnt wet which leaf rds d_fittingPages d_leastPage d_greatestPage e_kind e_page e_asked e_sent e_count e_wetSet y_leaves y_led y_firstWrong h_kind h_page h_asked h_sent h_count h_wetSet f_dry f_askedUpTo f_costs f_roots f_size o_aheadOf o_ways o_count sorts slong mcells m_at m_readSlips m_read m_looked m_keptSees m_sumOfLeaves m_ledTo m_firstWrong m_dryOnes m_dryMany m_costs m_roots m_depth m_row m_placeOf)[i]?)) (rest := []) ⟨hx, hb, hml, hown, hts⟩ (kX7_copyS l D cI cR (ad 0) (ad 1) (ad 10) (ad 15) (ad 23) (ad 29) (ad 34) (ad 2) (ad 3) (rwF ad) ques trc flt (cf 0) (th 0) (la 0) (le 0) y1 y2 y3 y4 y5 (fun h => by rw [hr4 h]; rfl) (fun h => by rw [hq4 h]; rfl) (rv, flt_n, r_cells_n) hTx) (cwV 5 hts gT_X7_copy rfl rfl rfl (by decide +kernel) ⟨Nat.le_of_ble_eq_true rfl, Nat.le_of_ble_eq_true rfl⟩) hP hD hS hA hK hN [0, 1, 2, 3] [4, 5, 6, 7, 8, 9, 10, 11, 12, 13, 14, 15, 16, 17, 18, 19, 20, 21, 22, 23, 24, 25, 26, 27, 28, 29, 30, 31, 32, 33, 34, 35, 36, 37, 38, 39, 40, 41, 42, 43, 44, 45, 46, 47, 48, 49, 50, 51, 52, 53, 54] rfl rfl (by decide) (by decide) (by decide) (va_recv hK hP (ci := 6) (q0 := 0) rfl rfl) rfl hl.1 rfl (Nat.le_of_ble_eq_true rfl) dL_law_945 ⟨Nat.le_of_ble_eq_true rfl, Nat.le_of_ble_eq_true rfl⟩ (fun H locs hP hD hS => ?_)
      have hP := hP.sub (ws' := wL ad cI cR ques trc flt_n th la le (va_up cf 0 r_cells_n) kind page asked sees cnt wet which leaf rds d_fittingPages d_leastPage d_greatestPage e_kind e_page e_asked e_sent e_count e_wetSet y_leaves y_led y_firstWrong h_kind h_page h_asked h_sent h_count h_wetSet f_dry f_askedUpTo f_costs f_roots f_size o_aheadOf o_ways o_count sorts slong mcells m_at m_readSlips m_read m_looked m_keptSees m_sumOfLeaves m_ledTo m_firstWrong m_dryOnes m_dryMany m_costs m_roots m_depth m_row m_placeOf) [51, 52, 53, 54, 0, 1, 2, 3, 4, 5, 6, 7, 8, 9, 10, 11, 12, 13, 14, 15, 16, 17, 18, 19, 20, 21, 22, 23, 24, 25, 26, 27, 28, 29, 30, 31, 32, 33, 34, 35, 36, 37, 38, 39, 40, 41, 42, 43, 44, 45, 46, 47, 48, 49, 50] rfl
      have hD := hD.sub (ws' := wL ad cI cR ques trc flt_n th la le (va_up cf 0 r_cells_n) kind page asked sees cnt wet which leaf rds d_fittingPages d_leastPage d_greatestPage e_kind e_page e_asked e_sent e_count e_wetSet y_leaves y_led y_firstWrong h_kind h_page h_asked h_sent h_count h_wetSet f_dry f_askedUpTo f_costs f_roots f_size o_aheadOf o_ways o_count sorts slong mcells m_at m_readSlips m_read m_looked m_keptSees m_sumOfLeaves m_ledTo m_firstWrong m_dryOnes m_dryMany m_costs m_roots m_depth m_row m_placeOf) [51, 52, 53, 54, 0, 1, 2, 3, 4, 5, 6, 7, 8, 9, 10, 11, 12, 13, 14, 15, 16, 17, 18, 19, 20, 21, 22, 23, 24, 25, 26, 27, 28, 29, 30, 31, 32, 33, 34, 35, 36, 37, 38, 39, 40, 41, 42, 43, 44, 45, 46, 47, 48, 49, 50] (by decide) rfl
      refine lv_aload_n hx hb dL_law_948 rfl (lv_at hl 2 rfl) ?_
      refine lv_aload_n hx hb dL_law_949 rfl (lv_at hl 0 rfl) ?_
      refine lv_iload_n hx hb dL_law_950 rfl (lv_at hl 3 rfl) ?_
      refine lv_iconst (v := 1) hx hb dL_law_951 (by decide) ?_
      refine lv_iadd hx hb dL_law_952 ?_
      refine q_sld hx hb hX hbl hbA hS hi1 hy1 dL_law_953 ?_
      refine lv_aload_n hx hb dL_law_954 rfl (lv_at hl 0 rfl) ?_
      refine lv_iload_n hx hb dL_law_955 rfl (lv_at hl 3 rfl) ?_
      refine lv_iconst (v := 2) hx hb dL_law_956 (by decide) ?_
      refine lv_iadd hx hb dL_law_957 ?_
      refine q_sld hx hb hX hbl hbA hS hi2 hy2 dL_law_958 ?_
      refine lv_aload_n hx hb dL_law_959 rfl (lv_at hl 0 rfl) ?_
      refine lv_iload_n hx hb dL_law_960 rfl (lv_at hl 3 rfl) ?_
      refine lv_iconst (v := 3) hx hb dL_law_961 (by decide) ?_
      refine lv_iadd hx hb dL_law_962 ?_
      refine q_sld hx hb hX hbl hbA hS hi3 hy3 dL_law_963 ?_
      refine lv_aload_n hx hb dL_law_964 rfl (lv_at hl 0 rfl) ?_
      refine lv_iload_n hx hb dL_law_965 rfl (lv_at hl 3 rfl) ?_
      refine lv_iconst (v := 4) hx hb dL_law_966 (by decide) ?_
      refine lv_iadd hx hb dL_law_967 ?_
      refine q_sld hx hb hX hbl hbA hS hi4 hy4 dL_law_968 ?_
      refine lv_aload_n hx hb dL_law_969 rfl (lv_at hl 0 rfl) ?_
      refine lv_iload_n hx hb dL_law_970 rfl (lv_at hl 3 rfl) ?_
      refine lv_iconst (v := 5) hx hb dL_law_971 (by decide) ?_
      refine lv_iadd hx hb dL_law_972 ?_
      refine q_sld hx hb hX hbl hbA hS hi5 hy5 dL_law_973 ?_
      refine q_wVi (wr := [0, 1, 2, 3, 4, 5, 6, 7, 8, 9, 10, 11, 12, 13, 14, 15, 16, 17, 18, 19, 20, 21, 22, 23, 24, 25, 26, 27, 28, 29, 30, 31, 32, 33, 34, 35, 36].filterMap (fun i => (wL ad cI cR ques trc flt_n th la le (va_up cf 0 r_cells_n) kind page asked sees cnt wet which leaf rds d_fittingPages d_leastPage d_greatestPage e_kind e_page e_asked e_sent e_count e_wetSet y_leaves y_led y_firstWrong h_kind h_page h_asked h_sent h_count h_wetSet f_dry f_askedUpTo f_costs f_roots f_size o_aheadOf o_ways o_count sorts slong mcells m_at m_readSlips m_read m_looked m_keptSees m_sumOfLeaves m_ledTo m_firstWrong m_dryOnes m_dryMany m_costs m_roots m_depth m_row m_placeOf)[i]?)) (rest := [.int rv]) ⟨hx, hb, hml, hown, hts⟩ (kX8_copy l D cI cR (ad 37) (ad 38) (ad 39) (ad 40) (ad 41) (ad 42) (ad 43) (ad 44) (ad 45) (ad 46) (ad 47) (ad 48) (ad 49) (ad 50) (ad 51) (ad 52) (ad 53) (ad 54) flt_n trc sorts slong mcells cnt ques wet kind page asked sees m_at m_readSlips m_read m_looked m_keptSees m_sumOfLeaves m_ledTo m_firstWrong m_dryOnes m_dryMany m_costs m_roots m_depth m_row m_placeOf rds which leaf y1 y2 y3 y4 y5 (rv, flt_n, mcells_n) hTm) (cwV 5 hts gT_X8_copy rfl rfl rfl (by decide +kernel) ⟨Nat.le_of_ble_eq_true rfl, Nat.le_of_ble_eq_true rfl⟩) hP hD hS hA hK hN [37, 38, 39, 40, 41, 42, 43, 44, 45, 46, 47, 48, 49, 50, 51, 52, 53, 54] [0, 1, 2, 3, 4, 5, 6, 7, 8, 9, 10, 11, 12, 13, 14, 15, 16, 17, 18, 19, 20, 21, 22, 23, 24, 25, 26, 27, 28, 29, 30, 31, 32, 33, 34, 35, 36] rfl rfl (by decide) (by decide) (by decide) (va_recv hK hP (ci := 7) (q0 := 37) rfl rfl) rfl hl.1 rfl (Nat.le_of_ble_eq_true rfl) dL_law_974 ⟨Nat.le_of_ble_eq_true rfl, Nat.le_of_ble_eq_true rfl⟩ (fun H locs hP hD hS => ?_)
      have hP := hP.sub (ws' := wL ad cI cR ques trc flt_n th la le (va_up cf 0 r_cells_n) kind page asked sees cnt wet which leaf rds d_fittingPages d_leastPage d_greatestPage e_kind e_page e_asked e_sent e_count e_wetSet y_leaves y_led y_firstWrong h_kind h_page h_asked h_sent h_count h_wetSet f_dry f_askedUpTo f_costs f_roots f_size o_aheadOf o_ways o_count sorts slong mcells_n m_at m_readSlips m_read m_looked m_keptSees m_sumOfLeaves m_ledTo m_firstWrong m_dryOnes m_dryMany m_costs m_roots m_depth m_row m_placeOf) [0, 1, 2, 3, 4, 5, 6, 7, 8, 9, 10, 11, 12, 13, 14, 15, 16, 17, 18, 19, 20, 21, 22, 23, 24, 25, 26, 27, 28, 29, 30, 31, 32, 33, 34, 35, 36, 37, 38, 39, 40, 41, 42, 43, 44, 45, 46, 47, 48, 49, 50, 51, 52, 53, 54] rfl
      have hD := hD.sub (ws' := wL ad cI cR ques trc flt_n th la le (va_up cf 0 r_cells_n) kind page asked sees cnt wet which leaf rds d_fittingPages d_leastPage d_greatestPage e_kind e_page e_asked e_sent e_count e_wetSet y_leaves y_led y_firstWrong h_kind h_page h_asked h_sent h_count h_wetSet f_dry f_askedUpTo f_costs f_roots f_size o_aheadOf o_ways o_count sorts slong mcells_n m_at m_readSlips m_read m_looked m_keptSees m_sumOfLeaves m_ledTo m_firstWrong m_dryOnes m_dryMany m_costs m_roots m_depth m_row m_placeOf) [0, 1, 2, 3, 4, 5, 6, 7, 8, 9, 10, 11, 12, 13, 14, 15, 16, 17, 18, 19, 20, 21, 22, 23, 24, 25, 26, 27, 28, 29, 30, 31, 32, 33, 34, 35, 36, 37, 38, 39, 40, 41, 42, 43, 44, 45, 46, 47, 48, 49, 50, 51, 52, 53, 54] (by decide) rfl
      refine lv_icmp_eq (tgt := 1110) hx hb dL_law_977 (by decide) (fun _ => ?_) (fun h => absurd rfl h)
      exact kk _ _ _ _ _ _ _ _ _ _ _ _ _ _ _ _ _ _ _ _ _ _ _ _ _ _ _ _ _ _ _ _ _ _ _ _ _ _ _ _ _ _ _ _ _ _ _ _ _ _ _ _ _ _ _ _ _ _ _ _ _ _ _ hI hP hD hS hl
    · obtain ⟨rv, flt_n, q_cells_n, mcells_n, hTx, hTm, hI⟩ := T_copyD flt th la le cf kind page asked sees cnt wet which leaf rds f_askedUpTo f_costs sorts slong mcells 0 (by decide) 1 (by decide) (by decide) y1 y2 y3 y4 y5 hr4 hq4 hI
      refine lv_aload_n hx hb dL_law_919 rfl (lv_at hl 1 rfl) ?_
      refine lv_aload_n hx hb dL_law_920 rfl (lv_at hl 0 rfl) ?_
      refine lv_iload_n hx hb dL_law_921 rfl (lv_at hl 3 rfl) ?_
      refine lv_iconst (v := 1) hx hb dL_law_922 (by decide) ?_
      refine lv_iadd hx hb dL_law_923 ?_
      refine q_sld hx hb hX hbl hbA hS hi1 hy1 dL_law_924 ?_
      refine lv_aload_n hx hb dL_law_925 rfl (lv_at hl 0 rfl) ?_
      refine lv_iload_n hx hb dL_law_926 rfl (lv_at hl 3 rfl) ?_
      refine lv_iconst (v := 2) hx hb dL_law_927 (by decide) ?_
      refine lv_iadd hx hb dL_law_928 ?_
      refine q_sld hx hb hX hbl hbA hS hi2 hy2 dL_law_929 ?_
      refine lv_aload_n hx hb dL_law_930 rfl (lv_at hl 0 rfl) ?_
      refine lv_iload_n hx hb dL_law_931 rfl (lv_at hl 3 rfl) ?_
      refine lv_iconst (v := 3) hx hb dL_law_932 (by decide) ?_
      refine lv_iadd hx hb dL_law_933 ?_
      refine q_sld hx hb hX hbl hbA hS hi3 hy3 dL_law_934 ?_
      refine lv_aload_n hx hb dL_law_935 rfl (lv_at hl 0 rfl) ?_
      refine lv_iload_n hx hb dL_law_936 rfl (lv_at hl 3 rfl) ?_
      refine lv_iconst (v := 4) hx hb dL_law_937 (by decide) ?_
      refine lv_iadd hx hb dL_law_938 ?_
      refine q_sld hx hb hX hbl hbA hS hi4 hy4 dL_law_939 ?_
      refine lv_aload_n hx hb dL_law_940 rfl (lv_at hl 0 rfl) ?_
      refine lv_iload_n hx hb dL_law_941 rfl (lv_at hl 3 rfl) ?_
      refine lv_iconst (v := 5) hx hb dL_law_942 (by decide) ?_
      refine lv_iadd hx hb dL_law_943 ?_
      refine q_sld hx hb hX hbl hbA hS hi5 hy5 dL_law_944 ?_
      refine q_wVi (wr := [6, 7, 8, 9, 10, 11, 12, 13, 14, 15, 16, 17, 18, 19, 20, 21, 22, 23, 24, 25, 26, 27, 28, 29, 30, 31, 32, 33, 34, 35, 36, 37, 38, 39, 40, 41, 42, 43, 44, 45, 46, 47, 48, 49, 50, 51, 52, 53, 54].filterMap (fun i => (wL ad cI cR ques trc flt th la le cf kind page asked sees cnt wet which leaf rds d_fittingPages d_leastPage d_greatestPage e_kind e_page e_asked e_sent e_count e_wetSet y_leaves y_led y_firstWrong h_kind h_page h_asked h_sent h_count h_wetSet f_dry f_askedUpTo f_costs f_roots f_size o_aheadOf o_ways o_count sorts slong mcells m_at m_readSlips m_read m_looked m_keptSees m_sumOfLeaves m_ledTo m_firstWrong m_dryOnes m_dryMany m_costs m_roots m_depth m_row m_placeOf)[i]?)) (rest := []) ⟨hx, hb, hml, hown, hts⟩ (kX7_copyD l D cI cR (ad 0) (ad 1) (ad 10) (ad 15) (ad 23) (ad 29) (ad 34) (ad 2) (ad 3) (ad 4) (ad 5) (rwF ad) ques trc flt (cf 0) (th 0) (la 0) (le 0) (cf 1) (th 1) (la 1) (le 1) y1 y2 y3 y4 y5 (fun h => by rw [hr4 h]; rfl) (fun h => by rw [hq4 h]; rfl) (rv, flt_n, q_cells_n) hTx) (cwV 5 hts gT_X7_copy rfl rfl rfl (by decide +kernel) ⟨Nat.le_of_ble_eq_true rfl, Nat.le_of_ble_eq_true rfl⟩) hP hD hS hA hK hN [0, 1, 2, 3, 4, 5] [6, 7, 8, 9, 10, 11, 12, 13, 14, 15, 16, 17, 18, 19, 20, 21, 22, 23, 24, 25, 26, 27, 28, 29, 30, 31, 32, 33, 34, 35, 36, 37, 38, 39, 40, 41, 42, 43, 44, 45, 46, 47, 48, 49, 50, 51, 52, 53, 54] rfl rfl (by decide) (by decide) (by decide) (va_recv hK hP (ci := 6) (q0 := 0) rfl rfl) rfl hl.1 rfl (Nat.le_of_ble_eq_true rfl) dL_law_945 ⟨Nat.le_of_ble_eq_true rfl, Nat.le_of_ble_eq_true rfl⟩ (fun H locs hP hD hS => ?_)
      have hP := hP.sub (ws' := wL ad cI cR ques trc flt_n th la le (va_up cf 1 q_cells_n) kind page asked sees cnt wet which leaf rds d_fittingPages d_leastPage d_greatestPage e_kind e_page e_asked e_sent e_count e_wetSet y_leaves y_led y_firstWrong h_kind h_page h_asked h_sent h_count h_wetSet f_dry f_askedUpTo f_costs f_roots f_size o_aheadOf o_ways o_count sorts slong mcells m_at m_readSlips m_read m_looked m_keptSees m_sumOfLeaves m_ledTo m_firstWrong m_dryOnes m_dryMany m_costs m_roots m_depth m_row m_placeOf) [49, 50, 51, 52, 53, 54, 0, 1, 2, 3, 4, 5, 6, 7, 8, 9, 10, 11, 12, 13, 14, 15, 16, 17, 18, 19, 20, 21, 22, 23, 24, 25, 26, 27, 28, 29, 30, 31, 32, 33, 34, 35, 36, 37, 38, 39, 40, 41, 42, 43, 44, 45, 46, 47, 48] rfl
      have hD := hD.sub (ws' := wL ad cI cR ques trc flt_n th la le (va_up cf 1 q_cells_n) kind page asked sees cnt wet which leaf rds d_fittingPages d_leastPage d_greatestPage e_kind e_page e_asked e_sent e_count e_wetSet y_leaves y_led y_firstWrong h_kind h_page h_asked h_sent h_count h_wetSet f_dry f_askedUpTo f_costs f_roots f_size o_aheadOf o_ways o_count sorts slong mcells m_at m_readSlips m_read m_looked m_keptSees m_sumOfLeaves m_ledTo m_firstWrong m_dryOnes m_dryMany m_costs m_roots m_depth m_row m_placeOf) [49, 50, 51, 52, 53, 54, 0, 1, 2, 3, 4, 5, 6, 7, 8, 9, 10, 11, 12, 13, 14, 15, 16, 17, 18, 19, 20, 21, 22, 23, 24, 25, 26, 27, 28, 29, 30, 31, 32, 33, 34, 35, 36, 37, 38, 39, 40, 41, 42, 43, 44, 45, 46, 47, 48] (by decide) rfl
      refine lv_aload_n hx hb dL_law_948 rfl (lv_at hl 2 rfl) ?_
      refine lv_aload_n hx hb dL_law_949 rfl (lv_at hl 0 rfl) ?_
      refine lv_iload_n hx hb dL_law_950 rfl (lv_at hl 3 rfl) ?_
      refine lv_iconst (v := 1) hx hb dL_law_951 (by decide) ?_
      refine lv_iadd hx hb dL_law_952 ?_
      refine q_sld hx hb hX hbl hbA hS hi1 hy1 dL_law_953 ?_
      refine lv_aload_n hx hb dL_law_954 rfl (lv_at hl 0 rfl) ?_
      refine lv_iload_n hx hb dL_law_955 rfl (lv_at hl 3 rfl) ?_
      refine lv_iconst (v := 2) hx hb dL_law_956 (by decide) ?_
      refine lv_iadd hx hb dL_law_957 ?_
      refine q_sld hx hb hX hbl hbA hS hi2 hy2 dL_law_958 ?_
      refine lv_aload_n hx hb dL_law_959 rfl (lv_at hl 0 rfl) ?_
      refine lv_iload_n hx hb dL_law_960 rfl (lv_at hl 3 rfl) ?_
      refine lv_iconst (v := 3) hx hb dL_law_961 (by decide) ?_
      refine lv_iadd hx hb dL_law_962 ?_
      refine q_sld hx hb hX hbl hbA hS hi3 hy3 dL_law_963 ?_
      refine lv_aload_n hx hb dL_law_964 rfl (lv_at hl 0 rfl) ?_
      refine lv_iload_n hx hb dL_law_965 rfl (lv_at hl 3 rfl) ?_
      refine lv_iconst (v := 4) hx hb dL_law_966 (by decide) ?_
      refine lv_iadd hx hb dL_law_967 ?_
      refine q_sld hx hb hX hbl hbA hS hi4 hy4 dL_law_968 ?_
      refine lv_aload_n hx hb dL_law_969 rfl (lv_at hl 0 rfl) ?_
      refine lv_iload_n hx hb dL_law_970 rfl (lv_at hl 3 rfl) ?_
      refine lv_iconst (v := 5) hx hb dL_law_971 (by decide) ?_
      refine lv_iadd hx hb dL_law_972 ?_
      refine q_sld hx hb hX hbl hbA hS hi5 hy5 dL_law_973 ?_
      refine q_wVi (wr := [0, 1, 2, 3, 4, 5, 6, 7, 8, 9, 10, 11, 12, 13, 14, 15, 16, 17, 18, 19, 20, 21, 22, 23, 24, 25, 26, 27, 28, 29, 30, 31, 32, 33, 34, 35, 36].filterMap (fun i => (wL ad cI cR ques trc flt_n th la le (va_up cf 1 q_cells_n) kind page asked sees cnt wet which leaf rds d_fittingPages d_leastPage d_greatestPage e_kind e_page e_asked e_sent e_count e_wetSet y_leaves y_led y_firstWrong h_kind h_page h_asked h_sent h_count h_wetSet f_dry f_askedUpTo f_costs f_roots f_size o_aheadOf o_ways o_count sorts slong mcells m_at m_readSlips m_read m_looked m_keptSees m_sumOfLeaves m_ledTo m_firstWrong m_dryOnes m_dryMany m_costs m_roots m_depth m_row m_placeOf)[i]?)) (rest := [.int rv]) ⟨hx, hb, hml, hown, hts⟩ (kX8_copy l D cI cR (ad 37) (ad 38) (ad 39) (ad 40) (ad 41) (ad 42) (ad 43) (ad 44) (ad 45) (ad 46) (ad 47) (ad 48) (ad 49) (ad 50) (ad 51) (ad 52) (ad 53) (ad 54) flt_n trc sorts slong mcells cnt ques wet kind page asked sees m_at m_readSlips m_read m_looked m_keptSees m_sumOfLeaves m_ledTo m_firstWrong m_dryOnes m_dryMany m_costs m_roots m_depth m_row m_placeOf rds which leaf y1 y2 y3 y4 y5 (rv, flt_n, mcells_n) hTm) (cwV 5 hts gT_X8_copy rfl rfl rfl (by decide +kernel) ⟨Nat.le_of_ble_eq_true rfl, Nat.le_of_ble_eq_true rfl⟩) hP hD hS hA hK hN [37, 38, 39, 40, 41, 42, 43, 44, 45, 46, 47, 48, 49, 50, 51, 52, 53, 54] [0, 1, 2, 3, 4, 5, 6, 7, 8, 9, 10, 11, 12, 13, 14, 15, 16, 17, 18, 19, 20, 21, 22, 23, 24, 25, 26, 27, 28, 29, 30, 31, 32, 33, 34, 35, 36] rfl rfl (by decide) (by decide) (by decide) (va_recv hK hP (ci := 7) (q0 := 37) rfl rfl) rfl hl.1 rfl (Nat.le_of_ble_eq_true rfl) dL_law_974 ⟨Nat.le_of_ble_eq_true rfl, Nat.le_of_ble_eq_true rfl⟩ (fun H locs hP hD hS => ?_)
      have hP := hP.sub (ws' := wL ad cI cR ques trc flt_n th la le (va_up cf 1 q_cells_n) kind page asked sees cnt wet which leaf rds d_fittingPages d_leastPage d_greatestPage e_kind e_page e_asked e_sent e_count e_wetSet y_leaves y_led y_firstWrong h_kind h_page h_asked h_sent h_count h_wetSet f_dry f_askedUpTo f_costs f_roots f_size o_aheadOf o_ways o_count sorts slong mcells_n m_at m_readSlips m_read m_looked m_keptSees m_sumOfLeaves m_ledTo m_firstWrong m_dryOnes m_dryMany m_costs m_roots m_depth m_row m_placeOf) [0, 1, 2, 3, 4, 5, 6, 7, 8, 9, 10, 11, 12, 13, 14, 15, 16, 17, 18, 19, 20, 21, 22, 23, 24, 25, 26, 27, 28, 29, 30, 31, 32, 33, 34, 35, 36, 37, 38, 39, 40, 41, 42, 43, 44, 45, 46, 47, 48, 49, 50, 51, 52, 53, 54] rfl
      have hD := hD.sub (ws' := wL ad cI cR ques trc flt_n th la le (va_up cf 1 q_cells_n) kind page asked sees cnt wet which leaf rds d_fittingPages d_leastPage d_greatestPage e_kind e_page e_asked e_sent e_count e_wetSet y_leaves y_led y_firstWrong h_kind h_page h_asked h_sent h_count h_wetSet f_dry f_askedUpTo f_costs f_roots f_size o_aheadOf o_ways o_count sorts slong mcells_n m_at m_readSlips m_read m_looked m_keptSees m_sumOfLeaves m_ledTo m_firstWrong m_dryOnes m_dryMany m_costs m_roots m_depth m_row m_placeOf) [0, 1, 2, 3, 4, 5, 6, 7, 8, 9, 10, 11, 12, 13, 14, 15, 16, 17, 18, 19, 20, 21, 22, 23, 24, 25, 26, 27, 28, 29, 30, 31, 32, 33, 34, 35, 36, 37, 38, 39, 40, 41, 42, 43, 44, 45, 46, 47, 48, 49, 50, 51, 52, 53, 54] (by decide) rfl
      refine lv_icmp_eq (tgt := 1110) hx hb dL_law_977 (by decide) (fun _ => ?_) (fun h => absurd rfl h)
      exact kk _ _ _ _ _ _ _ _ _ _ _ _ _ _ _ _ _ _ _ _ _ _ _ _ _ _ _ _ _ _ _ _ _ _ _ _ _ _ _ _ _ _ _ _ _ _ _ _ _ _ _ _ _ _ _ _ _ _ _ _ _ _ _ hI hP hD hS hl
    · obtain ⟨rv, flt_n, q_cells_n, mcells_n, hTx, hTm, hI⟩ := T_copyD flt th la le cf kind page asked sees cnt wet which leaf rds f_askedUpTo f_costs sorts slong mcells 0 (by decide) 2 (by decide) (by decide) y1 y2 y3 y4 y5 hr4 hq4 hI
      refine lv_aload_n hx hb dL_law_919 rfl (lv_at hl 1 rfl) ?_
      refine lv_aload_n hx hb dL_law_920 rfl (lv_at hl 0 rfl) ?_
      refine lv_iload_n hx hb dL_law_921 rfl (lv_at hl 3 rfl) ?_
      refine lv_iconst (v := 1) hx hb dL_law_922 (by decide) ?_
      refine lv_iadd hx hb dL_law_923 ?_
      refine q_sld hx hb hX hbl hbA hS hi1 hy1 dL_law_924 ?_
      refine lv_aload_n hx hb dL_law_925 rfl (lv_at hl 0 rfl) ?_
      refine lv_iload_n hx hb dL_law_926 rfl (lv_at hl 3 rfl) ?_
      refine lv_iconst (v := 2) hx hb dL_law_927 (by decide) ?_
      refine lv_iadd hx hb dL_law_928 ?_
      refine q_sld hx hb hX hbl hbA hS hi2 hy2 dL_law_929 ?_
      refine lv_aload_n hx hb dL_law_930 rfl (lv_at hl 0 rfl) ?_
      refine lv_iload_n hx hb dL_law_931 rfl (lv_at hl 3 rfl) ?_
      refine lv_iconst (v := 3) hx hb dL_law_932 (by decide) ?_
      refine lv_iadd hx hb dL_law_933 ?_
      refine q_sld hx hb hX hbl hbA hS hi3 hy3 dL_law_934 ?_
      refine lv_aload_n hx hb dL_law_935 rfl (lv_at hl 0 rfl) ?_
      refine lv_iload_n hx hb dL_law_936 rfl (lv_at hl 3 rfl) ?_
      refine lv_iconst (v := 4) hx hb dL_law_937 (by decide) ?_
      refine lv_iadd hx hb dL_law_938 ?_
      refine q_sld hx hb hX hbl hbA hS hi4 hy4 dL_law_939 ?_
      refine lv_aload_n hx hb dL_law_940 rfl (lv_at hl 0 rfl) ?_
      refine lv_iload_n hx hb dL_law_941 rfl (lv_at hl 3 rfl) ?_
      refine lv_iconst (v := 5) hx hb dL_law_942 (by decide) ?_
      refine lv_iadd hx hb dL_law_943 ?_
      refine q_sld hx hb hX hbl hbA hS hi5 hy5 dL_law_944 ?_
      refine q_wVi (wr := [4, 5, 8, 9, 10, 11, 12, 13, 14, 15, 16, 17, 18, 19, 20, 21, 22, 23, 24, 25, 26, 27, 28, 29, 30, 31, 32, 33, 34, 35, 36, 37, 38, 39, 40, 41, 42, 43, 44, 45, 46, 47, 48, 49, 50, 51, 52, 53, 54].filterMap (fun i => (wL ad cI cR ques trc flt th la le cf kind page asked sees cnt wet which leaf rds d_fittingPages d_leastPage d_greatestPage e_kind e_page e_asked e_sent e_count e_wetSet y_leaves y_led y_firstWrong h_kind h_page h_asked h_sent h_count h_wetSet f_dry f_askedUpTo f_costs f_roots f_size o_aheadOf o_ways o_count sorts slong mcells m_at m_readSlips m_read m_looked m_keptSees m_sumOfLeaves m_ledTo m_firstWrong m_dryOnes m_dryMany m_costs m_roots m_depth m_row m_placeOf)[i]?)) (rest := []) ⟨hx, hb, hml, hown, hts⟩ (kX7_copyD l D cI cR (ad 0) (ad 1) (ad 10) (ad 15) (ad 23) (ad 29) (ad 34) (ad 2) (ad 3) (ad 6) (ad 7) (rwF ad) ques trc flt (cf 0) (th 0) (la 0) (le 0) (cf 2) (th 2) (la 2) (le 2) y1 y2 y3 y4 y5 (fun h => by rw [hr4 h]; rfl) (fun h => by rw [hq4 h]; rfl) (rv, flt_n, q_cells_n) hTx) (cwV 5 hts gT_X7_copy rfl rfl rfl (by decide +kernel) ⟨Nat.le_of_ble_eq_true rfl, Nat.le_of_ble_eq_true rfl⟩) hP hD hS hA hK hN [0, 1, 2, 3, 6, 7] [4, 5, 8, 9, 10, 11, 12, 13, 14, 15, 16, 17, 18, 19, 20, 21, 22, 23, 24, 25, 26, 27, 28, 29, 30, 31, 32, 33, 34, 35, 36, 37, 38, 39, 40, 41, 42, 43, 44, 45, 46, 47, 48, 49, 50, 51, 52, 53, 54] rfl rfl (by decide) (by decide) (by decide) (va_recv hK hP (ci := 6) (q0 := 0) rfl rfl) rfl hl.1 rfl (Nat.le_of_ble_eq_true rfl) dL_law_945 ⟨Nat.le_of_ble_eq_true rfl, Nat.le_of_ble_eq_true rfl⟩ (fun H locs hP hD hS => ?_)
      have hP := hP.sub (ws' := wL ad cI cR ques trc flt_n th la le (va_up cf 2 q_cells_n) kind page asked sees cnt wet which leaf rds d_fittingPages d_leastPage d_greatestPage e_kind e_page e_asked e_sent e_count e_wetSet y_leaves y_led y_firstWrong h_kind h_page h_asked h_sent h_count h_wetSet f_dry f_askedUpTo f_costs f_roots f_size o_aheadOf o_ways o_count sorts slong mcells m_at m_readSlips m_read m_looked m_keptSees m_sumOfLeaves m_ledTo m_firstWrong m_dryOnes m_dryMany m_costs m_roots m_depth m_row m_placeOf) [49, 50, 51, 52, 0, 1, 53, 54, 2, 3, 4, 5, 6, 7, 8, 9, 10, 11, 12, 13, 14, 15, 16, 17, 18, 19, 20, 21, 22, 23, 24, 25, 26, 27, 28, 29, 30, 31, 32, 33, 34, 35, 36, 37, 38, 39, 40, 41, 42, 43, 44, 45, 46, 47, 48] rfl
      have hD := hD.sub (ws' := wL ad cI cR ques trc flt_n th la le (va_up cf 2 q_cells_n) kind page asked sees cnt wet which leaf rds d_fittingPages d_leastPage d_greatestPage e_kind e_page e_asked e_sent e_count e_wetSet y_leaves y_led y_firstWrong h_kind h_page h_asked h_sent h_count h_wetSet f_dry f_askedUpTo f_costs f_roots f_size o_aheadOf o_ways o_count sorts slong mcells m_at m_readSlips m_read m_looked m_keptSees m_sumOfLeaves m_ledTo m_firstWrong m_dryOnes m_dryMany m_costs m_roots m_depth m_row m_placeOf) [49, 50, 51, 52, 0, 1, 53, 54, 2, 3, 4, 5, 6, 7, 8, 9, 10, 11, 12, 13, 14, 15, 16, 17, 18, 19, 20, 21, 22, 23, 24, 25, 26, 27, 28, 29, 30, 31, 32, 33, 34, 35, 36, 37, 38, 39, 40, 41, 42, 43, 44, 45, 46, 47, 48] (by decide) rfl
      refine lv_aload_n hx hb dL_law_948 rfl (lv_at hl 2 rfl) ?_
      refine lv_aload_n hx hb dL_law_949 rfl (lv_at hl 0 rfl) ?_
      refine lv_iload_n hx hb dL_law_950 rfl (lv_at hl 3 rfl) ?_
      refine lv_iconst (v := 1) hx hb dL_law_951 (by decide) ?_
      refine lv_iadd hx hb dL_law_952 ?_
      refine q_sld hx hb hX hbl hbA hS hi1 hy1 dL_law_953 ?_
      refine lv_aload_n hx hb dL_law_954 rfl (lv_at hl 0 rfl) ?_
      refine lv_iload_n hx hb dL_law_955 rfl (lv_at hl 3 rfl) ?_
      refine lv_iconst (v := 2) hx hb dL_law_956 (by decide) ?_
      refine lv_iadd hx hb dL_law_957 ?_
      refine q_sld hx hb hX hbl hbA hS hi2 hy2 dL_law_958 ?_
      refine lv_aload_n hx hb dL_law_959 rfl (lv_at hl 0 rfl) ?_
      refine lv_iload_n hx hb dL_law_960 rfl (lv_at hl 3 rfl) ?_
      refine lv_iconst (v := 3) hx hb dL_law_961 (by decide) ?_
      refine lv_iadd hx hb dL_law_962 ?_
      refine q_sld hx hb hX hbl hbA hS hi3 hy3 dL_law_963 ?_
      refine lv_aload_n hx hb dL_law_964 rfl (lv_at hl 0 rfl) ?_
      refine lv_iload_n hx hb dL_law_965 rfl (lv_at hl 3 rfl) ?_
      refine lv_iconst (v := 4) hx hb dL_law_966 (by decide) ?_
      refine lv_iadd hx hb dL_law_967 ?_
      refine q_sld hx hb hX hbl hbA hS hi4 hy4 dL_law_968 ?_
      refine lv_aload_n hx hb dL_law_969 rfl (lv_at hl 0 rfl) ?_
      refine lv_iload_n hx hb dL_law_970 rfl (lv_at hl 3 rfl) ?_
      refine lv_iconst (v := 5) hx hb dL_law_971 (by decide) ?_
      refine lv_iadd hx hb dL_law_972 ?_
      refine q_sld hx hb hX hbl hbA hS hi5 hy5 dL_law_973 ?_
      refine q_wVi (wr := [0, 1, 2, 3, 4, 5, 6, 7, 8, 9, 10, 11, 12, 13, 14, 15, 16, 17, 18, 19, 20, 21, 22, 23, 24, 25, 26, 27, 28, 29, 30, 31, 32, 33, 34, 35, 36].filterMap (fun i => (wL ad cI cR ques trc flt_n th la le (va_up cf 2 q_cells_n) kind page asked sees cnt wet which leaf rds d_fittingPages d_leastPage d_greatestPage e_kind e_page e_asked e_sent e_count e_wetSet y_leaves y_led y_firstWrong h_kind h_page h_asked h_sent h_count h_wetSet f_dry f_askedUpTo f_costs f_roots f_size o_aheadOf o_ways o_count sorts slong mcells m_at m_readSlips m_read m_looked m_keptSees m_sumOfLeaves m_ledTo m_firstWrong m_dryOnes m_dryMany m_costs m_roots m_depth m_row m_placeOf)[i]?)) (rest := [.int rv]) ⟨hx, hb, hml, hown, hts⟩ (kX8_copy l D cI cR (ad 37) (ad 38) (ad 39) (ad 40) (ad 41) (ad 42) (ad 43) (ad 44) (ad 45) (ad 46) (ad 47) (ad 48) (ad 49) (ad 50) (ad 51) (ad 52) (ad 53) (ad 54) flt_n trc sorts slong mcells cnt ques wet kind page asked sees m_at m_readSlips m_read m_looked m_keptSees m_sumOfLeaves m_ledTo m_firstWrong m_dryOnes m_dryMany m_costs m_roots m_depth m_row m_placeOf rds which leaf y1 y2 y3 y4 y5 (rv, flt_n, mcells_n) hTm) (cwV 5 hts gT_X8_copy rfl rfl rfl (by decide +kernel) ⟨Nat.le_of_ble_eq_true rfl, Nat.le_of_ble_eq_true rfl⟩) hP hD hS hA hK hN [37, 38, 39, 40, 41, 42, 43, 44, 45, 46, 47, 48, 49, 50, 51, 52, 53, 54] [0, 1, 2, 3, 4, 5, 6, 7, 8, 9, 10, 11, 12, 13, 14, 15, 16, 17, 18, 19, 20, 21, 22, 23, 24, 25, 26, 27, 28, 29, 30, 31, 32, 33, 34, 35, 36] rfl rfl (by decide) (by decide) (by decide) (va_recv hK hP (ci := 7) (q0 := 37) rfl rfl) rfl hl.1 rfl (Nat.le_of_ble_eq_true rfl) dL_law_974 ⟨Nat.le_of_ble_eq_true rfl, Nat.le_of_ble_eq_true rfl⟩ (fun H locs hP hD hS => ?_)
      have hP := hP.sub (ws' := wL ad cI cR ques trc flt_n th la le (va_up cf 2 q_cells_n) kind page asked sees cnt wet which leaf rds d_fittingPages d_leastPage d_greatestPage e_kind e_page e_asked e_sent e_count e_wetSet y_leaves y_led y_firstWrong h_kind h_page h_asked h_sent h_count h_wetSet f_dry f_askedUpTo f_costs f_roots f_size o_aheadOf o_ways o_count sorts slong mcells_n m_at m_readSlips m_read m_looked m_keptSees m_sumOfLeaves m_ledTo m_firstWrong m_dryOnes m_dryMany m_costs m_roots m_depth m_row m_placeOf) [0, 1, 2, 3, 4, 5, 6, 7, 8, 9, 10, 11, 12, 13, 14, 15, 16, 17, 18, 19, 20, 21, 22, 23, 24, 25, 26, 27, 28, 29, 30, 31, 32, 33, 34, 35, 36, 37, 38, 39, 40, 41, 42, 43, 44, 45, 46, 47, 48, 49, 50, 51, 52, 53, 54] rfl
      have hD := hD.sub (ws' := wL ad cI cR ques trc flt_n th la le (va_up cf 2 q_cells_n) kind page asked sees cnt wet which leaf rds d_fittingPages d_leastPage d_greatestPage e_kind e_page e_asked e_sent e_count e_wetSet y_leaves y_led y_firstWrong h_kind h_page h_asked h_sent h_count h_wetSet f_dry f_askedUpTo f_costs f_roots f_size o_aheadOf o_ways o_count sorts slong mcells_n m_at m_readSlips m_read m_looked m_keptSees m_sumOfLeaves m_ledTo m_firstWrong m_dryOnes m_dryMany m_costs m_roots m_depth m_row m_placeOf) [0, 1, 2, 3, 4, 5, 6, 7, 8, 9, 10, 11, 12, 13, 14, 15, 16, 17, 18, 19, 20, 21, 22, 23, 24, 25, 26, 27, 28, 29, 30, 31, 32, 33, 34, 35, 36, 37, 38, 39, 40, 41, 42, 43, 44, 45, 46, 47, 48, 49, 50, 51, 52, 53, 54] (by decide) rfl
      refine lv_icmp_eq (tgt := 1110) hx hb dL_law_977 (by decide) (fun _ => ?_) (fun h => absurd rfl h)
      exact kk _ _ _ _ _ _ _ _ _ _ _ _ _ _ _ _ _ _ _ _ _ _ _ _ _ _ _ _ _ _ _ _ _ _ _ _ _ _ _ _ _ _ _ _ _ _ _ _ _ _ _ _ _ _ _ _ _ _ _ _ _ _ _ hI hP hD hS hl
    · obtain ⟨rv, flt_n, q_cells_n, mcells_n, hTx, hTm, hI⟩ := T_copyD flt th la le cf kind page asked sees cnt wet which leaf rds f_askedUpTo f_costs sorts slong mcells 0 (by decide) 3 (by decide) (by decide) y1 y2 y3 y4 y5 hr4 hq4 hI
      refine lv_aload_n hx hb dL_law_919 rfl (lv_at hl 1 rfl) ?_
      refine lv_aload_n hx hb dL_law_920 rfl (lv_at hl 0 rfl) ?_
      refine lv_iload_n hx hb dL_law_921 rfl (lv_at hl 3 rfl) ?_
      refine lv_iconst (v := 1) hx hb dL_law_922 (by decide) ?_
      refine lv_iadd hx hb dL_law_923 ?_
      refine q_sld hx hb hX hbl hbA hS hi1 hy1 dL_law_924 ?_
      refine lv_aload_n hx hb dL_law_925 rfl (lv_at hl 0 rfl) ?_
      refine lv_iload_n hx hb dL_law_926 rfl (lv_at hl 3 rfl) ?_
      refine lv_iconst (v := 2) hx hb dL_law_927 (by decide) ?_
      refine lv_iadd hx hb dL_law_928 ?_
      refine q_sld hx hb hX hbl hbA hS hi2 hy2 dL_law_929 ?_
      refine lv_aload_n hx hb dL_law_930 rfl (lv_at hl 0 rfl) ?_
      refine lv_iload_n hx hb dL_law_931 rfl (lv_at hl 3 rfl) ?_
      refine lv_iconst (v := 3) hx hb dL_law_932 (by decide) ?_
      refine lv_iadd hx hb dL_law_933 ?_
      refine q_sld hx hb hX hbl hbA hS hi3 hy3 dL_law_934 ?_
      refine lv_aload_n hx hb dL_law_935 rfl (lv_at hl 0 rfl) ?_
      refine lv_iload_n hx hb dL_law_936 rfl (lv_at hl 3 rfl) ?_
      refine lv_iconst (v := 4) hx hb dL_law_937 (by decide) ?_
      refine lv_iadd hx hb dL_law_938 ?_
      refine q_sld hx hb hX hbl hbA hS hi4 hy4 dL_law_939 ?_
      refine lv_aload_n hx hb dL_law_940 rfl (lv_at hl 0 rfl) ?_
      refine lv_iload_n hx hb dL_law_941 rfl (lv_at hl 3 rfl) ?_
      refine lv_iconst (v := 5) hx hb dL_law_942 (by decide) ?_
      refine lv_iadd hx hb dL_law_943 ?_
      refine q_sld hx hb hX hbl hbA hS hi5 hy5 dL_law_944 ?_
      refine q_wVi (wr := [4, 5, 6, 7, 10, 11, 12, 13, 14, 15, 16, 17, 18, 19, 20, 21, 22, 23, 24, 25, 26, 27, 28, 29, 30, 31, 32, 33, 34, 35, 36, 37, 38, 39, 40, 41, 42, 43, 44, 45, 46, 47, 48, 49, 50, 51, 52, 53, 54].filterMap (fun i => (wL ad cI cR ques trc flt th la le cf kind page asked sees cnt wet which leaf rds d_fittingPages d_leastPage d_greatestPage e_kind e_page e_asked e_sent e_count e_wetSet y_leaves y_led y_firstWrong h_kind h_page h_asked h_sent h_count h_wetSet f_dry f_askedUpTo f_costs f_roots f_size o_aheadOf o_ways o_count sorts slong mcells m_at m_readSlips m_read m_looked m_keptSees m_sumOfLeaves m_ledTo m_firstWrong m_dryOnes m_dryMany m_costs m_roots m_depth m_row m_placeOf)[i]?)) (rest := []) ⟨hx, hb, hml, hown, hts⟩ (kX7_copyD l D cI cR (ad 0) (ad 1) (ad 10) (ad 15) (ad 23) (ad 29) (ad 34) (ad 2) (ad 3) (ad 8) (ad 9) (rwF ad) ques trc flt (cf 0) (th 0) (la 0) (le 0) (cf 3) (th 3) (la 3) (le 3) y1 y2 y3 y4 y5 (fun h => by rw [hr4 h]; rfl) (fun h => by rw [hq4 h]; rfl) (rv, flt_n, q_cells_n) hTx) (cwV 5 hts gT_X7_copy rfl rfl rfl (by decide +kernel) ⟨Nat.le_of_ble_eq_true rfl, Nat.le_of_ble_eq_true rfl⟩) hP hD hS hA hK hN [0, 1, 2, 3, 8, 9] [4, 5, 6, 7, 10, 11, 12, 13, 14, 15, 16, 17, 18, 19, 20, 21, 22, 23, 24, 25, 26, 27, 28, 29, 30, 31, 32, 33, 34, 35, 36, 37, 38, 39, 40, 41, 42, 43, 44, 45, 46, 47, 48, 49, 50, 51, 52, 53, 54] rfl rfl (by decide) (by decide) (by decide) (va_recv hK hP (ci := 6) (q0 := 0) rfl rfl) rfl hl.1 rfl (Nat.le_of_ble_eq_true rfl) dL_law_945 ⟨Nat.le_of_ble_eq_true rfl, Nat.le_of_ble_eq_true rfl⟩ (fun H locs hP hD hS => ?_)
      have hP := hP.sub (ws' := wL ad cI cR ques trc flt_n th la le (va_up cf 3 q_cells_n) kind page asked sees cnt wet which leaf rds d_fittingPages d_leastPage d_greatestPage e_kind e_page e_asked e_sent e_count e_wetSet y_leaves y_led y_firstWrong h_kind h_page h_asked h_sent h_count h_wetSet f_dry f_askedUpTo f_costs f_roots f_size o_aheadOf o_ways o_count sorts slong mcells m_at m_readSlips m_read m_looked m_keptSees m_sumOfLeaves m_ledTo m_firstWrong m_dryOnes m_dryMany m_costs m_roots m_depth m_row m_placeOf) [49, 50, 51, 52, 0, 1, 2, 3, 53, 54, 4, 5, 6, 7, 8, 9, 10, 11, 12, 13, 14, 15, 16, 17, 18, 19, 20, 21, 22, 23, 24, 25, 26, 27, 28, 29, 30, 31, 32, 33, 34, 35, 36, 37, 38, 39, 40, 41, 42, 43, 44, 45, 46, 47, 48] rfl
      have hD := hD.sub (ws' := wL ad cI cR ques trc flt_n th la le (va_up cf 3 q_cells_n) kind page asked sees cnt wet which leaf rds d_fittingPages d_leastPage d_greatestPage e_kind e_page e_asked e_sent e_count e_wetSet y_leaves y_led y_firstWrong h_kind h_page h_asked h_sent h_count h_wetSet f_dry f_askedUpTo f_costs f_roots f_size o_aheadOf o_ways o_count sorts slong mcells m_at m_readSlips m_read m_looked m_keptSees m_sumOfLeaves m_ledTo m_firstWrong m_dryOnes m_dryMany m_costs m_roots m_depth m_row m_placeOf) [49, 50, 51, 52, 0, 1, 2, 3, 53, 54, 4, 5, 6, 7, 8, 9, 10, 11, 12, 13, 14, 15, 16, 17, 18, 19, 20, 21, 22, 23, 24, 25, 26, 27, 28, 29, 30, 31, 32, 33, 34, 35, 36, 37, 38, 39, 40, 41, 42, 43, 44, 45, 46, 47, 48] (by decide) rfl
      refine lv_aload_n hx hb dL_law_948 rfl (lv_at hl 2 rfl) ?_
      refine lv_aload_n hx hb dL_law_949 rfl (lv_at hl 0 rfl) ?_
      refine lv_iload_n hx hb dL_law_950 rfl (lv_at hl 3 rfl) ?_
      refine lv_iconst (v := 1) hx hb dL_law_951 (by decide) ?_
      refine lv_iadd hx hb dL_law_952 ?_
      refine q_sld hx hb hX hbl hbA hS hi1 hy1 dL_law_953 ?_
      refine lv_aload_n hx hb dL_law_954 rfl (lv_at hl 0 rfl) ?_
      refine lv_iload_n hx hb dL_law_955 rfl (lv_at hl 3 rfl) ?_
      refine lv_iconst (v := 2) hx hb dL_law_956 (by decide) ?_
      refine lv_iadd hx hb dL_law_957 ?_
      refine q_sld hx hb hX hbl hbA hS hi2 hy2 dL_law_958 ?_
      refine lv_aload_n hx hb dL_law_959 rfl (lv_at hl 0 rfl) ?_
      refine lv_iload_n hx hb dL_law_960 rfl (lv_at hl 3 rfl) ?_
      refine lv_iconst (v := 3) hx hb dL_law_961 (by decide) ?_
      refine lv_iadd hx hb dL_law_962 ?_
      refine q_sld hx hb hX hbl hbA hS hi3 hy3 dL_law_963 ?_
      refine lv_aload_n hx hb dL_law_964 rfl (lv_at hl 0 rfl) ?_
      refine lv_iload_n hx hb dL_law_965 rfl (lv_at hl 3 rfl) ?_
      refine lv_iconst (v := 4) hx hb dL_law_966 (by decide) ?_
      refine lv_iadd hx hb dL_law_967 ?_
      refine q_sld hx hb hX hbl hbA hS hi4 hy4 dL_law_968 ?_
      refine lv_aload_n hx hb dL_law_969 rfl (lv_at hl 0 rfl) ?_
      refine lv_iload_n hx hb dL_law_970 rfl (lv_at hl 3 rfl) ?_
      refine lv_iconst (v := 5) hx hb dL_law_971 (by decide) ?_
      refine lv_iadd hx hb dL_law_972 ?_
      refine q_sld hx hb hX hbl hbA hS hi5 hy5 dL_law_973 ?_
      refine q_wVi (wr := [0, 1, 2, 3, 4, 5, 6, 7, 8, 9, 10, 11, 12, 13, 14, 15, 16, 17, 18, 19, 20, 21, 22, 23, 24, 25, 26, 27, 28, 29, 30, 31, 32, 33, 34, 35, 36].filterMap (fun i => (wL ad cI cR ques trc flt_n th la le (va_up cf 3 q_cells_n) kind page asked sees cnt wet which leaf rds d_fittingPages d_leastPage d_greatestPage e_kind e_page e_asked e_sent e_count e_wetSet y_leaves y_led y_firstWrong h_kind h_page h_asked h_sent h_count h_wetSet f_dry f_askedUpTo f_costs f_roots f_size o_aheadOf o_ways o_count sorts slong mcells m_at m_readSlips m_read m_looked m_keptSees m_sumOfLeaves m_ledTo m_firstWrong m_dryOnes m_dryMany m_costs m_roots m_depth m_row m_placeOf)[i]?)) (rest := [.int rv]) ⟨hx, hb, hml, hown, hts⟩ (kX8_copy l D cI cR (ad 37) (ad 38) (ad 39) (ad 40) (ad 41) (ad 42) (ad 43) (ad 44) (ad 45) (ad 46) (ad 47) (ad 48) (ad 49) (ad 50) (ad 51) (ad 52) (ad 53) (ad 54) flt_n trc sorts slong mcells cnt ques wet kind page asked sees m_at m_readSlips m_read m_looked m_keptSees m_sumOfLeaves m_ledTo m_firstWrong m_dryOnes m_dryMany m_costs m_roots m_depth m_row m_placeOf rds which leaf y1 y2 y3 y4 y5 (rv, flt_n, mcells_n) hTm) (cwV 5 hts gT_X8_copy rfl rfl rfl (by decide +kernel) ⟨Nat.le_of_ble_eq_true rfl, Nat.le_of_ble_eq_true rfl⟩) hP hD hS hA hK hN [37, 38, 39, 40, 41, 42, 43, 44, 45, 46, 47, 48, 49, 50, 51, 52, 53, 54] [0, 1, 2, 3, 4, 5, 6, 7, 8, 9, 10, 11, 12, 13, 14, 15, 16, 17, 18, 19, 20, 21, 22, 23, 24, 25, 26, 27, 28, 29, 30, 31, 32, 33, 34, 35, 36] rfl rfl (by decide) (by decide) (by decide) (va_recv hK hP (ci := 7) (q0 := 37) rfl rfl) rfl hl.1 rfl (Nat.le_of_ble_eq_true rfl) dL_law_974 ⟨Nat.le_of_ble_eq_true rfl, Nat.le_of_ble_eq_true rfl⟩ (fun H locs hP hD hS => ?_)
      have hP := hP.sub (ws' := wL ad cI cR ques trc flt_n th la le (va_up cf 3 q_cells_n) kind page asked sees cnt wet which leaf rds d_fittingPages d_leastPage d_greatestPage e_kind e_page e_asked e_sent e_count e_wetSet y_leaves y_led y_firstWrong h_kind h_page h_asked h_sent h_count h_wetSet f_dry f_askedUpTo f_costs f_roots f_size o_aheadOf o_ways o_count sorts slong mcells_n m_at m_readSlips m_read m_looked m_keptSees m_sumOfLeaves m_ledTo m_firstWrong m_dryOnes m_dryMany m_costs m_roots m_depth m_row m_placeOf) [0, 1, 2, 3, 4, 5, 6, 7, 8, 9, 10, 11, 12, 13, 14, 15, 16, 17, 18, 19, 20, 21, 22, 23, 24, 25, 26, 27, 28, 29, 30, 31, 32, 33, 34, 35, 36, 37, 38, 39, 40, 41, 42, 43, 44, 45, 46, 47, 48, 49, 50, 51, 52, 53, 54] rfl
      have hD := hD.sub (ws' := wL ad cI cR ques trc flt_n th la le (va_up cf 3 q_cells_n) kind page asked sees cnt wet which leaf rds d_fittingPages d_leastPage d_greatestPage e_kind e_page e_asked e_sent e_count e_wetSet y_leaves y_led y_firstWrong h_kind h_page h_asked h_sent h_count h_wetSet f_dry f_askedUpTo f_costs f_roots f_size o_aheadOf o_ways o_count sorts slong mcells_n m_at m_readSlips m_read m_looked m_keptSees m_sumOfLeaves m_ledTo m_firstWrong m_dryOnes m_dryMany m_costs m_roots m_depth m_row m_placeOf) [0, 1, 2, 3, 4, 5, 6, 7, 8, 9, 10, 11, 12, 13, 14, 15, 16, 17, 18, 19, 20, 21, 22, 23, 24, 25, 26, 27, 28, 29, 30, 31, 32, 33, 34, 35, 36, 37, 38, 39, 40, 41, 42, 43, 44, 45, 46, 47, 48, 49, 50, 51, 52, 53, 54] (by decide) rfl
      refine lv_icmp_eq (tgt := 1110) hx hb dL_law_977 (by decide) (fun _ => ?_) (fun h => absurd rfl h)
      exact kk _ _ _ _ _ _ _ _ _ _ _ _ _ _ _ _ _ _ _ _ _ _ _ _ _ _ _ _ _ _ _ _ _ _ _ _ _ _ _ _ _ _ _ _ _ _ _ _ _ _ _ _ _ _ _ _ _ _ _ _ _ _ _ hI hP hD hS hl
  · rcases (show k2 = 0 ∨ k2 = 1 ∨ k2 = 2 ∨ k2 = 3 by omega) with rfl | rfl | rfl | rfl
    · obtain ⟨rv, flt_n, q_cells_n, mcells_n, hTx, hTm, hI⟩ := T_copyD flt th la le cf kind page asked sees cnt wet which leaf rds f_askedUpTo f_costs sorts slong mcells 1 (by decide) 0 (by decide) (by decide) y1 y2 y3 y4 y5 hr4 hq4 hI
      refine lv_aload_n hx hb dL_law_919 rfl (lv_at hl 1 rfl) ?_
      refine lv_aload_n hx hb dL_law_920 rfl (lv_at hl 0 rfl) ?_
      refine lv_iload_n hx hb dL_law_921 rfl (lv_at hl 3 rfl) ?_
      refine lv_iconst (v := 1) hx hb dL_law_922 (by decide) ?_
      refine lv_iadd hx hb dL_law_923 ?_
      refine q_sld hx hb hX hbl hbA hS hi1 hy1 dL_law_924 ?_
      refine lv_aload_n hx hb dL_law_925 rfl (lv_at hl 0 rfl) ?_
      refine lv_iload_n hx hb dL_law_926 rfl (lv_at hl 3 rfl) ?_
      refine lv_iconst (v := 2) hx hb dL_law_927 (by decide) ?_
      refine lv_iadd hx hb dL_law_928 ?_
      refine q_sld hx hb hX hbl hbA hS hi2 hy2 dL_law_929 ?_
      refine lv_aload_n hx hb dL_law_930 rfl (lv_at hl 0 rfl) ?_
      refine lv_iload_n hx hb dL_law_931 rfl (lv_at hl 3 rfl) ?_
      refine lv_iconst (v := 3) hx hb dL_law_932 (by decide) ?_
      refine lv_iadd hx hb dL_law_933 ?_
      refine q_sld hx hb hX hbl hbA hS hi3 hy3 dL_law_934 ?_
      refine lv_aload_n hx hb dL_law_935 rfl (lv_at hl 0 rfl) ?_
      refine lv_iload_n hx hb dL_law_936 rfl (lv_at hl 3 rfl) ?_
      refine lv_iconst (v := 4) hx hb dL_law_937 (by decide) ?_
      refine lv_iadd hx hb dL_law_938 ?_
      refine q_sld hx hb hX hbl hbA hS hi4 hy4 dL_law_939 ?_
      refine lv_aload_n hx hb dL_law_940 rfl (lv_at hl 0 rfl) ?_
      refine lv_iload_n hx hb dL_law_941 rfl (lv_at hl 3 rfl) ?_
      refine lv_iconst (v := 5) hx hb dL_law_942 (by decide) ?_
      refine lv_iadd hx hb dL_law_943 ?_
      refine q_sld hx hb hX hbl hbA hS hi5 hy5 dL_law_944 ?_
      refine q_wVi (wr := [6, 7, 8, 9, 10, 11, 12, 13, 14, 15, 16, 17, 18, 19, 20, 21, 22, 23, 24, 25, 26, 27, 28, 29, 30, 31, 32, 33, 34, 35, 36, 37, 38, 39, 40, 41, 42, 43, 44, 45, 46, 47, 48, 49, 50, 51, 52, 53, 54].filterMap (fun i => (wL ad cI cR ques trc flt th la le cf kind page asked sees cnt wet which leaf rds d_fittingPages d_leastPage d_greatestPage e_kind e_page e_asked e_sent e_count e_wetSet y_leaves y_led y_firstWrong h_kind h_page h_asked h_sent h_count h_wetSet f_dry f_askedUpTo f_costs f_roots f_size o_aheadOf o_ways o_count sorts slong mcells m_at m_readSlips m_read m_looked m_keptSees m_sumOfLeaves m_ledTo m_firstWrong m_dryOnes m_dryMany m_costs m_roots m_depth m_row m_placeOf)[i]?)) (rest := []) ⟨hx, hb, hml, hown, hts⟩ (kX7_copyD l D cI cR (ad 0) (ad 1) (ad 10) (ad 15) (ad 23) (ad 29) (ad 34) (ad 4) (ad 5) (ad 2) (ad 3) (rwF ad) ques trc flt (cf 1) (th 1) (la 1) (le 1) (cf 0) (th 0) (la 0) (le 0) y1 y2 y3 y4 y5 (fun h => by rw [hr4 h]; rfl) (fun h => by rw [hq4 h]; rfl) (rv, flt_n, q_cells_n) hTx) (cwV 5 hts gT_X7_copy rfl rfl rfl (by decide +kernel) ⟨Nat.le_of_ble_eq_true rfl, Nat.le_of_ble_eq_true rfl⟩) hP hD hS hA hK hN [0, 1, 4, 5, 2, 3] [6, 7, 8, 9, 10, 11, 12, 13, 14, 15, 16, 17, 18, 19, 20, 21, 22, 23, 24, 25, 26, 27, 28, 29, 30, 31, 32, 33, 34, 35, 36, 37, 38, 39, 40, 41, 42, 43, 44, 45, 46, 47, 48, 49, 50, 51, 52, 53, 54] rfl rfl (by decide) (by decide) (by decide) (va_recv hK hP (ci := 6) (q0 := 0) rfl rfl) rfl hl.1 rfl (Nat.le_of_ble_eq_true rfl) dL_law_945 ⟨Nat.le_of_ble_eq_true rfl, Nat.le_of_ble_eq_true rfl⟩ (fun H locs hP hD hS => ?_)
      have hP := hP.sub (ws' := wL ad cI cR ques trc flt_n th la le (va_up cf 0 q_cells_n) kind page asked sees cnt wet which leaf rds d_fittingPages d_leastPage d_greatestPage e_kind e_page e_asked e_sent e_count e_wetSet y_leaves y_led y_firstWrong h_kind h_page h_asked h_sent h_count h_wetSet f_dry f_askedUpTo f_costs f_roots f_size o_aheadOf o_ways o_count sorts slong mcells m_at m_readSlips m_read m_looked m_keptSees m_sumOfLeaves m_ledTo m_firstWrong m_dryOnes m_dryMany m_costs m_roots m_depth m_row m_placeOf) [49, 50, 53, 54, 51, 52, 0, 1, 2, 3, 4, 5, 6, 7, 8, 9, 10, 11, 12, 13, 14, 15, 16, 17, 18, 19, 20, 21, 22, 23, 24, 25, 26, 27, 28, 29, 30, 31, 32, 33, 34, 35, 36, 37, 38, 39, 40, 41, 42, 43, 44, 45, 46, 47, 48] rfl
      have hD := hD.sub (ws' := wL ad cI cR ques trc flt_n th la le (va_up cf 0 q_cells_n) kind page asked sees cnt wet which leaf rds d_fittingPages d_leastPage d_greatestPage e_kind e_page e_asked e_sent e_count e_wetSet y_leaves y_led y_firstWrong h_kind h_page h_asked h_sent h_count h_wetSet f_dry f_askedUpTo f_costs f_roots f_size o_aheadOf o_ways o_count sorts slong mcells m_at m_readSlips m_read m_looked m_keptSees m_sumOfLeaves m_ledTo m_firstWrong m_dryOnes m_dryMany m_costs m_roots m_depth m_row m_placeOf) [49, 50, 53, 54, 51, 52, 0, 1, 2, 3, 4, 5, 6, 7, 8, 9, 10, 11, 12, 13, 14, 15, 16, 17, 18, 19, 20, 21, 22, 23, 24, 25, 26, 27, 28, 29, 30, 31, 32, 33, 34, 35, 36, 37, 38, 39, 40, 41, 42, 43, 44, 45, 46, 47, 48] (by decide) rfl
      refine lv_aload_n hx hb dL_law_948 rfl (lv_at hl 2 rfl) ?_
      refine lv_aload_n hx hb dL_law_949 rfl (lv_at hl 0 rfl) ?_
      refine lv_iload_n hx hb dL_law_950 rfl (lv_at hl 3 rfl) ?_
      refine lv_iconst (v := 1) hx hb dL_law_951 (by decide) ?_
      refine lv_iadd hx hb dL_law_952 ?_
      refine q_sld hx hb hX hbl hbA hS hi1 hy1 dL_law_953 ?_
      refine lv_aload_n hx hb dL_law_954 rfl (lv_at hl 0 rfl) ?_
      refine lv_iload_n hx hb dL_law_955 rfl (lv_at hl 3 rfl) ?_
      refine lv_iconst (v := 2) hx hb dL_law_956 (by decide) ?_
      refine lv_iadd hx hb dL_law_957 ?_
      refine q_sld hx hb hX hbl hbA hS hi2 hy2 dL_law_958 ?_
      refine lv_aload_n hx hb dL_law_959 rfl (lv_at hl 0 rfl) ?_
      refine lv_iload_n hx hb dL_law_960 rfl (lv_at hl 3 rfl) ?_
      refine lv_iconst (v := 3) hx hb dL_law_961 (by decide) ?_
      refine lv_iadd hx hb dL_law_962 ?_
      refine q_sld hx hb hX hbl hbA hS hi3 hy3 dL_law_963 ?_
      refine lv_aload_n hx hb dL_law_964 rfl (lv_at hl 0 rfl) ?_
      refine lv_iload_n hx hb dL_law_965 rfl (lv_at hl 3 rfl) ?_
      refine lv_iconst (v := 4) hx hb dL_law_966 (by decide) ?_
      refine lv_iadd hx hb dL_law_967 ?_
      refine q_sld hx hb hX hbl hbA hS hi4 hy4 dL_law_968 ?_
      refine lv_aload_n hx hb dL_law_969 rfl (lv_at hl 0 rfl) ?_
      refine lv_iload_n hx hb dL_law_970 rfl (lv_at hl 3 rfl) ?_
      refine lv_iconst (v := 5) hx hb dL_law_971 (by decide) ?_
      refine lv_iadd hx hb dL_law_972 ?_
      refine q_sld hx hb hX hbl hbA hS hi5 hy5 dL_law_973 ?_
      refine q_wVi (wr := [0, 1, 2, 3, 4, 5, 6, 7, 8, 9, 10, 11, 12, 13, 14, 15, 16, 17, 18, 19, 20, 21, 22, 23, 24, 25, 26, 27, 28, 29, 30, 31, 32, 33, 34, 35, 36].filterMap (fun i => (wL ad cI cR ques trc flt_n th la le (va_up cf 0 q_cells_n) kind page asked sees cnt wet which leaf rds d_fittingPages d_leastPage d_greatestPage e_kind e_page e_asked e_sent e_count e_wetSet y_leaves y_led y_firstWrong h_kind h_page h_asked h_sent h_count h_wetSet f_dry f_askedUpTo f_costs f_roots f_size o_aheadOf o_ways o_count sorts slong mcells m_at m_readSlips m_read m_looked m_keptSees m_sumOfLeaves m_ledTo m_firstWrong m_dryOnes m_dryMany m_costs m_roots m_depth m_row m_placeOf)[i]?)) (rest := [.int rv]) ⟨hx, hb, hml, hown, hts⟩ (kX8_copy l D cI cR (ad 37) (ad 38) (ad 39) (ad 40) (ad 41) (ad 42) (ad 43) (ad 44) (ad 45) (ad 46) (ad 47) (ad 48) (ad 49) (ad 50) (ad 51) (ad 52) (ad 53) (ad 54) flt_n trc sorts slong mcells cnt ques wet kind page asked sees m_at m_readSlips m_read m_looked m_keptSees m_sumOfLeaves m_ledTo m_firstWrong m_dryOnes m_dryMany m_costs m_roots m_depth m_row m_placeOf rds which leaf y1 y2 y3 y4 y5 (rv, flt_n, mcells_n) hTm) (cwV 5 hts gT_X8_copy rfl rfl rfl (by decide +kernel) ⟨Nat.le_of_ble_eq_true rfl, Nat.le_of_ble_eq_true rfl⟩) hP hD hS hA hK hN [37, 38, 39, 40, 41, 42, 43, 44, 45, 46, 47, 48, 49, 50, 51, 52, 53, 54] [0, 1, 2, 3, 4, 5, 6, 7, 8, 9, 10, 11, 12, 13, 14, 15, 16, 17, 18, 19, 20, 21, 22, 23, 24, 25, 26, 27, 28, 29, 30, 31, 32, 33, 34, 35, 36] rfl rfl (by decide) (by decide) (by decide) (va_recv hK hP (ci := 7) (q0 := 37) rfl rfl) rfl hl.1 rfl (Nat.le_of_ble_eq_true rfl) dL_law_974 ⟨Nat.le_of_ble_eq_true rfl, Nat.le_of_ble_eq_true rfl⟩ (fun H locs hP hD hS => ?_)
      have hP := hP.sub (ws' := wL ad cI cR ques trc flt_n th la le (va_up cf 0 q_cells_n) kind page asked sees cnt wet which leaf rds d_fittingPages d_leastPage d_greatestPage e_kind e_page e_asked e_sent e_count e_wetSet y_leaves y_led y_firstWrong h_kind h_page h_asked h_sent h_count h_wetSet f_dry f_askedUpTo f_costs f_roots f_size o_aheadOf o_ways o_count sorts slong mcells_n m_at m_readSlips m_read m_looked m_keptSees m_sumOfLeaves m_ledTo m_firstWrong m_dryOnes m_dryMany m_costs m_roots m_depth m_row m_placeOf) [0, 1, 2, 3, 4, 5, 6, 7, 8, 9, 10, 11, 12, 13, 14, 15, 16, 17, 18, 19, 20, 21, 22, 23, 24, 25, 26, 27, 28, 29, 30, 31, 32, 33, 34, 35, 36, 37, 38, 39, 40, 41, 42, 43, 44, 45, 46, 47, 48, 49, 50, 51, 52, 53, 54] rfl
      have hD := hD.sub (ws' := wL ad cI cR ques trc flt_n th la le (va_up cf 0 q_cells_n) kind page asked sees cnt wet which leaf rds d_fittingPages d_leastPage d_greatestPage e_kind e_page e_asked e_sent e_count e_wetSet y_leaves y_led y_firstWrong h_kind h_page h_asked h_sent h_count h_wetSet f_dry f_askedUpTo f_costs f_roots f_size o_aheadOf o_ways o_count sorts slong mcells_n m_at m_readSlips m_read m_looked m_keptSees m_sumOfLeaves m_ledTo m_firstWrong m_dryOnes m_dryMany m_costs m_roots m_depth m_row m_placeOf) [0, 1, 2, 3, 4, 5, 6, 7, 8, 9, 10, 11, 12, 13, 14, 15, 16, 17, 18, 19, 20, 21, 22, 23, 24, 25, 26, 27, 28, 29, 30, 31, 32, 33, 34, 35, 36, 37, 38, 39, 40, 41, 42, 43, 44, 45, 46, 47, 48, 49, 50, 51, 52, 53, 54] (by decide) rfl
      refine lv_icmp_eq (tgt := 1110) hx hb dL_law_977 (by decide) (fun _ => ?_) (fun h => absurd rfl h)
      exact kk _ _ _ _ _ _ _ _ _ _ _ _ _ _ _ _ _ _ _ _ _ _ _ _ _ _ _ _ _ _ _ _ _ _ _ _ _ _ _ _ _ _ _ _ _ _ _ _ _ _ _ _ _ _ _ _ _ _ _ _ _ _ _ hI hP hD hS hl
    · obtain ⟨rv, flt_n, r_cells_n, mcells_n, hTx, hTm, hI⟩ := T_copyS flt th la le cf kind page asked sees cnt wet which leaf rds f_askedUpTo f_costs sorts slong mcells 1 (by decide) y1 y2 y3 y4 y5 hr4 hq4 hI
      refine lv_aload_n hx hb dL_law_919 rfl (lv_at hl 1 rfl) ?_
      refine lv_aload_n hx hb dL_law_920 rfl (lv_at hl 0 rfl) ?_
      refine lv_iload_n hx hb dL_law_921 rfl (lv_at hl 3 rfl) ?_
      refine lv_iconst (v := 1) hx hb dL_law_922 (by decide) ?_
      refine lv_iadd hx hb dL_law_923 ?_
      refine q_sld hx hb hX hbl hbA hS hi1 hy1 dL_law_924 ?_
      refine lv_aload_n hx hb dL_law_925 rfl (lv_at hl 0 rfl) ?_
      refine lv_iload_n hx hb dL_law_926 rfl (lv_at hl 3 rfl) ?_
      refine lv_iconst (v := 2) hx hb dL_law_927 (by decide) ?_
      refine lv_iadd hx hb dL_law_928 ?_
      refine q_sld hx hb hX hbl hbA hS hi2 hy2 dL_law_929 ?_
      refine lv_aload_n hx hb dL_law_930 rfl (lv_at hl 0 rfl) ?_
      refine lv_iload_n hx hb dL_law_931 rfl (lv_at hl 3 rfl) ?_
      refine lv_iconst (v := 3) hx hb dL_law_932 (by decide) ?_
      refine lv_iadd hx hb dL_law_933 ?_
      refine q_sld hx hb hX hbl hbA hS hi3 hy3 dL_law_934 ?_
      refine lv_aload_n hx hb dL_law_935 rfl (lv_at hl 0 rfl) ?_
      refine lv_iload_n hx hb dL_law_936 rfl (lv_at hl 3 rfl) ?_
      refine lv_iconst (v := 4) hx hb dL_law_937 (by decide) ?_
      refine lv_iadd hx hb dL_law_938 ?_
      refine q_sld hx hb hX hbl hbA hS hi4 hy4 dL_law_939 ?_
      refine lv_aload_n hx hb dL_law_940 rfl (lv_at hl 0 rfl) ?_
      refine lv_iload_n hx hb dL_law_941 rfl (lv_at hl 3 rfl) ?_
      refine lv_iconst (v := 5) hx hb dL_law_942 (by decide) ?_
      refine lv_iadd hx hb dL_law_943 ?_
      refine q_sld hx hb hX hbl hbA hS hi5 hy5 dL_law_944 ?_
      refine q_wVi (wr := [2, 3, 6, 7, 8, 9, 10, 11, 12, 13, 14, 15, 16, 17, 18, 19, 20, 21, 22, 23, 24, 25, 26, 27, 28, 29, 30, 31, 32, 33, 34, 35, 36, 37, 38, 39, 40, 41, 42, 43, 44, 45, 46, 47, 48, 49, 50, 51, 52, 53, 54].filterMap (fun i => (wL ad cI cR ques trc flt th la le cf kind page asked sees cnt wet which leaf rds d_fittingPages d_leastPage d_greatestPage e_kind e_page e_asked e_sent e_count e_wetSet y_leaves y_led y_firstWrong h_kind h_page h_asked h_sent h_count h_wetSet f_dry f_askedUpTo f_costs f_roots f_size o_aheadOf o_ways o_count sorts slong mcells m_at m_readSlips m_read m_looked m_keptSees m_sumOfLeaves m_ledTo m_firstWrong m_dryOnes m_dryMany m_costs m_roots m_depth m_row m_placeOf)[i]?)) (rest := []) ⟨hx, hb, hml, hown, hts⟩ (kX7_copyS l D cI cR (ad 0) (ad 1) (ad 10) (ad 15) (ad 23) (ad 29) (ad 34) (ad 4) (ad 5) (rwF ad) ques trc flt (cf 1) (th 1) (la 1) (le 1) y1 y2 y3 y4 y5 (fun h => by rw [hr4 h]; rfl) (fun h => by rw [hq4 h]; rfl) (rv, flt_n, r_cells_n) hTx) (cwV 5 hts gT_X7_copy rfl rfl rfl (by decide +kernel) ⟨Nat.le_of_ble_eq_true rfl, Nat.le_of_ble_eq_true rfl⟩) hP hD hS hA hK hN [0, 1, 4, 5] [2, 3, 6, 7, 8, 9, 10, 11, 12, 13, 14, 15, 16, 17, 18, 19, 20, 21, 22, 23, 24, 25, 26, 27, 28, 29, 30, 31, 32, 33, 34, 35, 36, 37, 38, 39, 40, 41, 42, 43, 44, 45, 46, 47, 48, 49, 50, 51, 52, 53, 54] rfl rfl (by decide) (by decide) (by decide) (va_recv hK hP (ci := 6) (q0 := 0) rfl rfl) rfl hl.1 rfl (Nat.le_of_ble_eq_true rfl) dL_law_945 ⟨Nat.le_of_ble_eq_true rfl, Nat.le_of_ble_eq_true rfl⟩ (fun H locs hP hD hS => ?_)
      have hP := hP.sub (ws' := wL ad cI cR ques trc flt_n th la le (va_up cf 1 r_cells_n) kind page asked sees cnt wet which leaf rds d_fittingPages d_leastPage d_greatestPage e_kind e_page e_asked e_sent e_count e_wetSet y_leaves y_led y_firstWrong h_kind h_page h_asked h_sent h_count h_wetSet f_dry f_askedUpTo f_costs f_roots f_size o_aheadOf o_ways o_count sorts slong mcells m_at m_readSlips m_read m_looked m_keptSees m_sumOfLeaves m_ledTo m_firstWrong m_dryOnes m_dryMany m_costs m_roots m_depth m_row m_placeOf) [51, 52, 0, 1, 53, 54, 2, 3, 4, 5, 6, 7, 8, 9, 10, 11, 12, 13, 14, 15, 16, 17, 18, 19, 20, 21, 22, 23, 24, 25, 26, 27, 28, 29, 30, 31, 32, 33, 34, 35, 36, 37, 38, 39, 40, 41, 42, 43, 44, 45, 46, 47, 48, 49, 50] rfl
      have hD := hD.sub (ws' := wL ad cI cR ques trc flt_n th la le (va_up cf 1 r_cells_n) kind page asked sees cnt wet which leaf rds d_fittingPages d_leastPage d_greatestPage e_kind e_page e_asked e_sent e_count e_wetSet y_leaves y_led y_firstWrong h_kind h_page h_asked h_sent h_count h_wetSet f_dry f_askedUpTo f_costs f_roots f_size o_aheadOf o_ways o_count sorts slong mcells m_at m_readSlips m_read m_looked m_keptSees m_sumOfLeaves m_ledTo m_firstWrong m_dryOnes m_dryMany m_costs m_roots m_depth m_row m_placeOf) [51, 52, 0, 1, 53, 54, 2, 3, 4, 5, 6, 7, 8, 9, 10, 11, 12, 13, 14, 15, 16, 17, 18, 19, 20, 21, 22, 23, 24, 25, 26, 27, 28, 29, 30, 31, 32, 33, 34, 35, 36, 37, 38, 39, 40, 41, 42, 43, 44, 45, 46, 47, 48, 49, 50] (by decide) rfl
      refine lv_aload_n hx hb dL_law_948 rfl (lv_at hl 2 rfl) ?_
      refine lv_aload_n hx hb dL_law_949 rfl (lv_at hl 0 rfl) ?_
      refine lv_iload_n hx hb dL_law_950 rfl (lv_at hl 3 rfl) ?_
      refine lv_iconst (v := 1) hx hb dL_law_951 (by decide) ?_
      refine lv_iadd hx hb dL_law_952 ?_
      refine q_sld hx hb hX hbl hbA hS hi1 hy1 dL_law_953 ?_
      refine lv_aload_n hx hb dL_law_954 rfl (lv_at hl 0 rfl) ?_
      refine lv_iload_n hx hb dL_law_955 rfl (lv_at hl 3 rfl) ?_
      refine lv_iconst (v := 2) hx hb dL_law_956 (by decide) ?_
      refine lv_iadd hx hb dL_law_957 ?_
      refine q_sld hx hb hX hbl hbA hS hi2 hy2 dL_law_958 ?_
      refine lv_aload_n hx hb dL_law_959 rfl (lv_at hl 0 rfl) ?_
      refine lv_iload_n hx hb dL_law_960 rfl (lv_at hl 3 rfl) ?_
      refine lv_iconst (v := 3) hx hb dL_law_961 (by decide) ?_
      refine lv_iadd hx hb dL_law_962 ?_
      refine q_sld hx hb hX hbl hbA hS hi3 hy3 dL_law_963 ?_
      refine lv_aload_n hx hb dL_law_964 rfl (lv_at hl 0 rfl) ?_
      refine lv_iload_n hx hb dL_law_965 rfl (lv_at hl 3 rfl) ?_
      refine lv_iconst (v := 4) hx hb dL_law_966 (by decide) ?_
      refine lv_iadd hx hb dL_law_967 ?_
      refine q_sld hx hb hX hbl hbA hS hi4 hy4 dL_law_968 ?_
      refine lv_aload_n hx hb dL_law_969 rfl (lv_at hl 0 rfl) ?_
      refine lv_iload_n hx hb dL_law_970 rfl (lv_at hl 3 rfl) ?_
      refine lv_iconst (v := 5) hx hb dL_law_971 (by decide) ?_
      refine lv_iadd hx hb dL_law_972 ?_
      refine q_sld hx hb hX hbl hbA hS hi5 hy5 dL_law_973 ?_
      refine q_wVi (wr := [0, 1, 2, 3, 4, 5, 6, 7, 8, 9, 10, 11, 12, 13, 14, 15, 16, 17, 18, 19, 20, 21, 22, 23, 24, 25, 26, 27, 28, 29, 30, 31, 32, 33, 34, 35, 36].filterMap (fun i => (wL ad cI cR ques trc flt_n th la le (va_up cf 1 r_cells_n) kind page asked sees cnt wet which leaf rds d_fittingPages d_leastPage d_greatestPage e_kind e_page e_asked e_sent e_count e_wetSet y_leaves y_led y_firstWrong h_kind h_page h_asked h_sent h_count h_wetSet f_dry f_askedUpTo f_costs f_roots f_size o_aheadOf o_ways o_count sorts slong mcells m_at m_readSlips m_read m_looked m_keptSees m_sumOfLeaves m_ledTo m_firstWrong m_dryOnes m_dryMany m_costs m_roots m_depth m_row m_placeOf)[i]?)) (rest := [.int rv]) ⟨hx, hb, hml, hown, hts⟩ (kX8_copy l D cI cR (ad 37) (ad 38) (ad 39) (ad 40) (ad 41) (ad 42) (ad 43) (ad 44) (ad 45) (ad 46) (ad 47) (ad 48) (ad 49) (ad 50) (ad 51) (ad 52) (ad 53) (ad 54) flt_n trc sorts slong mcells cnt ques wet kind page asked sees m_at m_readSlips m_read m_looked m_keptSees m_sumOfLeaves m_ledTo m_firstWrong m_dryOnes m_dryMany m_costs m_roots m_depth m_row m_placeOf rds which leaf y1 y2 y3 y4 y5 (rv, flt_n, mcells_n) hTm) (cwV 5 hts gT_X8_copy rfl rfl rfl (by decide +kernel) ⟨Nat.le_of_ble_eq_true rfl, Nat.le_of_ble_eq_true rfl⟩) hP hD hS hA hK hN [37, 38, 39, 40, 41, 42, 43, 44, 45, 46, 47, 48, 49, 50, 51, 52, 53, 54] [0, 1, 2, 3, 4, 5, 6, 7, 8, 9, 10, 11, 12, 13, 14, 15, 16, 17, 18, 19, 20, 21, 22, 23, 24, 25, 26, 27, 28, 29, 30, 31, 32, 33, 34, 35, 36] rfl rfl (by decide) (by decide) (by decide) (va_recv hK hP (ci := 7) (q0 := 37) rfl rfl) rfl hl.1 rfl (Nat.le_of_ble_eq_true rfl) dL_law_974 ⟨Nat.le_of_ble_eq_true rfl, Nat.le_of_ble_eq_true rfl⟩ (fun H locs hP hD hS => ?_)
      have hP := hP.sub (ws' := wL ad cI cR ques trc flt_n th la le (va_up cf 1 r_cells_n) kind page asked sees cnt wet which leaf rds d_fittingPages d_leastPage d_greatestPage e_kind e_page e_asked e_sent e_count e_wetSet y_leaves y_led y_firstWrong h_kind h_page h_asked h_sent h_count h_wetSet f_dry f_askedUpTo f_costs f_roots f_size o_aheadOf o_ways o_count sorts slong mcells_n m_at m_readSlips m_read m_looked m_keptSees m_sumOfLeaves m_ledTo m_firstWrong m_dryOnes m_dryMany m_costs m_roots m_depth m_row m_placeOf) [0, 1, 2, 3, 4, 5, 6, 7, 8, 9, 10, 11, 12, 13, 14, 15, 16, 17, 18, 19, 20, 21, 22, 23, 24, 25, 26, 27, 28, 29, 30, 31, 32, 33, 34, 35, 36, 37, 38, 39, 40, 41, 42, 43, 44, 45, 46, 47, 48, 49, 50, 51, 52, 53, 54] rfl
      have hD := hD.sub (ws' := wL ad cI cR ques trc flt_n th la le (va_up cf 1 r_cells_n) kind page asked sees cnt wet which leaf rds d_fittingPages d_leastPage d_greatestPage e_kind e_page e_asked e_sent e_count e_wetSet y_leaves y_led y_firstWrong h_kind h_page h_asked h_sent h_count h_wetSet f_dry f_askedUpTo f_costs f_roots f_size o_aheadOf o_ways o_count sorts slong mcells_n m_at m_readSlips m_read m_looked m_keptSees m_sumOfLeaves m_ledTo m_firstWrong m_dryOnes m_dryMany m_costs m_roots m_depth m_row m_placeOf) [0, 1, 2, 3, 4, 5, 6, 7, 8, 9, 10, 11, 12, 13, 14, 15, 16, 17, 18, 19, 20, 21, 22, 23, 24, 25, 26, 27, 28, 29, 30, 31, 32, 33, 34, 35, 36, 37, 38, 39, 40, 41, 42, 43, 44, 45, 46, 47, 48, 49, 50, 51, 52, 53, 54] (by decide) rfl
      refine lv_icmp_eq (tgt := 1110) hx hb dL_law_977 (by decide) (fun _ => ?_) (fun h => absurd rfl h)
      exact kk _ _ _ _ _ _ _ _ _ _ _ _ _ _ _ _ _ _ _ _ _ _ _ _ _ _ _ _ _ _ _ _ _ _ _ _ _ _ _ _ _ _ _ _ _ _ _ _ _ _ _ _ _ _ _ _ _ _ _ _ _ _ _ hI hP hD hS hl
    · obtain ⟨rv, flt_n, q_cells_n, mcells_n, hTx, hTm, hI⟩ := T_copyD flt th la le cf kind page asked sees cnt wet which leaf rds f_askedUpTo f_costs sorts slong mcells 1 (by decide) 2 (by decide) (by decide) y1 y2 y3 y4 y5 hr4 hq4 hI
      refine lv_aload_n hx hb dL_law_919 rfl (lv_at hl 1 rfl) ?_
      refine lv_aload_n hx hb dL_law_920 rfl (lv_at hl 0 rfl) ?_
      refine lv_iload_n hx hb dL_law_921 rfl (lv_at hl 3 rfl) ?_
      refine lv_iconst (v := 1) hx hb dL_law_922 (by decide) ?_
      refine lv_iadd hx hb dL_law_923 ?_
      refine q_sld hx hb hX hbl hbA hS hi1 hy1 dL_law_924 ?_
      refine lv_aload_n hx hb dL_law_925 rfl (lv_at hl 0 rfl) ?_
      refine lv_iload_n hx hb dL_law_926 rfl (lv_at hl 3 rfl) ?_
      refine lv_iconst (v := 2) hx hb dL_law_927 (by decide) ?_
      refine lv_iadd hx hb dL_law_928 ?_
      refine q_sld hx hb hX hbl hbA hS hi2 hy2 dL_law_929 ?_
      refine lv_aload_n hx hb dL_law_930 rfl (lv_at hl 0 rfl) ?_
      refine lv_iload_n hx hb dL_law_931 rfl (lv_at hl 3 rfl) ?_
      refine lv_iconst (v := 3) hx hb dL_law_932 (by decide) ?_
      refine lv_iadd hx hb dL_law_933 ?_
      refine q_sld hx hb hX hbl hbA hS hi3 hy3 dL_law_934 ?_
      refine lv_aload_n hx hb dL_law_935 rfl (lv_at hl 0 rfl) ?_
      refine lv_iload_n hx hb dL_law_936 rfl (lv_at hl 3 rfl) ?_
      refine lv_iconst (v := 4) hx hb dL_law_937 (by decide) ?_
      refine lv_iadd hx hb dL_law_938 ?_
      refine q_sld hx hb hX hbl hbA hS hi4 hy4 dL_law_939 ?_
      refine lv_aload_n hx hb dL_law_940 rfl (lv_at hl 0 rfl) ?_
      refine lv_iload_n hx hb dL_law_941 rfl (lv_at hl 3 rfl) ?_
      refine lv_iconst (v := 5) hx hb dL_law_942 (by decide) ?_
      refine lv_iadd hx hb dL_law_943 ?_
      refine q_sld hx hb hX hbl hbA hS hi5 hy5 dL_law_944 ?_
      refine q_wVi (wr := [2, 3, 8, 9, 10, 11, 12, 13, 14, 15, 16, 17, 18, 19, 20, 21, 22, 23, 24, 25, 26, 27, 28, 29, 30, 31, 32, 33, 34, 35, 36, 37, 38, 39, 40, 41, 42, 43, 44, 45, 46, 47, 48, 49, 50, 51, 52, 53, 54].filterMap (fun i => (wL ad cI cR ques trc flt th la le cf kind page asked sees cnt wet which leaf rds d_fittingPages d_leastPage d_greatestPage e_kind e_page e_asked e_sent e_count e_wetSet y_leaves y_led y_firstWrong h_kind h_page h_asked h_sent h_count h_wetSet f_dry f_askedUpTo f_costs f_roots f_size o_aheadOf o_ways o_count sorts slong mcells m_at m_readSlips m_read m_looked m_keptSees m_sumOfLeaves m_ledTo m_firstWrong m_dryOnes m_dryMany m_costs m_roots m_depth m_row m_placeOf)[i]?)) (rest := []) ⟨hx, hb, hml, hown, hts⟩ (kX7_copyD l D cI cR (ad 0) (ad 1) (ad 10) (ad 15) (ad 23) (ad 29) (ad 34) (ad 4) (ad 5) (ad 6) (ad 7) (rwF ad) ques trc flt (cf 1) (th 1) (la 1) (le 1) (cf 2) (th 2) (la 2) (le 2) y1 y2 y3 y4 y5 (fun h => by rw [hr4 h]; rfl) (fun h => by rw [hq4 h]; rfl) (rv, flt_n, q_cells_n) hTx) (cwV 5 hts gT_X7_copy rfl rfl rfl (by decide +kernel) ⟨Nat.le_of_ble_eq_true rfl, Nat.le_of_ble_eq_true rfl⟩) hP hD hS hA hK hN [0, 1, 4, 5, 6, 7] [2, 3, 8, 9, 10, 11, 12, 13, 14, 15, 16, 17, 18, 19, 20, 21, 22, 23, 24, 25, 26, 27, 28, 29, 30, 31, 32, 33, 34, 35, 36, 37, 38, 39, 40, 41, 42, 43, 44, 45, 46, 47, 48, 49, 50, 51, 52, 53, 54] rfl rfl (by decide) (by decide) (by decide) (va_recv hK hP (ci := 6) (q0 := 0) rfl rfl) rfl hl.1 rfl (Nat.le_of_ble_eq_true rfl) dL_law_945 ⟨Nat.le_of_ble_eq_true rfl, Nat.le_of_ble_eq_true rfl⟩ (fun H locs hP hD hS => ?_)
      have hP := hP.sub (ws' := wL ad cI cR ques trc flt_n th la le (va_up cf 2 q_cells_n) kind page asked sees cnt wet which leaf rds d_fittingPages d_leastPage d_greatestPage e_kind e_page e_asked e_sent e_count e_wetSet y_leaves y_led y_firstWrong h_kind h_page h_asked h_sent h_count h_wetSet f_dry f_askedUpTo f_costs f_roots f_size o_aheadOf o_ways o_count sorts slong mcells m_at m_readSlips m_read m_looked m_keptSees m_sumOfLeaves m_ledTo m_firstWrong m_dryOnes m_dryMany m_costs m_roots m_depth m_row m_placeOf) [49, 50, 0, 1, 51, 52, 53, 54, 2, 3, 4, 5, 6, 7, 8, 9, 10, 11, 12, 13, 14, 15, 16, 17, 18, 19, 20, 21, 22, 23, 24, 25, 26, 27, 28, 29, 30, 31, 32, 33, 34, 35, 36, 37, 38, 39, 40, 41, 42, 43, 44, 45, 46, 47, 48] rfl
      have hD := hD.sub (ws' := wL ad cI cR ques trc flt_n th la le (va_up cf 2 q_cells_n) kind page asked sees cnt wet which leaf rds d_fittingPages d_leastPage d_greatestPage e_kind e_page e_asked e_sent e_count e_wetSet y_leaves y_led y_firstWrong h_kind h_page h_asked h_sent h_count h_wetSet f_dry f_askedUpTo f_costs f_roots f_size o_aheadOf o_ways o_count sorts slong mcells m_at m_readSlips m_read m_looked m_keptSees m_sumOfLeaves m_ledTo m_firstWrong m_dryOnes m_dryMany m_costs m_roots m_depth m_row m_placeOf) [49, 50, 0, 1, 51, 52, 53, 54, 2, 3, 4, 5, 6, 7, 8, 9, 10, 11, 12, 13, 14, 15, 16, 17, 18, 19, 20, 21, 22, 23, 24, 25, 26, 27, 28, 29, 30, 31, 32, 33, 34, 35, 36, 37, 38, 39, 40, 41, 42, 43, 44, 45, 46, 47, 48] (by decide) rfl
      refine lv_aload_n hx hb dL_law_948 rfl (lv_at hl 2 rfl) ?_
      refine lv_aload_n hx hb dL_law_949 rfl (lv_at hl 0 rfl) ?_
      refine lv_iload_n hx hb dL_law_950 rfl (lv_at hl 3 rfl) ?_
      refine lv_iconst (v := 1) hx hb dL_law_951 (by decide) ?_
      refine lv_iadd hx hb dL_law_952 ?_
      refine q_sld hx hb hX hbl hbA hS hi1 hy1 dL_law_953 ?_
      refine lv_aload_n hx hb dL_law_954 rfl (lv_at hl 0 rfl) ?_
      refine lv_iload_n hx hb dL_law_955 rfl (lv_at hl 3 rfl) ?_
      refine lv_iconst (v := 2) hx hb dL_law_956 (by decide) ?_
      refine lv_iadd hx hb dL_law_957 ?_
      refine q_sld hx hb hX hbl hbA hS hi2 hy2 dL_law_958 ?_
      refine lv_aload_n hx hb dL_law_959 rfl (lv_at hl 0 rfl) ?_
      refine lv_iload_n hx hb dL_law_960 rfl (lv_at hl 3 rfl) ?_
      refine lv_iconst (v := 3) hx hb dL_law_961 (by decide) ?_
      refine lv_iadd hx hb dL_law_962 ?_
      refine q_sld hx hb hX hbl hbA hS hi3 hy3 dL_law_963 ?_
      refine lv_aload_n hx hb dL_law_964 rfl (lv_at hl 0 rfl) ?_
      refine lv_iload_n hx hb dL_law_965 rfl (lv_at hl 3 rfl) ?_
      refine lv_iconst (v := 4) hx hb dL_law_966 (by decide) ?_
      refine lv_iadd hx hb dL_law_967 ?_
      refine q_sld hx hb hX hbl hbA hS hi4 hy4 dL_law_968 ?_
      refine lv_aload_n hx hb dL_law_969 rfl (lv_at hl 0 rfl) ?_
      refine lv_iload_n hx hb dL_law_970 rfl (lv_at hl 3 rfl) ?_
      refine lv_iconst (v := 5) hx hb dL_law_971 (by decide) ?_
      refine lv_iadd hx hb dL_law_972 ?_
      refine q_sld hx hb hX hbl hbA hS hi5 hy5 dL_law_973 ?_
      refine q_wVi (wr := [0, 1, 2, 3, 4, 5, 6, 7, 8, 9, 10, 11, 12, 13, 14, 15, 16, 17, 18, 19, 20, 21, 22, 23, 24, 25, 26, 27, 28, 29, 30, 31, 32, 33, 34, 35, 36].filterMap (fun i => (wL ad cI cR ques trc flt_n th la le (va_up cf 2 q_cells_n) kind page asked sees cnt wet which leaf rds d_fittingPages d_leastPage d_greatestPage e_kind e_page e_asked e_sent e_count e_wetSet y_leaves y_led y_firstWrong h_kind h_page h_asked h_sent h_count h_wetSet f_dry f_askedUpTo f_costs f_roots f_size o_aheadOf o_ways o_count sorts slong mcells m_at m_readSlips m_read m_looked m_keptSees m_sumOfLeaves m_ledTo m_firstWrong m_dryOnes m_dryMany m_costs m_roots m_depth m_row m_placeOf)[i]?)) (rest := [.int rv]) ⟨hx, hb, hml, hown, hts⟩ (kX8_copy l D cI cR (ad 37) (ad 38) (ad 39) (ad 40) (ad 41) (ad 42) (ad 43) (ad 44) (ad 45) (ad 46) (ad 47) (ad 48) (ad 49) (ad 50) (ad 51) (ad 52) (ad 53) (ad 54) flt_n trc sorts slong mcells cnt ques wet kind page asked sees m_at m_readSlips m_read m_looked m_keptSees m_sumOfLeaves m_ledTo m_firstWrong m_dryOnes m_dryMany m_costs m_roots m_depth m_row m_placeOf rds which leaf y1 y2 y3 y4 y5 (rv, flt_n, mcells_n) hTm) (cwV 5 hts gT_X8_copy rfl rfl rfl (by decide +kernel) ⟨Nat.le_of_ble_eq_true rfl, Nat.le_of_ble_eq_true rfl⟩) hP hD hS hA hK hN [37, 38, 39, 40, 41, 42, 43, 44, 45, 46, 47, 48, 49, 50, 51, 52, 53, 54] [0, 1, 2, 3, 4, 5, 6, 7, 8, 9, 10, 11, 12, 13, 14, 15, 16, 17, 18, 19, 20, 21, 22, 23, 24, 25, 26, 27, 28, 29, 30, 31, 32, 33, 34, 35, 36] rfl rfl (by decide) (by decide) (by decide) (va_recv hK hP (ci := 7) (q0 := 37) rfl rfl) rfl hl.1 rfl (Nat.le_of_ble_eq_true rfl) dL_law_974 ⟨Nat.le_of_ble_eq_true rfl, Nat.le_of_ble_eq_true rfl⟩ (fun H locs hP hD hS => ?_)
      have hP := hP.sub (ws' := wL ad cI cR ques trc flt_n th la le (va_up cf 2 q_cells_n) kind page asked sees cnt wet which leaf rds d_fittingPages d_leastPage d_greatestPage e_kind e_page e_asked e_sent e_count e_wetSet y_leaves y_led y_firstWrong h_kind h_page h_asked h_sent h_count h_wetSet f_dry f_askedUpTo f_costs f_roots f_size o_aheadOf o_ways o_count sorts slong mcells_n m_at m_readSlips m_read m_looked m_keptSees m_sumOfLeaves m_ledTo m_firstWrong m_dryOnes m_dryMany m_costs m_roots m_depth m_row m_placeOf) [0, 1, 2, 3, 4, 5, 6, 7, 8, 9, 10, 11, 12, 13, 14, 15, 16, 17, 18, 19, 20, 21, 22, 23, 24, 25, 26, 27, 28, 29, 30, 31, 32, 33, 34, 35, 36, 37, 38, 39, 40, 41, 42, 43, 44, 45, 46, 47, 48, 49, 50, 51, 52, 53, 54] rfl
      have hD := hD.sub (ws' := wL ad cI cR ques trc flt_n th la le (va_up cf 2 q_cells_n) kind page asked sees cnt wet which leaf rds d_fittingPages d_leastPage d_greatestPage e_kind e_page e_asked e_sent e_count e_wetSet y_leaves y_led y_firstWrong h_kind h_page h_asked h_sent h_count h_wetSet f_dry f_askedUpTo f_costs f_roots f_size o_aheadOf o_ways o_count sorts slong mcells_n m_at m_readSlips m_read m_looked m_keptSees m_sumOfLeaves m_ledTo m_firstWrong m_dryOnes m_dryMany m_costs m_roots m_depth m_row m_placeOf) [0, 1, 2, 3, 4, 5, 6, 7, 8, 9, 10, 11, 12, 13, 14, 15, 16, 17, 18, 19, 20, 21, 22, 23, 24, 25, 26, 27, 28, 29, 30, 31, 32, 33, 34, 35, 36, 37, 38, 39, 40, 41, 42, 43, 44, 45, 46, 47, 48, 49, 50, 51, 52, 53, 54] (by decide) rfl
      refine lv_icmp_eq (tgt := 1110) hx hb dL_law_977 (by decide) (fun _ => ?_) (fun h => absurd rfl h)
      exact kk _ _ _ _ _ _ _ _ _ _ _ _ _ _ _ _ _ _ _ _ _ _ _ _ _ _ _ _ _ _ _ _ _ _ _ _ _ _ _ _ _ _ _ _ _ _ _ _ _ _ _ _ _ _ _ _ _ _ _ _ _ _ _ hI hP hD hS hl
    · obtain ⟨rv, flt_n, q_cells_n, mcells_n, hTx, hTm, hI⟩ := T_copyD flt th la le cf kind page asked sees cnt wet which leaf rds f_askedUpTo f_costs sorts slong mcells 1 (by decide) 3 (by decide) (by decide) y1 y2 y3 y4 y5 hr4 hq4 hI
      refine lv_aload_n hx hb dL_law_919 rfl (lv_at hl 1 rfl) ?_
      refine lv_aload_n hx hb dL_law_920 rfl (lv_at hl 0 rfl) ?_
      refine lv_iload_n hx hb dL_law_921 rfl (lv_at hl 3 rfl) ?_
      refine lv_iconst (v := 1) hx hb dL_law_922 (by decide) ?_
      refine lv_iadd hx hb dL_law_923 ?_
      refine q_sld hx hb hX hbl hbA hS hi1 hy1 dL_law_924 ?_
      refine lv_aload_n hx hb dL_law_925 rfl (lv_at hl 0 rfl) ?_
      refine lv_iload_n hx hb dL_law_926 rfl (lv_at hl 3 rfl) ?_
      refine lv_iconst (v := 2) hx hb dL_law_927 (by decide) ?_
      refine lv_iadd hx hb dL_law_928 ?_
      refine q_sld hx hb hX hbl hbA hS hi2 hy2 dL_law_929 ?_
      refine lv_aload_n hx hb dL_law_930 rfl (lv_at hl 0 rfl) ?_
      refine lv_iload_n hx hb dL_law_931 rfl (lv_at hl 3 rfl) ?_
      refine lv_iconst (v := 3) hx hb dL_law_932 (by decide) ?_
      refine lv_iadd hx hb dL_law_933 ?_
      refine q_sld hx hb hX hbl hbA hS hi3 hy3 dL_law_934 ?_
      refine lv_aload_n hx hb dL_law_935 rfl (lv_at hl 0 rfl) ?_
      refine lv_iload_n hx hb dL_law_936 rfl (lv_at hl 3 rfl) ?_
      refine lv_iconst (v := 4) hx hb dL_law_937 (by decide) ?_
      refine lv_iadd hx hb dL_law_938 ?_
      refine q_sld hx hb hX hbl hbA hS hi4 hy4 dL_law_939 ?_
      refine lv_aload_n hx hb dL_law_940 rfl (lv_at hl 0 rfl) ?_
      refine lv_iload_n hx hb dL_law_941 rfl (lv_at hl 3 rfl) ?_
      refine lv_iconst (v := 5) hx hb dL_law_942 (by decide) ?_
      refine lv_iadd hx hb dL_law_943 ?_
      refine q_sld hx hb hX hbl hbA hS hi5 hy5 dL_law_944 ?_
      refine q_wVi (wr := [2, 3, 6, 7, 10, 11, 12, 13, 14, 15, 16, 17, 18, 19, 20, 21, 22, 23, 24, 25, 26, 27, 28, 29, 30, 31, 32, 33, 34, 35, 36, 37, 38, 39, 40, 41, 42, 43, 44, 45, 46, 47, 48, 49, 50, 51, 52, 53, 54].filterMap (fun i => (wL ad cI cR ques trc flt th la le cf kind page asked sees cnt wet which leaf rds d_fittingPages d_leastPage d_greatestPage e_kind e_page e_asked e_sent e_count e_wetSet y_leaves y_led y_firstWrong h_kind h_page h_asked h_sent h_count h_wetSet f_dry f_askedUpTo f_costs f_roots f_size o_aheadOf o_ways o_count sorts slong mcells m_at m_readSlips m_read m_looked m_keptSees m_sumOfLeaves m_ledTo m_firstWrong m_dryOnes m_dryMany m_costs m_roots m_depth m_row m_placeOf)[i]?)) (rest := []) ⟨hx, hb, hml, hown, hts⟩ (kX7_copyD l D cI cR (ad 0) (ad 1) (ad 10) (ad 15) (ad 23) (ad 29) (ad 34) (ad 4) (ad 5) (ad 8) (ad 9) (rwF ad) ques trc flt (cf 1) (th 1) (la 1) (le 1) (cf 3) (th 3) (la 3) (le 3) y1 y2 y3 y4 y5 (fun h => by rw [hr4 h]; rfl) (fun h => by rw [hq4 h]; rfl) (rv, flt_n, q_cells_n) hTx) (cwV 5 hts gT_X7_copy rfl rfl rfl (by decide +kernel) ⟨Nat.le_of_ble_eq_true rfl, Nat.le_of_ble_eq_true rfl⟩) hP hD hS hA hK hN [0, 1, 4, 5, 8, 9] [2, 3, 6, 7, 10, 11, 12, 13, 14, 15, 16, 17, 18, 19, 20, 21, 22, 23, 24, 25, 26, 27, 28, 29, 30, 31, 32, 33, 34, 35, 36, 37, 38, 39, 40, 41, 42, 43, 44, 45, 46, 47, 48, 49, 50, 51, 52, 53, 54] rfl rfl (by decide) (by decide) (by decide) (va_recv hK hP (ci := 6) (q0 := 0) rfl rfl) rfl hl.1 rfl (Nat.le_of_ble_eq_true rfl) dL_law_945 ⟨Nat.le_of_ble_eq_true rfl, Nat.le_of_ble_eq_true rfl⟩ (fun H locs hP hD hS => ?_)
      have hP := hP.sub (ws' := wL ad cI cR ques trc flt_n th la le (va_up cf 3 q_cells_n) kind page asked sees cnt wet which leaf rds d_fittingPages d_leastPage d_greatestPage e_kind e_page e_asked e_sent e_count e_wetSet y_leaves y_led y_firstWrong h_kind h_page h_asked h_sent h_count h_wetSet f_dry f_askedUpTo f_costs f_roots f_size o_aheadOf o_ways o_count sorts slong mcells m_at m_readSlips m_read m_looked m_keptSees m_sumOfLeaves m_ledTo m_firstWrong m_dryOnes m_dryMany m_costs m_roots m_depth m_row m_placeOf) [49, 50, 0, 1, 51, 52, 2, 3, 53, 54, 4, 5, 6, 7, 8, 9, 10, 11, 12, 13, 14, 15, 16, 17, 18, 19, 20, 21, 22, 23, 24, 25, 26, 27, 28, 29, 30, 31, 32, 33, 34, 35, 36, 37, 38, 39, 40, 41, 42, 43, 44, 45, 46, 47, 48] rfl
      have hD := hD.sub (ws' := wL ad cI cR ques trc flt_n th la le (va_up cf 3 q_cells_n) kind page asked sees cnt wet which leaf rds d_fittingPages d_leastPage d_greatestPage e_kind e_page e_asked e_sent e_count e_wetSet y_leaves y_led y_firstWrong h_kind h_page h_asked h_sent h_count h_wetSet f_dry f_askedUpTo f_costs f_roots f_size o_aheadOf o_ways o_count sorts slong mcells m_at m_readSlips m_read m_looked m_keptSees m_sumOfLeaves m_ledTo m_firstWrong m_dryOnes m_dryMany m_costs m_roots m_depth m_row m_placeOf) [49, 50, 0, 1, 51, 52, 2, 3, 53, 54, 4, 5, 6, 7, 8, 9, 10, 11, 12, 13, 14, 15, 16, 17, 18, 19, 20, 21, 22, 23, 24, 25, 26, 27, 28, 29, 30, 31, 32, 33, 34, 35, 36, 37, 38, 39, 40, 41, 42, 43, 44, 45, 46, 47, 48] (by decide) rfl
      refine lv_aload_n hx hb dL_law_948 rfl (lv_at hl 2 rfl) ?_
      refine lv_aload_n hx hb dL_law_949 rfl (lv_at hl 0 rfl) ?_
      refine lv_iload_n hx hb dL_law_950 rfl (lv_at hl 3 rfl) ?_
      refine lv_iconst (v := 1) hx hb dL_law_951 (by decide) ?_
      refine lv_iadd hx hb dL_law_952 ?_
      refine q_sld hx hb hX hbl hbA hS hi1 hy1 dL_law_953 ?_
      refine lv_aload_n hx hb dL_law_954 rfl (lv_at hl 0 rfl) ?_
      refine lv_iload_n hx hb dL_law_955 rfl (lv_at hl 3 rfl) ?_
      refine lv_iconst (v := 2) hx hb dL_law_956 (by decide) ?_
      refine lv_iadd hx hb dL_law_957 ?_
      refine q_sld hx hb hX hbl hbA hS hi2 hy2 dL_law_958 ?_
      refine lv_aload_n hx hb dL_law_959 rfl (lv_at hl 0 rfl) ?_
      refine lv_iload_n hx hb dL_law_960 rfl (lv_at hl 3 rfl) ?_
      refine lv_iconst (v := 3) hx hb dL_law_961 (by decide) ?_
      refine lv_iadd hx hb dL_law_962 ?_
      refine q_sld hx hb hX hbl hbA hS hi3 hy3 dL_law_963 ?_
      refine lv_aload_n hx hb dL_law_964 rfl (lv_at hl 0 rfl) ?_
      refine lv_iload_n hx hb dL_law_965 rfl (lv_at hl 3 rfl) ?_
      refine lv_iconst (v := 4) hx hb dL_law_966 (by decide) ?_
      refine lv_iadd hx hb dL_law_967 ?_
      refine q_sld hx hb hX hbl hbA hS hi4 hy4 dL_law_968 ?_
      refine lv_aload_n hx hb dL_law_969 rfl (lv_at hl 0 rfl) ?_
      refine lv_iload_n hx hb dL_law_970 rfl (lv_at hl 3 rfl) ?_
      refine lv_iconst (v := 5) hx hb dL_law_971 (by decide) ?_
      refine lv_iadd hx hb dL_law_972 ?_
      refine q_sld hx hb hX hbl hbA hS hi5 hy5 dL_law_973 ?_
      refine q_wVi (wr := [0, 1, 2, 3, 4, 5, 6, 7, 8, 9, 10, 11, 12, 13, 14, 15, 16, 17, 18, 19, 20, 21, 22, 23, 24, 25, 26, 27, 28, 29, 30, 31, 32, 33, 34, 35, 36].filterMap (fun i => (wL ad cI cR ques trc flt_n th la le (va_up cf 3 q_cells_n) kind page asked sees cnt wet which leaf rds d_fittingPages d_leastPage d_greatestPage e_kind e_page e_asked e_sent e_count e_wetSet y_leaves y_led y_firstWrong h_kind h_page h_asked h_sent h_count h_wetSet f_dry f_askedUpTo f_costs f_roots f_size o_aheadOf o_ways o_count sorts slong mcells m_at m_readSlips m_read m_looked m_keptSees m_sumOfLeaves m_ledTo m_firstWrong m_dryOnes m_dryMany m_costs m_roots m_depth m_row m_placeOf)[i]?)) (rest := [.int rv]) ⟨hx, hb, hml, hown, hts⟩ (kX8_copy l D cI cR (ad 37) (ad 38) (ad 39) (ad 40) (ad 41) (ad 42) (ad 43) (ad 44) (ad 45) (ad 46) (ad 47) (ad 48) (ad 49) (ad 50) (ad 51) (ad 52) (ad 53) (ad 54) flt_n trc sorts slong mcells cnt ques wet kind page asked sees m_at m_readSlips m_read m_looked m_keptSees m_sumOfLeaves m_ledTo m_firstWrong m_dryOnes m_dryMany m_costs m_roots m_depth m_row m_placeOf rds which leaf y1 y2 y3 y4 y5 (rv, flt_n, mcells_n) hTm) (cwV 5 hts gT_X8_copy rfl rfl rfl (by decide +kernel) ⟨Nat.le_of_ble_eq_true rfl, Nat.le_of_ble_eq_true rfl⟩) hP hD hS hA hK hN [37, 38, 39, 40, 41, 42, 43, 44, 45, 46, 47, 48, 49, 50, 51, 52, 53, 54] [0, 1, 2, 3, 4, 5, 6, 7, 8, 9, 10, 11, 12, 13, 14, 15, 16, 17, 18, 19, 20, 21, 22, 23, 24, 25, 26, 27, 28, 29, 30, 31, 32, 33, 34, 35, 36] rfl rfl (by decide) (by decide) (by decide) (va_recv hK hP (ci := 7) (q0 := 37) rfl rfl) rfl hl.1 rfl (Nat.le_of_ble_eq_true rfl) dL_law_974 ⟨Nat.le_of_ble_eq_true rfl, Nat.le_of_ble_eq_true rfl⟩ (fun H locs hP hD hS => ?_)
      have hP := hP.sub (ws' := wL ad cI cR ques trc flt_n th la le (va_up cf 3 q_cells_n) kind page asked sees cnt wet which leaf rds d_fittingPages d_leastPage d_greatestPage e_kind e_page e_asked e_sent e_count e_wetSet y_leaves y_led y_firstWrong h_kind h_page h_asked h_sent h_count h_wetSet f_dry f_askedUpTo f_costs f_roots f_size o_aheadOf o_ways o_count sorts slong mcells_n m_at m_readSlips m_read m_looked m_keptSees m_sumOfLeaves m_ledTo m_firstWrong m_dryOnes m_dryMany m_costs m_roots m_depth m_row m_placeOf) [0, 1, 2, 3, 4, 5, 6, 7, 8, 9, 10, 11, 12, 13, 14, 15, 16, 17, 18, 19, 20, 21, 22, 23, 24, 25, 26, 27, 28, 29, 30, 31, 32, 33, 34, 35, 36, 37, 38, 39, 40, 41, 42, 43, 44, 45, 46, 47, 48, 49, 50, 51, 52, 53, 54] rfl
      have hD := hD.sub (ws' := wL ad cI cR ques trc flt_n th la le (va_up cf 3 q_cells_n) kind page asked sees cnt wet which leaf rds d_fittingPages d_leastPage d_greatestPage e_kind e_page e_asked e_sent e_count e_wetSet y_leaves y_led y_firstWrong h_kind h_page h_asked h_sent h_count h_wetSet f_dry f_askedUpTo f_costs f_roots f_size o_aheadOf o_ways o_count sorts slong mcells_n m_at m_readSlips m_read m_looked m_keptSees m_sumOfLeaves m_ledTo m_firstWrong m_dryOnes m_dryMany m_costs m_roots m_depth m_row m_placeOf) [0, 1, 2, 3, 4, 5, 6, 7, 8, 9, 10, 11, 12, 13, 14, 15, 16, 17, 18, 19, 20, 21, 22, 23, 24, 25, 26, 27, 28, 29, 30, 31, 32, 33, 34, 35, 36, 37, 38, 39, 40, 41, 42, 43, 44, 45, 46, 47, 48, 49, 50, 51, 52, 53, 54] (by decide) rfl
      refine lv_icmp_eq (tgt := 1110) hx hb dL_law_977 (by decide) (fun _ => ?_) (fun h => absurd rfl h)
      exact kk _ _ _ _ _ _ _ _ _ _ _ _ _ _ _ _ _ _ _ _ _ _ _ _ _ _ _ _ _ _ _ _ _ _ _ _ _ _ _ _ _ _ _ _ _ _ _ _ _ _ _ _ _ _ _ _ _ _ _ _ _ _ _ hI hP hD hS hl
  · rcases (show k2 = 0 ∨ k2 = 1 ∨ k2 = 2 ∨ k2 = 3 by omega) with rfl | rfl | rfl | rfl
    · obtain ⟨rv, flt_n, q_cells_n, mcells_n, hTx, hTm, hI⟩ := T_copyD flt th la le cf kind page asked sees cnt wet which leaf rds f_askedUpTo f_costs sorts slong mcells 2 (by decide) 0 (by decide) (by decide) y1 y2 y3 y4 y5 hr4 hq4 hI
      refine lv_aload_n hx hb dL_law_919 rfl (lv_at hl 1 rfl) ?_
      refine lv_aload_n hx hb dL_law_920 rfl (lv_at hl 0 rfl) ?_
      refine lv_iload_n hx hb dL_law_921 rfl (lv_at hl 3 rfl) ?_
      refine lv_iconst (v := 1) hx hb dL_law_922 (by decide) ?_
      refine lv_iadd hx hb dL_law_923 ?_
      refine q_sld hx hb hX hbl hbA hS hi1 hy1 dL_law_924 ?_
      refine lv_aload_n hx hb dL_law_925 rfl (lv_at hl 0 rfl) ?_
      refine lv_iload_n hx hb dL_law_926 rfl (lv_at hl 3 rfl) ?_
      refine lv_iconst (v := 2) hx hb dL_law_927 (by decide) ?_
      refine lv_iadd hx hb dL_law_928 ?_
      refine q_sld hx hb hX hbl hbA hS hi2 hy2 dL_law_929 ?_
      refine lv_aload_n hx hb dL_law_930 rfl (lv_at hl 0 rfl) ?_
      refine lv_iload_n hx hb dL_law_931 rfl (lv_at hl 3 rfl) ?_
      refine lv_iconst (v := 3) hx hb dL_law_932 (by decide) ?_
      refine lv_iadd hx hb dL_law_933 ?_
      refine q_sld hx hb hX hbl hbA hS hi3 hy3 dL_law_934 ?_
      refine lv_aload_n hx hb dL_law_935 rfl (lv_at hl 0 rfl) ?_
      refine lv_iload_n hx hb dL_law_936 rfl (lv_at hl 3 rfl) ?_
      refine lv_iconst (v := 4) hx hb dL_law_937 (by decide) ?_
      refine lv_iadd hx hb dL_law_938 ?_
      refine q_sld hx hb hX hbl hbA hS hi4 hy4 dL_law_939 ?_
      refine lv_aload_n hx hb dL_law_940 rfl (lv_at hl 0 rfl) ?_
      refine lv_iload_n hx hb dL_law_941 rfl (lv_at hl 3 rfl) ?_
      refine lv_iconst (v := 5) hx hb dL_law_942 (by decide) ?_
      refine lv_iadd hx hb dL_law_943 ?_
      refine q_sld hx hb hX hbl hbA hS hi5 hy5 dL_law_944 ?_
      refine q_wVi (wr := [4, 5, 8, 9, 10, 11, 12, 13, 14, 15, 16, 17, 18, 19, 20, 21, 22, 23, 24, 25, 26, 27, 28, 29, 30, 31, 32, 33, 34, 35, 36, 37, 38, 39, 40, 41, 42, 43, 44, 45, 46, 47, 48, 49, 50, 51, 52, 53, 54].filterMap (fun i => (wL ad cI cR ques trc flt th la le cf kind page asked sees cnt wet which leaf rds d_fittingPages d_leastPage d_greatestPage e_kind e_page e_asked e_sent e_count e_wetSet y_leaves y_led y_firstWrong h_kind h_page h_asked h_sent h_count h_wetSet f_dry f_askedUpTo f_costs f_roots f_size o_aheadOf o_ways o_count sorts slong mcells m_at m_readSlips m_read m_looked m_keptSees m_sumOfLeaves m_ledTo m_firstWrong m_dryOnes m_dryMany m_costs m_roots m_depth m_row m_placeOf)[i]?)) (rest := []) ⟨hx, hb, hml, hown, hts⟩ (kX7_copyD l D cI cR (ad 0) (ad 1) (ad 10) (ad 15) (ad 23) (ad 29) (ad 34) (ad 6) (ad 7) (ad 2) (ad 3) (rwF ad) ques trc flt (cf 2) (th 2) (la 2) (le 2) (cf 0) (th 0) (la 0) (le 0) y1 y2 y3 y4 y5 (fun h => by rw [hr4 h]; rfl) (fun h => by rw [hq4 h]; rfl) (rv, flt_n, q_cells_n) hTx) (cwV 5 hts gT_X7_copy rfl rfl rfl (by decide +kernel) ⟨Nat.le_of_ble_eq_true rfl, Nat.le_of_ble_eq_true rfl⟩) hP hD hS hA hK hN [0, 1, 6, 7, 2, 3] [4, 5, 8, 9, 10, 11, 12, 13, 14, 15, 16, 17, 18, 19, 20, 21, 22, 23, 24, 25, 26, 27, 28, 29, 30, 31, 32, 33, 34, 35, 36, 37, 38, 39, 40, 41, 42, 43, 44, 45, 46, 47, 48, 49, 50, 51, 52, 53, 54] rfl rfl (by decide) (by decide) (by decide) (va_recv hK hP (ci := 6) (q0 := 0) rfl rfl) rfl hl.1 rfl (Nat.le_of_ble_eq_true rfl) dL_law_945 ⟨Nat.le_of_ble_eq_true rfl, Nat.le_of_ble_eq_true rfl⟩ (fun H locs hP hD hS => ?_)
      have hP := hP.sub (ws' := wL ad cI cR ques trc flt_n th la le (va_up cf 0 q_cells_n) kind page asked sees cnt wet which leaf rds d_fittingPages d_leastPage d_greatestPage e_kind e_page e_asked e_sent e_count e_wetSet y_leaves y_led y_firstWrong h_kind h_page h_asked h_sent h_count h_wetSet f_dry f_askedUpTo f_costs f_roots f_size o_aheadOf o_ways o_count sorts slong mcells m_at m_readSlips m_read m_looked m_keptSees m_sumOfLeaves m_ledTo m_firstWrong m_dryOnes m_dryMany m_costs m_roots m_depth m_row m_placeOf) [49, 50, 53, 54, 0, 1, 51, 52, 2, 3, 4, 5, 6, 7, 8, 9, 10, 11, 12, 13, 14, 15, 16, 17, 18, 19, 20, 21, 22, 23, 24, 25, 26, 27, 28, 29, 30, 31, 32, 33, 34, 35, 36, 37, 38, 39, 40, 41, 42, 43, 44, 45, 46, 47, 48] rfl
      have hD := hD.sub (ws' := wL ad cI cR ques trc flt_n th la le (va_up cf 0 q_cells_n) kind page asked sees cnt wet which leaf rds d_fittingPages d_leastPage d_greatestPage e_kind e_page e_asked e_sent e_count e_wetSet y_leaves y_led y_firstWrong h_kind h_page h_asked h_sent h_count h_wetSet f_dry f_askedUpTo f_costs f_roots f_size o_aheadOf o_ways o_count sorts slong mcells m_at m_readSlips m_read m_looked m_keptSees m_sumOfLeaves m_ledTo m_firstWrong m_dryOnes m_dryMany m_costs m_roots m_depth m_row m_placeOf) [49, 50, 53, 54, 0, 1, 51, 52, 2, 3, 4, 5, 6, 7, 8, 9, 10, 11, 12, 13, 14, 15, 16, 17, 18, 19, 20, 21, 22, 23, 24, 25, 26, 27, 28, 29, 30, 31, 32, 33, 34, 35, 36, 37, 38, 39, 40, 41, 42, 43, 44, 45, 46, 47, 48] (by decide) rfl
      refine lv_aload_n hx hb dL_law_948 rfl (lv_at hl 2 rfl) ?_
      refine lv_aload_n hx hb dL_law_949 rfl (lv_at hl 0 rfl) ?_
      refine lv_iload_n hx hb dL_law_950 rfl (lv_at hl 3 rfl) ?_
      refine lv_iconst (v := 1) hx hb dL_law_951 (by decide) ?_
      refine lv_iadd hx hb dL_law_952 ?_
      refine q_sld hx hb hX hbl hbA hS hi1 hy1 dL_law_953 ?_
      refine lv_aload_n hx hb dL_law_954 rfl (lv_at hl 0 rfl) ?_
      refine lv_iload_n hx hb dL_law_955 rfl (lv_at hl 3 rfl) ?_
      refine lv_iconst (v := 2) hx hb dL_law_956 (by decide) ?_
      refine lv_iadd hx hb dL_law_957 ?_
      refine q_sld hx hb hX hbl hbA hS hi2 hy2 dL_law_958 ?_
      refine lv_aload_n hx hb dL_law_959 rfl (lv_at hl 0 rfl) ?_
      refine lv_iload_n hx hb dL_law_960 rfl (lv_at hl 3 rfl) ?_
      refine lv_iconst (v := 3) hx hb dL_law_961 (by decide) ?_
      refine lv_iadd hx hb dL_law_962 ?_
      refine q_sld hx hb hX hbl hbA hS hi3 hy3 dL_law_963 ?_
      refine lv_aload_n hx hb dL_law_964 rfl (lv_at hl 0 rfl) ?_
      refine lv_iload_n hx hb dL_law_965 rfl (lv_at hl 3 rfl) ?_
      refine lv_iconst (v := 4) hx hb dL_law_966 (by decide) ?_
      refine lv_iadd hx hb dL_law_967 ?_
      refine q_sld hx hb hX hbl hbA hS hi4 hy4 dL_law_968 ?_
      refine lv_aload_n hx hb dL_law_969 rfl (lv_at hl 0 rfl) ?_
      refine lv_iload_n hx hb dL_law_970 rfl (lv_at hl 3 rfl) ?_
      refine lv_iconst (v := 5) hx hb dL_law_971 (by decide) ?_
      refine lv_iadd hx hb dL_law_972 ?_
      refine q_sld hx hb hX hbl hbA hS hi5 hy5 dL_law_973 ?_
      refine q_wVi (wr := [0, 1, 2, 3, 4, 5, 6, 7, 8, 9, 10, 11, 12, 13, 14, 15, 16, 17, 18, 19, 20, 21, 22, 23, 24, 25, 26, 27, 28, 29, 30, 31, 32, 33, 34, 35, 36].filterMap (fun i => (wL ad cI cR ques trc flt_n th la le (va_up cf 0 q_cells_n) kind page asked sees cnt wet which leaf rds d_fittingPages d_leastPage d_greatestPage e_kind e_page e_asked e_sent e_count e_wetSet y_leaves y_led y_firstWrong h_kind h_page h_asked h_sent h_count h_wetSet f_dry f_askedUpTo f_costs f_roots f_size o_aheadOf o_ways o_count sorts slong mcells m_at m_readSlips m_read m_looked m_keptSees m_sumOfLeaves m_ledTo m_firstWrong m_dryOnes m_dryMany m_costs m_roots m_depth m_row m_placeOf)[i]?)) (rest := [.int rv]) ⟨hx, hb, hml, hown, hts⟩ (kX8_copy l D cI cR (ad 37) (ad 38) (ad 39) (ad 40) (ad 41) (ad 42) (ad 43) (ad 44) (ad 45) (ad 46) (ad 47) (ad 48) (ad 49) (ad 50) (ad 51) (ad 52) (ad 53) (ad 54) flt_n trc sorts slong mcells cnt ques wet kind page asked sees m_at m_readSlips m_read m_looked m_keptSees m_sumOfLeaves m_ledTo m_firstWrong m_dryOnes m_dryMany m_costs m_roots m_depth m_row m_placeOf rds which leaf y1 y2 y3 y4 y5 (rv, flt_n, mcells_n) hTm) (cwV 5 hts gT_X8_copy rfl rfl rfl (by decide +kernel) ⟨Nat.le_of_ble_eq_true rfl, Nat.le_of_ble_eq_true rfl⟩) hP hD hS hA hK hN [37, 38, 39, 40, 41, 42, 43, 44, 45, 46, 47, 48, 49, 50, 51, 52, 53, 54] [0, 1, 2, 3, 4, 5, 6, 7, 8, 9, 10, 11, 12, 13, 14, 15, 16, 17, 18, 19, 20, 21, 22, 23, 24, 25, 26, 27, 28, 29, 30, 31, 32, 33, 34, 35, 36] rfl rfl (by decide) (by decide) (by decide) (va_recv hK hP (ci := 7) (q0 := 37) rfl rfl) rfl hl.1 rfl (Nat.le_of_ble_eq_true rfl) dL_law_974 ⟨Nat.le_of_ble_eq_true rfl, Nat.le_of_ble_eq_true rfl⟩ (fun H locs hP hD hS => ?_)
      have hP := hP.sub (ws' := wL ad cI cR ques trc flt_n th la le (va_up cf 0 q_cells_n) kind page asked sees cnt wet which leaf rds d_fittingPages d_leastPage d_greatestPage e_kind e_page e_asked e_sent e_count e_wetSet y_leaves y_led y_firstWrong h_kind h_page h_asked h_sent h_count h_wetSet f_dry f_askedUpTo f_costs f_roots f_size o_aheadOf o_ways o_count sorts slong mcells_n m_at m_readSlips m_read m_looked m_keptSees m_sumOfLeaves m_ledTo m_firstWrong m_dryOnes m_dryMany m_costs m_roots m_depth m_row m_placeOf) [0, 1, 2, 3, 4, 5, 6, 7, 8, 9, 10, 11, 12, 13, 14, 15, 16, 17, 18, 19, 20, 21, 22, 23, 24, 25, 26, 27, 28, 29, 30, 31, 32, 33, 34, 35, 36, 37, 38, 39, 40, 41, 42, 43, 44, 45, 46, 47, 48, 49, 50, 51, 52, 53, 54] rfl
      have hD := hD.sub (ws' := wL ad cI cR ques trc flt_n th la le (va_up cf 0 q_cells_n) kind page asked sees cnt wet which leaf rds d_fittingPages d_leastPage d_greatestPage e_kind e_page e_asked e_sent e_count e_wetSet y_leaves y_led y_firstWrong h_kind h_page h_asked h_sent h_count h_wetSet f_dry f_askedUpTo f_costs f_roots f_size o_aheadOf o_ways o_count sorts slong mcells_n m_at m_readSlips m_read m_looked m_keptSees m_sumOfLeaves m_ledTo m_firstWrong m_dryOnes m_dryMany m_costs m_roots m_depth m_row m_placeOf) [0, 1, 2, 3, 4, 5, 6, 7, 8, 9, 10, 11, 12, 13, 14, 15, 16, 17, 18, 19, 20, 21, 22, 23, 24, 25, 26, 27, 28, 29, 30, 31, 32, 33, 34, 35, 36, 37, 38, 39, 40, 41, 42, 43, 44, 45, 46, 47, 48, 49, 50, 51, 52, 53, 54] (by decide) rfl
      refine lv_icmp_eq (tgt := 1110) hx hb dL_law_977 (by decide) (fun _ => ?_) (fun h => absurd rfl h)
      exact kk _ _ _ _ _ _ _ _ _ _ _ _ _ _ _ _ _ _ _ _ _ _ _ _ _ _ _ _ _ _ _ _ _ _ _ _ _ _ _ _ _ _ _ _ _ _ _ _ _ _ _ _ _ _ _ _ _ _ _ _ _ _ _ hI hP hD hS hl
    · obtain ⟨rv, flt_n, q_cells_n, mcells_n, hTx, hTm, hI⟩ := T_copyD flt th la le cf kind page asked sees cnt wet which leaf rds f_askedUpTo f_costs sorts slong mcells 2 (by decide) 1 (by decide) (by decide) y1 y2 y3 y4 y5 hr4 hq4 hI
      refine lv_aload_n hx hb dL_law_919 rfl (lv_at hl 1 rfl) ?_
      refine lv_aload_n hx hb dL_law_920 rfl (lv_at hl 0 rfl) ?_
      refine lv_iload_n hx hb dL_law_921 rfl (lv_at hl 3 rfl) ?_
      refine lv_iconst (v := 1) hx hb dL_law_922 (by decide) ?_
      refine lv_iadd hx hb dL_law_923 ?_
      refine q_sld hx hb hX hbl hbA hS hi1 hy1 dL_law_924 ?_
      refine lv_aload_n hx hb dL_law_925 rfl (lv_at hl 0 rfl) ?_
      refine lv_iload_n hx hb dL_law_926 rfl (lv_at hl 3 rfl) ?_
      refine lv_iconst (v := 2) hx hb dL_law_927 (by decide) ?_
      refine lv_iadd hx hb dL_law_928 ?_
      refine q_sld hx hb hX hbl hbA hS hi2 hy2 dL_law_929 ?_
      refine lv_aload_n hx hb dL_law_930 rfl (lv_at hl 0 rfl) ?_
      refine lv_iload_n hx hb dL_law_931 rfl (lv_at hl 3 rfl) ?_
      refine lv_iconst (v := 3) hx hb dL_law_932 (by decide) ?_
      refine lv_iadd hx hb dL_law_933 ?_
      refine q_sld hx hb hX hbl hbA hS hi3 hy3 dL_law_934 ?_
      refine lv_aload_n hx hb dL_law_935 rfl (lv_at hl 0 rfl) ?_
      refine lv_iload_n hx hb dL_law_936 rfl (lv_at hl 3 rfl) ?_
      refine lv_iconst (v := 4) hx hb dL_law_937 (by decide) ?_
      refine lv_iadd hx hb dL_law_938 ?_
      refine q_sld hx hb hX hbl hbA hS hi4 hy4 dL_law_939 ?_
      refine lv_aload_n hx hb dL_law_940 rfl (lv_at hl 0 rfl) ?_
      refine lv_iload_n hx hb dL_law_941 rfl (lv_at hl 3 rfl) ?_
      refine lv_iconst (v := 5) hx hb dL_law_942 (by decide) ?_
      refine lv_iadd hx hb dL_law_943 ?_
      refine q_sld hx hb hX hbl hbA hS hi5 hy5 dL_law_944 ?_
      refine q_wVi (wr := [2, 3, 8, 9, 10, 11, 12, 13, 14, 15, 16, 17, 18, 19, 20, 21, 22, 23, 24, 25, 26, 27, 28, 29, 30, 31, 32, 33, 34, 35, 36, 37, 38, 39, 40, 41, 42, 43, 44, 45, 46, 47, 48, 49, 50, 51, 52, 53, 54].filterMap (fun i => (wL ad cI cR ques trc flt th la le cf kind page asked sees cnt wet which leaf rds d_fittingPages d_leastPage d_greatestPage e_kind e_page e_asked e_sent e_count e_wetSet y_leaves y_led y_firstWrong h_kind h_page h_asked h_sent h_count h_wetSet f_dry f_askedUpTo f_costs f_roots f_size o_aheadOf o_ways o_count sorts slong mcells m_at m_readSlips m_read m_looked m_keptSees m_sumOfLeaves m_ledTo m_firstWrong m_dryOnes m_dryMany m_costs m_roots m_depth m_row m_placeOf)[i]?)) (rest := []) ⟨hx, hb, hml, hown, hts⟩ (kX7_copyD l D cI cR (ad 0) (ad 1) (ad 10) (ad 15) (ad 23) (ad 29) (ad 34) (ad 6) (ad 7) (ad 4) (ad 5) (rwF ad) ques trc flt (cf 2) (th 2) (la 2) (le 2) (cf 1) (th 1) (la 1) (le 1) y1 y2 y3 y4 y5 (fun h => by rw [hr4 h]; rfl) (fun h => by rw [hq4 h]; rfl) (rv, flt_n, q_cells_n) hTx) (cwV 5 hts gT_X7_copy rfl rfl rfl (by decide +kernel) ⟨Nat.le_of_ble_eq_true rfl, Nat.le_of_ble_eq_true rfl⟩) hP hD hS hA hK hN [0, 1, 6, 7, 4, 5] [2, 3, 8, 9, 10, 11, 12, 13, 14, 15, 16, 17, 18, 19, 20, 21, 22, 23, 24, 25, 26, 27, 28, 29, 30, 31, 32, 33, 34, 35, 36, 37, 38, 39, 40, 41, 42, 43, 44, 45, 46, 47, 48, 49, 50, 51, 52, 53, 54] rfl rfl (by decide) (by decide) (by decide) (va_recv hK hP (ci := 6) (q0 := 0) rfl rfl) rfl hl.1 rfl (Nat.le_of_ble_eq_true rfl) dL_law_945 ⟨Nat.le_of_ble_eq_true rfl, Nat.le_of_ble_eq_true rfl⟩ (fun H locs hP hD hS => ?_)
      have hP := hP.sub (ws' := wL ad cI cR ques trc flt_n th la le (va_up cf 1 q_cells_n) kind page asked sees cnt wet which leaf rds d_fittingPages d_leastPage d_greatestPage e_kind e_page e_asked e_sent e_count e_wetSet y_leaves y_led y_firstWrong h_kind h_page h_asked h_sent h_count h_wetSet f_dry f_askedUpTo f_costs f_roots f_size o_aheadOf o_ways o_count sorts slong mcells m_at m_readSlips m_read m_looked m_keptSees m_sumOfLeaves m_ledTo m_firstWrong m_dryOnes m_dryMany m_costs m_roots m_depth m_row m_placeOf) [49, 50, 0, 1, 53, 54, 51, 52, 2, 3, 4, 5, 6, 7, 8, 9, 10, 11, 12, 13, 14, 15, 16, 17, 18, 19, 20, 21, 22, 23, 24, 25, 26, 27, 28, 29, 30, 31, 32, 33, 34, 35, 36, 37, 38, 39, 40, 41, 42, 43, 44, 45, 46, 47, 48] rfl
      have hD := hD.sub (ws' := wL ad cI cR ques trc flt_n th la le (va_up cf 1 q_cells_n) kind page asked sees cnt wet which leaf rds d_fittingPages d_leastPage d_greatestPage e_kind e_page e_asked e_sent e_count e_wetSet y_leaves y_led y_firstWrong h_kind h_page h_asked h_sent h_count h_wetSet f_dry f_askedUpTo f_costs f_roots f_size o_aheadOf o_ways o_count sorts slong mcells m_at m_readSlips m_read m_looked m_keptSees m_sumOfLeaves m_ledTo m_firstWrong m_dryOnes m_dryMany m_costs m_roots m_depth m_row m_placeOf) [49, 50, 0, 1, 53, 54, 51, 52, 2, 3, 4, 5, 6, 7, 8, 9, 10, 11, 12, 13, 14, 15, 16, 17, 18, 19, 20, 21, 22, 23, 24, 25, 26, 27, 28, 29, 30, 31, 32, 33, 34, 35, 36, 37, 38, 39, 40, 41, 42, 43, 44, 45, 46, 47, 48] (by decide) rfl
      refine lv_aload_n hx hb dL_law_948 rfl (lv_at hl 2 rfl) ?_
      refine lv_aload_n hx hb dL_law_949 rfl (lv_at hl 0 rfl) ?_
      refine lv_iload_n hx hb dL_law_950 rfl (lv_at hl 3 rfl) ?_
      refine lv_iconst (v := 1) hx hb dL_law_951 (by decide) ?_
      refine lv_iadd hx hb dL_law_952 ?_
      refine q_sld hx hb hX hbl hbA hS hi1 hy1 dL_law_953 ?_
      refine lv_aload_n hx hb dL_law_954 rfl (lv_at hl 0 rfl) ?_
      refine lv_iload_n hx hb dL_law_955 rfl (lv_at hl 3 rfl) ?_
      refine lv_iconst (v := 2) hx hb dL_law_956 (by decide) ?_
      refine lv_iadd hx hb dL_law_957 ?_
      refine q_sld hx hb hX hbl hbA hS hi2 hy2 dL_law_958 ?_
      refine lv_aload_n hx hb dL_law_959 rfl (lv_at hl 0 rfl) ?_
      refine lv_iload_n hx hb dL_law_960 rfl (lv_at hl 3 rfl) ?_
      refine lv_iconst (v := 3) hx hb dL_law_961 (by decide) ?_
      refine lv_iadd hx hb dL_law_962 ?_
      refine q_sld hx hb hX hbl hbA hS hi3 hy3 dL_law_963 ?_
      refine lv_aload_n hx hb dL_law_964 rfl (lv_at hl 0 rfl) ?_
      refine lv_iload_n hx hb dL_law_965 rfl (lv_at hl 3 rfl) ?_
      refine lv_iconst (v := 4) hx hb dL_law_966 (by decide) ?_
      refine lv_iadd hx hb dL_law_967 ?_
      refine q_sld hx hb hX hbl hbA hS hi4 hy4 dL_law_968 ?_
      refine lv_aload_n hx hb dL_law_969 rfl (lv_at hl 0 rfl) ?_
      refine lv_iload_n hx hb dL_law_970 rfl (lv_at hl 3 rfl) ?_
      refine lv_iconst (v := 5) hx hb dL_law_971 (by decide) ?_
      refine lv_iadd hx hb dL_law_972 ?_
      refine q_sld hx hb hX hbl hbA hS hi5 hy5 dL_law_973 ?_
      refine q_wVi (wr := [0, 1, 2, 3, 4, 5, 6, 7, 8, 9, 10, 11, 12, 13, 14, 15, 16, 17, 18, 19, 20, 21, 22, 23, 24, 25, 26, 27, 28, 29, 30, 31, 32, 33, 34, 35, 36].filterMap (fun i => (wL ad cI cR ques trc flt_n th la le (va_up cf 1 q_cells_n) kind page asked sees cnt wet which leaf rds d_fittingPages d_leastPage d_greatestPage e_kind e_page e_asked e_sent e_count e_wetSet y_leaves y_led y_firstWrong h_kind h_page h_asked h_sent h_count h_wetSet f_dry f_askedUpTo f_costs f_roots f_size o_aheadOf o_ways o_count sorts slong mcells m_at m_readSlips m_read m_looked m_keptSees m_sumOfLeaves m_ledTo m_firstWrong m_dryOnes m_dryMany m_costs m_roots m_depth m_row m_placeOf)[i]?)) (rest := [.int rv]) ⟨hx, hb, hml, hown, hts⟩ (kX8_copy l D cI cR (ad 37) (ad 38) (ad 39) (ad 40) (ad 41) (ad 42) (ad 43) (ad 44) (ad 45) (ad 46) (ad 47) (ad 48) (ad 49) (ad 50) (ad 51) (ad 52) (ad 53) (ad 54) flt_n trc sorts slong mcells cnt ques wet kind page asked sees m_at m_readSlips m_read m_looked m_keptSees m_sumOfLeaves m_ledTo m_firstWrong m_dryOnes m_dryMany m_costs m_roots m_depth m_row m_placeOf rds which leaf y1 y2 y3 y4 y5 (rv, flt_n, mcells_n) hTm) (cwV 5 hts gT_X8_copy rfl rfl rfl (by decide +kernel) ⟨Nat.le_of_ble_eq_true rfl, Nat.le_of_ble_eq_true rfl⟩) hP hD hS hA hK hN [37, 38, 39, 40, 41, 42, 43, 44, 45, 46, 47, 48, 49, 50, 51, 52, 53, 54] [0, 1, 2, 3, 4, 5, 6, 7, 8, 9, 10, 11, 12, 13, 14, 15, 16, 17, 18, 19, 20, 21, 22, 23, 24, 25, 26, 27, 28, 29, 30, 31, 32, 33, 34, 35, 36] rfl rfl (by decide) (by decide) (by decide) (va_recv hK hP (ci := 7) (q0 := 37) rfl rfl) rfl hl.1 rfl (Nat.le_of_ble_eq_true rfl) dL_law_974 ⟨Nat.le_of_ble_eq_true rfl, Nat.le_of_ble_eq_true rfl⟩ (fun H locs hP hD hS => ?_)
      have hP := hP.sub (ws' := wL ad cI cR ques trc flt_n th la le (va_up cf 1 q_cells_n) kind page asked sees cnt wet which leaf rds d_fittingPages d_leastPage d_greatestPage e_kind e_page e_asked e_sent e_count e_wetSet y_leaves y_led y_firstWrong h_kind h_page h_asked h_sent h_count h_wetSet f_dry f_askedUpTo f_costs f_roots f_size o_aheadOf o_ways o_count sorts slong mcells_n m_at m_readSlips m_read m_looked m_keptSees m_sumOfLeaves m_ledTo m_firstWrong m_dryOnes m_dryMany m_costs m_roots m_depth m_row m_placeOf) [0, 1, 2, 3, 4, 5, 6, 7, 8, 9, 10, 11, 12, 13, 14, 15, 16, 17, 18, 19, 20, 21, 22, 23, 24, 25, 26, 27, 28, 29, 30, 31, 32, 33, 34, 35, 36, 37, 38, 39, 40, 41, 42, 43, 44, 45, 46, 47, 48, 49, 50, 51, 52, 53, 54] rfl
      have hD := hD.sub (ws' := wL ad cI cR ques trc flt_n th la le (va_up cf 1 q_cells_n) kind page asked sees cnt wet which leaf rds d_fittingPages d_leastPage d_greatestPage e_kind e_page e_asked e_sent e_count e_wetSet y_leaves y_led y_firstWrong h_kind h_page h_asked h_sent h_count h_wetSet f_dry f_askedUpTo f_costs f_roots f_size o_aheadOf o_ways o_count sorts slong mcells_n m_at m_readSlips m_read m_looked m_keptSees m_sumOfLeaves m_ledTo m_firstWrong m_dryOnes m_dryMany m_costs m_roots m_depth m_row m_placeOf) [0, 1, 2, 3, 4, 5, 6, 7, 8, 9, 10, 11, 12, 13, 14, 15, 16, 17, 18, 19, 20, 21, 22, 23, 24, 25, 26, 27, 28, 29, 30, 31, 32, 33, 34, 35, 36, 37, 38, 39, 40, 41, 42, 43, 44, 45, 46, 47, 48, 49, 50, 51, 52, 53, 54] (by decide) rfl
      refine lv_icmp_eq (tgt := 1110) hx hb dL_law_977 (by decide) (fun _ => ?_) (fun h => absurd rfl h)
      exact kk _ _ _ _ _ _ _ _ _ _ _ _ _ _ _ _ _ _ _ _ _ _ _ _ _ _ _ _ _ _ _ _ _ _ _ _ _ _ _ _ _ _ _ _ _ _ _ _ _ _ _ _ _ _ _ _ _ _ _ _ _ _ _ hI hP hD hS hl
    · obtain ⟨rv, flt_n, r_cells_n, mcells_n, hTx, hTm, hI⟩ := T_copyS flt th la le cf kind page asked sees cnt wet which leaf rds f_askedUpTo f_costs sorts slong mcells 2 (by decide) y1 y2 y3 y4 y5 hr4 hq4 hI
      refine lv_aload_n hx hb dL_law_919 rfl (lv_at hl 1 rfl) ?_
      refine lv_aload_n hx hb dL_law_920 rfl (lv_at hl 0 rfl) ?_
      refine lv_iload_n hx hb dL_law_921 rfl (lv_at hl 3 rfl) ?_
      refine lv_iconst (v := 1) hx hb dL_law_922 (by decide) ?_
      refine lv_iadd hx hb dL_law_923 ?_
      refine q_sld hx hb hX hbl hbA hS hi1 hy1 dL_law_924 ?_
      refine lv_aload_n hx hb dL_law_925 rfl (lv_at hl 0 rfl) ?_
      refine lv_iload_n hx hb dL_law_926 rfl (lv_at hl 3 rfl) ?_
      refine lv_iconst (v := 2) hx hb dL_law_927 (by decide) ?_
      refine lv_iadd hx hb dL_law_928 ?_
      refine q_sld hx hb hX hbl hbA hS hi2 hy2 dL_law_929 ?_
      refine lv_aload_n hx hb dL_law_930 rfl (lv_at hl 0 rfl) ?_
      refine lv_iload_n hx hb dL_law_931 rfl (lv_at hl 3 rfl) ?_
      refine lv_iconst (v := 3) hx hb dL_law_932 (by decide) ?_
      refine lv_iadd hx hb dL_law_933 ?_
      refine q_sld hx hb hX hbl hbA hS hi3 hy3 dL_law_934 ?_
      refine lv_aload_n hx hb dL_law_935 rfl (lv_at hl 0 rfl) ?_
      refine lv_iload_n hx hb dL_law_936 rfl (lv_at hl 3 rfl) ?_
      refine lv_iconst (v := 4) hx hb dL_law_937 (by decide) ?_
      refine lv_iadd hx hb dL_law_938 ?_
      refine q_sld hx hb hX hbl hbA hS hi4 hy4 dL_law_939 ?_
      refine lv_aload_n hx hb dL_law_940 rfl (lv_at hl 0 rfl) ?_
      refine lv_iload_n hx hb dL_law_941 rfl (lv_at hl 3 rfl) ?_
      refine lv_iconst (v := 5) hx hb dL_law_942 (by decide) ?_
      refine lv_iadd hx hb dL_law_943 ?_
      refine q_sld hx hb hX hbl hbA hS hi5 hy5 dL_law_944 ?_
      refine q_wVi (wr := [2, 3, 4, 5, 8, 9, 10, 11, 12, 13, 14, 15, 16, 17, 18, 19, 20, 21, 22, 23, 24, 25, 26, 27, 28, 29, 30, 31, 32, 33, 34, 35, 36, 37, 38, 39, 40, 41, 42, 43, 44, 45, 46, 47, 48, 49, 50, 51, 52, 53, 54].filterMap (fun i => (wL ad cI cR ques trc flt th la le cf kind page asked sees cnt wet which leaf rds d_fittingPages d_leastPage d_greatestPage e_kind e_page e_asked e_sent e_count e_wetSet y_leaves y_led y_firstWrong h_kind h_page h_asked h_sent h_count h_wetSet f_dry f_askedUpTo f_costs f_roots f_size o_aheadOf o_ways o_count sorts slong mcells m_at m_readSlips m_read m_looked m_keptSees m_sumOfLeaves m_ledTo m_firstWrong m_dryOnes m_dryMany m_costs m_roots m_depth m_row m_placeOf)[i]?)) (rest := []) ⟨hx, hb, hml, hown, hts⟩ (kX7_copyS l D cI cR (ad 0) (ad 1) (ad 10) (ad 15) (ad 23) (ad 29) (ad 34) (ad 6) (ad 7) (rwF ad) ques trc flt (cf 2) (th 2) (la 2) (le 2) y1 y2 y3 y4 y5 (fun h => by rw [hr4 h]; rfl) (fun h => by rw [hq4 h]; rfl) (rv, flt_n, r_cells_n) hTx) (cwV 5 hts gT_X7_copy rfl rfl rfl (by decide +kernel) ⟨Nat.le_of_ble_eq_true rfl, Nat.le_of_ble_eq_true rfl⟩) hP hD hS hA hK hN [0, 1, 6, 7] [2, 3, 4, 5, 8, 9, 10, 11, 12, 13, 14, 15, 16, 17, 18, 19, 20, 21, 22, 23, 24, 25, 26, 27, 28, 29, 30, 31, 32, 33, 34, 35, 36, 37, 38, 39, 40, 41, 42, 43, 44, 45, 46, 47, 48, 49, 50, 51, 52, 53, 54] rfl rfl (by decide) (by decide) (by decide) (va_recv hK hP (ci := 6) (q0 := 0) rfl rfl) rfl hl.1 rfl (Nat.le_of_ble_eq_true rfl) dL_law_945 ⟨Nat.le_of_ble_eq_true rfl, Nat.le_of_ble_eq_true rfl⟩ (fun H locs hP hD hS => ?_)
      have hP := hP.sub (ws' := wL ad cI cR ques trc flt_n th la le (va_up cf 2 r_cells_n) kind page asked sees cnt wet which leaf rds d_fittingPages d_leastPage d_greatestPage e_kind e_page e_asked e_sent e_count e_wetSet y_leaves y_led y_firstWrong h_kind h_page h_asked h_sent h_count h_wetSet f_dry f_askedUpTo f_costs f_roots f_size o_aheadOf o_ways o_count sorts slong mcells m_at m_readSlips m_read m_looked m_keptSees m_sumOfLeaves m_ledTo m_firstWrong m_dryOnes m_dryMany m_costs m_roots m_depth m_row m_placeOf) [51, 52, 0, 1, 2, 3, 53, 54, 4, 5, 6, 7, 8, 9, 10, 11, 12, 13, 14, 15, 16, 17, 18, 19, 20, 21, 22, 23, 24, 25, 26, 27, 28, 29, 30, 31, 32, 33, 34, 35, 36, 37, 38, 39, 40, 41, 42, 43, 44, 45, 46, 47, 48, 49, 50] rfl
      have hD := hD.sub (ws' := wL ad cI cR ques trc flt_n th la le (va_up cf 2 r_cells_n) kind page asked sees cnt wet which leaf rds d_fittingPages d_leastPage d_greatestPage e_kind e_page e_asked e_sent e_count e_wetSet y_leaves y_led y_firstWrong h_kind h_page h_asked h_sent h_count h_wetSet f_dry f_askedUpTo f_costs f_roots f_size o_aheadOf o_ways o_count sorts slong mcells m_at m_readSlips m_read m_looked m_keptSees m_sumOfLeaves m_ledTo m_firstWrong m_dryOnes m_dryMany m_costs m_roots m_depth m_row m_placeOf) [51, 52, 0, 1, 2, 3, 53, 54, 4, 5, 6, 7, 8, 9, 10, 11, 12, 13, 14, 15, 16, 17, 18, 19, 20, 21, 22, 23, 24, 25, 26, 27, 28, 29, 30, 31, 32, 33, 34, 35, 36, 37, 38, 39, 40, 41, 42, 43, 44, 45, 46, 47, 48, 49, 50] (by decide) rfl
      refine lv_aload_n hx hb dL_law_948 rfl (lv_at hl 2 rfl) ?_
      refine lv_aload_n hx hb dL_law_949 rfl (lv_at hl 0 rfl) ?_
      refine lv_iload_n hx hb dL_law_950 rfl (lv_at hl 3 rfl) ?_
      refine lv_iconst (v := 1) hx hb dL_law_951 (by decide) ?_
      refine lv_iadd hx hb dL_law_952 ?_
      refine q_sld hx hb hX hbl hbA hS hi1 hy1 dL_law_953 ?_
      refine lv_aload_n hx hb dL_law_954 rfl (lv_at hl 0 rfl) ?_
      refine lv_iload_n hx hb dL_law_955 rfl (lv_at hl 3 rfl) ?_
      refine lv_iconst (v := 2) hx hb dL_law_956 (by decide) ?_
      refine lv_iadd hx hb dL_law_957 ?_
      refine q_sld hx hb hX hbl hbA hS hi2 hy2 dL_law_958 ?_
      refine lv_aload_n hx hb dL_law_959 rfl (lv_at hl 0 rfl) ?_
      refine lv_iload_n hx hb dL_law_960 rfl (lv_at hl 3 rfl) ?_
      refine lv_iconst (v := 3) hx hb dL_law_961 (by decide) ?_
      refine lv_iadd hx hb dL_law_962 ?_
      refine q_sld hx hb hX hbl hbA hS hi3 hy3 dL_law_963 ?_
      refine lv_aload_n hx hb dL_law_964 rfl (lv_at hl 0 rfl) ?_
      refine lv_iload_n hx hb dL_law_965 rfl (lv_at hl 3 rfl) ?_
      refine lv_iconst (v := 4) hx hb dL_law_966 (by decide) ?_
      refine lv_iadd hx hb dL_law_967 ?_
      refine q_sld hx hb hX hbl hbA hS hi4 hy4 dL_law_968 ?_
      refine lv_aload_n hx hb dL_law_969 rfl (lv_at hl 0 rfl) ?_
      refine lv_iload_n hx hb dL_law_970 rfl (lv_at hl 3 rfl) ?_
      refine lv_iconst (v := 5) hx hb dL_law_971 (by decide) ?_
      refine lv_iadd hx hb dL_law_972 ?_
      refine q_sld hx hb hX hbl hbA hS hi5 hy5 dL_law_973 ?_
      refine q_wVi (wr := [0, 1, 2, 3, 4, 5, 6, 7, 8, 9, 10, 11, 12, 13, 14, 15, 16, 17, 18, 19, 20, 21, 22, 23, 24, 25, 26, 27, 28, 29, 30, 31, 32, 33, 34, 35, 36].filterMap (fun i => (wL ad cI cR ques trc flt_n th la le (va_up cf 2 r_cells_n) kind page asked sees cnt wet which leaf rds d_fittingPages d_leastPage d_greatestPage e_kind e_page e_asked e_sent e_count e_wetSet y_leaves y_led y_firstWrong h_kind h_page h_asked h_sent h_count h_wetSet f_dry f_askedUpTo f_costs f_roots f_size o_aheadOf o_ways o_count sorts slong mcells m_at m_readSlips m_read m_looked m_keptSees m_sumOfLeaves m_ledTo m_firstWrong m_dryOnes m_dryMany m_costs m_roots m_depth m_row m_placeOf)[i]?)) (rest := [.int rv]) ⟨hx, hb, hml, hown, hts⟩ (kX8_copy l D cI cR (ad 37) (ad 38) (ad 39) (ad 40) (ad 41) (ad 42) (ad 43) (ad 44) (ad 45) (ad 46) (ad 47) (ad 48) (ad 49) (ad 50) (ad 51) (ad 52) (ad 53) (ad 54) flt_n trc sorts slong mcells cnt ques wet kind page asked sees m_at m_readSlips m_read m_looked m_keptSees m_sumOfLeaves m_ledTo m_firstWrong m_dryOnes m_dryMany m_costs m_roots m_depth m_row m_placeOf rds which leaf y1 y2 y3 y4 y5 (rv, flt_n, mcells_n) hTm) (cwV 5 hts gT_X8_copy rfl rfl rfl (by decide +kernel) ⟨Nat.le_of_ble_eq_true rfl, Nat.le_of_ble_eq_true rfl⟩) hP hD hS hA hK hN [37, 38, 39, 40, 41, 42, 43, 44, 45, 46, 47, 48, 49, 50, 51, 52, 53, 54] [0, 1, 2, 3, 4, 5, 6, 7, 8, 9, 10, 11, 12, 13, 14, 15, 16, 17, 18, 19, 20, 21, 22, 23, 24, 25, 26, 27, 28, 29, 30, 31, 32, 33, 34, 35, 36] rfl rfl (by decide) (by decide) (by decide) (va_recv hK hP (ci := 7) (q0 := 37) rfl rfl) rfl hl.1 rfl (Nat.le_of_ble_eq_true rfl) dL_law_974 ⟨Nat.le_of_ble_eq_true rfl, Nat.le_of_ble_eq_true rfl⟩ (fun H locs hP hD hS => ?_)
      have hP := hP.sub (ws' := wL ad cI cR ques trc flt_n th la le (va_up cf 2 r_cells_n) kind page asked sees cnt wet which leaf rds d_fittingPages d_leastPage d_greatestPage e_kind e_page e_asked e_sent e_count e_wetSet y_leaves y_led y_firstWrong h_kind h_page h_asked h_sent h_count h_wetSet f_dry f_askedUpTo f_costs f_roots f_size o_aheadOf o_ways o_count sorts slong mcells_n m_at m_readSlips m_read m_looked m_keptSees m_sumOfLeaves m_ledTo m_firstWrong m_dryOnes m_dryMany m_costs m_roots m_depth m_row m_placeOf) [0, 1, 2, 3, 4, 5, 6, 7, 8, 9, 10, 11, 12, 13, 14, 15, 16, 17, 18, 19, 20, 21, 22, 23, 24, 25, 26, 27, 28, 29, 30, 31, 32, 33, 34, 35, 36, 37, 38, 39, 40, 41, 42, 43, 44, 45, 46, 47, 48, 49, 50, 51, 52, 53, 54] rfl
      have hD := hD.sub (ws' := wL ad cI cR ques trc flt_n th la le (va_up cf 2 r_cells_n) kind page asked sees cnt wet which leaf rds d_fittingPages d_leastPage d_greatestPage e_kind e_page e_asked e_sent e_count e_wetSet y_leaves y_led y_firstWrong h_kind h_page h_asked h_sent h_count h_wetSet f_dry f_askedUpTo f_costs f_roots f_size o_aheadOf o_ways o_count sorts slong mcells_n m_at m_readSlips m_read m_looked m_keptSees m_sumOfLeaves m_ledTo m_firstWrong m_dryOnes m_dryMany m_costs m_roots m_depth m_row m_placeOf) [0, 1, 2, 3, 4, 5, 6, 7, 8, 9, 10, 11, 12, 13, 14, 15, 16, 17, 18, 19, 20, 21, 22, 23, 24, 25, 26, 27, 28, 29, 30, 31, 32, 33, 34, 35, 36, 37, 38, 39, 40, 41, 42, 43, 44, 45, 46, 47, 48, 49, 50, 51, 52, 53, 54] (by decide) rfl
      refine lv_icmp_eq (tgt := 1110) hx hb dL_law_977 (by decide) (fun _ => ?_) (fun h => absurd rfl h)
      exact kk _ _ _ _ _ _ _ _ _ _ _ _ _ _ _ _ _ _ _ _ _ _ _ _ _ _ _ _ _ _ _ _ _ _ _ _ _ _ _ _ _ _ _ _ _ _ _ _ _ _ _ _ _ _ _ _ _ _ _ _ _ _ _ hI hP hD hS hl
    · obtain ⟨rv, flt_n, q_cells_n, mcells_n, hTx, hTm, hI⟩ := T_copyD flt th la le cf kind page asked sees cnt wet which leaf rds f_askedUpTo f_costs sorts slong mcells 2 (by decide) 3 (by decide) (by decide) y1 y2 y3 y4 y5 hr4 hq4 hI
      refine lv_aload_n hx hb dL_law_919 rfl (lv_at hl 1 rfl) ?_
      refine lv_aload_n hx hb dL_law_920 rfl (lv_at hl 0 rfl) ?_
      refine lv_iload_n hx hb dL_law_921 rfl (lv_at hl 3 rfl) ?_
      refine lv_iconst (v := 1) hx hb dL_law_922 (by decide) ?_
      refine lv_iadd hx hb dL_law_923 ?_
      refine q_sld hx hb hX hbl hbA hS hi1 hy1 dL_law_924 ?_
      refine lv_aload_n hx hb dL_law_925 rfl (lv_at hl 0 rfl) ?_
      refine lv_iload_n hx hb dL_law_926 rfl (lv_at hl 3 rfl) ?_
      refine lv_iconst (v := 2) hx hb dL_law_927 (by decide) ?_
      refine lv_iadd hx hb dL_law_928 ?_
      refine q_sld hx hb hX hbl hbA hS hi2 hy2 dL_law_929 ?_
      refine lv_aload_n hx hb dL_law_930 rfl (lv_at hl 0 rfl) ?_
      refine lv_iload_n hx hb dL_law_931 rfl (lv_at hl 3 rfl) ?_
      refine lv_iconst (v := 3) hx hb dL_law_932 (by decide) ?_
      refine lv_iadd hx hb dL_law_933 ?_
      refine q_sld hx hb hX hbl hbA hS hi3 hy3 dL_law_934 ?_
      refine lv_aload_n hx hb dL_law_935 rfl (lv_at hl 0 rfl) ?_
      refine lv_iload_n hx hb dL_law_936 rfl (lv_at hl 3 rfl) ?_
      refine lv_iconst (v := 4) hx hb dL_law_937 (by decide) ?_
      refine lv_iadd hx hb dL_law_938 ?_
      refine q_sld hx hb hX hbl hbA hS hi4 hy4 dL_law_939 ?_
      refine lv_aload_n hx hb dL_law_940 rfl (lv_at hl 0 rfl) ?_
      refine lv_iload_n hx hb dL_law_941 rfl (lv_at hl 3 rfl) ?_
      refine lv_iconst (v := 5) hx hb dL_law_942 (by decide) ?_
      refine lv_iadd hx hb dL_law_943 ?_
      refine q_sld hx hb hX hbl hbA hS hi5 hy5 dL_law_944 ?_
      refine q_wVi (wr := [2, 3, 4, 5, 10, 11, 12, 13, 14, 15, 16, 17, 18, 19, 20, 21, 22, 23, 24, 25, 26, 27, 28, 29, 30, 31, 32, 33, 34, 35, 36, 37, 38, 39, 40, 41, 42, 43, 44, 45, 46, 47, 48, 49, 50, 51, 52, 53, 54].filterMap (fun i => (wL ad cI cR ques trc flt th la le cf kind page asked sees cnt wet which leaf rds d_fittingPages d_leastPage d_greatestPage e_kind e_page e_asked e_sent e_count e_wetSet y_leaves y_led y_firstWrong h_kind h_page h_asked h_sent h_count h_wetSet f_dry f_askedUpTo f_costs f_roots f_size o_aheadOf o_ways o_count sorts slong mcells m_at m_readSlips m_read m_looked m_keptSees m_sumOfLeaves m_ledTo m_firstWrong m_dryOnes m_dryMany m_costs m_roots m_depth m_row m_placeOf)[i]?)) (rest := []) ⟨hx, hb, hml, hown, hts⟩ (kX7_copyD l D cI cR (ad 0) (ad 1) (ad 10) (ad 15) (ad 23) (ad 29) (ad 34) (ad 6) (ad 7) (ad 8) (ad 9) (rwF ad) ques trc flt (cf 2) (th 2) (la 2) (le 2) (cf 3) (th 3) (la 3) (le 3) y1 y2 y3 y4 y5 (fun h => by rw [hr4 h]; rfl) (fun h => by rw [hq4 h]; rfl) (rv, flt_n, q_cells_n) hTx) (cwV 5 hts gT_X7_copy rfl rfl rfl (by decide +kernel) ⟨Nat.le_of_ble_eq_true rfl, Nat.le_of_ble_eq_true rfl⟩) hP hD hS hA hK hN [0, 1, 6, 7, 8, 9] [2, 3, 4, 5, 10, 11, 12, 13, 14, 15, 16, 17, 18, 19, 20, 21, 22, 23, 24, 25, 26, 27, 28, 29, 30, 31, 32, 33, 34, 35, 36, 37, 38, 39, 40, 41, 42, 43, 44, 45, 46, 47, 48, 49, 50, 51, 52, 53, 54] rfl rfl (by decide) (by decide) (by decide) (va_recv hK hP (ci := 6) (q0 := 0) rfl rfl) rfl hl.1 rfl (Nat.le_of_ble_eq_true rfl) dL_law_945 ⟨Nat.le_of_ble_eq_true rfl, Nat.le_of_ble_eq_true rfl⟩ (fun H locs hP hD hS => ?_)
      have hP := hP.sub (ws' := wL ad cI cR ques trc flt_n th la le (va_up cf 3 q_cells_n) kind page asked sees cnt wet which leaf rds d_fittingPages d_leastPage d_greatestPage e_kind e_page e_asked e_sent e_count e_wetSet y_leaves y_led y_firstWrong h_kind h_page h_asked h_sent h_count h_wetSet f_dry f_askedUpTo f_costs f_roots f_size o_aheadOf o_ways o_count sorts slong mcells m_at m_readSlips m_read m_looked m_keptSees m_sumOfLeaves m_ledTo m_firstWrong m_dryOnes m_dryMany m_costs m_roots m_depth m_row m_placeOf) [49, 50, 0, 1, 2, 3, 51, 52, 53, 54, 4, 5, 6, 7, 8, 9, 10, 11, 12, 13, 14, 15, 16, 17, 18, 19, 20, 21, 22, 23, 24, 25, 26, 27, 28, 29, 30, 31, 32, 33, 34, 35, 36, 37, 38, 39, 40, 41, 42, 43, 44, 45, 46, 47, 48] rfl
      have hD := hD.sub (ws' := wL ad cI cR ques trc flt_n th la le (va_up cf 3 q_cells_n) kind page asked sees cnt wet which leaf rds d_fittingPages d_leastPage d_greatestPage e_kind e_page e_asked e_sent e_count e_wetSet y_leaves y_led y_firstWrong h_kind h_page h_asked h_sent h_count h_wetSet f_dry f_askedUpTo f_costs f_roots f_size o_aheadOf o_ways o_count sorts slong mcells m_at m_readSlips m_read m_looked m_keptSees m_sumOfLeaves m_ledTo m_firstWrong m_dryOnes m_dryMany m_costs m_roots m_depth m_row m_placeOf) [49, 50, 0, 1, 2, 3, 51, 52, 53, 54, 4, 5, 6, 7, 8, 9, 10, 11, 12, 13, 14, 15, 16, 17, 18, 19, 20, 21, 22, 23, 24, 25, 26, 27, 28, 29, 30, 31, 32, 33, 34, 35, 36, 37, 38, 39, 40, 41, 42, 43, 44, 45, 46, 47, 48] (by decide) rfl
      refine lv_aload_n hx hb dL_law_948 rfl (lv_at hl 2 rfl) ?_
      refine lv_aload_n hx hb dL_law_949 rfl (lv_at hl 0 rfl) ?_
      refine lv_iload_n hx hb dL_law_950 rfl (lv_at hl 3 rfl) ?_
      refine lv_iconst (v := 1) hx hb dL_law_951 (by decide) ?_
      refine lv_iadd hx hb dL_law_952 ?_
      refine q_sld hx hb hX hbl hbA hS hi1 hy1 dL_law_953 ?_
      refine lv_aload_n hx hb dL_law_954 rfl (lv_at hl 0 rfl) ?_
      refine lv_iload_n hx hb dL_law_955 rfl (lv_at hl 3 rfl) ?_
      refine lv_iconst (v := 2) hx hb dL_law_956 (by decide) ?_
      refine lv_iadd hx hb dL_law_957 ?_
      refine q_sld hx hb hX hbl hbA hS hi2 hy2 dL_law_958 ?_
      refine lv_aload_n hx hb dL_law_959 rfl (lv_at hl 0 rfl) ?_
      refine lv_iload_n hx hb dL_law_960 rfl (lv_at hl 3 rfl) ?_
      refine lv_iconst (v := 3) hx hb dL_law_961 (by decide) ?_
      refine lv_iadd hx hb dL_law_962 ?_
      refine q_sld hx hb hX hbl hbA hS hi3 hy3 dL_law_963 ?_
      refine lv_aload_n hx hb dL_law_964 rfl (lv_at hl 0 rfl) ?_
      refine lv_iload_n hx hb dL_law_965 rfl (lv_at hl 3 rfl) ?_
      refine lv_iconst (v := 4) hx hb dL_law_966 (by decide) ?_
      refine lv_iadd hx hb dL_law_967 ?_
      refine q_sld hx hb hX hbl hbA hS hi4 hy4 dL_law_968 ?_
      refine lv_aload_n hx hb dL_law_969 rfl (lv_at hl 0 rfl) ?_
      refine lv_iload_n hx hb dL_law_970 rfl (lv_at hl 3 rfl) ?_
      refine lv_iconst (v := 5) hx hb dL_law_971 (by decide) ?_
      refine lv_iadd hx hb dL_law_972 ?_
      refine q_sld hx hb hX hbl hbA hS hi5 hy5 dL_law_973 ?_
      refine q_wVi (wr := [0, 1, 2, 3, 4, 5, 6, 7, 8, 9, 10, 11, 12, 13, 14, 15, 16, 17, 18, 19, 20, 21, 22, 23, 24, 25, 26, 27, 28, 29, 30, 31, 32, 33, 34, 35, 36].filterMap (fun i => (wL ad cI cR ques trc flt_n th la le (va_up cf 3 q_cells_n) kind page asked sees cnt wet which leaf rds d_fittingPages d_leastPage d_greatestPage e_kind e_page e_asked e_sent e_count e_wetSet y_leaves y_led y_firstWrong h_kind h_page h_asked h_sent h_count h_wetSet f_dry f_askedUpTo f_costs f_roots f_size o_aheadOf o_ways o_count sorts slong mcells m_at m_readSlips m_read m_looked m_keptSees m_sumOfLeaves m_ledTo m_firstWrong m_dryOnes m_dryMany m_costs m_roots m_depth m_row m_placeOf)[i]?)) (rest := [.int rv]) ⟨hx, hb, hml, hown, hts⟩ (kX8_copy l D cI cR (ad 37) (ad 38) (ad 39) (ad 40) (ad 41) (ad 42) (ad 43) (ad 44) (ad 45) (ad 46) (ad 47) (ad 48) (ad 49) (ad 50) (ad 51) (ad 52) (ad 53) (ad 54) flt_n trc sorts slong mcells cnt ques wet kind page asked sees m_at m_readSlips m_read m_looked m_keptSees m_sumOfLeaves m_ledTo m_firstWrong m_dryOnes m_dryMany m_costs m_roots m_depth m_row m_placeOf rds which leaf y1 y2 y3 y4 y5 (rv, flt_n, mcells_n) hTm) (cwV 5 hts gT_X8_copy rfl rfl rfl (by decide +kernel) ⟨Nat.le_of_ble_eq_true rfl, Nat.le_of_ble_eq_true rfl⟩) hP hD hS hA hK hN [37, 38, 39, 40, 41, 42, 43, 44, 45, 46, 47, 48, 49, 50, 51, 52, 53, 54] [0, 1, 2, 3, 4, 5, 6, 7, 8, 9, 10, 11, 12, 13, 14, 15, 16, 17, 18, 19, 20, 21, 22, 23, 24, 25, 26, 27, 28, 29, 30, 31, 32, 33, 34, 35, 36] rfl rfl (by decide) (by decide) (by decide) (va_recv hK hP (ci := 7) (q0 := 37) rfl rfl) rfl hl.1 rfl (Nat.le_of_ble_eq_true rfl) dL_law_974 ⟨Nat.le_of_ble_eq_true rfl, Nat.le_of_ble_eq_true rfl⟩ (fun H locs hP hD hS => ?_)
      have hP := hP.sub (ws' := wL ad cI cR ques trc flt_n th la le (va_up cf 3 q_cells_n) kind page asked sees cnt wet which leaf rds d_fittingPages d_leastPage d_greatestPage e_kind e_page e_asked e_sent e_count e_wetSet y_leaves y_led y_firstWrong h_kind h_page h_asked h_sent h_count h_wetSet f_dry f_askedUpTo f_costs f_roots f_size o_aheadOf o_ways o_count sorts slong mcells_n m_at m_readSlips m_read m_looked m_keptSees m_sumOfLeaves m_ledTo m_firstWrong m_dryOnes m_dryMany m_costs m_roots m_depth m_row m_placeOf) [0, 1, 2, 3, 4, 5, 6, 7, 8, 9, 10, 11, 12, 13, 14, 15, 16, 17, 18, 19, 20, 21, 22, 23, 24, 25, 26, 27, 28, 29, 30, 31, 32, 33, 34, 35, 36, 37, 38, 39, 40, 41, 42, 43, 44, 45, 46, 47, 48, 49, 50, 51, 52, 53, 54] rfl
      have hD := hD.sub (ws' := wL ad cI cR ques trc flt_n th la le (va_up cf 3 q_cells_n) kind page asked sees cnt wet which leaf rds d_fittingPages d_leastPage d_greatestPage e_kind e_page e_asked e_sent e_count e_wetSet y_leaves y_led y_firstWrong h_kind h_page h_asked h_sent h_count h_wetSet f_dry f_askedUpTo f_costs f_roots f_size o_aheadOf o_ways o_count sorts slong mcells_n m_at m_readSlips m_read m_looked m_keptSees m_sumOfLeaves m_ledTo m_firstWrong m_dryOnes m_dryMany m_costs m_roots m_depth m_row m_placeOf) [0, 1, 2, 3, 4, 5, 6, 7, 8, 9, 10, 11, 12, 13, 14, 15, 16, 17, 18, 19, 20, 21, 22, 23, 24, 25, 26, 27, 28, 29, 30, 31, 32, 33, 34, 35, 36, 37, 38, 39, 40, 41, 42, 43, 44, 45, 46, 47, 48, 49, 50, 51, 52, 53, 54] (by decide) rfl
      refine lv_icmp_eq (tgt := 1110) hx hb dL_law_977 (by decide) (fun _ => ?_) (fun h => absurd rfl h)
      exact kk _ _ _ _ _ _ _ _ _ _ _ _ _ _ _ _ _ _ _ _ _ _ _ _ _ _ _ _ _ _ _ _ _ _ _ _ _ _ _ _ _ _ _ _ _ _ _ _ _ _ _ _ _ _ _ _ _ _ _ _ _ _ _ hI hP hD hS hl
  · rcases (show k2 = 0 ∨ k2 = 1 ∨ k2 = 2 ∨ k2 = 3 by omega) with rfl | rfl | rfl | rfl
    · obtain ⟨rv, flt_n, q_cells_n, mcells_n, hTx, hTm, hI⟩ := T_copyD flt th la le cf kind page asked sees cnt wet which leaf rds f_askedUpTo f_costs sorts slong mcells 3 (by decide) 0 (by decide) (by decide) y1 y2 y3 y4 y5 hr4 hq4 hI
      refine lv_aload_n hx hb dL_law_919 rfl (lv_at hl 1 rfl) ?_
      refine lv_aload_n hx hb dL_law_920 rfl (lv_at hl 0 rfl) ?_
      refine lv_iload_n hx hb dL_law_921 rfl (lv_at hl 3 rfl) ?_
      refine lv_iconst (v := 1) hx hb dL_law_922 (by decide) ?_
      refine lv_iadd hx hb dL_law_923 ?_
      refine q_sld hx hb hX hbl hbA hS hi1 hy1 dL_law_924 ?_
      refine lv_aload_n hx hb dL_law_925 rfl (lv_at hl 0 rfl) ?_
      refine lv_iload_n hx hb dL_law_926 rfl (lv_at hl 3 rfl) ?_
      refine lv_iconst (v := 2) hx hb dL_law_927 (by decide) ?_
      refine lv_iadd hx hb dL_law_928 ?_
      refine q_sld hx hb hX hbl hbA hS hi2 hy2 dL_law_929 ?_
      refine lv_aload_n hx hb dL_law_930 rfl (lv_at hl 0 rfl) ?_
      refine lv_iload_n hx hb dL_law_931 rfl (lv_at hl 3 rfl) ?_
      refine lv_iconst (v := 3) hx hb dL_law_932 (by decide) ?_
      refine lv_iadd hx hb dL_law_933 ?_
      refine q_sld hx hb hX hbl hbA hS hi3 hy3 dL_law_934 ?_
      refine lv_aload_n hx hb dL_law_935 rfl (lv_at hl 0 rfl) ?_
      refine lv_iload_n hx hb dL_law_936 rfl (lv_at hl 3 rfl) ?_
      refine lv_iconst (v := 4) hx hb dL_law_937 (by decide) ?_
      refine lv_iadd hx hb dL_law_938 ?_
      refine q_sld hx hb hX hbl hbA hS hi4 hy4 dL_law_939 ?_
      refine lv_aload_n hx hb dL_law_940 rfl (lv_at hl 0 rfl) ?_
      refine lv_iload_n hx hb dL_law_941 rfl (lv_at hl 3 rfl) ?_
      refine lv_iconst (v := 5) hx hb dL_law_942 (by decide) ?_
      refine lv_iadd hx hb dL_law_943 ?_
      refine q_sld hx hb hX hbl hbA hS hi5 hy5 dL_law_944 ?_
      refine q_wVi (wr := [4, 5, 6, 7, 10, 11, 12, 13, 14, 15, 16, 17, 18, 19, 20, 21, 22, 23, 24, 25, 26, 27, 28, 29, 30, 31, 32, 33, 34, 35, 36, 37, 38, 39, 40, 41, 42, 43, 44, 45, 46, 47, 48, 49, 50, 51, 52, 53, 54].filterMap (fun i => (wL ad cI cR ques trc flt th la le cf kind page asked sees cnt wet which leaf rds d_fittingPages d_leastPage d_greatestPage e_kind e_page e_asked e_sent e_count e_wetSet y_leaves y_led y_firstWrong h_kind h_page h_asked h_sent h_count h_wetSet f_dry f_askedUpTo f_costs f_roots f_size o_aheadOf o_ways o_count sorts slong mcells m_at m_readSlips m_read m_looked m_keptSees m_sumOfLeaves m_ledTo m_firstWrong m_dryOnes m_dryMany m_costs m_roots m_depth m_row m_placeOf)[i]?)) (rest := []) ⟨hx, hb, hml, hown, hts⟩ (kX7_copyD l D cI cR (ad 0) (ad 1) (ad 10) (ad 15) (ad 23) (ad 29) (ad 34) (ad 8) (ad 9) (ad 2) (ad 3) (rwF ad) ques trc flt (cf 3) (th 3) (la 3) (le 3) (cf 0) (th 0) (la 0) (le 0) y1 y2 y3 y4 y5 (fun h => by rw [hr4 h]; rfl) (fun h => by rw [hq4 h]; rfl) (rv, flt_n, q_cells_n) hTx) (cwV 5 hts gT_X7_copy rfl rfl rfl (by decide +kernel) ⟨Nat.le_of_ble_eq_true rfl, Nat.le_of_ble_eq_true rfl⟩) hP hD hS hA hK hN [0, 1, 8, 9, 2, 3] [4, 5, 6, 7, 10, 11, 12, 13, 14, 15, 16, 17, 18, 19, 20, 21, 22, 23, 24, 25, 26, 27, 28, 29, 30, 31, 32, 33, 34, 35, 36, 37, 38, 39, 40, 41, 42, 43, 44, 45, 46, 47, 48, 49, 50, 51, 52, 53, 54] rfl rfl (by decide) (by decide) (by decide) (va_recv hK hP (ci := 6) (q0 := 0) rfl rfl) rfl hl.1 rfl (Nat.le_of_ble_eq_true rfl) dL_law_945 ⟨Nat.le_of_ble_eq_true rfl, Nat.le_of_ble_eq_true rfl⟩ (fun H locs hP hD hS => ?_)
      have hP := hP.sub (ws' := wL ad cI cR ques trc flt_n th la le (va_up cf 0 q_cells_n) kind page asked sees cnt wet which leaf rds d_fittingPages d_leastPage d_greatestPage e_kind e_page e_asked e_sent e_count e_wetSet y_leaves y_led y_firstWrong h_kind h_page h_asked h_sent h_count h_wetSet f_dry f_askedUpTo f_costs f_roots f_size o_aheadOf o_ways o_count sorts slong mcells m_at m_readSlips m_read m_looked m_keptSees m_sumOfLeaves m_ledTo m_firstWrong m_dryOnes m_dryMany m_costs m_roots m_depth m_row m_placeOf) [49, 50, 53, 54, 0, 1, 2, 3, 51, 52, 4, 5, 6, 7, 8, 9, 10, 11, 12, 13, 14, 15, 16, 17, 18, 19, 20, 21, 22, 23, 24, 25, 26, 27, 28, 29, 30, 31, 32, 33, 34, 35, 36, 37, 38, 39, 40, 41, 42, 43, 44, 45, 46, 47, 48] rfl
      have hD := hD.sub (ws' := wL ad cI cR ques trc flt_n th la le (va_up cf 0 q_cells_n) kind page asked sees cnt wet which leaf rds d_fittingPages d_leastPage d_greatestPage e_kind e_page e_asked e_sent e_count e_wetSet y_leaves y_led y_firstWrong h_kind h_page h_asked h_sent h_count h_wetSet f_dry f_askedUpTo f_costs f_roots f_size o_aheadOf o_ways o_count sorts slong mcells m_at m_readSlips m_read m_looked m_keptSees m_sumOfLeaves m_ledTo m_firstWrong m_dryOnes m_dryMany m_costs m_roots m_depth m_row m_placeOf) [49, 50, 53, 54, 0, 1, 2, 3, 51, 52, 4, 5, 6, 7, 8, 9, 10, 11, 12, 13, 14, 15, 16, 17, 18, 19, 20, 21, 22, 23, 24, 25, 26, 27, 28, 29, 30, 31, 32, 33, 34, 35, 36, 37, 38, 39, 40, 41, 42, 43, 44, 45, 46, 47, 48] (by decide) rfl
      refine lv_aload_n hx hb dL_law_948 rfl (lv_at hl 2 rfl) ?_
      refine lv_aload_n hx hb dL_law_949 rfl (lv_at hl 0 rfl) ?_
      refine lv_iload_n hx hb dL_law_950 rfl (lv_at hl 3 rfl) ?_
      refine lv_iconst (v := 1) hx hb dL_law_951 (by decide) ?_
      refine lv_iadd hx hb dL_law_952 ?_
      refine q_sld hx hb hX hbl hbA hS hi1 hy1 dL_law_953 ?_
      refine lv_aload_n hx hb dL_law_954 rfl (lv_at hl 0 rfl) ?_
      refine lv_iload_n hx hb dL_law_955 rfl (lv_at hl 3 rfl) ?_
      refine lv_iconst (v := 2) hx hb dL_law_956 (by decide) ?_
      refine lv_iadd hx hb dL_law_957 ?_
      refine q_sld hx hb hX hbl hbA hS hi2 hy2 dL_law_958 ?_
      refine lv_aload_n hx hb dL_law_959 rfl (lv_at hl 0 rfl) ?_
      refine lv_iload_n hx hb dL_law_960 rfl (lv_at hl 3 rfl) ?_
      refine lv_iconst (v := 3) hx hb dL_law_961 (by decide) ?_
      refine lv_iadd hx hb dL_law_962 ?_
      refine q_sld hx hb hX hbl hbA hS hi3 hy3 dL_law_963 ?_
      refine lv_aload_n hx hb dL_law_964 rfl (lv_at hl 0 rfl) ?_
      refine lv_iload_n hx hb dL_law_965 rfl (lv_at hl 3 rfl) ?_
      refine lv_iconst (v := 4) hx hb dL_law_966 (by decide) ?_
      refine lv_iadd hx hb dL_law_967 ?_
      refine q_sld hx hb hX hbl hbA hS hi4 hy4 dL_law_968 ?_
      refine lv_aload_n hx hb dL_law_969 rfl (lv_at hl 0 rfl) ?_
      refine lv_iload_n hx hb dL_law_970 rfl (lv_at hl 3 rfl) ?_
      refine lv_iconst (v := 5) hx hb dL_law_971 (by decide) ?_
      refine lv_iadd hx hb dL_law_972 ?_
      refine q_sld hx hb hX hbl hbA hS hi5 hy5 dL_law_973 ?_
      refine q_wVi (wr := [0, 1, 2, 3, 4, 5, 6, 7, 8, 9, 10, 11, 12, 13, 14, 15, 16, 17, 18, 19, 20, 21, 22, 23, 24, 25, 26, 27, 28, 29, 30, 31, 32, 33, 34, 35, 36].filterMap (fun i => (wL ad cI cR ques trc flt_n th la le (va_up cf 0 q_cells_n) kind page asked sees cnt wet which leaf rds d_fittingPages d_leastPage d_greatestPage e_kind e_page e_asked e_sent e_count e_wetSet y_leaves y_led y_firstWrong h_kind h_page h_asked h_sent h_count h_wetSet f_dry f_askedUpTo f_costs f_roots f_size o_aheadOf o_ways o_count sorts slong mcells m_at m_readSlips m_read m_looked m_keptSees m_sumOfLeaves m_ledTo m_firstWrong m_dryOnes m_dryMany m_costs m_roots m_depth m_row m_placeOf)[i]?)) (rest := [.int rv]) ⟨hx, hb, hml, hown, hts⟩ (kX8_copy l D cI cR (ad 37) (ad 38) (ad 39) (ad 40) (ad 41) (ad 42) (ad 43) (ad 44) (ad 45) (ad 46) (ad 47) (ad 48) (ad 49) (ad 50) (ad 51) (ad 52) (ad 53) (ad 54) flt_n trc sorts slong mcells cnt ques wet kind page asked sees m_at m_readSlips m_read m_looked m_keptSees m_sumOfLeaves m_ledTo m_firstWrong m_dryOnes m_dryMany m_costs m_roots m_depth m_row m_placeOf rds which leaf y1 y2 y3 y4 y5 (rv, flt_n, mcells_n) hTm) (cwV 5 hts gT_X8_copy rfl rfl rfl (by decide +kernel) ⟨Nat.le_of_ble_eq_true rfl, Nat.le_of_ble_eq_true rfl⟩) hP hD hS hA hK hN [37, 38, 39, 40, 41, 42, 43, 44, 45, 46, 47, 48, 49, 50, 51, 52, 53, 54] [0, 1, 2, 3, 4, 5, 6, 7, 8, 9, 10, 11, 12, 13, 14, 15, 16, 17, 18, 19, 20, 21, 22, 23, 24, 25, 26, 27, 28, 29, 30, 31, 32, 33, 34, 35, 36] rfl rfl (by decide) (by decide) (by decide) (va_recv hK hP (ci := 7) (q0 := 37) rfl rfl) rfl hl.1 rfl (Nat.le_of_ble_eq_true rfl) dL_law_974 ⟨Nat.le_of_ble_eq_true rfl, Nat.le_of_ble_eq_true rfl⟩ (fun H locs hP hD hS => ?_)
      have hP := hP.sub (ws' := wL ad cI cR ques trc flt_n th la le (va_up cf 0 q_cells_n) kind page asked sees cnt wet which leaf rds d_fittingPages d_leastPage d_greatestPage e_kind e_page e_asked e_sent e_count e_wetSet y_leaves y_led y_firstWrong h_kind h_page h_asked h_sent h_count h_wetSet f_dry f_askedUpTo f_costs f_roots f_size o_aheadOf o_ways o_count sorts slong mcells_n m_at m_readSlips m_read m_looked m_keptSees m_sumOfLeaves m_ledTo m_firstWrong m_dryOnes m_dryMany m_costs m_roots m_depth m_row m_placeOf) [0, 1, 2, 3, 4, 5, 6, 7, 8, 9, 10, 11, 12, 13, 14, 15, 16, 17, 18, 19, 20, 21, 22, 23, 24, 25, 26, 27, 28, 29, 30, 31, 32, 33, 34, 35, 36, 37, 38, 39, 40, 41, 42, 43, 44, 45, 46, 47, 48, 49, 50, 51, 52, 53, 54] rfl
      have hD := hD.sub (ws' := wL ad cI cR ques trc flt_n th la le (va_up cf 0 q_cells_n) kind page asked sees cnt wet which leaf rds d_fittingPages d_leastPage d_greatestPage e_kind e_page e_asked e_sent e_count e_wetSet y_leaves y_led y_firstWrong h_kind h_page h_asked h_sent h_count h_wetSet f_dry f_askedUpTo f_costs f_roots f_size o_aheadOf o_ways o_count sorts slong mcells_n m_at m_readSlips m_read m_looked m_keptSees m_sumOfLeaves m_ledTo m_firstWrong m_dryOnes m_dryMany m_costs m_roots m_depth m_row m_placeOf) [0, 1, 2, 3, 4, 5, 6, 7, 8, 9, 10, 11, 12, 13, 14, 15, 16, 17, 18, 19, 20, 21, 22, 23, 24, 25, 26, 27, 28, 29, 30, 31, 32, 33, 34, 35, 36, 37, 38, 39, 40, 41, 42, 43, 44, 45, 46, 47, 48, 49, 50, 51, 52, 53, 54] (by decide) rfl
      refine lv_icmp_eq (tgt := 1110) hx hb dL_law_977 (by decide) (fun _ => ?_) (fun h => absurd rfl h)
      exact kk _ _ _ _ _ _ _ _ _ _ _ _ _ _ _ _ _ _ _ _ _ _ _ _ _ _ _ _ _ _ _ _ _ _ _ _ _ _ _ _ _ _ _ _ _ _ _ _ _ _ _ _ _ _ _ _ _ _ _ _ _ _ _ hI hP hD hS hl
    · obtain ⟨rv, flt_n, q_cells_n, mcells_n, hTx, hTm, hI⟩ := T_copyD flt th la le cf kind page asked sees cnt wet which leaf rds f_askedUpTo f_costs sorts slong mcells 3 (by decide) 1 (by decide) (by decide) y1 y2 y3 y4 y5 hr4 hq4 hI
      refine lv_aload_n hx hb dL_law_919 rfl (lv_at hl 1 rfl) ?_
      refine lv_aload_n hx hb dL_law_920 rfl (lv_at hl 0 rfl) ?_
      refine lv_iload_n hx hb dL_law_921 rfl (lv_at hl 3 rfl) ?_
      refine lv_iconst (v := 1) hx hb dL_law_922 (by decide) ?_
      refine lv_iadd hx hb dL_law_923 ?_
      refine q_sld hx hb hX hbl hbA hS hi1 hy1 dL_law_924 ?_
      refine lv_aload_n hx hb dL_law_925 rfl (lv_at hl 0 rfl) ?_
      refine lv_iload_n hx hb dL_law_926 rfl (lv_at hl 3 rfl) ?_
      refine lv_iconst (v := 2) hx hb dL_law_927 (by decide) ?_
      refine lv_iadd hx hb dL_law_928 ?_
      refine q_sld hx hb hX hbl hbA hS hi2 hy2 dL_law_929 ?_
      refine lv_aload_n hx hb dL_law_930 rfl (lv_at hl 0 rfl) ?_
      refine lv_iload_n hx hb dL_law_931 rfl (lv_at hl 3 rfl) ?_
      refine lv_iconst (v := 3) hx hb dL_law_932 (by decide) ?_
      refine lv_iadd hx hb dL_law_933 ?_
      refine q_sld hx hb hX hbl hbA hS hi3 hy3 dL_law_934 ?_
      refine lv_aload_n hx hb dL_law_935 rfl (lv_at hl 0 rfl) ?_
      refine lv_iload_n hx hb dL_law_936 rfl (lv_at hl 3 rfl) ?_
      refine lv_iconst (v := 4) hx hb dL_law_937 (by decide) ?_
      refine lv_iadd hx hb dL_law_938 ?_
      refine q_sld hx hb hX hbl hbA hS hi4 hy4 dL_law_939 ?_
      refine lv_aload_n hx hb dL_law_940 rfl (lv_at hl 0 rfl) ?_
      refine lv_iload_n hx hb dL_law_941 rfl (lv_at hl 3 rfl) ?_
      refine lv_iconst (v := 5) hx hb dL_law_942 (by decide) ?_
      refine lv_iadd hx hb dL_law_943 ?_
      refine q_sld hx hb hX hbl hbA hS hi5 hy5 dL_law_944 ?_
      refine q_wVi (wr := [2, 3, 6, 7, 10, 11, 12, 13, 14, 15, 16, 17, 18, 19, 20, 21, 22, 23, 24, 25, 26, 27, 28, 29, 30, 31, 32, 33, 34, 35, 36, 37, 38, 39, 40, 41, 42, 43, 44, 45, 46, 47, 48, 49, 50, 51, 52, 53, 54].filterMap (fun i => (wL ad cI cR ques trc flt th la le cf kind page asked sees cnt wet which leaf rds d_fittingPages d_leastPage d_greatestPage e_kind e_page e_asked e_sent e_count e_wetSet y_leaves y_led y_firstWrong h_kind h_page h_asked h_sent h_count h_wetSet f_dry f_askedUpTo f_costs f_roots f_size o_aheadOf o_ways o_count sorts slong mcells m_at m_readSlips m_read m_looked m_keptSees m_sumOfLeaves m_ledTo m_firstWrong m_dryOnes m_dryMany m_costs m_roots m_depth m_row m_placeOf)[i]?)) (rest := []) ⟨hx, hb, hml, hown, hts⟩ (kX7_copyD l D cI cR (ad 0) (ad 1) (ad 10) (ad 15) (ad 23) (ad 29) (ad 34) (ad 8) (ad 9) (ad 4) (ad 5) (rwF ad) ques trc flt (cf 3) (th 3) (la 3) (le 3) (cf 1) (th 1) (la 1) (le 1) y1 y2 y3 y4 y5 (fun h => by rw [hr4 h]; rfl) (fun h => by rw [hq4 h]; rfl) (rv, flt_n, q_cells_n) hTx) (cwV 5 hts gT_X7_copy rfl rfl rfl (by decide +kernel) ⟨Nat.le_of_ble_eq_true rfl, Nat.le_of_ble_eq_true rfl⟩) hP hD hS hA hK hN [0, 1, 8, 9, 4, 5] [2, 3, 6, 7, 10, 11, 12, 13, 14, 15, 16, 17, 18, 19, 20, 21, 22, 23, 24, 25, 26, 27, 28, 29, 30, 31, 32, 33, 34, 35, 36, 37, 38, 39, 40, 41, 42, 43, 44, 45, 46, 47, 48, 49, 50, 51, 52, 53, 54] rfl rfl (by decide) (by decide) (by decide) (va_recv hK hP (ci := 6) (q0 := 0) rfl rfl) rfl hl.1 rfl (Nat.le_of_ble_eq_true rfl) dL_law_945 ⟨Nat.le_of_ble_eq_true rfl, Nat.le_of_ble_eq_true rfl⟩ (fun H locs hP hD hS => ?_)
      have hP := hP.sub (ws' := wL ad cI cR ques trc flt_n th la le (va_up cf 1 q_cells_n) kind page asked sees cnt wet which leaf rds d_fittingPages d_leastPage d_greatestPage e_kind e_page e_asked e_sent e_count e_wetSet y_leaves y_led y_firstWrong h_kind h_page h_asked h_sent h_count h_wetSet f_dry f_askedUpTo f_costs f_roots f_size o_aheadOf o_ways o_count sorts slong mcells m_at m_readSlips m_read m_looked m_keptSees m_sumOfLeaves m_ledTo m_firstWrong m_dryOnes m_dryMany m_costs m_roots m_depth m_row m_placeOf) [49, 50, 0, 1, 53, 54, 2, 3, 51, 52, 4, 5, 6, 7, 8, 9, 10, 11, 12, 13, 14, 15, 16, 17, 18, 19, 20, 21, 22, 23, 24, 25, 26, 27, 28, 29, 30, 31, 32, 33, 34, 35, 36, 37, 38, 39, 40, 41, 42, 43, 44, 45, 46, 47, 48] rfl
      have hD := hD.sub (ws' := wL ad cI cR ques trc flt_n th la le (va_up cf 1 q_cells_n) kind page asked sees cnt wet which leaf rds d_fittingPages d_leastPage d_greatestPage e_kind e_page e_asked e_sent e_count e_wetSet y_leaves y_led y_firstWrong h_kind h_page h_asked h_sent h_count h_wetSet f_dry f_askedUpTo f_costs f_roots f_size o_aheadOf o_ways o_count sorts slong mcells m_at m_readSlips m_read m_looked m_keptSees m_sumOfLeaves m_ledTo m_firstWrong m_dryOnes m_dryMany m_costs m_roots m_depth m_row m_placeOf) [49, 50, 0, 1, 53, 54, 2, 3, 51, 52, 4, 5, 6, 7, 8, 9, 10, 11, 12, 13, 14, 15, 16, 17, 18, 19, 20, 21, 22, 23, 24, 25, 26, 27, 28, 29, 30, 31, 32, 33, 34, 35, 36, 37, 38, 39, 40, 41, 42, 43, 44, 45, 46, 47, 48] (by decide) rfl
      refine lv_aload_n hx hb dL_law_948 rfl (lv_at hl 2 rfl) ?_
      refine lv_aload_n hx hb dL_law_949 rfl (lv_at hl 0 rfl) ?_
      refine lv_iload_n hx hb dL_law_950 rfl (lv_at hl 3 rfl) ?_
      refine lv_iconst (v := 1) hx hb dL_law_951 (by decide) ?_
      refine lv_iadd hx hb dL_law_952 ?_
      refine q_sld hx hb hX hbl hbA hS hi1 hy1 dL_law_953 ?_
      refine lv_aload_n hx hb dL_law_954 rfl (lv_at hl 0 rfl) ?_
      refine lv_iload_n hx hb dL_law_955 rfl (lv_at hl 3 rfl) ?_
      refine lv_iconst (v := 2) hx hb dL_law_956 (by decide) ?_
      refine lv_iadd hx hb dL_law_957 ?_
      refine q_sld hx hb hX hbl hbA hS hi2 hy2 dL_law_958 ?_
      refine lv_aload_n hx hb dL_law_959 rfl (lv_at hl 0 rfl) ?_
      refine lv_iload_n hx hb dL_law_960 rfl (lv_at hl 3 rfl) ?_
      refine lv_iconst (v := 3) hx hb dL_law_961 (by decide) ?_
      refine lv_iadd hx hb dL_law_962 ?_
      refine q_sld hx hb hX hbl hbA hS hi3 hy3 dL_law_963 ?_
      refine lv_aload_n hx hb dL_law_964 rfl (lv_at hl 0 rfl) ?_
      refine lv_iload_n hx hb dL_law_965 rfl (lv_at hl 3 rfl) ?_
      refine lv_iconst (v := 4) hx hb dL_law_966 (by decide) ?_
      refine lv_iadd hx hb dL_law_967 ?_
      refine q_sld hx hb hX hbl hbA hS hi4 hy4 dL_law_968 ?_
      refine lv_aload_n hx hb dL_law_969 rfl (lv_at hl 0 rfl) ?_
      refine lv_iload_n hx hb dL_law_970 rfl (lv_at hl 3 rfl) ?_
      refine lv_iconst (v := 5) hx hb dL_law_971 (by decide) ?_
      refine lv_iadd hx hb dL_law_972 ?_
      refine q_sld hx hb hX hbl hbA hS hi5 hy5 dL_law_973 ?_
      refine q_wVi (wr := [0, 1, 2, 3, 4, 5, 6, 7, 8, 9, 10, 11, 12, 13, 14, 15, 16, 17, 18, 19, 20, 21, 22, 23, 24, 25, 26, 27, 28, 29, 30, 31, 32, 33, 34, 35, 36].filterMap (fun i => (wL ad cI cR ques trc flt_n th la le (va_up cf 1 q_cells_n) kind page asked sees cnt wet which leaf rds d_fittingPages d_leastPage d_greatestPage e_kind e_page e_asked e_sent e_count e_wetSet y_leaves y_led y_firstWrong h_kind h_page h_asked h_sent h_count h_wetSet f_dry f_askedUpTo f_costs f_roots f_size o_aheadOf o_ways o_count sorts slong mcells m_at m_readSlips m_read m_looked m_keptSees m_sumOfLeaves m_ledTo m_firstWrong m_dryOnes m_dryMany m_costs m_roots m_depth m_row m_placeOf)[i]?)) (rest := [.int rv]) ⟨hx, hb, hml, hown, hts⟩ (kX8_copy l D cI cR (ad 37) (ad 38) (ad 39) (ad 40) (ad 41) (ad 42) (ad 43) (ad 44) (ad 45) (ad 46) (ad 47) (ad 48) (ad 49) (ad 50) (ad 51) (ad 52) (ad 53) (ad 54) flt_n trc sorts slong mcells cnt ques wet kind page asked sees m_at m_readSlips m_read m_looked m_keptSees m_sumOfLeaves m_ledTo m_firstWrong m_dryOnes m_dryMany m_costs m_roots m_depth m_row m_placeOf rds which leaf y1 y2 y3 y4 y5 (rv, flt_n, mcells_n) hTm) (cwV 5 hts gT_X8_copy rfl rfl rfl (by decide +kernel) ⟨Nat.le_of_ble_eq_true rfl, Nat.le_of_ble_eq_true rfl⟩) hP hD hS hA hK hN [37, 38, 39, 40, 41, 42, 43, 44, 45, 46, 47, 48, 49, 50, 51, 52, 53, 54] [0, 1, 2, 3, 4, 5, 6, 7, 8, 9, 10, 11, 12, 13, 14, 15, 16, 17, 18, 19, 20, 21, 22, 23, 24, 25, 26, 27, 28, 29, 30, 31, 32, 33, 34, 35, 36] rfl rfl (by decide) (by decide) (by decide) (va_recv hK hP (ci := 7) (q0 := 37) rfl rfl) rfl hl.1 rfl (Nat.le_of_ble_eq_true rfl) dL_law_974 ⟨Nat.le_of_ble_eq_true rfl, Nat.le_of_ble_eq_true rfl⟩ (fun H locs hP hD hS => ?_)
      have hP := hP.sub (ws' := wL ad cI cR ques trc flt_n th la le (va_up cf 1 q_cells_n) kind page asked sees cnt wet which leaf rds d_fittingPages d_leastPage d_greatestPage e_kind e_page e_asked e_sent e_count e_wetSet y_leaves y_led y_firstWrong h_kind h_page h_asked h_sent h_count h_wetSet f_dry f_askedUpTo f_costs f_roots f_size o_aheadOf o_ways o_count sorts slong mcells_n m_at m_readSlips m_read m_looked m_keptSees m_sumOfLeaves m_ledTo m_firstWrong m_dryOnes m_dryMany m_costs m_roots m_depth m_row m_placeOf) [0, 1, 2, 3, 4, 5, 6, 7, 8, 9, 10, 11, 12, 13, 14, 15, 16, 17, 18, 19, 20, 21, 22, 23, 24, 25, 26, 27, 28, 29, 30, 31, 32, 33, 34, 35, 36, 37, 38, 39, 40, 41, 42, 43, 44, 45, 46, 47, 48, 49, 50, 51, 52, 53, 54] rfl
      have hD := hD.sub (ws' := wL ad cI cR ques trc flt_n th la le (va_up cf 1 q_cells_n) kind page asked sees cnt wet which leaf rds d_fittingPages d_leastPage d_greatestPage e_kind e_page e_asked e_sent e_count e_wetSet y_leaves y_led y_firstWrong h_kind h_page h_asked h_sent h_count h_wetSet f_dry f_askedUpTo f_costs f_roots f_size o_aheadOf o_ways o_count sorts slong mcells_n m_at m_readSlips m_read m_looked m_keptSees m_sumOfLeaves m_ledTo m_firstWrong m_dryOnes m_dryMany m_costs m_roots m_depth m_row m_placeOf) [0, 1, 2, 3, 4, 5, 6, 7, 8, 9, 10, 11, 12, 13, 14, 15, 16, 17, 18, 19, 20, 21, 22, 23, 24, 25, 26, 27, 28, 29, 30, 31, 32, 33, 34, 35, 36, 37, 38, 39, 40, 41, 42, 43, 44, 45, 46, 47, 48, 49, 50, 51, 52, 53, 54] (by decide) rfl
      refine lv_icmp_eq (tgt := 1110) hx hb dL_law_977 (by decide) (fun _ => ?_) (fun h => absurd rfl h)
      exact kk _ _ _ _ _ _ _ _ _ _ _ _ _ _ _ _ _ _ _ _ _ _ _ _ _ _ _ _ _ _ _ _ _ _ _ _ _ _ _ _ _ _ _ _ _ _ _ _ _ _ _ _ _ _ _ _ _ _ _ _ _ _ _ hI hP hD hS hl
    · obtain ⟨rv, flt_n, q_cells_n, mcells_n, hTx, hTm, hI⟩ := T_copyD flt th la le cf kind page asked sees cnt wet which leaf rds f_askedUpTo f_costs sorts slong mcells 3 (by decide) 2 (by decide) (by decide) y1 y2 y3 y4 y5 hr4 hq4 hI
      refine lv_aload_n hx hb dL_law_919 rfl (lv_at hl 1 rfl) ?_
      refine lv_aload_n hx hb dL_law_920 rfl (lv_at hl 0 rfl) ?_
      refine lv_iload_n hx hb dL_law_921 rfl (lv_at hl 3 rfl) ?_
      refine lv_iconst (v := 1) hx hb dL_law_922 (by decide) ?_
      refine lv_iadd hx hb dL_law_923 ?_
      refine q_sld hx hb hX hbl hbA hS hi1 hy1 dL_law_924 ?_
      refine lv_aload_n hx hb dL_law_925 rfl (lv_at hl 0 rfl) ?_
      refine lv_iload_n hx hb dL_law_926 rfl (lv_at hl 3 rfl) ?_
      refine lv_iconst (v := 2) hx hb dL_law_927 (by decide) ?_
      refine lv_iadd hx hb dL_law_928 ?_
      refine q_sld hx hb hX hbl hbA hS hi2 hy2 dL_law_929 ?_
      refine lv_aload_n hx hb dL_law_930 rfl (lv_at hl 0 rfl) ?_
      refine lv_iload_n hx hb dL_law_931 rfl (lv_at hl 3 rfl) ?_
      refine lv_iconst (v := 3) hx hb dL_law_932 (by decide) ?_
      refine lv_iadd hx hb dL_law_933 ?_
      refine q_sld hx hb hX hbl hbA hS hi3 hy3 dL_law_934 ?_
      refine lv_aload_n hx hb dL_law_935 rfl (lv_at hl 0 rfl) ?_
      refine lv_iload_n hx hb dL_law_936 rfl (lv_at hl 3 rfl) ?_
      refine lv_iconst (v := 4) hx hb dL_law_937 (by decide) ?_
      refine lv_iadd hx hb dL_law_938 ?_
      refine q_sld hx hb hX hbl hbA hS hi4 hy4 dL_law_939 ?_
      refine lv_aload_n hx hb dL_law_940 rfl (lv_at hl 0 rfl) ?_
      refine lv_iload_n hx hb dL_law_941 rfl (lv_at hl 3 rfl) ?_
      refine lv_iconst (v := 5) hx hb dL_law_942 (by decide) ?_
      refine lv_iadd hx hb dL_law_943 ?_
      refine q_sld hx hb hX hbl hbA hS hi5 hy5 dL_law_944 ?_
      refine q_wVi (wr := [2, 3, 4, 5, 10, 11, 12, 13, 14, 15, 16, 17, 18, 19, 20, 21, 22, 23, 24, 25, 26, 27, 28, 29, 30, 31, 32, 33, 34, 35, 36, 37, 38, 39, 40, 41, 42, 43, 44, 45, 46, 47, 48, 49, 50, 51, 52, 53, 54].filterMap (fun i => (wL ad cI cR ques trc flt th la le cf kind page asked sees cnt wet which leaf rds d_fittingPages d_leastPage d_greatestPage e_kind e_page e_asked e_sent e_count e_wetSet y_leaves y_led y_firstWrong h_kind h_page h_asked h_sent h_count h_wetSet f_dry f_askedUpTo f_costs f_roots f_size o_aheadOf o_ways o_count sorts slong mcells m_at m_readSlips m_read m_looked m_keptSees m_sumOfLeaves m_ledTo m_firstWrong m_dryOnes m_dryMany m_costs m_roots m_depth m_row m_placeOf)[i]?)) (rest := []) ⟨hx, hb, hml, hown, hts⟩ (kX7_copyD l D cI cR (ad 0) (ad 1) (ad 10) (ad 15) (ad 23) (ad 29) (ad 34) (ad 8) (ad 9) (ad 6) (ad 7) (rwF ad) ques trc flt (cf 3) (th 3) (la 3) (le 3) (cf 2) (th 2) (la 2) (le 2) y1 y2 y3 y4 y5 (fun h => by rw [hr4 h]; rfl) (fun h => by rw [hq4 h]; rfl) (rv, flt_n, q_cells_n) hTx) (cwV 5 hts gT_X7_copy rfl rfl rfl (by decide +kernel) ⟨Nat.le_of_ble_eq_true rfl, Nat.le_of_ble_eq_true rfl⟩) hP hD hS hA hK hN [0, 1, 8, 9, 6, 7] [2, 3, 4, 5, 10, 11, 12, 13, 14, 15, 16, 17, 18, 19, 20, 21, 22, 23, 24, 25, 26, 27, 28, 29, 30, 31, 32, 33, 34, 35, 36, 37, 38, 39, 40, 41, 42, 43, 44, 45, 46, 47, 48, 49, 50, 51, 52, 53, 54] rfl rfl (by decide) (by decide) (by decide) (va_recv hK hP (ci := 6) (q0 := 0) rfl rfl) rfl hl.1 rfl (Nat.le_of_ble_eq_true rfl) dL_law_945 ⟨Nat.le_of_ble_eq_true rfl, Nat.le_of_ble_eq_true rfl⟩ (fun H locs hP hD hS => ?_)
      have hP := hP.sub (ws' := wL ad cI cR ques trc flt_n th la le (va_up cf 2 q_cells_n) kind page asked sees cnt wet which leaf rds d_fittingPages d_leastPage d_greatestPage e_kind e_page e_asked e_sent e_count e_wetSet y_leaves y_led y_firstWrong h_kind h_page h_asked h_sent h_count h_wetSet f_dry f_askedUpTo f_costs f_roots f_size o_aheadOf o_ways o_count sorts slong mcells m_at m_readSlips m_read m_looked m_keptSees m_sumOfLeaves m_ledTo m_firstWrong m_dryOnes m_dryMany m_costs m_roots m_depth m_row m_placeOf) [49, 50, 0, 1, 2, 3, 53, 54, 51, 52, 4, 5, 6, 7, 8, 9, 10, 11, 12, 13, 14, 15, 16, 17, 18, 19, 20, 21, 22, 23, 24, 25, 26, 27, 28, 29, 30, 31, 32, 33, 34, 35, 36, 37, 38, 39, 40, 41, 42, 43, 44, 45, 46, 47, 48] rfl
      have hD := hD.sub (ws' := wL ad cI cR ques trc flt_n th la le (va_up cf 2 q_cells_n) kind page asked sees cnt wet which leaf rds d_fittingPages d_leastPage d_greatestPage e_kind e_page e_asked e_sent e_count e_wetSet y_leaves y_led y_firstWrong h_kind h_page h_asked h_sent h_count h_wetSet f_dry f_askedUpTo f_costs f_roots f_size o_aheadOf o_ways o_count sorts slong mcells m_at m_readSlips m_read m_looked m_keptSees m_sumOfLeaves m_ledTo m_firstWrong m_dryOnes m_dryMany m_costs m_roots m_depth m_row m_placeOf) [49, 50, 0, 1, 2, 3, 53, 54, 51, 52, 4, 5, 6, 7, 8, 9, 10, 11, 12, 13, 14, 15, 16, 17, 18, 19, 20, 21, 22, 23, 24, 25, 26, 27, 28, 29, 30, 31, 32, 33, 34, 35, 36, 37, 38, 39, 40, 41, 42, 43, 44, 45, 46, 47, 48] (by decide) rfl
      refine lv_aload_n hx hb dL_law_948 rfl (lv_at hl 2 rfl) ?_
      refine lv_aload_n hx hb dL_law_949 rfl (lv_at hl 0 rfl) ?_
      refine lv_iload_n hx hb dL_law_950 rfl (lv_at hl 3 rfl) ?_
      refine lv_iconst (v := 1) hx hb dL_law_951 (by decide) ?_
      refine lv_iadd hx hb dL_law_952 ?_
      refine q_sld hx hb hX hbl hbA hS hi1 hy1 dL_law_953 ?_
      refine lv_aload_n hx hb dL_law_954 rfl (lv_at hl 0 rfl) ?_
      refine lv_iload_n hx hb dL_law_955 rfl (lv_at hl 3 rfl) ?_
      refine lv_iconst (v := 2) hx hb dL_law_956 (by decide) ?_
      refine lv_iadd hx hb dL_law_957 ?_
      refine q_sld hx hb hX hbl hbA hS hi2 hy2 dL_law_958 ?_
      refine lv_aload_n hx hb dL_law_959 rfl (lv_at hl 0 rfl) ?_
      refine lv_iload_n hx hb dL_law_960 rfl (lv_at hl 3 rfl) ?_
      refine lv_iconst (v := 3) hx hb dL_law_961 (by decide) ?_
      refine lv_iadd hx hb dL_law_962 ?_
      refine q_sld hx hb hX hbl hbA hS hi3 hy3 dL_law_963 ?_
      refine lv_aload_n hx hb dL_law_964 rfl (lv_at hl 0 rfl) ?_
      refine lv_iload_n hx hb dL_law_965 rfl (lv_at hl 3 rfl) ?_
      refine lv_iconst (v := 4) hx hb dL_law_966 (by decide) ?_
      refine lv_iadd hx hb dL_law_967 ?_
      refine q_sld hx hb hX hbl hbA hS hi4 hy4 dL_law_968 ?_
      refine lv_aload_n hx hb dL_law_969 rfl (lv_at hl 0 rfl) ?_
      refine lv_iload_n hx hb dL_law_970 rfl (lv_at hl 3 rfl) ?_
      refine lv_iconst (v := 5) hx hb dL_law_971 (by decide) ?_
      refine lv_iadd hx hb dL_law_972 ?_
      refine q_sld hx hb hX hbl hbA hS hi5 hy5 dL_law_973 ?_
      refine q_wVi (wr := [0, 1, 2, 3, 4, 5, 6, 7, 8, 9, 10, 11, 12, 13, 14, 15, 16, 17, 18, 19, 20, 21, 22, 23, 24, 25, 26, 27, 28, 29, 30, 31, 32, 33, 34, 35, 36].filterMap (fun i => (wL ad cI cR ques trc flt_n th la le (va_up cf 2 q_cells_n) kind page asked sees cnt wet which leaf rds d_fittingPages d_leastPage d_greatestPage e_kind e_page e_asked e_sent e_count e_wetSet y_leaves y_led y_firstWrong h_kind h_page h_asked h_sent h_count h_wetSet f_dry f_askedUpTo f_costs f_roots f_size o_aheadOf o_ways o_count sorts slong mcells m_at m_readSlips m_read m_looked m_keptSees m_sumOfLeaves m_ledTo m_firstWrong m_dryOnes m_dryMany m_costs m_roots m_depth m_row m_placeOf)[i]?)) (rest := [.int rv]) ⟨hx, hb, hml, hown, hts⟩ (kX8_copy l D cI cR (ad 37) (ad 38) (ad 39) (ad 40) (ad 41) (ad 42) (ad 43) (ad 44) (ad 45) (ad 46) (ad 47) (ad 48) (ad 49) (ad 50) (ad 51) (ad 52) (ad 53) (ad 54) flt_n trc sorts slong mcells cnt ques wet kind page asked sees m_at m_readSlips m_read m_looked m_keptSees m_sumOfLeaves m_ledTo m_firstWrong m_dryOnes m_dryMany m_costs m_roots m_depth m_row m_placeOf rds which leaf y1 y2 y3 y4 y5 (rv, flt_n, mcells_n) hTm) (cwV 5 hts gT_X8_copy rfl rfl rfl (by decide +kernel) ⟨Nat.le_of_ble_eq_true rfl, Nat.le_of_ble_eq_true rfl⟩) hP hD hS hA hK hN [37, 38, 39, 40, 41, 42, 43, 44, 45, 46, 47, 48, 49, 50, 51, 52, 53, 54] [0, 1, 2, 3, 4, 5, 6, 7, 8, 9, 10, 11, 12, 13, 14, 15, 16, 17, 18, 19, 20, 21, 22, 23, 24, 25, 26, 27, 28, 29, 30, 31, 32, 33, 34, 35, 36] rfl rfl (by decide) (by decide) (by decide) (va_recv hK hP (ci := 7) (q0 := 37) rfl rfl) rfl hl.1 rfl (Nat.le_of_ble_eq_true rfl) dL_law_974 ⟨Nat.le_of_ble_eq_true rfl, Nat.le_of_ble_eq_true rfl⟩ (fun H locs hP hD hS => ?_)
      have hP := hP.sub (ws' := wL ad cI cR ques trc flt_n th la le (va_up cf 2 q_cells_n) kind page asked sees cnt wet which leaf rds d_fittingPages d_leastPage d_greatestPage e_kind e_page e_asked e_sent e_count e_wetSet y_leaves y_led y_firstWrong h_kind h_page h_asked h_sent h_count h_wetSet f_dry f_askedUpTo f_costs f_roots f_size o_aheadOf o_ways o_count sorts slong mcells_n m_at m_readSlips m_read m_looked m_keptSees m_sumOfLeaves m_ledTo m_firstWrong m_dryOnes m_dryMany m_costs m_roots m_depth m_row m_placeOf) [0, 1, 2, 3, 4, 5, 6, 7, 8, 9, 10, 11, 12, 13, 14, 15, 16, 17, 18, 19, 20, 21, 22, 23, 24, 25, 26, 27, 28, 29, 30, 31, 32, 33, 34, 35, 36, 37, 38, 39, 40, 41, 42, 43, 44, 45, 46, 47, 48, 49, 50, 51, 52, 53, 54] rfl
      have hD := hD.sub (ws' := wL ad cI cR ques trc flt_n th la le (va_up cf 2 q_cells_n) kind page asked sees cnt wet which leaf rds d_fittingPages d_leastPage d_greatestPage e_kind e_page e_asked e_sent e_count e_wetSet y_leaves y_led y_firstWrong h_kind h_page h_asked h_sent h_count h_wetSet f_dry f_askedUpTo f_costs f_roots f_size o_aheadOf o_ways o_count sorts slong mcells_n m_at m_readSlips m_read m_looked m_keptSees m_sumOfLeaves m_ledTo m_firstWrong m_dryOnes m_dryMany m_costs m_roots m_depth m_row m_placeOf) [0, 1, 2, 3, 4, 5, 6, 7, 8, 9, 10, 11, 12, 13, 14, 15, 16, 17, 18, 19, 20, 21, 22, 23, 24, 25, 26, 27, 28, 29, 30, 31, 32, 33, 34, 35, 36, 37, 38, 39, 40, 41, 42, 43, 44, 45, 46, 47, 48, 49, 50, 51, 52, 53, 54] (by decide) rfl
      refine lv_icmp_eq (tgt := 1110) hx hb dL_law_977 (by decide) (fun _ => ?_) (fun h => absurd rfl h)
      exact kk _ _ _ _ _ _ _ _ _ _ _ _ _ _ _ _ _ _ _ _ _ _ _ _ _ _ _ _ _ _ _ _ _ _ _ _ _ _ _ _ _ _ _ _ _ _ _ _ _ _ _ _ _ _ _ _ _ _ _ _ _ _ _ hI hP hD hS hl
    · obtain ⟨rv, flt_n, r_cells_n, mcells_n, hTx, hTm, hI⟩ := T_copyS flt th la le cf kind page asked sees cnt wet which leaf rds f_askedUpTo f_costs sorts slong mcells 3 (by decide) y1 y2 y3 y4 y5 hr4 hq4 hI
      refine lv_aload_n hx hb dL_law_919 rfl (lv_at hl 1 rfl) ?_
      refine lv_aload_n hx hb dL_law_920 rfl (lv_at hl 0 rfl) ?_
      refine lv_iload_n hx hb dL_law_921 rfl (lv_at hl 3 rfl) ?_
      refine lv_iconst (v := 1) hx hb dL_law_922 (by decide) ?_
      refine lv_iadd hx hb dL_law_923 ?_
      refine q_sld hx hb hX hbl hbA hS hi1 hy1 dL_law_924 ?_
      refine lv_aload_n hx hb dL_law_925 rfl (lv_at hl 0 rfl) ?_
      refine lv_iload_n hx hb dL_law_926 rfl (lv_at hl 3 rfl) ?_
      refine lv_iconst (v := 2) hx hb dL_law_927 (by decide) ?_
      refine lv_iadd hx hb dL_law_928 ?_
      refine q_sld hx hb hX hbl hbA hS hi2 hy2 dL_law_929 ?_
      refine lv_aload_n hx hb dL_law_930 rfl (lv_at hl 0 rfl) ?_
      refine lv_iload_n hx hb dL_law_931 rfl (lv_at hl 3 rfl) ?_
      refine lv_iconst (v := 3) hx hb dL_law_932 (by decide) ?_
      refine lv_iadd hx hb dL_law_933 ?_
      refine q_sld hx hb hX hbl hbA hS hi3 hy3 dL_law_934 ?_
      refine lv_aload_n hx hb dL_law_935 rfl (lv_at hl 0 rfl) ?_
      refine lv_iload_n hx hb dL_law_936 rfl (lv_at hl 3 rfl) ?_
      refine lv_iconst (v := 4) hx hb dL_law_937 (by decide) ?_
      refine lv_iadd hx hb dL_law_938 ?_
      refine q_sld hx hb hX hbl hbA hS hi4 hy4 dL_law_939 ?_
      refine lv_aload_n hx hb dL_law_940 rfl (lv_at hl 0 rfl) ?_
      refine lv_iload_n hx hb dL_law_941 rfl (lv_at hl 3 rfl) ?_
      refine lv_iconst (v := 5) hx hb dL_law_942 (by decide) ?_
      refine lv_iadd hx hb dL_law_943 ?_
      refine q_sld hx hb hX hbl hbA hS hi5 hy5 dL_law_944 ?_
      refine q_wVi (wr := [2, 3, 4, 5, 6, 7, 10, 11, 12, 13, 14, 15, 16, 17, 18, 19, 20, 21, 22, 23, 24, 25, 26, 27, 28, 29, 30, 31, 32, 33, 34, 35, 36, 37, 38, 39, 40, 41, 42, 43, 44, 45, 46, 47, 48, 49, 50, 51, 52, 53, 54].filterMap (fun i => (wL ad cI cR ques trc flt th la le cf kind page asked sees cnt wet which leaf rds d_fittingPages d_leastPage d_greatestPage e_kind e_page e_asked e_sent e_count e_wetSet y_leaves y_led y_firstWrong h_kind h_page h_asked h_sent h_count h_wetSet f_dry f_askedUpTo f_costs f_roots f_size o_aheadOf o_ways o_count sorts slong mcells m_at m_readSlips m_read m_looked m_keptSees m_sumOfLeaves m_ledTo m_firstWrong m_dryOnes m_dryMany m_costs m_roots m_depth m_row m_placeOf)[i]?)) (rest := []) ⟨hx, hb, hml, hown, hts⟩ (kX7_copyS l D cI cR (ad 0) (ad 1) (ad 10) (ad 15) (ad 23) (ad 29) (ad 34) (ad 8) (ad 9) (rwF ad) ques trc flt (cf 3) (th 3) (la 3) (le 3) y1 y2 y3 y4 y5 (fun h => by rw [hr4 h]; rfl) (fun h => by rw [hq4 h]; rfl) (rv, flt_n, r_cells_n) hTx) (cwV 5 hts gT_X7_copy rfl rfl rfl (by decide +kernel) ⟨Nat.le_of_ble_eq_true rfl, Nat.le_of_ble_eq_true rfl⟩) hP hD hS hA hK hN [0, 1, 8, 9] [2, 3, 4, 5, 6, 7, 10, 11, 12, 13, 14, 15, 16, 17, 18, 19, 20, 21, 22, 23, 24, 25, 26, 27, 28, 29, 30, 31, 32, 33, 34, 35, 36, 37, 38, 39, 40, 41, 42, 43, 44, 45, 46, 47, 48, 49, 50, 51, 52, 53, 54] rfl rfl (by decide) (by decide) (by decide) (va_recv hK hP (ci := 6) (q0 := 0) rfl rfl) rfl hl.1 rfl (Nat.le_of_ble_eq_true rfl) dL_law_945 ⟨Nat.le_of_ble_eq_true rfl, Nat.le_of_ble_eq_true rfl⟩ (fun H locs hP hD hS => ?_)
      have hP := hP.sub (ws' := wL ad cI cR ques trc flt_n th la le (va_up cf 3 r_cells_n) kind page asked sees cnt wet which leaf rds d_fittingPages d_leastPage d_greatestPage e_kind e_page e_asked e_sent e_count e_wetSet y_leaves y_led y_firstWrong h_kind h_page h_asked h_sent h_count h_wetSet f_dry f_askedUpTo f_costs f_roots f_size o_aheadOf o_ways o_count sorts slong mcells m_at m_readSlips m_read m_looked m_keptSees m_sumOfLeaves m_ledTo m_firstWrong m_dryOnes m_dryMany m_costs m_roots m_depth m_row m_placeOf) [51, 52, 0, 1, 2, 3, 4, 5, 53, 54, 6, 7, 8, 9, 10, 11, 12, 13, 14, 15, 16, 17, 18, 19, 20, 21, 22, 23, 24, 25, 26, 27, 28, 29, 30, 31, 32, 33, 34, 35, 36, 37, 38, 39, 40, 41, 42, 43, 44, 45, 46, 47, 48, 49, 50] rfl
      have hD := hD.sub (ws' := wL ad cI cR ques trc flt_n th la le (va_up cf 3 r_cells_n) kind page asked sees cnt wet which leaf rds d_fittingPages d_leastPage d_greatestPage e_kind e_page e_asked e_sent e_count e_wetSet y_leaves y_led y_firstWrong h_kind h_page h_asked h_sent h_count h_wetSet f_dry f_askedUpTo f_costs f_roots f_size o_aheadOf o_ways o_count sorts slong mcells m_at m_readSlips m_read m_looked m_keptSees m_sumOfLeaves m_ledTo m_firstWrong m_dryOnes m_dryMany m_costs m_roots m_depth m_row m_placeOf) [51, 52, 0, 1, 2, 3, 4, 5, 53, 54, 6, 7, 8, 9, 10, 11, 12, 13, 14, 15, 16, 17, 18, 19, 20, 21, 22, 23, 24, 25, 26, 27, 28, 29, 30, 31, 32, 33, 34, 35, 36, 37, 38, 39, 40, 41, 42, 43, 44, 45, 46, 47, 48, 49, 50] (by decide) rfl
      refine lv_aload_n hx hb dL_law_948 rfl (lv_at hl 2 rfl) ?_
      refine lv_aload_n hx hb dL_law_949 rfl (lv_at hl 0 rfl) ?_
      refine lv_iload_n hx hb dL_law_950 rfl (lv_at hl 3 rfl) ?_
      refine lv_iconst (v := 1) hx hb dL_law_951 (by decide) ?_
      refine lv_iadd hx hb dL_law_952 ?_
      refine q_sld hx hb hX hbl hbA hS hi1 hy1 dL_law_953 ?_
      refine lv_aload_n hx hb dL_law_954 rfl (lv_at hl 0 rfl) ?_
      refine lv_iload_n hx hb dL_law_955 rfl (lv_at hl 3 rfl) ?_
      refine lv_iconst (v := 2) hx hb dL_law_956 (by decide) ?_
      refine lv_iadd hx hb dL_law_957 ?_
      refine q_sld hx hb hX hbl hbA hS hi2 hy2 dL_law_958 ?_
      refine lv_aload_n hx hb dL_law_959 rfl (lv_at hl 0 rfl) ?_
      refine lv_iload_n hx hb dL_law_960 rfl (lv_at hl 3 rfl) ?_
      refine lv_iconst (v := 3) hx hb dL_law_961 (by decide) ?_
      refine lv_iadd hx hb dL_law_962 ?_
      refine q_sld hx hb hX hbl hbA hS hi3 hy3 dL_law_963 ?_
      refine lv_aload_n hx hb dL_law_964 rfl (lv_at hl 0 rfl) ?_
      refine lv_iload_n hx hb dL_law_965 rfl (lv_at hl 3 rfl) ?_
      refine lv_iconst (v := 4) hx hb dL_law_966 (by decide) ?_
      refine lv_iadd hx hb dL_law_967 ?_
      refine q_sld hx hb hX hbl hbA hS hi4 hy4 dL_law_968 ?_
      refine lv_aload_n hx hb dL_law_969 rfl (lv_at hl 0 rfl) ?_
      refine lv_iload_n hx hb dL_law_970 rfl (lv_at hl 3 rfl) ?_
      refine lv_iconst (v := 5) hx hb dL_law_971 (by decide) ?_
      refine lv_iadd hx hb dL_law_972 ?_
      refine q_sld hx hb hX hbl hbA hS hi5 hy5 dL_law_973 ?_
      refine q_wVi (wr := [0, 1, 2, 3, 4, 5, 6, 7, 8, 9, 10, 11, 12, 13, 14, 15, 16, 17, 18, 19, 20, 21, 22, 23, 24, 25, 26, 27, 28, 29, 30, 31, 32, 33, 34, 35, 36].filterMap (fun i => (wL ad cI cR ques trc flt_n th la le (va_up cf 3 r_cells_n) kind page asked sees cnt wet which leaf rds d_fittingPages d_leastPage d_greatestPage e_kind e_page e_asked e_sent e_count e_wetSet y_leaves y_led y_firstWrong h_kind h_page h_asked h_sent h_count h_wetSet f_dry f_askedUpTo f_costs f_roots f_size o_aheadOf o_ways o_count sorts slong mcells m_at m_readSlips m_read m_looked m_keptSees m_sumOfLeaves m_ledTo m_firstWrong m_dryOnes m_dryMany m_costs m_roots m_depth m_row m_placeOf)[i]?)) (rest := [.int rv]) ⟨hx, hb, hml, hown, hts⟩ (kX8_copy l D cI cR (ad 37) (ad 38) (ad 39) (ad 40) (ad 41) (ad 42) (ad 43) (ad 44) (ad 45) (ad 46) (ad 47) (ad 48) (ad 49) (ad 50) (ad 51) (ad 52) (ad 53) (ad 54) flt_n trc sorts slong mcells cnt ques wet kind page asked sees m_at m_readSlips m_read m_looked m_keptSees m_sumOfLeaves m_ledTo m_firstWrong m_dryOnes m_dryMany m_costs m_roots m_depth m_row m_placeOf rds which leaf y1 y2 y3 y4 y5 (rv, flt_n, mcells_n) hTm) (cwV 5 hts gT_X8_copy rfl rfl rfl (by decide +kernel) ⟨Nat.le_of_ble_eq_true rfl, Nat.le_of_ble_eq_true rfl⟩) hP hD hS hA hK hN [37, 38, 39, 40, 41, 42, 43, 44, 45, 46, 47, 48, 49, 50, 51, 52, 53, 54] [0, 1, 2, 3, 4, 5, 6, 7, 8, 9, 10, 11, 12, 13, 14, 15, 16, 17, 18, 19, 20, 21, 22, 23, 24, 25, 26, 27, 28, 29, 30, 31, 32, 33, 34, 35, 36] rfl rfl (by decide) (by decide) (by decide) (va_recv hK hP (ci := 7) (q0 := 37) rfl rfl) rfl hl.1 rfl (Nat.le_of_ble_eq_true rfl) dL_law_974 ⟨Nat.le_of_ble_eq_true rfl, Nat.le_of_ble_eq_true rfl⟩ (fun H locs hP hD hS => ?_)
      have hP := hP.sub (ws' := wL ad cI cR ques trc flt_n th la le (va_up cf 3 r_cells_n) kind page asked sees cnt wet which leaf rds d_fittingPages d_leastPage d_greatestPage e_kind e_page e_asked e_sent e_count e_wetSet y_leaves y_led y_firstWrong h_kind h_page h_asked h_sent h_count h_wetSet f_dry f_askedUpTo f_costs f_roots f_size o_aheadOf o_ways o_count sorts slong mcells_n m_at m_readSlips m_read m_looked m_keptSees m_sumOfLeaves m_ledTo m_firstWrong m_dryOnes m_dryMany m_costs m_roots m_depth m_row m_placeOf) [0, 1, 2, 3, 4, 5, 6, 7, 8, 9, 10, 11, 12, 13, 14, 15, 16, 17, 18, 19, 20, 21, 22, 23, 24, 25, 26, 27, 28, 29, 30, 31, 32, 33, 34, 35, 36, 37, 38, 39, 40, 41, 42, 43, 44, 45, 46, 47, 48, 49, 50, 51, 52, 53, 54] rfl
      have hD := hD.sub (ws' := wL ad cI cR ques trc flt_n th la le (va_up cf 3 r_cells_n) kind page asked sees cnt wet which leaf rds d_fittingPages d_leastPage d_greatestPage e_kind e_page e_asked e_sent e_count e_wetSet y_leaves y_led y_firstWrong h_kind h_page h_asked h_sent h_count h_wetSet f_dry f_askedUpTo f_costs f_roots f_size o_aheadOf o_ways o_count sorts slong mcells_n m_at m_readSlips m_read m_looked m_keptSees m_sumOfLeaves m_ledTo m_firstWrong m_dryOnes m_dryMany m_costs m_roots m_depth m_row m_placeOf) [0, 1, 2, 3, 4, 5, 6, 7, 8, 9, 10, 11, 12, 13, 14, 15, 16, 17, 18, 19, 20, 21, 22, 23, 24, 25, 26, 27, 28, 29, 30, 31, 32, 33, 34, 35, 36, 37, 38, 39, 40, 41, 42, 43, 44, 45, 46, 47, 48, 49, 50, 51, 52, 53, 54] (by decide) rfl
      refine lv_icmp_eq (tgt := 1110) hx hb dL_law_977 (by decide) (fun _ => ?_) (fun h => absurd rfl h)
      exact kk _ _ _ _ _ _ _ _ _ _ _ _ _ _ _ _ _ _ _ _ _ _ _ _ _ _ _ _ _ _ _ _ _ _ _ _ _ _ _ _ _ _ _ _ _ _ _ _ _ _ _ _ _ _ _ _ _ _ _ _ _ _ _ hI hP hD hS hl
