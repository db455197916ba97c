set_option maxHeartbeats 8000000 in
set_option maxRecDepth 100000 in
theorem case_0 {p : Program} {l : Launch} {e : Env} {s : State} {m : MethodId} {args : Array Value} {below : List Frame} {meth : Method} {c : Code} {Q : State → Prop} {D : va_G} {cI cR : ClassId} {ad : Nat → Nat} {b L : Nat} {xs : Nat → Int32} {x3 : Int32} (C : LawC p s m args c D cI cR b L xs x3) (kk : AtL p l e s m args below meth c Q D cI cR ad b x3 1110) : AtL p l e s m args below meth c Q D cI cR ad b x3 168 := by
  obtain ⟨hx, hb, hml, hown, hts, hX, hbl, hK, hN, hi1, hi2, hi3, hi4, hi5⟩ := C
  have hA : ∀ q : Nat, s.heap.size ≤ q → AL s q := fun _ h => h
  have hbA : ¬ AL s b := Nat.not_le.mpr hbl
  intro ques trc flt th la le cf kind page asked sees cnt wet which leaf rds d_fittingPages d_leastPage d_greatestPage e_kind e_page e_asked e_sent e_count e_wetSet y_leaves y_led y_firstWrong h_kind h_page h_asked h_sent h_count h_wetSet f_dry f_askedUpTo f_costs f_roots f_size o_aheadOf o_ways o_count sorts slong mcells m_at m_readSlips m_read m_looked m_keptSees m_sumOfLeaves m_ledTo m_firstWrong m_dryOnes m_dryMany m_costs m_roots m_depth m_row m_placeOf H locs ls hI hP hD hS hl
  obtain ⟨y1, hy1⟩ : ∃ y, xs (x3 + 1).toNatClampNeg = y := ⟨_, rfl⟩
  obtain ⟨y2, hy2⟩ : ∃ y, xs (x3 + 2).toNatClampNeg = y := ⟨_, rfl⟩
  obtain ⟨y3, hy3⟩ : ∃ y, xs (x3 + 3).toNatClampNeg = y := ⟨_, rfl⟩
  obtain ⟨y4, hy4⟩ : ∃ y, xs (x3 + 4).toNatClampNeg = y := ⟨_, rfl⟩
  obtain ⟨k, hk, hr4⟩ := row_pick y1
  rcases (show k = 0 ∨ k = 1 ∨ k = 2 ∨ k = 3 by omega) with rfl | rfl | rfl | rfl
  · obtain ⟨rv, ques_n, flt_n, kind_n, page_n, asked_n, sees_n, cnt_n, wet_n, rds_n, m_at_n, m_readSlips_n, m_read_n, hTx, hTm, hI⟩ := T_book ques flt th la le cf kind page asked sees cnt wet which leaf rds f_askedUpTo f_costs sorts slong mcells m_at m_readSlips m_read 0 (by decide) y1 y2 y3 y4 hr4 hI
    refine lv_aload_n hx hb dL_law_168 rfl (lv_at hl 1 rfl) ?_
    refine lv_aload_n hx hb dL_law_169 rfl (lv_at hl 0 rfl) ?_
    refine lv_iload_n hx hb dL_law_170 rfl (lv_at hl 3 rfl) ?_
    refine lv_iconst (v := 1) hx hb dL_law_171 (by decide) ?_
    refine lv_iadd hx hb dL_law_172 ?_
    refine q_sld hx hb hX hbl hbA hS hi1 hy1 dL_law_173 ?_
    refine lv_aload_n hx hb dL_law_174 rfl (lv_at hl 0 rfl) ?_
    refine lv_iload_n hx hb dL_law_175 rfl (lv_at hl 3 rfl) ?_
    refine lv_iconst (v := 2) hx hb dL_law_176 (by decide) ?_
    refine lv_iadd hx hb dL_law_177 ?_
    refine q_sld hx hb hX hbl hbA hS hi2 hy2 dL_law_178 ?_
    refine lv_aload_n hx hb dL_law_179 rfl (lv_at hl 0 rfl) ?_
    refine lv_iload_n hx hb dL_law_180 rfl (lv_at hl 3 rfl) ?_
    refine lv_iconst (v := 3) hx hb dL_law_181 (by decide) ?_
    refine lv_iadd hx hb dL_law_182 ?_
    refine q_sld hx hb hX hbl hbA hS hi3 hy3 dL_law_183 ?_
    refine lv_aload_n hx hb dL_law_184 rfl (lv_at hl 0 rfl) ?_
    refine lv_iload_n hx hb dL_law_185 rfl (lv_at hl 3 rfl) ?_
    refine lv_iconst (v := 4) hx hb dL_law_186 (by decide) ?_
    refine lv_iadd hx hb dL_law_187 ?_
    refine q_sld hx hb hX hbl hbA hS hi4 hy4 dL_law_188 ?_
    refine q_wVi (wr := [4, 5, 6, 7, 8, 9, 23, 24, 25, 26, 27, 28, 29, 30, 31, 32, 33, 34, 35, 36, 37, 38, 39, 40, 41, 42, 43, 44, 45, 46, 47, 48, 49, 50, 51, 52, 53, 54].filterMap (fun i => (wL ad cI cR ques trc flt th la le cf kind page asked sees cnt wet which leaf rds d_fittingPages d_leastPage d_greatestPage e_kind e_page e_asked e_sent e_count e_wetSet y_leaves y_led y_firstWrong h_kind h_page h_asked h_sent h_count h_wetSet f_dry f_askedUpTo f_costs f_roots f_size o_aheadOf o_ways o_count sorts slong mcells m_at m_readSlips m_read m_looked m_keptSees m_sumOfLeaves m_ledTo m_firstWrong m_dryOnes m_dryMany m_costs m_roots m_depth m_row m_placeOf)[i]?)) (rest := []) ⟨hx, hb, hml, hown, hts⟩ (kX7_book l D cI cR (ad 0) (ad 1) (ad 10) (ad 15) (ad 23) (ad 29) (ad 34) (ad 2) (ad 3) (ad 11) (ad 12) (ad 13) (ad 14) (ad 16) (ad 17) (ad 18) (ad 19) (ad 20) (ad 21) (ad 22) (rwF ad) ques trc flt (cf 0) (th 0) (la 0) (le 0) kind page asked sees cnt wet which leaf rds d_fittingPages d_leastPage d_greatestPage e_kind e_page e_asked e_sent e_count e_wetSet y1 y2 y3 y4 (fun h => by rw [hr4 h]; rfl) (rv, ques_n, flt_n, kind_n, page_n, asked_n, sees_n, cnt_n, wet_n, rds_n) hTx) (cwV 4 hts gT_X7_book rfl rfl rfl (by decide +kernel) ⟨Nat.le_of_ble_eq_true rfl, Nat.le_of_ble_eq_true rfl⟩) hP hD hS hA hK hN [0, 1, 2, 3, 10, 11, 12, 13, 14, 15, 16, 17, 18, 19, 20, 21, 22] [4, 5, 6, 7, 8, 9, 23, 24, 25, 26, 27, 28, 29, 30, 31, 32, 33, 34, 35, 36, 37, 38, 39, 40, 41, 42, 43, 44, 45, 46, 47, 48, 49, 50, 51, 52, 53, 54] rfl rfl (by decide) (by decide) (by decide) (va_recv hK hP (ci := 6) (q0 := 0) rfl rfl) rfl hl.1 rfl (Nat.le_of_ble_eq_true rfl) dL_law_189 ⟨Nat.le_of_ble_eq_true rfl, Nat.le_of_ble_eq_true rfl⟩ (fun H locs hP hD hS => ?_)
    have hP := hP.sub (ws' := wL ad cI cR ques_n trc flt_n th la le cf kind_n page_n asked_n sees_n cnt_n wet_n which leaf rds_n d_fittingPages d_leastPage d_greatestPage e_kind e_page e_asked e_sent e_count e_wetSet y_leaves y_led y_firstWrong h_kind h_page h_asked h_sent h_count h_wetSet f_dry f_askedUpTo f_costs f_roots f_size o_aheadOf o_ways o_count sorts slong mcells m_at m_readSlips m_read m_looked m_keptSees m_sumOfLeaves m_ledTo m_firstWrong m_dryOnes m_dryMany m_costs m_roots m_depth m_row m_placeOf) [38, 39, 40, 41, 0, 1, 2, 3, 4, 5, 42, 43, 44, 45, 46, 47, 48, 49, 50, 51, 52, 53, 54, 6, 7, 8, 9, 10, 11, 12, 13, 14, 15, 16, 17, 18, 19, 20, 21, 22, 23, 24, 25, 26, 27, 28, 29, 30, 31, 32, 33, 34, 35, 36, 37] rfl
    have hD := hD.sub (ws' := wL ad cI cR ques_n trc flt_n th la le cf kind_n page_n asked_n sees_n cnt_n wet_n which leaf rds_n d_fittingPages d_leastPage d_greatestPage e_kind e_page e_asked e_sent e_count e_wetSet y_leaves y_led y_firstWrong h_kind h_page h_asked h_sent h_count h_wetSet f_dry f_askedUpTo f_costs f_roots f_size o_aheadOf o_ways o_count sorts slong mcells m_at m_readSlips m_read m_looked m_keptSees m_sumOfLeaves m_ledTo m_firstWrong m_dryOnes m_dryMany m_costs m_roots m_depth m_row m_placeOf) [38, 39, 40, 41, 0, 1, 2, 3, 4, 5, 42, 43, 44, 45, 46, 47, 48, 49, 50, 51, 52, 53, 54, 6, 7, 8, 9, 10, 11, 12, 13, 14, 15, 16, 17, 18, 19, 20, 21, 22, 23, 24, 25, 26, 27, 28, 29, 30, 31, 32, 33, 34, 35, 36, 37] (by decide) rfl
    refine lv_aload_n hx hb dL_law_192 rfl (lv_at hl 2 rfl) ?_
    refine lv_aload_n hx hb dL_law_193 rfl (lv_at hl 0 rfl) ?_
    refine lv_iload_n hx hb dL_law_194 rfl (lv_at hl 3 rfl) ?_
    refine lv_iconst (v := 1) hx hb dL_law_195 (by decide) ?_
    refine lv_iadd hx hb dL_law_196 ?_
    refine q_sld hx hb hX hbl hbA hS hi1 hy1 dL_law_197 ?_
    refine lv_aload_n hx hb dL_law_198 rfl (lv_at hl 0 rfl) ?_
    refine lv_iload_n hx hb dL_law_199 rfl (lv_at hl 3 rfl) ?_
    refine lv_iconst (v := 2) hx hb dL_law_200 (by decide) ?_
    refine lv_iadd hx hb dL_law_201 ?_
    refine q_sld hx hb hX hbl hbA hS hi2 hy2 dL_law_202 ?_
    refine lv_aload_n hx hb dL_law_203 rfl (lv_at hl 0 rfl) ?_
    refine lv_iload_n hx hb dL_law_204 rfl (lv_at hl 3 rfl) ?_
    refine lv_iconst (v := 3) hx hb dL_law_205 (by decide) ?_
    refine lv_iadd hx hb dL_law_206 ?_
    refine q_sld hx hb hX hbl hbA hS hi3 hy3 dL_law_207 ?_
    refine lv_aload_n hx hb dL_law_208 rfl (lv_at hl 0 rfl) ?_
    refine lv_iload_n hx hb dL_law_209 rfl (lv_at hl 3 rfl) ?_
    refine lv_iconst (v := 4) hx hb dL_law_210 (by decide) ?_
    refine lv_iadd hx hb dL_law_211 ?_
    refine q_sld hx hb hX hbl hbA hS hi4 hy4 dL_law_212 ?_
    refine q_wVi (wr := [0, 1, 2, 3, 4, 5, 6, 7, 8, 9, 10, 11, 12, 13, 14, 15, 16, 17, 18, 19, 20, 21, 22, 23, 24, 25, 26, 27, 28, 29, 30, 31, 32, 33, 34, 35, 36].filterMap (fun i => (wL ad cI cR ques_n trc flt_n th la le cf kind_n page_n asked_n sees_n cnt_n wet_n which leaf rds_n d_fittingPages d_leastPage d_greatestPage e_kind e_page e_asked e_sent e_count e_wetSet y_leaves y_led y_firstWrong h_kind h_page h_asked h_sent h_count h_wetSet f_dry f_askedUpTo f_costs f_roots f_size o_aheadOf o_ways o_count sorts slong mcells m_at m_readSlips m_read m_looked m_keptSees m_sumOfLeaves m_ledTo m_firstWrong m_dryOnes m_dryMany m_costs m_roots m_depth m_row m_placeOf)[i]?)) (rest := [.int rv]) ⟨hx, hb, hml, hown, hts⟩ (kX8_book l D cI cR (ad 37) (ad 38) (ad 39) (ad 40) (ad 41) (ad 42) (ad 43) (ad 44) (ad 45) (ad 46) (ad 47) (ad 48) (ad 49) (ad 50) (ad 51) (ad 52) (ad 53) (ad 54) flt_n trc sorts slong mcells cnt_n ques_n wet_n kind_n page_n asked_n sees_n m_at m_readSlips m_read m_looked m_keptSees m_sumOfLeaves m_ledTo m_firstWrong m_dryOnes m_dryMany m_costs m_roots m_depth m_row m_placeOf rds_n which leaf y1 y2 y3 y4 (rv, flt_n, cnt_n, ques_n, wet_n, kind_n, page_n, asked_n, sees_n, m_at_n, m_readSlips_n, m_read_n, rds_n) hTm) (cwV 4 hts gT_X8_book rfl rfl rfl (by decide +kernel) ⟨Nat.le_of_ble_eq_true rfl, Nat.le_of_ble_eq_true rfl⟩) hP hD hS hA hK hN [37, 38, 39, 40, 41, 42, 43, 44, 45, 46, 47, 48, 49, 50, 51, 52, 53, 54] [0, 1, 2, 3, 4, 5, 6, 7, 8, 9, 10, 11, 12, 13, 14, 15, 16, 17, 18, 19, 20, 21, 22, 23, 24, 25, 26, 27, 28, 29, 30, 31, 32, 33, 34, 35, 36] rfl rfl (by decide) (by decide) (by decide) (va_recv hK hP (ci := 7) (q0 := 37) rfl rfl) rfl hl.1 rfl (Nat.le_of_ble_eq_true rfl) dL_law_213 ⟨Nat.le_of_ble_eq_true rfl, Nat.le_of_ble_eq_true rfl⟩ (fun H locs hP hD hS => ?_)
    have hP := hP.sub (ws' := wL ad cI cR ques_n trc flt_n th la le cf kind_n page_n asked_n sees_n cnt_n wet_n which leaf rds_n d_fittingPages d_leastPage d_greatestPage e_kind e_page e_asked e_sent e_count e_wetSet y_leaves y_led y_firstWrong h_kind h_page h_asked h_sent h_count h_wetSet f_dry f_askedUpTo f_costs f_roots f_size o_aheadOf o_ways o_count sorts slong mcells m_at_n m_readSlips_n m_read_n m_looked m_keptSees m_sumOfLeaves m_ledTo m_firstWrong m_dryOnes m_dryMany m_costs m_roots m_depth m_row m_placeOf) [0, 1, 2, 3, 4, 5, 6, 7, 8, 9, 10, 11, 12, 13, 14, 15, 16, 17, 18, 19, 20, 21, 22, 23, 24, 25, 26, 27, 28, 29, 30, 31, 32, 33, 34, 35, 36, 37, 38, 39, 40, 41, 42, 43, 44, 45, 46, 47, 48, 49, 50, 51, 52, 53, 54] rfl
    have hD := hD.sub (ws' := wL ad cI cR ques_n trc flt_n th la le cf kind_n page_n asked_n sees_n cnt_n wet_n which leaf rds_n d_fittingPages d_leastPage d_greatestPage e_kind e_page e_asked e_sent e_count e_wetSet y_leaves y_led y_firstWrong h_kind h_page h_asked h_sent h_count h_wetSet f_dry f_askedUpTo f_costs f_roots f_size o_aheadOf o_ways o_count sorts slong mcells m_at_n m_readSlips_n m_read_n m_looked m_keptSees m_sumOfLeaves m_ledTo m_firstWrong m_dryOnes m_dryMany m_costs m_roots m_depth m_row m_placeOf) [0, 1, 2, 3, 4, 5, 6, 7, 8, 9, 10, 11, 12, 13, 14, 15, 16, 17, 18, 19, 20, 21, 22, 23, 24, 25, 26, 27, 28, 29, 30, 31, 32, 33, 34, 35, 36, 37, 38, 39, 40, 41, 42, 43, 44, 45, 46, 47, 48, 49, 50, 51, 52, 53, 54] (by decide) rfl
    refine lv_icmp_eq (tgt := 1110) hx hb dL_law_216 (by decide) (fun _ => ?_) (fun h => absurd rfl h)
    exact kk _ _ _ _ _ _ _ _ _ _ _ _ _ _ _ _ _ _ _ _ _ _ _ _ _ _ _ _ _ _ _ _ _ _ _ _ _ _ _ _ _ _ _ _ _ _ _ _ _ _ _ _ _ _ _ _ _ _ _ _ _ _ _ hI hP hD hS hl
  · obtain ⟨rv, ques_n, flt_n, kind_n, page_n, asked_n, sees_n, cnt_n, wet_n, rds_n, m_at_n, m_readSlips_n, m_read_n, hTx, hTm, hI⟩ := T_book ques flt th la le cf kind page asked sees cnt wet which leaf rds f_askedUpTo f_costs sorts slong mcells m_at m_readSlips m_read 1 (by decide) y1 y2 y3 y4 hr4 hI
    refine lv_aload_n hx hb dL_law_168 rfl (lv_at hl 1 rfl) ?_
    refine lv_aload_n hx hb dL_law_169 rfl (lv_at hl 0 rfl) ?_
    refine lv_iload_n hx hb dL_law_170 rfl (lv_at hl 3 rfl) ?_
    refine lv_iconst (v := 1) hx hb dL_law_171 (by decide) ?_
    refine lv_iadd hx hb dL_law_172 ?_
    refine q_sld hx hb hX hbl hbA hS hi1 hy1 dL_law_173 ?_
    refine lv_aload_n hx hb dL_law_174 rfl (lv_at hl 0 rfl) ?_
    refine lv_iload_n hx hb dL_law_175 rfl (lv_at hl 3 rfl) ?_
    refine lv_iconst (v := 2) hx hb dL_law_176 (by decide) ?_
    refine lv_iadd hx hb dL_law_177 ?_
    refine q_sld hx hb hX hbl hbA hS hi2 hy2 dL_law_178 ?_
    refine lv_aload_n hx hb dL_law_179 rfl (lv_at hl 0 rfl) ?_
    refine lv_iload_n hx hb dL_law_180 rfl (lv_at hl 3 rfl) ?_
    refine lv_iconst (v := 3) hx hb dL_law_181 (by decide) ?_
    refine lv_iadd hx hb dL_law_182 ?_
    refine q_sld hx hb hX hbl hbA hS hi3 hy3 dL_law_183 ?_
    refine lv_aload_n hx hb dL_law_184 rfl (lv_at hl 0 rfl) ?_
    refine lv_iload_n hx hb dL_law_185 rfl (lv_at hl 3 rfl) ?_
    refine lv_iconst (v := 4) hx hb dL_law_186 (by decide) ?_
    refine lv_iadd hx hb dL_law_187 ?_
    refine q_sld hx hb hX hbl hbA hS hi4 hy4 dL_law_188 ?_
    refine q_wVi (wr := [2, 3, 6, 7, 8, 9, 23, 24, 25, 26, 27, 28, 29, 30, 31, 32, 33, 34, 35, 36, 37, 38, 39, 40, 41, 42, 43, 44, 45, 46, 47, 48, 49, 50, 51, 52, 53, 54].filterMap (fun i => (wL ad cI cR ques trc flt th la le cf kind page asked sees cnt wet which leaf rds d_fittingPages d_leastPage d_greatestPage e_kind e_page e_asked e_sent e_count e_wetSet y_leaves y_led y_firstWrong h_kind h_page h_asked h_sent h_count h_wetSet f_dry f_askedUpTo f_costs f_roots f_size o_aheadOf o_ways o_count sorts slong mcells m_at m_readSlips m_read m_looked m_keptSees m_sumOfLeaves m_ledTo m_firstWrong m_dryOnes m_dryMany m_costs m_roots m_depth m_row m_placeOf)[i]?)) (rest := []) ⟨hx, hb, hml, hown, hts⟩ (kX7_book l D cI cR (ad 0) (ad 1) (ad 10) (ad 15) (ad 23) (ad 29) (ad 34) (ad 4) (ad 5) (ad 11) (ad 12) (ad 13) (ad 14) (ad 16) (ad 17) (ad 18) (ad 19) (ad 20) (ad 21) (ad 22) (rwF ad) ques trc flt (cf 1) (th 1) (la 1) (le 1) kind page asked sees cnt wet which leaf rds d_fittingPages d_leastPage d_greatestPage e_kind e_page e_asked e_sent e_count e_wetSet y1 y2 y3 y4 (fun h => by rw [hr4 h]; rfl) (rv, ques_n, flt_n, kind_n, page_n, asked_n, sees_n, cnt_n, wet_n, rds_n) hTx) (cwV 4 hts gT_X7_book rfl rfl rfl (by decide +kernel) ⟨Nat.le_of_ble_eq_true rfl, Nat.le_of_ble_eq_true rfl⟩) hP hD hS hA hK hN [0, 1, 4, 5, 10, 11, 12, 13, 14, 15, 16, 17, 18, 19, 20, 21, 22] [2, 3, 6, 7, 8, 9, 23, 24, 25, 26, 27, 28, 29, 30, 31, 32, 33, 34, 35, 36, 37, 38, 39, 40, 41, 42, 43, 44, 45, 46, 47, 48, 49, 50, 51, 52, 53, 54] rfl rfl (by decide) (by decide) (by decide) (va_recv hK hP (ci := 6) (q0 := 0) rfl rfl) rfl hl.1 rfl (Nat.le_of_ble_eq_true rfl) dL_law_189 ⟨Nat.le_of_ble_eq_true rfl, Nat.le_of_ble_eq_true rfl⟩ (fun H locs hP hD hS => ?_)
    have hP := hP.sub (ws' := wL ad cI cR ques_n trc flt_n th la le cf kind_n page_n asked_n sees_n cnt_n wet_n which leaf rds_n d_fittingPages d_leastPage d_greatestPage e_kind e_page e_asked e_sent e_count e_wetSet y_leaves y_led y_firstWrong h_kind h_page h_asked h_sent h_count h_wetSet f_dry f_askedUpTo f_costs f_roots f_size o_aheadOf o_ways o_count sorts slong mcells m_at m_readSlips m_read m_looked m_keptSees m_sumOfLeaves m_ledTo m_firstWrong m_dryOnes m_dryMany m_costs m_roots m_depth m_row m_placeOf) [38, 39, 0, 1, 40, 41, 2, 3, 4, 5, 42, 43, 44, 45, 46, 47, 48, 49, 50, 51, 52, 53, 54, 6, 7, 8, 9, 10, 11, 12, 13, 14, 15, 16, 17, 18, 19, 20, 21, 22, 23, 24, 25, 26, 27, 28, 29, 30, 31, 32, 33, 34, 35, 36, 37] rfl
    have hD := hD.sub (ws' := wL ad cI cR ques_n trc flt_n th la le cf kind_n page_n asked_n sees_n cnt_n wet_n which leaf rds_n d_fittingPages d_leastPage d_greatestPage e_kind e_page e_asked e_sent e_count e_wetSet y_leaves y_led y_firstWrong h_kind h_page h_asked h_sent h_count h_wetSet f_dry f_askedUpTo f_costs f_roots f_size o_aheadOf o_ways o_count sorts slong mcells m_at m_readSlips m_read m_looked m_keptSees m_sumOfLeaves m_ledTo m_firstWrong m_dryOnes m_dryMany m_costs m_roots m_depth m_row m_placeOf) [38, 39, 0, 1, 40, 41, 2, 3, 4, 5, 42, 43, 44, 45, 46, 47, 48, 49, 50, 51, 52, 53, 54, 6, 7, 8, 9, 10, 11, 12, 13, 14, 15, 16, 17, 18, 19, 20, 21, 22, 23, 24, 25, 26, 27, 28, 29, 30, 31, 32, 33, 34, 35, 36, 37] (by decide) rfl
    refine lv_aload_n hx hb dL_law_192 rfl (lv_at hl 2 rfl) ?_
    refine lv_aload_n hx hb dL_law_193 rfl (lv_at hl 0 rfl) ?_
    refine lv_iload_n hx hb dL_law_194 rfl (lv_at hl 3 rfl) ?_
    refine lv_iconst (v := 1) hx hb dL_law_195 (by decide) ?_
    refine lv_iadd hx hb dL_law_196 ?_
    refine q_sld hx hb hX hbl hbA hS hi1 hy1 dL_law_197 ?_
    refine lv_aload_n hx hb dL_law_198 rfl (lv_at hl 0 rfl) ?_
    refine lv_iload_n hx hb dL_law_199 rfl (lv_at hl 3 rfl) ?_
    refine lv_iconst (v := 2) hx hb dL_law_200 (by decide) ?_
    refine lv_iadd hx hb dL_law_201 ?_
    refine q_sld hx hb hX hbl hbA hS hi2 hy2 dL_law_202 ?_
    refine lv_aload_n hx hb dL_law_203 rfl (lv_at hl 0 rfl) ?_
    refine lv_iload_n hx hb dL_law_204 rfl (lv_at hl 3 rfl) ?_
    refine lv_iconst (v := 3) hx hb dL_law_205 (by decide) ?_
    refine lv_iadd hx hb dL_law_206 ?_
    refine q_sld hx hb hX hbl hbA hS hi3 hy3 dL_law_207 ?_
    refine lv_aload_n hx hb dL_law_208 rfl (lv_at hl 0 rfl) ?_
    refine lv_iload_n hx hb dL_law_209 rfl (lv_at hl 3 rfl) ?_
    refine lv_iconst (v := 4) hx hb dL_law_210 (by decide) ?_
    refine lv_iadd hx hb dL_law_211 ?_
    refine q_sld hx hb hX hbl hbA hS hi4 hy4 dL_law_212 ?_
    refine q_wVi (wr := [0, 1, 2, 3, 4, 5, 6, 7, 8, 9, 10, 11, 12, 13, 14, 15, 16, 17, 18, 19, 20, 21, 22, 23, 24, 25, 26, 27, 28, 29, 30, 31, 32, 33, 34, 35, 36].filterMap (fun i => (wL ad cI cR ques_n trc flt_n th la le cf kind_n page_n asked_n sees_n cnt_n wet_n which leaf rds_n d_fittingPages d_leastPage d_greatestPage e_kind e_page e_asked e_sent e_count e_wetSet y_leaves y_led y_firstWrong h_kind h_page h_asked h_sent h_count h_wetSet f_dry f_askedUpTo f_costs f_roots f_size o_aheadOf o_ways o_count sorts slong mcells m_at m_readSlips m_read m_looked m_keptSees m_sumOfLeaves m_ledTo m_firstWrong m_dryOnes m_dryMany m_costs m_roots m_depth m_row m_placeOf)[i]?)) (rest := [.int rv]) ⟨hx, hb, hml, hown, hts⟩ (kX8_book l D cI cR (ad 37) (ad 38) (ad 39) (ad 40) (ad 41) (ad 42) (ad 43) (ad 44) (ad 45) (ad 46) (ad 47) (ad 48) (ad 49) (ad 50) (ad 51) (ad 52) (ad 53) (ad 54) flt_n trc sorts slong mcells cnt_n ques_n wet_n kind_n page_n asked_n sees_n m_at m_readSlips m_read m_looked m_keptSees m_sumOfLeaves m_ledTo m_firstWrong m_dryOnes m_dryMany m_costs m_roots m_depth m_row m_placeOf rds_n which leaf y1 y2 y3 y4 (rv, flt_n, cnt_n, ques_n, wet_n, kind_n, page_n, asked_n, sees_n, m_at_n, m_readSlips_n, m_read_n, rds_n) hTm) (cwV 4 hts gT_X8_book rfl rfl rfl (by decide +kernel) ⟨Nat.le_of_ble_eq_true rfl, Nat.le_of_ble_eq_true rfl⟩) hP hD hS hA hK hN [37, 38, 39, 40, 41, 42, 43, 44, 45, 46, 47, 48, 49, 50, 51, 52, 53, 54] [0, 1, 2, 3, 4, 5, 6, 7, 8, 9, 10, 11, 12, 13, 14, 15, 16, 17, 18, 19, 20, 21, 22, 23, 24, 25, 26, 27, 28, 29, 30, 31, 32, 33, 34, 35, 36] rfl rfl (by decide) (by decide) (by decide) (va_recv hK hP (ci := 7) (q0 := 37) rfl rfl) rfl hl.1 rfl (Nat.le_of_ble_eq_true rfl) dL_law_213 ⟨Nat.le_of_ble_eq_true rfl, Nat.le_of_ble_eq_true rfl⟩ (fun H locs hP hD hS => ?_)
    have hP := hP.sub (ws' := wL ad cI cR ques_n trc flt_n th la le cf kind_n page_n asked_n sees_n cnt_n wet_n which leaf rds_n d_fittingPages d_leastPage d_greatestPage e_kind e_page e_asked e_sent e_count e_wetSet y_leaves y_led y_firstWrong h_kind h_page h_asked h_sent h_count h_wetSet f_dry f_askedUpTo f_costs f_roots f_size o_aheadOf o_ways o_count sorts slong mcells m_at_n m_readSlips_n m_read_n m_looked m_keptSees m_sumOfLeaves m_ledTo m_firstWrong m_dryOnes m_dryMany m_costs m_roots m_depth m_row m_placeOf) [0, 1, 2, 3, 4, 5, 6, 7, 8, 9, 10, 11, 12, 13, 14, 15, 16, 17, 18, 19, 20, 21, 22, 23, 24, 25, 26, 27, 28, 29, 30, 31, 32, 33, 34, 35, 36, 37, 38, 39, 40, 41, 42, 43, 44, 45, 46, 47, 48, 49, 50, 51, 52, 53, 54] rfl
    have hD := hD.sub (ws' := wL ad cI cR ques_n trc flt_n th la le cf kind_n page_n asked_n sees_n cnt_n wet_n which leaf rds_n d_fittingPages d_leastPage d_greatestPage e_kind e_page e_asked e_sent e_count e_wetSet y_leaves y_led y_firstWrong h_kind h_page h_asked h_sent h_count h_wetSet f_dry f_askedUpTo f_costs f_roots f_size o_aheadOf o_ways o_count sorts slong mcells m_at_n m_readSlips_n m_read_n m_looked m_keptSees m_sumOfLeaves m_ledTo m_firstWrong m_dryOnes m_dryMany m_costs m_roots m_depth m_row m_placeOf) [0, 1, 2, 3, 4, 5, 6, 7, 8, 9, 10, 11, 12, 13, 14, 15, 16, 17, 18, 19, 20, 21, 22, 23, 24, 25, 26, 27, 28, 29, 30, 31, 32, 33, 34, 35, 36, 37, 38, 39, 40, 41, 42, 43, 44, 45, 46, 47, 48, 49, 50, 51, 52, 53, 54] (by decide) rfl
    refine lv_icmp_eq (tgt := 1110) hx hb dL_law_216 (by decide) (fun _ => ?_) (fun h => absurd rfl h)
    exact kk _ _ _ _ _ _ _ _ _ _ _ _ _ _ _ _ _ _ _ _ _ _ _ _ _ _ _ _ _ _ _ _ _ _ _ _ _ _ _ _ _ _ _ _ _ _ _ _ _ _ _ _ _ _ _ _ _ _ _ _ _ _ _ hI hP hD hS hl
  · obtain ⟨rv, ques_n, flt_n, kind_n, page_n, asked_n, sees_n, cnt_n, wet_n, rds_n, m_at_n, m_readSlips_n, m_read_n, hTx, hTm, hI⟩ := T_book ques flt th la le cf kind page asked sees cnt wet which leaf rds f_askedUpTo f_costs sorts slong mcells m_at m_readSlips m_read 2 (by decide) y1 y2 y3 y4 hr4 hI
    refine lv_aload_n hx hb dL_law_168 rfl (lv_at hl 1 rfl) ?_
    refine lv_aload_n hx hb dL_law_169 rfl (lv_at hl 0 rfl) ?_
    refine lv_iload_n hx hb dL_law_170 rfl (lv_at hl 3 rfl) ?_
    refine lv_iconst (v := 1) hx hb dL_law_171 (by decide) ?_
    refine lv_iadd hx hb dL_law_172 ?_
    refine q_sld hx hb hX hbl hbA hS hi1 hy1 dL_law_173 ?_
    refine lv_aload_n hx hb dL_law_174 rfl (lv_at hl 0 rfl) ?_
    refine lv_iload_n hx hb dL_law_175 rfl (lv_at hl 3 rfl) ?_
    refine lv_iconst (v := 2) hx hb dL_law_176 (by decide) ?_
    refine lv_iadd hx hb dL_law_177 ?_
    refine q_sld hx hb hX hbl hbA hS hi2 hy2 dL_law_178 ?_
    refine lv_aload_n hx hb dL_law_179 rfl (lv_at hl 0 rfl) ?_
    refine lv_iload_n hx hb dL_law_180 rfl (lv_at hl 3 rfl) ?_
    refine lv_iconst (v := 3) hx hb dL_law_181 (by decide) ?_
    refine lv_iadd hx hb dL_law_182 ?_
    refine q_sld hx hb hX hbl hbA hS hi3 hy3 dL_law_183 ?_
    refine lv_aload_n hx hb dL_law_184 rfl (lv_at hl 0 rfl) ?_
    refine lv_iload_n hx hb dL_law_185 rfl (lv_at hl 3 rfl) ?_
    refine lv_iconst (v := 4) hx hb dL_law_186 (by decide) ?_
    refine lv_iadd hx hb dL_law_187 ?_
    refine q_sld hx hb hX hbl hbA hS hi4 hy4 dL_law_188 ?_
    refine q_wVi (wr := [2, 3, 4, 5, 8, 9, 23, 24, 25, 26, 27, 28, 29, 30, 31, 32, 33, 34, 35, 36, 37, 38, 39, 40, 41, 42, 43, 44, 45, 46, 47, 48, 49, 50, 51, 52, 53, 54].filterMap (fun i => (wL ad cI cR ques trc flt th la le cf kind page asked sees cnt wet which leaf rds d_fittingPages d_leastPage d_greatestPage e_kind e_page e_asked e_sent e_count e_wetSet y_leaves y_led y_firstWrong h_kind h_page h_asked h_sent h_count h_wetSet f_dry f_askedUpTo f_costs f_roots f_size o_aheadOf o_ways o_count sorts slong mcells m_at m_readSlips m_read m_looked m_keptSees m_sumOfLeaves m_ledTo m_firstWrong m_dryOnes m_dryMany m_costs m_roots m_depth m_row m_placeOf)[i]?)) (rest := []) ⟨hx, hb, hml, hown, hts⟩ (kX7_book l D cI cR (ad 0) (ad 1) (ad 10) (ad 15) (ad 23) (ad 29) (ad 34) (ad 6) (ad 7) (ad 11) (ad 12) (ad 13) (ad 14) (ad 16) (ad 17) (ad 18) (ad 19) (ad 20) (ad 21) (ad 22) (rwF ad) ques trc flt (cf 2) (th 2) (la 2) (le 2) kind page asked sees cnt wet which leaf rds d_fittingPages d_leastPage d_greatestPage e_kind e_page e_asked e_sent e_count e_wetSet y1 y2 y3 y4 (fun h => by rw [hr4 h]; rfl) (rv, ques_n, flt_n, kind_n, page_n, asked_n, sees_n, cnt_n, wet_n, rds_n) hTx) (cwV 4 hts gT_X7_book rfl rfl rfl (by decide +kernel) ⟨Nat.le_of_ble_eq_true rfl, Nat.le_of_ble_eq_true rfl⟩) hP hD hS hA hK hN [0, 1, 6, 7, 10, 11, 12, 13, 14, 15, 16, 17, 18, 19, 20, 21, 22] [2, 3, 4, 5, 8, 9, 23, 24, 25, 26, 27, 28, 29, 30, 31, 32, 33, 34, 35, 36, 37, 38, 39, 40, 41, 42, 43, 44, 45, 46, 47, 48, 49, 50, 51, 52, 53, 54] rfl rfl (by decide) (by decide) (by decide) (va_recv hK hP (ci := 6) (q0 := 0) rfl rfl) rfl hl.1 rfl (Nat.le_of_ble_eq_true rfl) dL_law_189 ⟨Nat.le_of_ble_eq_true rfl, Nat.le_of_ble_eq_true rfl⟩ (fun H locs hP hD hS => ?_)
    have hP := hP.sub (ws' := wL ad cI cR ques_n trc flt_n th la le cf kind_n page_n asked_n sees_n cnt_n wet_n which leaf rds_n d_fittingPages d_leastPage d_greatestPage e_kind e_page e_asked e_sent e_count e_wetSet y_leaves y_led y_firstWrong h_kind h_page h_asked h_sent h_count h_wetSet f_dry f_askedUpTo f_costs f_roots f_size o_aheadOf o_ways o_count sorts slong mcells m_at m_readSlips m_read m_looked m_keptSees m_sumOfLeaves m_ledTo m_firstWrong m_dryOnes m_dryMany m_costs m_roots m_depth m_row m_placeOf) [38, 39, 0, 1, 2, 3, 40, 41, 4, 5, 42, 43, 44, 45, 46, 47, 48, 49, 50, 51, 52, 53, 54, 6, 7, 8, 9, 10, 11, 12, 13, 14, 15, 16, 17, 18, 19, 20, 21, 22, 23, 24, 25, 26, 27, 28, 29, 30, 31, 32, 33, 34, 35, 36, 37] rfl
    have hD := hD.sub (ws' := wL ad cI cR ques_n trc flt_n th la le cf kind_n page_n asked_n sees_n cnt_n wet_n which leaf rds_n d_fittingPages d_leastPage d_greatestPage e_kind e_page e_asked e_sent e_count e_wetSet y_leaves y_led y_firstWrong h_kind h_page h_asked h_sent h_count h_wetSet f_dry f_askedUpTo f_costs f_roots f_size o_aheadOf o_ways o_count sorts slong mcells m_at m_readSlips m_read m_looked m_keptSees m_sumOfLeaves m_ledTo m_firstWrong m_dryOnes m_dryMany m_costs m_roots m_depth m_row m_placeOf) [38, 39, 0, 1, 2, 3, 40, 41, 4, 5, 42, 43, 44, 45, 46, 47, 48, 49, 50, 51, 52, 53, 54, 6, 7, 8, 9, 10, 11, 12, 13, 14, 15, 16, 17, 18, 19, 20, 21, 22, 23, 24, 25, 26, 27, 28, 29, 30, 31, 32, 33, 34, 35, 36, 37] (by decide) rfl
    refine lv_aload_n hx hb dL_law_192 rfl (lv_at hl 2 rfl) ?_
    refine lv_aload_n hx hb dL_law_193 rfl (lv_at hl 0 rfl) ?_
    refine lv_iload_n hx hb dL_law_194 rfl (lv_at hl 3 rfl) ?_
    refine lv_iconst (v := 1) hx hb dL_law_195 (by decide) ?_
    refine lv_iadd hx hb dL_law_196 ?_
    refine q_sld hx hb hX hbl hbA hS hi1 hy1 dL_law_197 ?_
    refine lv_aload_n hx hb dL_law_198 rfl (lv_at hl 0 rfl) ?_
    refine lv_iload_n hx hb dL_law_199 rfl (lv_at hl 3 rfl) ?_
    refine lv_iconst (v := 2) hx hb dL_law_200 (by decide) ?_
    refine lv_iadd hx hb dL_law_201 ?_
    refine q_sld hx hb hX hbl hbA hS hi2 hy2 dL_law_202 ?_
    refine lv_aload_n hx hb dL_law_203 rfl (lv_at hl 0 rfl) ?_
    refine lv_iload_n hx hb dL_law_204 rfl (lv_at hl 3 rfl) ?_
    refine lv_iconst (v := 3) hx hb dL_law_205 (by decide) ?_
    refine lv_iadd hx hb dL_law_206 ?_
    refine q_sld hx hb hX hbl hbA hS hi3 hy3 dL_law_207 ?_
    refine lv_aload_n hx hb dL_law_208 rfl (lv_at hl 0 rfl) ?_
    refine lv_iload_n hx hb dL_law_209 rfl (lv_at hl 3 rfl) ?_
    refine lv_iconst (v := 4) hx hb dL_law_210 (by decide) ?_
    refine lv_iadd hx hb dL_law_211 ?_
    refine q_sld hx hb hX hbl hbA hS hi4 hy4 dL_law_212 ?_
    refine q_wVi (wr := [0, 1, 2, 3, 4, 5, 6, 7, 8, 9, 10, 11, 12, 13, 14, 15, 16, 17, 18, 19, 20, 21, 22, 23, 24, 25, 26, 27, 28, 29, 30, 31, 32, 33, 34, 35, 36].filterMap (fun i => (wL ad cI cR ques_n trc flt_n th la le cf kind_n page_n asked_n sees_n cnt_n wet_n which leaf rds_n d_fittingPages d_leastPage d_greatestPage e_kind e_page e_asked e_sent e_count e_wetSet y_leaves y_led y_firstWrong h_kind h_page h_asked h_sent h_count h_wetSet f_dry f_askedUpTo f_costs f_roots f_size o_aheadOf o_ways o_count sorts slong mcells m_at m_readSlips m_read m_looked m_keptSees m_sumOfLeaves m_ledTo m_firstWrong m_dryOnes m_dryMany m_costs m_roots m_depth m_row m_placeOf)[i]?)) (rest := [.int rv]) ⟨hx, hb, hml, hown, hts⟩ (kX8_book l D cI cR (ad 37) (ad 38) (ad 39) (ad 40) (ad 41) (ad 42) (ad 43) (ad 44) (ad 45) (ad 46) (ad 47) (ad 48) (ad 49) (ad 50) (ad 51) (ad 52) (ad 53) (ad 54) flt_n trc sorts slong mcells cnt_n ques_n wet_n kind_n page_n asked_n sees_n m_at m_readSlips m_read m_looked m_keptSees m_sumOfLeaves m_ledTo m_firstWrong m_dryOnes m_dryMany m_costs m_roots m_depth m_row m_placeOf rds_n which leaf y1 y2 y3 y4 (rv, flt_n, cnt_n, ques_n, wet_n, kind_n, page_n, asked_n, sees_n, m_at_n, m_readSlips_n, m_read_n, rds_n) hTm) (cwV 4 hts gT_X8_book rfl rfl rfl (by decide +kernel) ⟨Nat.le_of_ble_eq_true rfl, Nat.le_of_ble_eq_true rfl⟩) hP hD hS hA hK hN [37, 38, 39, 40, 41, 42, 43, 44, 45, 46, 47, 48, 49, 50, 51, 52, 53, 54] [0, 1, 2, 3, 4, 5, 6, 7, 8, 9, 10, 11, 12, 13, 14, 15, 16, 17, 18, 19, 20, 21, 22, 23, 24, 25, 26, 27, 28, 29, 30, 31, 32, 33, 34, 35, 36] rfl rfl (by decide) (by decide) (by decide) (va_recv hK hP (ci := 7) (q0 := 37) rfl rfl) rfl hl.1 rfl (Nat.le_of_ble_eq_true rfl) dL_law_213 ⟨Nat.le_of_ble_eq_true rfl, Nat.le_of_ble_eq_true rfl⟩ (fun H locs hP hD hS => ?_)
    have hP := hP.sub (ws' := wL ad cI cR ques_n trc flt_n th la le cf kind_n page_n asked_n sees_n cnt_n wet_n which leaf rds_n d_fittingPages d_leastPage d_greatestPage e_kind e_page e_asked e_sent e_count e_wetSet y_leaves y_led y_firstWrong h_kind h_page h_asked h_sent h_count h_wetSet f_dry f_askedUpTo f_costs f_roots f_size o_aheadOf o_ways o_count sorts slong mcells m_at_n m_readSlips_n m_read_n m_looked m_keptSees m_sumOfLeaves m_ledTo m_firstWrong m_dryOnes m_dryMany m_costs m_roots m_depth m_row m_placeOf) [0, 1, 2, 3, 4, 5, 6, 7, 8, 9, 10, 11, 12, 13, 14, 15, 16, 17, 18, 19, 20, 21, 22, 23, 24, 25, 26, 27, 28, 29, 30, 31, 32, 33, 34, 35, 36, 37, 38, 39, 40, 41, 42, 43, 44, 45, 46, 47, 48, 49, 50, 51, 52, 53, 54] rfl
    have hD := hD.sub (ws' := wL ad cI cR ques_n trc flt_n th la le cf kind_n page_n asked_n sees_n cnt_n wet_n which leaf rds_n d_fittingPages d_leastPage d_greatestPage e_kind e_page e_asked e_sent e_count e_wetSet y_leaves y_led y_firstWrong h_kind h_page h_asked h_sent h_count h_wetSet f_dry f_askedUpTo f_costs f_roots f_size o_aheadOf o_ways o_count sorts slong mcells m_at_n m_readSlips_n m_read_n m_looked m_keptSees m_sumOfLeaves m_ledTo m_firstWrong m_dryOnes m_dryMany m_costs m_roots m_depth m_row m_placeOf) [0, 1, 2, 3, 4, 5, 6, 7, 8, 9, 10, 11, 12, 13, 14, 15, 16, 17, 18, 19, 20, 21, 22, 23, 24, 25, 26, 27, 28, 29, 30, 31, 32, 33, 34, 35, 36, 37, 38, 39, 40, 41, 42, 43, 44, 45, 46, 47, 48, 49, 50, 51, 52, 53, 54] (by decide) rfl
    refine lv_icmp_eq (tgt := 1110) hx hb dL_law_216 (by decide) (fun _ => ?_) (fun h => absurd rfl h)
    exact kk _ _ _ _ _ _ _ _ _ _ _ _ _ _ _ _ _ _ _ _ _ _ _ _ _ _ _ _ _ _ _ _ _ _ _ _ _ _ _ _ _ _ _ _ _ _ _ _ _ _ _ _ _ _ _ _ _ _ _ _ _ _ _ hI hP hD hS hl
  · obtain ⟨rv, ques_n, flt_n, kind_n, page_n, asked_n, sees_n, cnt_n, wet_n, rds_n, m_at_n, m_readSlips_n, m_read_n, hTx, hTm, hI⟩ := T_book ques flt th la le cf kind page asked sees cnt wet which leaf rds f_askedUpTo f_costs sorts slong mcells m_at m_readSlips m_read 3 (by decide) y1 y2 y3 y4 hr4 hI
    refine lv_aload_n hx hb dL_law_168 rfl (lv_at hl 1 rfl) ?_
    refine lv_aload_n hx hb dL_law_169 rfl (lv_at hl 0 rfl) ?_
    refine lv_iload_n hx hb dL_law_170 rfl (lv_at hl 3 rfl) ?_
    refine lv_iconst (v := 1) hx hb dL_law_171 (by decide) ?_
    refine lv_iadd hx hb dL_law_172 ?_
    refine q_sld hx hb hX hbl hbA hS hi1 hy1 dL_law_173 ?_
    refine lv_aload_n hx hb dL_law_174 rfl (lv_at hl 0 rfl) ?_
    refine lv_iload_n hx hb dL_law_175 rfl (lv_at hl 3 rfl) ?_
    refine lv_iconst (v := 2) hx hb dL_law_176 (by decide) ?_
    refine lv_iadd hx hb dL_law_177 ?_
    refine q_sld hx hb hX hbl hbA hS hi2 hy2 dL_law_178 ?_
    refine lv_aload_n hx hb dL_law_179 rfl (lv_at hl 0 rfl) ?_
    refine lv_iload_n hx hb dL_law_180 rfl (lv_at hl 3 rfl) ?_
    refine lv_iconst (v := 3) hx hb dL_law_181 (by decide) ?_
    refine lv_iadd hx hb dL_law_182 ?_
    refine q_sld hx hb hX hbl hbA hS hi3 hy3 dL_law_183 ?_
    refine lv_aload_n hx hb dL_law_184 rfl (lv_at hl 0 rfl) ?_
    refine lv_iload_n hx hb dL_law_185 rfl (lv_at hl 3 rfl) ?_
    refine lv_iconst (v := 4) hx hb dL_law_186 (by decide) ?_
    refine lv_iadd hx hb dL_law_187 ?_
    refine q_sld hx hb hX hbl hbA hS hi4 hy4 dL_law_188 ?_
    refine q_wVi (wr := [2, 3, 4, 5, 6, 7, 23, 24, 25, 26, 27, 28, 29, 30, 31, 32, 33, 34, 35, 36, 37, 38, 39, 40, 41, 42, 43, 44, 45, 46, 47, 48, 49, 50, 51, 52, 53, 54].filterMap (fun i => (wL ad cI cR ques trc flt th la le cf kind page asked sees cnt wet which leaf rds d_fittingPages d_leastPage d_greatestPage e_kind e_page e_asked e_sent e_count e_wetSet y_leaves y_led y_firstWrong h_kind h_page h_asked h_sent h_count h_wetSet f_dry f_askedUpTo f_costs f_roots f_size o_aheadOf o_ways o_count sorts slong mcells m_at m_readSlips m_read m_looked m_keptSees m_sumOfLeaves m_ledTo m_firstWrong m_dryOnes m_dryMany m_costs m_roots m_depth m_row m_placeOf)[i]?)) (rest := []) ⟨hx, hb, hml, hown, hts⟩ (kX7_book l D cI cR (ad 0) (ad 1) (ad 10) (ad 15) (ad 23) (ad 29) (ad 34) (ad 8) (ad 9) (ad 11) (ad 12) (ad 13) (ad 14) (ad 16) (ad 17) (ad 18) (ad 19) (ad 20) (ad 21) (ad 22) (rwF ad) ques trc flt (cf 3) (th 3) (la 3) (le 3) kind page asked sees cnt wet which leaf rds d_fittingPages d_leastPage d_greatestPage e_kind e_page e_asked e_sent e_count e_wetSet y1 y2 y3 y4 (fun h => by rw [hr4 h]; rfl) (rv, ques_n, flt_n, kind_n, page_n, asked_n, sees_n, cnt_n, wet_n, rds_n) hTx) (cwV 4 hts gT_X7_book rfl rfl rfl (by decide +kernel) ⟨Nat.le_of_ble_eq_true rfl, Nat.le_of_ble_eq_true rfl⟩) hP hD hS hA hK hN [0, 1, 8, 9, 10, 11, 12, 13, 14, 15, 16, 17, 18, 19, 20, 21, 22] [2, 3, 4, 5, 6, 7, 23, 24, 25, 26, 27, 28, 29, 30, 31, 32, 33, 34, 35, 36, 37, 38, 39, 40, 41, 42, 43, 44, 45, 46, 47, 48, 49, 50, 51, 52, 53, 54] rfl rfl (by decide) (by decide) (by decide) (va_recv hK hP (ci := 6) (q0 := 0) rfl rfl) rfl hl.1 rfl (Nat.le_of_ble_eq_true rfl) dL_law_189 ⟨Nat.le_of_ble_eq_true rfl, Nat.le_of_ble_eq_true rfl⟩ (fun H locs hP hD hS => ?_)
    have hP := hP.sub (ws' := wL ad cI cR ques_n trc flt_n th la le cf kind_n page_n asked_n sees_n cnt_n wet_n which leaf rds_n d_fittingPages d_leastPage d_greatestPage e_kind e_page e_asked e_sent e_count e_wetSet y_leaves y_led y_firstWrong h_kind h_page h_asked h_sent h_count h_wetSet f_dry f_askedUpTo f_costs f_roots f_size o_aheadOf o_ways o_count sorts slong mcells m_at m_readSlips m_read m_looked m_keptSees m_sumOfLeaves m_ledTo m_firstWrong m_dryOnes m_dryMany m_costs m_roots m_depth m_row m_placeOf) [38, 39, 0, 1, 2, 3, 4, 5, 40, 41, 42, 43, 44, 45, 46, 47, 48, 49, 50, 51, 52, 53, 54, 6, 7, 8, 9, 10, 11, 12, 13, 14, 15, 16, 17, 18, 19, 20, 21, 22, 23, 24, 25, 26, 27, 28, 29, 30, 31, 32, 33, 34, 35, 36, 37] rfl
    have hD := hD.sub (ws' := wL ad cI cR ques_n trc flt_n th la le cf kind_n page_n asked_n sees_n cnt_n wet_n which leaf rds_n d_fittingPages d_leastPage d_greatestPage e_kind e_page e_asked e_sent e_count e_wetSet y_leaves y_led y_firstWrong h_kind h_page h_asked h_sent h_count h_wetSet f_dry f_askedUpTo f_costs f_roots f_size o_aheadOf o_ways o_count sorts slong mcells m_at m_readSlips m_read m_looked m_keptSees m_sumOfLeaves m_ledTo m_firstWrong m_dryOnes m_dryMany m_costs m_roots m_depth m_row m_placeOf) [38, 39, 0, 1, 2, 3, 4, 5, 40, 41, 42, 43, 44, 45, 46, 47, 48, 49, 50, 51, 52, 53, 54, 6, 7, 8, 9, 10, 11, 12, 13, 14, 15, 16, 17, 18, 19, 20, 21, 22, 23, 24, 25, 26, 27, 28, 29, 30, 31, 32, 33, 34, 35, 36, 37] (by decide) rfl
    refine lv_aload_n hx hb dL_law_192 rfl (lv_at hl 2 rfl) ?_
    refine lv_aload_n hx hb dL_law_193 rfl (lv_at hl 0 rfl) ?_
    refine lv_iload_n hx hb dL_law_194 rfl (lv_at hl 3 rfl) ?_
    refine lv_iconst (v := 1) hx hb dL_law_195 (by decide) ?_
    refine lv_iadd hx hb dL_law_196 ?_
    refine q_sld hx hb hX hbl hbA hS hi1 hy1 dL_law_197 ?_
    refine lv_aload_n hx hb dL_law_198 rfl (lv_at hl 0 rfl) ?_
    refine lv_iload_n hx hb dL_law_199 rfl (lv_at hl 3 rfl) ?_
    refine lv_iconst (v := 2) hx hb dL_law_200 (by decide) ?_
    refine lv_iadd hx hb dL_law_201 ?_
    refine q_sld hx hb hX hbl hbA hS hi2 hy2 dL_law_202 ?_
    refine lv_aload_n hx hb dL_law_203 rfl (lv_at hl 0 rfl) ?_
    refine lv_iload_n hx hb dL_law_204 rfl (lv_at hl 3 rfl) ?_
    refine lv_iconst (v := 3) hx hb dL_law_205 (by decide) ?_
    refine lv_iadd hx hb dL_law_206 ?_
    refine q_sld hx hb hX hbl hbA hS hi3 hy3 dL_law_207 ?_
    refine lv_aload_n hx hb dL_law_208 rfl (lv_at hl 0 rfl) ?_
    refine lv_iload_n hx hb dL_law_209 rfl (lv_at hl 3 rfl) ?_
    refine lv_iconst (v := 4) hx hb dL_law_210 (by decide) ?_
    refine lv_iadd hx hb dL_law_211 ?_
    refine q_sld hx hb hX hbl hbA hS hi4 hy4 dL_law_212 ?_
    refine q_wVi (wr := [0, 1, 2, 3, 4, 5, 6, 7, 8, 9, 10, 11, 12, 13, 14, 15, 16, 17, 18, 19, 20, 21, 22, 23, 24, 25, 26, 27, 28, 29, 30, 31, 32, 33, 34, 35, 36].filterMap (fun i => (wL ad cI cR ques_n trc flt_n th la le cf kind_n page_n asked_n sees_n cnt_n wet_n which leaf rds_n d_fittingPages d_leastPage d_greatestPage e_kind e_page e_asked e_sent e_count e_wetSet y_leaves y_led y_firstWrong h_kind h_page h_asked h_sent h_count h_wetSet f_dry f_askedUpTo f_costs f_roots f_size o_aheadOf o_ways o_count sorts slong mcells m_at m_readSlips m_read m_looked m_keptSees m_sumOfLeaves m_ledTo m_firstWrong m_dryOnes m_dryMany m_costs m_roots m_depth m_row m_placeOf)[i]?)) (rest := [.int rv]) ⟨hx, hb, hml, hown, hts⟩ (kX8_book l D cI cR (ad 37) (ad 38) (ad 39) (ad 40) (ad 41) (ad 42) (ad 43) (ad 44) (ad 45) (ad 46) (ad 47) (ad 48) (ad 49) (ad 50) (ad 51) (ad 52) (ad 53) (ad 54) flt_n trc sorts slong mcells cnt_n ques_n wet_n kind_n page_n asked_n sees_n m_at m_readSlips m_read m_looked m_keptSees m_sumOfLeaves m_ledTo m_firstWrong m_dryOnes m_dryMany m_costs m_roots m_depth m_row m_placeOf rds_n which leaf y1 y2 y3 y4 (rv, flt_n, cnt_n, ques_n, wet_n, kind_n, page_n, asked_n, sees_n, m_at_n, m_readSlips_n, m_read_n, rds_n) hTm) (cwV 4 hts gT_X8_book rfl rfl rfl (by decide +kernel) ⟨Nat.le_of_ble_eq_true rfl, Nat.le_of_ble_eq_true rfl⟩) hP hD hS hA hK hN [37, 38, 39, 40, 41, 42, 43, 44, 45, 46, 47, 48, 49, 50, 51, 52, 53, 54] [0, 1, 2, 3, 4, 5, 6, 7, 8, 9, 10, 11, 12, 13, 14, 15, 16, 17, 18, 19, 20, 21, 22, 23, 24, 25, 26, 27, 28, 29, 30, 31, 32, 33, 34, 35, 36] rfl rfl (by decide) (by decide) (by decide) (va_recv hK hP (ci := 7) (q0 := 37) rfl rfl) rfl hl.1 rfl (Nat.le_of_ble_eq_true rfl) dL_law_213 ⟨Nat.le_of_ble_eq_true rfl, Nat.le_of_ble_eq_true rfl⟩ (fun H locs hP hD hS => ?_)
    have hP := hP.sub (ws' := wL ad cI cR ques_n trc flt_n th la le cf kind_n page_n asked_n sees_n cnt_n wet_n which leaf rds_n d_fittingPages d_leastPage d_greatestPage e_kind e_page e_asked e_sent e_count e_wetSet y_leaves y_led y_firstWrong h_kind h_page h_asked h_sent h_count h_wetSet f_dry f_askedUpTo f_costs f_roots f_size o_aheadOf o_ways o_count sorts slong mcells m_at_n m_readSlips_n m_read_n m_looked m_keptSees m_sumOfLeaves m_ledTo m_firstWrong m_dryOnes m_dryMany m_costs m_roots m_depth m_row m_placeOf) [0, 1, 2, 3, 4, 5, 6, 7, 8, 9, 10, 11, 12, 13, 14, 15, 16, 17, 18, 19, 20, 21, 22, 23, 24, 25, 26, 27, 28, 29, 30, 31, 32, 33, 34, 35, 36, 37, 38, 39, 40, 41, 42, 43, 44, 45, 46, 47, 48, 49, 50, 51, 52, 53, 54] rfl
    have hD := hD.sub (ws' := wL ad cI cR ques_n trc flt_n th la le cf kind_n page_n asked_n sees_n cnt_n wet_n which leaf rds_n d_fittingPages d_leastPage d_greatestPage e_kind e_page e_asked e_sent e_count e_wetSet y_leaves y_led y_firstWrong h_kind h_page h_asked h_sent h_count h_wetSet f_dry f_askedUpTo f_costs f_roots f_size o_aheadOf o_ways o_count sorts slong mcells m_at_n m_readSlips_n m_read_n m_looked m_keptSees m_sumOfLeaves m_ledTo m_firstWrong m_dryOnes m_dryMany m_costs m_roots m_depth m_row m_placeOf) [0, 1, 2, 3, 4, 5, 6, 7, 8, 9, 10, 11, 12, 13, 14, 15, 16, 17, 18, 19, 20, 21, 22, 23, 24, 25, 26, 27, 28, 29, 30, 31, 32, 33, 34, 35, 36, 37, 38, 39, 40, 41, 42, 43, 44, 45, 46, 47, 48, 49, 50, 51, 52, 53, 54] (by decide) rfl
    refine lv_icmp_eq (tgt := 1110) hx hb dL_law_216 (by decide) (fun _ => ?_) (fun h => absurd rfl h)
    exact kk _ _ _ _ _ _ _ _ _ _ _ _ _ _ _ _ _ _ _ _ _ _ _ _ _ _ _ _ _ _ _ _ _ _ _ _ _ _ _ _ _ _ _ _ _ _ _ _ _ _ _ _ _ _ _ _ _ _ _ _ _ _ _ hI hP hD hS hl
set_option maxHeartbeats 8000000 in
set_option maxRecDepth 100000 in
theorem case_1 {p : Program} {l : Launch} {e : Env} {s : State} {m : MethodId} {args : Array Value} {below : List Frame} {meth : Method} {c : Code} {Q : State → Prop} {D : va_G} {cI cR : ClassId} {ad : Nat → Nat} {b L : Nat} {xs : Nat → Int32} {x3 : Int32} (C : LawC p s m args c D cI cR b L xs x3) (kk : AtL p l e s m args below meth c Q D cI cR ad b x3 1110) : AtL p l e s m args below meth c Q D cI cR ad b x3 221 := by
  obtain ⟨hx, hb, hml, hown, hts, hX, hbl, hK, hN, hi1, hi2, hi3, hi4, hi5⟩ := C
  have hA : ∀ q : Nat, s.heap.size ≤ q → AL s q := fun _ h => h
  have hbA : ¬ AL s b := Nat.not_le.mpr hbl
  intro ques trc flt th la le cf kind page asked sees cnt wet which leaf rds d_fittingPages d_leastPage d_greatestPage e_kind e_page e_asked e_sent e_count e_wetSet y_leaves y_led y_firstWrong h_kind h_page h_asked h_sent h_count h_wetSet f_dry f_askedUpTo f_costs f_roots f_size o_aheadOf o_ways o_count sorts slong mcells m_at m_readSlips m_read m_looked m_keptSees m_sumOfLeaves m_ledTo m_firstWrong m_dryOnes m_dryMany m_costs m_roots m_depth m_row m_placeOf H locs ls hI hP hD hS hl
  obtain ⟨y1, hy1⟩ : ∃ y, xs (x3 + 1).toNatClampNeg = y := ⟨_, rfl⟩
  obtain ⟨y2, hy2⟩ : ∃ y, xs (x3 + 2).toNatClampNeg = y := ⟨_, rfl⟩
  obtain ⟨rv, m_looked_n, hTx, hTm, hI⟩ := T_ofSlip th la le cf kind page asked sees cnt wet which leaf rds f_askedUpTo f_costs sorts slong mcells m_looked y1 y2 hI
  refine lv_aload_n hx hb dL_law_221 rfl (lv_at hl 1 rfl) ?_
  refine lv_aload_n hx hb dL_law_222 rfl (lv_at hl 0 rfl) ?_
  refine lv_iload_n hx hb dL_law_223 rfl (lv_at hl 3 rfl) ?_
  refine lv_iconst (v := 1) hx hb dL_law_224 (by decide) ?_
  refine lv_iadd hx hb dL_law_225 ?_
  refine q_sld hx hb hX hbl hbA hS hi1 hy1 dL_law_226 ?_
  refine lv_aload_n hx hb dL_law_227 rfl (lv_at hl 0 rfl) ?_
  refine lv_iload_n hx hb dL_law_228 rfl (lv_at hl 3 rfl) ?_
  refine lv_iconst (v := 2) hx hb dL_law_229 (by decide) ?_
  refine lv_iadd hx hb dL_law_230 ?_
  refine q_sld hx hb hX hbl hbA hS hi2 hy2 dL_law_231 ?_
  refine q_rV (rest := []) ⟨hx, hb, hml, hown, hts⟩ (kX7_ofSlip l D cI cR (ad 0) (ad 1) (ad 10) (ad 15) (ad 23) (ad 29) (ad 34) (ad 11) (ad 12) (ad 13) (ad 14) ques trc flt kind page asked sees cnt wet y1 y2 rv hTx) (cwV 2 hts gT_X7_ofSlip rfl rfl rfl (by decide +kernel) ⟨Nat.le_of_ble_eq_true rfl, Nat.le_of_ble_eq_true rfl⟩) (hP.sub [0, 10, 11, 12, 13, 14] rfl) hK hN (va_recv hK hP (ci := 6) (q0 := 0) rfl rfl) rfl hl.1 rfl (Nat.le_of_ble_eq_true rfl) dL_law_232 ⟨Nat.le_of_ble_eq_true rfl, Nat.le_of_ble_eq_true rfl⟩ ?_
  refine lv_aload_n hx hb dL_law_235 rfl (lv_at hl 2 rfl) ?_
  refine lv_aload_n hx hb dL_law_236 rfl (lv_at hl 0 rfl) ?_
  refine lv_iload_n hx hb dL_law_237 rfl (lv_at hl 3 rfl) ?_
  refine lv_iconst (v := 1) hx hb dL_law_238 (by decide) ?_
  refine lv_iadd hx hb dL_law_239 ?_
  refine q_sld hx hb hX hbl hbA hS hi1 hy1 dL_law_240 ?_
  refine lv_aload_n hx hb dL_law_241 rfl (lv_at hl 0 rfl) ?_
  refine lv_iload_n hx hb dL_law_242 rfl (lv_at hl 3 rfl) ?_
  refine lv_iconst (v := 2) hx hb dL_law_243 (by decide) ?_
  refine lv_iadd hx hb dL_law_244 ?_
  refine q_sld hx hb hX hbl hbA hS hi2 hy2 dL_law_245 ?_
  refine q_wVi (wr := [0, 1, 2, 3, 4, 5, 6, 7, 8, 9, 10, 11, 12, 13, 14, 15, 16, 17, 18, 19, 20, 21, 22, 23, 24, 25, 26, 27, 28, 29, 30, 31, 32, 33, 34, 35, 36].filterMap (fun i => (wL ad cI cR ques trc flt th la le cf kind page asked sees cnt wet which leaf rds d_fittingPages d_leastPage d_greatestPage e_kind e_page e_asked e_sent e_count e_wetSet y_leaves y_led y_firstWrong h_kind h_page h_asked h_sent h_count h_wetSet f_dry f_askedUpTo f_costs f_roots f_size o_aheadOf o_ways o_count sorts slong mcells m_at m_readSlips m_read m_looked m_keptSees m_sumOfLeaves m_ledTo m_firstWrong m_dryOnes m_dryMany m_costs m_roots m_depth m_row m_placeOf)[i]?)) (rest := [.int rv]) ⟨hx, hb, hml, hown, hts⟩ (kX8_ofSlip l D cI cR (ad 37) (ad 38) (ad 39) (ad 40) (ad 41) (ad 42) (ad 43) (ad 44) (ad 45) (ad 46) (ad 47) (ad 48) (ad 49) (ad 50) (ad 51) (ad 52) (ad 53) (ad 54) flt trc sorts slong mcells cnt ques wet kind page asked sees m_at m_readSlips m_read m_looked m_keptSees m_sumOfLeaves m_ledTo m_firstWrong m_dryOnes m_dryMany m_costs m_roots m_depth m_row m_placeOf rds which leaf y1 y2 (rv, m_looked_n) hTm) (cwV 2 hts gT_X8_ofSlip rfl rfl rfl (by decide +kernel) ⟨Nat.le_of_ble_eq_true rfl, Nat.le_of_ble_eq_true rfl⟩) hP hD hS hA hK hN [37, 38, 39, 40, 41, 42, 43, 44, 45, 46, 47, 48, 49, 50, 51, 52, 53, 54] [0, 1, 2, 3, 4, 5, 6, 7, 8, 9, 10, 11, 12, 13, 14, 15, 16, 17, 18, 19, 20, 21, 22, 23, 24, 25, 26, 27, 28, 29, 30, 31, 32, 33, 34, 35, 36] rfl rfl (by decide) (by decide) (by decide) (va_recv hK hP (ci := 7) (q0 := 37) rfl rfl) rfl hl.1 rfl (Nat.le_of_ble_eq_true rfl) dL_law_246 ⟨Nat.le_of_ble_eq_true rfl, Nat.le_of_ble_eq_true rfl⟩ (fun H locs hP hD hS => ?_)
  have hP := hP.sub (ws' := wL ad cI cR ques trc flt th la le cf kind page asked sees cnt wet which leaf rds d_fittingPages d_leastPage d_greatestPage e_kind e_page e_asked e_sent e_count e_wetSet y_leaves y_led y_firstWrong h_kind h_page h_asked h_sent h_count h_wetSet f_dry f_askedUpTo f_costs f_roots f_size o_aheadOf o_ways o_count sorts slong mcells m_at m_readSlips m_read m_looked_n m_keptSees m_sumOfLeaves m_ledTo m_firstWrong m_dryOnes m_dryMany m_costs m_roots m_depth m_row m_placeOf) [0, 1, 2, 3, 4, 5, 6, 7, 8, 9, 10, 11, 12, 13, 14, 15, 16, 17, 18, 19, 20, 21, 22, 23, 24, 25, 26, 27, 28, 29, 30, 31, 32, 33, 34, 35, 36, 37, 38, 39, 40, 41, 42, 43, 44, 45, 46, 47, 48, 49, 50, 51, 52, 53, 54] rfl
  have hD := hD.sub (ws' := wL ad cI cR ques trc flt th la le cf kind page asked sees cnt wet which leaf rds d_fittingPages d_leastPage d_greatestPage e_kind e_page e_asked e_sent e_count e_wetSet y_leaves y_led y_firstWrong h_kind h_page h_asked h_sent h_count h_wetSet f_dry f_askedUpTo f_costs f_roots f_size o_aheadOf o_ways o_count sorts slong mcells m_at m_readSlips m_read m_looked_n m_keptSees m_sumOfLeaves m_ledTo m_firstWrong m_dryOnes m_dryMany m_costs m_roots m_depth m_row m_placeOf) [0, 1, 2, 3, 4, 5, 6, 7, 8, 9, 10, 11, 12, 13, 14, 15, 16, 17, 18, 19, 20, 21, 22, 23, 24, 25, 26, 27, 28, 29, 30, 31, 32, 33, 34, 35, 36, 37, 38, 39, 40, 41, 42, 43, 44, 45, 46, 47, 48, 49, 50, 51, 52, 53, 54] (by decide) rfl
  refine lv_icmp_eq (tgt := 1110) hx hb dL_law_249 (by decide) (fun _ => ?_) (fun h => absurd rfl h)
  exact kk _ _ _ _ _ _ _ _ _ _ _ _ _ _ _ _ _ _ _ _ _ _ _ _ _ _ _ _ _ _ _ _ _ _ _ _ _ _ _ _ _ _ _ _ _ _ _ _ _ _ _ _ _ _ _ _ _ _ _ _ _ _ _ hI hP hD hS hl
set_option maxHeartbeats 8000000 in
set_option maxRecDepth 100000 in
theorem case_2 {p : Program} {l : Launch} {e : Env} {s : State} {m : MethodId} {args : Array Value} {below : List Frame} {meth : Method} {c : Code} {Q : State → Prop} {D : va_G} {cI cR : ClassId} {ad : Nat → Nat} {b L : Nat} {xs : Nat → Int32} {x3 : Int32} (C : LawC p s m args c D cI cR b L xs x3) (kk : AtL p l e s m args below meth c Q D cI cR ad b x3 1110) : AtL p l e s m args below meth c Q D cI cR ad b x3 254 := by
  obtain ⟨hx, hb, hml, hown, hts, hX, hbl, hK, hN, hi1, hi2, hi3, hi4, hi5⟩ := C
  have hA : ∀ q : Nat, s.heap.size ≤ q → AL s q := fun _ h => h
  have hbA : ¬ AL s b := Nat.not_le.mpr hbl
  intro ques trc flt th la le cf kind page asked sees cnt wet which leaf rds d_fittingPages d_leastPage d_greatestPage e_kind e_page e_asked e_sent e_count e_wetSet y_leaves y_led y_firstWrong h_kind h_page h_asked h_sent h_count h_wetSet f_dry f_askedUpTo f_costs f_roots f_size o_aheadOf o_ways o_count sorts slong mcells m_at m_readSlips m_read m_looked m_keptSees m_sumOfLeaves m_ledTo m_firstWrong m_dryOnes m_dryMany m_costs m_roots m_depth m_row m_placeOf H locs ls hI hP hD hS hl
  obtain ⟨y1, hy1⟩ : ∃ y, xs (x3 + 1).toNatClampNeg = y := ⟨_, rfl⟩
  obtain ⟨y2, hy2⟩ : ∃ y, xs (x3 + 2).toNatClampNeg = y := ⟨_, rfl⟩
  obtain ⟨rv, asked_n, hTx, hTm, hI⟩ := T_want th la le cf kind page asked sees cnt wet which leaf rds f_askedUpTo f_costs sorts slong mcells y1 y2 hI
  refine lv_aload_n hx hb dL_law_254 rfl (lv_at hl 1 rfl) ?_
  refine lv_aload_n hx hb dL_law_255 rfl (lv_at hl 0 rfl) ?_
  refine lv_iload_n hx hb dL_law_256 rfl (lv_at hl 3 rfl) ?_
  refine lv_iconst (v := 1) hx hb dL_law_257 (by decide) ?_
  refine lv_iadd hx hb dL_law_258 ?_
  refine q_sld hx hb hX hbl hbA hS hi1 hy1 dL_law_259 ?_
  refine lv_aload_n hx hb dL_law_260 rfl (lv_at hl 0 rfl) ?_
  refine lv_iload_n hx hb dL_law_261 rfl (lv_at hl 3 rfl) ?_
  refine lv_iconst (v := 2) hx hb dL_law_262 (by decide) ?_
  refine lv_iadd hx hb dL_law_263 ?_
  refine q_sld hx hb hX hbl hbA hS hi2 hy2 dL_law_264 ?_
  refine q_wVi (wr := [1, 2, 3, 4, 5, 6, 7, 8, 9, 15, 16, 17, 18, 19, 20, 21, 22, 23, 24, 25, 26, 27, 28, 29, 30, 31, 32, 33, 34, 35, 36, 37, 38, 39, 40, 41, 42, 43, 44, 45, 46, 47, 48, 49, 50, 51, 52, 53, 54].filterMap (fun i => (wL ad cI cR ques trc flt th la le cf kind page asked sees cnt wet which leaf rds d_fittingPages d_leastPage d_greatestPage e_kind e_page e_asked e_sent e_count e_wetSet y_leaves y_led y_firstWrong h_kind h_page h_asked h_sent h_count h_wetSet f_dry f_askedUpTo f_costs f_roots f_size o_aheadOf o_ways o_count sorts slong mcells m_at m_readSlips m_read m_looked m_keptSees m_sumOfLeaves m_ledTo m_firstWrong m_dryOnes m_dryMany m_costs m_roots m_depth m_row m_placeOf)[i]?)) (rest := []) ⟨hx, hb, hml, hown, hts⟩ (kX7_want l D cI cR (ad 0) (ad 1) (ad 10) (ad 15) (ad 23) (ad 29) (ad 34) (ad 11) (ad 12) (ad 13) (ad 14) ques trc flt kind page asked sees cnt wet y1 y2 (rv, asked_n) hTx) (cwV 2 hts gT_X7_want rfl rfl rfl (by decide +kernel) ⟨Nat.le_of_ble_eq_true rfl, Nat.le_of_ble_eq_true rfl⟩) hP hD hS hA hK hN [0, 10, 11, 12, 13, 14] [1, 2, 3, 4, 5, 6, 7, 8, 9, 15, 16, 17, 18, 19, 20, 21, 22, 23, 24, 25, 26, 27, 28, 29, 30, 31, 32, 33, 34, 35, 36, 37, 38, 39, 40, 41, 42, 43, 44, 45, 46, 47, 48, 49, 50, 51, 52, 53, 54] rfl rfl (by decide) (by decide) (by decide) (va_recv hK hP (ci := 6) (q0 := 0) rfl rfl) rfl hl.1 rfl (Nat.le_of_ble_eq_true rfl) dL_law_265 ⟨Nat.le_of_ble_eq_true rfl, Nat.le_of_ble_eq_true rfl⟩ (fun H locs hP hD hS => ?_)
  have hP := hP.sub (ws' := wL ad cI cR ques trc flt th la le cf kind page asked_n sees cnt wet which leaf rds d_fittingPages d_leastPage d_greatestPage e_kind e_page e_asked e_sent e_count e_wetSet y_leaves y_led y_firstWrong h_kind h_page h_asked h_sent h_count h_wetSet f_dry f_askedUpTo f_costs f_roots f_size o_aheadOf o_ways o_count sorts slong mcells m_at m_readSlips m_read m_looked m_keptSees m_sumOfLeaves m_ledTo m_firstWrong m_dryOnes m_dryMany m_costs m_roots m_depth m_row m_placeOf) [49, 0, 1, 2, 3, 4, 5, 6, 7, 8, 50, 51, 52, 53, 54, 9, 10, 11, 12, 13, 14, 15, 16, 17, 18, 19, 20, 21, 22, 23, 24, 25, 26, 27, 28, 29, 30, 31, 32, 33, 34, 35, 36, 37, 38, 39, 40, 41, 42, 43, 44, 45, 46, 47, 48] rfl
  have hD := hD.sub (ws' := wL ad cI cR ques trc flt th la le cf kind page asked_n sees cnt wet which leaf rds d_fittingPages d_leastPage d_greatestPage e_kind e_page e_asked e_sent e_count e_wetSet y_leaves y_led y_firstWrong h_kind h_page h_asked h_sent h_count h_wetSet f_dry f_askedUpTo f_costs f_roots f_size o_aheadOf o_ways o_count sorts slong mcells m_at m_readSlips m_read m_looked m_keptSees m_sumOfLeaves m_ledTo m_firstWrong m_dryOnes m_dryMany m_costs m_roots m_depth m_row m_placeOf) [49, 0, 1, 2, 3, 4, 5, 6, 7, 8, 50, 51, 52, 53, 54, 9, 10, 11, 12, 13, 14, 15, 16, 17, 18, 19, 20, 21, 22, 23, 24, 25, 26, 27, 28, 29, 30, 31, 32, 33, 34, 35, 36, 37, 38, 39, 40, 41, 42, 43, 44, 45, 46, 47, 48] (by decide) rfl
  refine lv_aload_n hx hb dL_law_268 rfl (lv_at hl 2 rfl) ?_
  refine lv_aload_n hx hb dL_law_269 rfl (lv_at hl 0 rfl) ?_
  refine lv_iload_n hx hb dL_law_270 rfl (lv_at hl 3 rfl) ?_
  refine lv_iconst (v := 1) hx hb dL_law_271 (by decide) ?_
  refine lv_iadd hx hb dL_law_272 ?_
  refine q_sld hx hb hX hbl hbA hS hi1 hy1 dL_law_273 ?_
  refine lv_aload_n hx hb dL_law_274 rfl (lv_at hl 0 rfl) ?_
  refine lv_iload_n hx hb dL_law_275 rfl (lv_at hl 3 rfl) ?_
  refine lv_iconst (v := 2) hx hb dL_law_276 (by decide) ?_
  refine lv_iadd hx hb dL_law_277 ?_
  refine q_sld hx hb hX hbl hbA hS hi2 hy2 dL_law_278 ?_
  refine q_wVi (wr := [0, 1, 2, 3, 4, 5, 6, 7, 8, 9, 10, 11, 12, 13, 14, 15, 16, 17, 18, 19, 20, 21, 22, 23, 24, 25, 26, 27, 28, 29, 30, 31, 32, 33, 34, 35, 36].filterMap (fun i => (wL ad cI cR ques trc flt th la le cf kind page asked_n sees cnt wet which leaf rds d_fittingPages d_leastPage d_greatestPage e_kind e_page e_asked e_sent e_count e_wetSet y_leaves y_led y_firstWrong h_kind h_page h_asked h_sent h_count h_wetSet f_dry f_askedUpTo f_costs f_roots f_size o_aheadOf o_ways o_count sorts slong mcells m_at m_readSlips m_read m_looked m_keptSees m_sumOfLeaves m_ledTo m_firstWrong m_dryOnes m_dryMany m_costs m_roots m_depth m_row m_placeOf)[i]?)) (rest := [.int rv]) ⟨hx, hb, hml, hown, hts⟩ (kX8_want l D cI cR (ad 37) (ad 38) (ad 39) (ad 40) (ad 41) (ad 42) (ad 43) (ad 44) (ad 45) (ad 46) (ad 47) (ad 48) (ad 49) (ad 50) (ad 51) (ad 52) (ad 53) (ad 54) flt trc sorts slong mcells cnt ques wet kind page asked_n sees m_at m_readSlips m_read m_looked m_keptSees m_sumOfLeaves m_ledTo m_firstWrong m_dryOnes m_dryMany m_costs m_roots m_depth m_row m_placeOf rds which leaf y1 y2 (rv, asked_n) hTm) (cwV 2 hts gT_X8_want rfl rfl rfl (by decide +kernel) ⟨Nat.le_of_ble_eq_true rfl, Nat.le_of_ble_eq_true rfl⟩) hP hD hS hA hK hN [37, 38, 39, 40, 41, 42, 43, 44, 45, 46, 47, 48, 49, 50, 51, 52, 53, 54] [0, 1, 2, 3, 4, 5, 6, 7, 8, 9, 10, 11, 12, 13, 14, 15, 16, 17, 18, 19, 20, 21, 22, 23, 24, 25, 26, 27, 28, 29, 30, 31, 32, 33, 34, 35, 36] rfl rfl (by decide) (by decide) (by decide) (va_recv hK hP (ci := 7) (q0 := 37) rfl rfl) rfl hl.1 rfl (Nat.le_of_ble_eq_true rfl) dL_law_279 ⟨Nat.le_of_ble_eq_true rfl, Nat.le_of_ble_eq_true rfl⟩ (fun H locs hP hD hS => ?_)
  have hP := hP.sub (ws' := wL ad cI cR ques trc flt th la le cf kind page asked_n sees cnt wet which leaf rds d_fittingPages d_leastPage d_greatestPage e_kind e_page e_asked e_sent e_count e_wetSet y_leaves y_led y_firstWrong h_kind h_page h_asked h_sent h_count h_wetSet f_dry f_askedUpTo f_costs f_roots f_size o_aheadOf o_ways o_count sorts slong mcells m_at m_readSlips m_read m_looked m_keptSees m_sumOfLeaves m_ledTo m_firstWrong m_dryOnes m_dryMany m_costs m_roots m_depth m_row m_placeOf) [0, 1, 2, 3, 4, 5, 6, 7, 8, 9, 10, 11, 12, 13, 14, 15, 16, 17, 18, 19, 20, 21, 22, 23, 24, 25, 26, 27, 28, 29, 30, 31, 32, 33, 34, 35, 36, 37, 38, 39, 40, 41, 42, 43, 44, 45, 46, 47, 48, 49, 50, 51, 52, 53, 54] rfl
  have hD := hD.sub (ws' := wL ad cI cR ques trc flt th la le cf kind page asked_n sees cnt wet which leaf rds d_fittingPages d_leastPage d_greatestPage e_kind e_page e_asked e_sent e_count e_wetSet y_leaves y_led y_firstWrong h_kind h_page h_asked h_sent h_count h_wetSet f_dry f_askedUpTo f_costs f_roots f_size o_aheadOf o_ways o_count sorts slong mcells m_at m_readSlips m_read m_looked m_keptSees m_sumOfLeaves m_ledTo m_firstWrong m_dryOnes m_dryMany m_costs m_roots m_depth m_row m_placeOf) [0, 1, 2, 3, 4, 5, 6, 7, 8, 9, 10, 11, 12, 13, 14, 15, 16, 17, 18, 19, 20, 21, 22, 23, 24, 25, 26, 27, 28, 29, 30, 31, 32, 33, 34, 35, 36, 37, 38, 39, 40, 41, 42, 43, 44, 45, 46, 47, 48, 49, 50, 51, 52, 53, 54] (by decide) rfl
  refine lv_icmp_eq (tgt := 1110) hx hb dL_law_282 (by decide) (fun _ => ?_) (fun h => absurd rfl h)
  exact kk _ _ _ _ _ _ _ _ _ _ _ _ _ _ _ _ _ _ _ _ _ _ _ _ _ _ _ _ _ _ _ _ _ _ _ _ _ _ _ _ _ _ _ _ _ _ _ _ _ _ _ _ _ _ _ _ _ _ _ _ _ _ _ hI hP hD hS hl
set_option maxHeartbeats 8000000 in
set_option maxRecDepth 100000 in
theorem case_3 {p : Program} {l : Launch} {e : Env} {s : State} {m : MethodId} {args : Array Value} {below : List Frame} {meth : Method} {c : Code} {Q : State → Prop} {D : va_G} {cI cR : ClassId} {ad : Nat → Nat} {b L : Nat} {xs : Nat → Int32} {x3 : Int32} (C : LawC p s m args c D cI cR b L xs x3) (kk : AtL p l e s m args below meth c Q D cI cR ad b x3 1110) : AtL p l e s m args below meth c Q D cI cR ad b x3 287 := by
  obtain ⟨hx, hb, hml, hown, hts, hX, hbl, hK, hN, hi1, hi2, hi3, hi4, hi5⟩ := C
  have hA : ∀ q : Nat, s.heap.size ≤ q → AL s q := fun _ h => h
  have hbA : ¬ AL s b := Nat.not_le.mpr hbl
  intro ques trc flt th la le cf kind page asked sees cnt wet which leaf rds d_fittingPages d_leastPage d_greatestPage e_kind e_page e_asked e_sent e_count e_wetSet y_leaves y_led y_firstWrong h_kind h_page h_asked h_sent h_count h_wetSet f_dry f_askedUpTo f_costs f_roots f_size o_aheadOf o_ways o_count sorts slong mcells m_at m_readSlips m_read m_looked m_keptSees m_sumOfLeaves m_ledTo m_firstWrong m_dryOnes m_dryMany m_costs m_roots m_depth m_row m_placeOf H locs ls hI hP hD hS hl
  obtain ⟨y1, hy1⟩ : ∃ y, xs (x3 + 1).toNatClampNeg = y := ⟨_, rfl⟩
  obtain ⟨y2, hy2⟩ : ∃ y, xs (x3 + 2).toNatClampNeg = y := ⟨_, rfl⟩
  obtain ⟨rv, sees_n, hTx, hTm, hI⟩ := T_see th la le cf kind page asked sees cnt wet which leaf rds f_askedUpTo f_costs sorts slong mcells y1 y2 hI
  refine lv_aload_n hx hb dL_law_287 rfl (lv_at hl 1 rfl) ?_
  refine lv_aload_n hx hb dL_law_288 rfl (lv_at hl 0 rfl) ?_
  refine lv_iload_n hx hb dL_law_289 rfl (lv_at hl 3 rfl) ?_
  refine lv_iconst (v := 1) hx hb dL_law_290 (by decide) ?_
  refine lv_iadd hx hb dL_law_291 ?_
  refine q_sld hx hb hX hbl hbA hS hi1 hy1 dL_law_292 ?_
  refine lv_aload_n hx hb dL_law_293 rfl (lv_at hl 0 rfl) ?_
  refine lv_iload_n hx hb dL_law_294 rfl (lv_at hl 3 rfl) ?_
  refine lv_iconst (v := 2) hx hb dL_law_295 (by decide) ?_
  refine lv_iadd hx hb dL_law_296 ?_
  refine q_sld hx hb hX hbl hbA hS hi2 hy2 dL_law_297 ?_
  refine q_wVi (wr := [1, 2, 3, 4, 5, 6, 7, 8, 9, 15, 16, 17, 18, 19, 20, 21, 22, 23, 24, 25, 26, 27, 28, 29, 30, 31, 32, 33, 34, 35, 36, 37, 38, 39, 40, 41, 42, 43, 44, 45, 46, 47, 48, 49, 50, 51, 52, 53, 54].filterMap (fun i => (wL ad cI cR ques trc flt th la le cf kind page asked sees cnt wet which leaf rds d_fittingPages d_leastPage d_greatestPage e_kind e_page e_asked e_sent e_count e_wetSet y_leaves y_led y_firstWrong h_kind h_page h_asked h_sent h_count h_wetSet f_dry f_askedUpTo f_costs f_roots f_size o_aheadOf o_ways o_count sorts slong mcells m_at m_readSlips m_read m_looked m_keptSees m_sumOfLeaves m_ledTo m_firstWrong m_dryOnes m_dryMany m_costs m_roots m_depth m_row m_placeOf)[i]?)) (rest := []) ⟨hx, hb, hml, hown, hts⟩ (kX7_see l D cI cR (ad 0) (ad 1) (ad 10) (ad 15) (ad 23) (ad 29) (ad 34) (ad 11) (ad 12) (ad 13) (ad 14) ques trc flt kind page asked sees cnt wet y1 y2 (rv, sees_n) hTx) (cwV 2 hts gT_X7_see rfl rfl rfl (by decide +kernel) ⟨Nat.le_of_ble_eq_true rfl, Nat.le_of_ble_eq_true rfl⟩) hP hD hS hA hK hN [0, 10, 11, 12, 13, 14] [1, 2, 3, 4, 5, 6, 7, 8, 9, 15, 16, 17, 18, 19, 20, 21, 22, 23, 24, 25, 26, 27, 28, 29, 30, 31, 32, 33, 34, 35, 36, 37, 38, 39, 40, 41, 42, 43, 44, 45, 46, 47, 48, 49, 50, 51, 52, 53, 54] rfl rfl (by decide) (by decide) (by decide) (va_recv hK hP (ci := 6) (q0 := 0) rfl rfl) rfl hl.1 rfl (Nat.le_of_ble_eq_true rfl) dL_law_298 ⟨Nat.le_of_ble_eq_true rfl, Nat.le_of_ble_eq_true rfl⟩ (fun H locs hP hD hS => ?_)
  have hP := hP.sub (ws' := wL ad cI cR ques trc flt th la le cf kind page asked sees_n cnt wet which leaf rds d_fittingPages d_leastPage d_greatestPage e_kind e_page e_asked e_sent e_count e_wetSet y_leaves y_led y_firstWrong h_kind h_page h_asked h_sent h_count h_wetSet f_dry f_askedUpTo f_costs f_roots f_size o_aheadOf o_ways o_count sorts slong mcells m_at m_readSlips m_read m_looked m_keptSees m_sumOfLeaves m_ledTo m_firstWrong m_dryOnes m_dryMany m_costs m_roots m_depth m_row m_placeOf) [49, 0, 1, 2, 3, 4, 5, 6, 7, 8, 50, 51, 52, 53, 54, 9, 10, 11, 12, 13, 14, 15, 16, 17, 18, 19, 20, 21, 22, 23, 24, 25, 26, 27, 28, 29, 30, 31, 32, 33, 34, 35, 36, 37, 38, 39, 40, 41, 42, 43, 44, 45, 46, 47, 48] rfl
  have hD := hD.sub (ws' := wL ad cI cR ques trc flt th la le cf kind page asked sees_n cnt wet which leaf rds d_fittingPages d_leastPage d_greatestPage e_kind e_page e_asked e_sent e_count e_wetSet y_leaves y_led y_firstWrong h_kind h_page h_asked h_sent h_count h_wetSet f_dry f_askedUpTo f_costs f_roots f_size o_aheadOf o_ways o_count sorts slong mcells m_at m_readSlips m_read m_looked m_keptSees m_sumOfLeaves m_ledTo m_firstWrong m_dryOnes m_dryMany m_costs m_roots m_depth m_row m_placeOf) [49, 0, 1, 2, 3, 4, 5, 6, 7, 8, 50, 51, 52, 53, 54, 9, 10, 11, 12, 13, 14, 15, 16, 17, 18, 19, 20, 21, 22, 23, 24, 25, 26, 27, 28, 29, 30, 31, 32, 33, 34, 35, 36, 37, 38, 39, 40, 41, 42, 43, 44, 45, 46, 47, 48] (by decide) rfl
  refine lv_aload_n hx hb dL_law_301 rfl (lv_at hl 2 rfl) ?_
  refine lv_aload_n hx hb dL_law_302 rfl (lv_at hl 0 rfl) ?_
  refine lv_iload_n hx hb dL_law_303 rfl (lv_at hl 3 rfl) ?_
  refine lv_iconst (v := 1) hx hb dL_law_304 (by decide) ?_
  refine lv_iadd hx hb dL_law_305 ?_
  refine q_sld hx hb hX hbl hbA hS hi1 hy1 dL_law_306 ?_
  refine lv_aload_n hx hb dL_law_307 rfl (lv_at hl 0 rfl) ?_
  refine lv_iload_n hx hb dL_law_308 rfl (lv_at hl 3 rfl) ?_
  refine lv_iconst (v := 2) hx hb dL_law_309 (by decide) ?_
  refine lv_iadd hx hb dL_law_310 ?_
  refine q_sld hx hb hX hbl hbA hS hi2 hy2 dL_law_311 ?_
  refine q_wVi (wr := [0, 1, 2, 3, 4, 5, 6, 7, 8, 9, 10, 11, 12, 13, 14, 15, 16, 17, 18, 19, 20, 21, 22, 23, 24, 25, 26, 27, 28, 29, 30, 31, 32, 33, 34, 35, 36].filterMap (fun i => (wL ad cI cR ques trc flt th la le cf kind page asked sees_n cnt wet which leaf rds d_fittingPages d_leastPage d_greatestPage e_kind e_page e_asked e_sent e_count e_wetSet y_leaves y_led y_firstWrong h_kind h_page h_asked h_sent h_count h_wetSet f_dry f_askedUpTo f_costs f_roots f_size o_aheadOf o_ways o_count sorts slong mcells m_at m_readSlips m_read m_looked m_keptSees m_sumOfLeaves m_ledTo m_firstWrong m_dryOnes m_dryMany m_costs m_roots m_depth m_row m_placeOf)[i]?)) (rest := [.int rv]) ⟨hx, hb, hml, hown, hts⟩ (kX8_see l D cI cR (ad 37) (ad 38) (ad 39) (ad 40) (ad 41) (ad 42) (ad 43) (ad 44) (ad 45) (ad 46) (ad 47) (ad 48) (ad 49) (ad 50) (ad 51) (ad 52) (ad 53) (ad 54) flt trc sorts slong mcells cnt ques wet kind page asked sees_n m_at m_readSlips m_read m_looked m_keptSees m_sumOfLeaves m_ledTo m_firstWrong m_dryOnes m_dryMany m_costs m_roots m_depth m_row m_placeOf rds which leaf y1 y2 (rv, sees_n) hTm) (cwV 2 hts gT_X8_see rfl rfl rfl (by decide +kernel) ⟨Nat.le_of_ble_eq_true rfl, Nat.le_of_ble_eq_true rfl⟩) hP hD hS hA hK hN [37, 38, 39, 40, 41, 42, 43, 44, 45, 46, 47, 48, 49, 50, 51, 52, 53, 54] [0, 1, 2, 3, 4, 5, 6, 7, 8, 9, 10, 11, 12, 13, 14, 15, 16, 17, 18, 19, 20, 21, 22, 23, 24, 25, 26, 27, 28, 29, 30, 31, 32, 33, 34, 35, 36] rfl rfl (by decide) (by decide) (by decide) (va_recv hK hP (ci := 7) (q0 := 37) rfl rfl) rfl hl.1 rfl (Nat.le_of_ble_eq_true rfl) dL_law_312 ⟨Nat.le_of_ble_eq_true rfl, Nat.le_of_ble_eq_true rfl⟩ (fun H locs hP hD hS => ?_)
  have hP := hP.sub (ws' := wL ad cI cR ques trc flt th la le cf kind page asked sees_n cnt wet which leaf rds d_fittingPages d_leastPage d_greatestPage e_kind e_page e_asked e_sent e_count e_wetSet y_leaves y_led y_firstWrong h_kind h_page h_asked h_sent h_count h_wetSet f_dry f_askedUpTo f_costs f_roots f_size o_aheadOf o_ways o_count sorts slong mcells m_at m_readSlips m_read m_looked m_keptSees m_sumOfLeaves m_ledTo m_firstWrong m_dryOnes m_dryMany m_costs m_roots m_depth m_row m_placeOf) [0, 1, 2, 3, 4, 5, 6, 7, 8, 9, 10, 11, 12, 13, 14, 15, 16, 17, 18, 19, 20, 21, 22, 23, 24, 25, 26, 27, 28, 29, 30, 31, 32, 33, 34, 35, 36, 37, 38, 39, 40, 41, 42, 43, 44, 45, 46, 47, 48, 49, 50, 51, 52, 53, 54] rfl
  have hD := hD.sub (ws' := wL ad cI cR ques trc flt th la le cf kind page asked sees_n cnt wet which leaf rds d_fittingPages d_leastPage d_greatestPage e_kind e_page e_asked e_sent e_count e_wetSet y_leaves y_led y_firstWrong h_kind h_page h_asked h_sent h_count h_wetSet f_dry f_askedUpTo f_costs f_roots f_size o_aheadOf o_ways o_count sorts slong mcells m_at m_readSlips m_read m_looked m_keptSees m_sumOfLeaves m_ledTo m_firstWrong m_dryOnes m_dryMany m_costs m_roots m_depth m_row m_placeOf) [0, 1, 2, 3, 4, 5, 6, 7, 8, 9, 10, 11, 12, 13, 14, 15, 16, 17, 18, 19, 20, 21, 22, 23, 24, 25, 26, 27, 28, 29, 30, 31, 32, 33, 34, 35, 36, 37, 38, 39, 40, 41, 42, 43, 44, 45, 46, 47, 48, 49, 50, 51, 52, 53, 54] (by decide) rfl
  refine lv_icmp_eq (tgt := 1110) hx hb dL_law_315 (by decide) (fun _ => ?_) (fun h => absurd rfl h)
  exact kk _ _ _ _ _ _ _ _ _ _ _ _ _ _ _ _ _ _ _ _ _ _ _ _ _ _ _ _ _ _ _ _ _ _ _ _ _ _ _ _ _ _ _ _ _ _ _ _ _ _ _ _ _ _ _ _ _ _ _ _ _ _ _ hI hP hD hS hl
set_option maxHeartbeats 8000000 in
set_option maxRecDepth 100000 in
theorem case_4 {p : Program} {l : Launch} {e : Env} {s : State} {m : MethodId} {args : Array Value} {below : List Frame} {meth : Method} {c : Code} {Q : State → Prop} {D : va_G} {cI cR : ClassId} {ad : Nat → Nat} {b L : Nat} {xs : Nat → Int32} {x3 : Int32} (C : LawC p s m args c D cI cR b L xs x3) (kk : AtL p l e s m args below meth c Q D cI cR ad b x3 1110) : AtL p l e s m args below meth c Q D cI cR ad b x3 320 := by
  obtain ⟨hx, hb, hml, hown, hts, hX, hbl, hK, hN, hi1, hi2, hi3, hi4, hi5⟩ := C
  have hA : ∀ q : Nat, s.heap.size ≤ q → AL s q := fun _ h => h
  have hbA : ¬ AL s b := Nat.not_le.mpr hbl
  intro ques trc flt th la le cf kind page asked sees cnt wet which leaf rds d_fittingPages d_leastPage d_greatestPage e_kind e_page e_asked e_sent e_count e_wetSet y_leaves y_led y_firstWrong h_kind h_page h_asked h_sent h_count h_wetSet f_dry f_askedUpTo f_costs f_roots f_size o_aheadOf o_ways o_count sorts slong mcells m_at m_readSlips m_read m_looked m_keptSees m_sumOfLeaves m_ledTo m_firstWrong m_dryOnes m_dryMany m_costs m_roots m_depth m_row m_placeOf H locs ls hI hP hD hS hl
  obtain ⟨y1, hy1⟩ : ∃ y, xs (x3 + 1).toNatClampNeg = y := ⟨_, rfl⟩
  obtain ⟨rv, ques_n, m_looked_n, hTx, hTm, hI⟩ := T_ask ques th la le cf kind page asked sees cnt wet which leaf rds f_askedUpTo f_costs sorts slong mcells m_looked y1 hI
  refine lv_aload_n hx hb dL_law_320 rfl (lv_at hl 1 rfl) ?_
  refine lv_aload_n hx hb dL_law_321 rfl (lv_at hl 0 rfl) ?_
  refine lv_iload_n hx hb dL_law_322 rfl (lv_at hl 3 rfl) ?_
  refine lv_iconst (v := 1) hx hb dL_law_323 (by decide) ?_
  refine lv_iadd hx hb dL_law_324 ?_
  refine q_sld hx hb hX hbl hbA hS hi1 hy1 dL_law_325 ?_
  refine q_wVi (wr := [1, 2, 3, 4, 5, 6, 7, 8, 9, 15, 16, 17, 18, 19, 20, 21, 22, 23, 24, 25, 26, 27, 28, 29, 30, 31, 32, 33, 34, 35, 36, 37, 38, 39, 40, 41, 42, 43, 44, 45, 46, 47, 48, 49, 50, 51, 52, 53, 54].filterMap (fun i => (wL ad cI cR ques trc flt th la le cf kind page asked sees cnt wet which leaf rds d_fittingPages d_leastPage d_greatestPage e_kind e_page e_asked e_sent e_count e_wetSet y_leaves y_led y_firstWrong h_kind h_page h_asked h_sent h_count h_wetSet f_dry f_askedUpTo f_costs f_roots f_size o_aheadOf o_ways o_count sorts slong mcells m_at m_readSlips m_read m_looked m_keptSees m_sumOfLeaves m_ledTo m_firstWrong m_dryOnes m_dryMany m_costs m_roots m_depth m_row m_placeOf)[i]?)) (rest := []) ⟨hx, hb, hml, hown, hts⟩ (kX7_ask l D cI cR (ad 0) (ad 1) (ad 10) (ad 15) (ad 23) (ad 29) (ad 34) (ad 11) (ad 12) (ad 13) (ad 14) ques trc flt kind page asked sees cnt wet y1 (rv, ques_n) hTx) (cwV 1 hts gT_X7_ask rfl rfl rfl (by decide +kernel) ⟨Nat.le_of_ble_eq_true rfl, Nat.le_of_ble_eq_true rfl⟩) hP hD hS hA hK hN [0, 10, 11, 12, 13, 14] [1, 2, 3, 4, 5, 6, 7, 8, 9, 15, 16, 17, 18, 19, 20, 21, 22, 23, 24, 25, 26, 27, 28, 29, 30, 31, 32, 33, 34, 35, 36, 37, 38, 39, 40, 41, 42, 43, 44, 45, 46, 47, 48, 49, 50, 51, 52, 53, 54] rfl rfl (by decide) (by decide) (by decide) (va_recv hK hP (ci := 6) (q0 := 0) rfl rfl) rfl hl.1 rfl (Nat.le_of_ble_eq_true rfl) dL_law_326 ⟨Nat.le_of_ble_eq_true rfl, Nat.le_of_ble_eq_true rfl⟩ (fun H locs hP hD hS => ?_)
  have hP := hP.sub (ws' := wL ad cI cR ques_n trc flt th la le cf kind page asked sees cnt wet which leaf rds d_fittingPages d_leastPage d_greatestPage e_kind e_page e_asked e_sent e_count e_wetSet y_leaves y_led y_firstWrong h_kind h_page h_asked h_sent h_count h_wetSet f_dry f_askedUpTo f_costs f_roots f_size o_aheadOf o_ways o_count sorts slong mcells m_at m_readSlips m_read m_looked m_keptSees m_sumOfLeaves m_ledTo m_firstWrong m_dryOnes m_dryMany m_costs m_roots m_depth m_row m_placeOf) [49, 0, 1, 2, 3, 4, 5, 6, 7, 8, 50, 51, 52, 53, 54, 9, 10, 11, 12, 13, 14, 15, 16, 17, 18, 19, 20, 21, 22, 23, 24, 25, 26, 27, 28, 29, 30, 31, 32, 33, 34, 35, 36, 37, 38, 39, 40, 41, 42, 43, 44, 45, 46, 47, 48] rfl
  have hD := hD.sub (ws' := wL ad cI cR ques_n trc flt th la le cf kind page asked sees cnt wet which leaf rds d_fittingPages d_leastPage d_greatestPage e_kind e_page e_asked e_sent e_count e_wetSet y_leaves y_led y_firstWrong h_kind h_page h_asked h_sent h_count h_wetSet f_dry f_askedUpTo f_costs f_roots f_size o_aheadOf o_ways o_count sorts slong mcells m_at m_readSlips m_read m_looked m_keptSees m_sumOfLeaves m_ledTo m_firstWrong m_dryOnes m_dryMany m_costs m_roots m_depth m_row m_placeOf) [49, 0, 1, 2, 3, 4, 5, 6, 7, 8, 50, 51, 52, 53, 54, 9, 10, 11, 12, 13, 14, 15, 16, 17, 18, 19, 20, 21, 22, 23, 24, 25, 26, 27, 28, 29, 30, 31, 32, 33, 34, 35, 36, 37, 38, 39, 40, 41, 42, 43, 44, 45, 46, 47, 48] (by decide) rfl
  refine lv_aload_n hx hb dL_law_329 rfl (lv_at hl 2 rfl) ?_
  refine lv_aload_n hx hb dL_law_330 rfl (lv_at hl 0 rfl) ?_
  refine lv_iload_n hx hb dL_law_331 rfl (lv_at hl 3 rfl) ?_
  refine lv_iconst (v := 1) hx hb dL_law_332 (by decide) ?_
  refine lv_iadd hx hb dL_law_333 ?_
  refine q_sld hx hb hX hbl hbA hS hi1 hy1 dL_law_334 ?_
  refine q_wVi (wr := [0, 1, 2, 3, 4, 5, 6, 7, 8, 9, 10, 11, 12, 13, 14, 15, 16, 17, 18, 19, 20, 21, 22, 23, 24, 25, 26, 27, 28, 29, 30, 31, 32, 33, 34, 35, 36].filterMap (fun i => (wL ad cI cR ques_n trc flt th la le cf kind page asked sees cnt wet which leaf rds d_fittingPages d_leastPage d_greatestPage e_kind e_page e_asked e_sent e_count e_wetSet y_leaves y_led y_firstWrong h_kind h_page h_asked h_sent h_count h_wetSet f_dry f_askedUpTo f_costs f_roots f_size o_aheadOf o_ways o_count sorts slong mcells m_at m_readSlips m_read m_looked m_keptSees m_sumOfLeaves m_ledTo m_firstWrong m_dryOnes m_dryMany m_costs m_roots m_depth m_row m_placeOf)[i]?)) (rest := [.int rv]) ⟨hx, hb, hml, hown, hts⟩ (kX8_ask l D cI cR (ad 37) (ad 38) (ad 39) (ad 40) (ad 41) (ad 42) (ad 43) (ad 44) (ad 45) (ad 46) (ad 47) (ad 48) (ad 49) (ad 50) (ad 51) (ad 52) (ad 53) (ad 54) flt trc sorts slong mcells cnt ques_n wet kind page asked sees m_at m_readSlips m_read m_looked m_keptSees m_sumOfLeaves m_ledTo m_firstWrong m_dryOnes m_dryMany m_costs m_roots m_depth m_row m_placeOf rds which leaf y1 (rv, ques_n, m_looked_n) hTm) (cwV 1 hts gT_X8_ask rfl rfl rfl (by decide +kernel) ⟨Nat.le_of_ble_eq_true rfl, Nat.le_of_ble_eq_true rfl⟩) hP hD hS hA hK hN [37, 38, 39, 40, 41, 42, 43, 44, 45, 46, 47, 48, 49, 50, 51, 52, 53, 54] [0, 1, 2, 3, 4, 5, 6, 7, 8, 9, 10, 11, 12, 13, 14, 15, 16, 17, 18, 19, 20, 21, 22, 23, 24, 25, 26, 27, 28, 29, 30, 31, 32, 33, 34, 35, 36] rfl rfl (by decide) (by decide) (by decide) (va_recv hK hP (ci := 7) (q0 := 37) rfl rfl) rfl hl.1 rfl (Nat.le_of_ble_eq_true rfl) dL_law_335 ⟨Nat.le_of_ble_eq_true rfl, Nat.le_of_ble_eq_true rfl⟩ (fun H locs hP hD hS => ?_)
  have hP := hP.sub (ws' := wL ad cI cR ques_n trc flt th la le cf kind page asked sees cnt wet which leaf rds d_fittingPages d_leastPage d_greatestPage e_kind e_page e_asked e_sent e_count e_wetSet y_leaves y_led y_firstWrong h_kind h_page h_asked h_sent h_count h_wetSet f_dry f_askedUpTo f_costs f_roots f_size o_aheadOf o_ways o_count sorts slong mcells m_at m_readSlips m_read m_looked_n m_keptSees m_sumOfLeaves m_ledTo m_firstWrong m_dryOnes m_dryMany m_costs m_roots m_depth m_row m_placeOf) [0, 1, 2, 3, 4, 5, 6, 7, 8, 9, 10, 11, 12, 13, 14, 15, 16, 17, 18, 19, 20, 21, 22, 23, 24, 25, 26, 27, 28, 29, 30, 31, 32, 33, 34, 35, 36, 37, 38, 39, 40, 41, 42, 43, 44, 45, 46, 47, 48, 49, 50, 51, 52, 53, 54] rfl
  have hD := hD.sub (ws' := wL ad cI cR ques_n trc flt th la le cf kind page asked sees cnt wet which leaf rds d_fittingPages d_leastPage d_greatestPage e_kind e_page e_asked e_sent e_count e_wetSet y_leaves y_led y_firstWrong h_kind h_page h_asked h_sent h_count h_wetSet f_dry f_askedUpTo f_costs f_roots f_size o_aheadOf o_ways o_count sorts slong mcells m_at m_readSlips m_read m_looked_n m_keptSees m_sumOfLeaves m_ledTo m_firstWrong m_dryOnes m_dryMany m_costs m_roots m_depth m_row m_placeOf) [0, 1, 2, 3, 4, 5, 6, 7, 8, 9, 10, 11, 12, 13, 14, 15, 16, 17, 18, 19, 20, 21, 22, 23, 24, 25, 26, 27, 28, 29, 30, 31, 32, 33, 34, 35, 36, 37, 38, 39, 40, 41, 42, 43, 44, 45, 46, 47, 48, 49, 50, 51, 52, 53, 54] (by decide) rfl
  refine lv_icmp_eq (tgt := 1110) hx hb dL_law_338 (by decide) (fun _ => ?_) (fun h => absurd rfl h)
  exact kk _ _ _ _ _ _ _ _ _ _ _ _ _ _ _ _ _ _ _ _ _ _ _ _ _ _ _ _ _ _ _ _ _ _ _ _ _ _ _ _ _ _ _ _ _ _ _ _ _ _ _ _ _ _ _ _ _ _ _ _ _ _ _ hI hP hD hS hl
set_option maxHeartbeats 8000000 in
set_option maxRecDepth 100000 in
theorem case_5 {p : Program} {l : Launch} {e : Env} {s : State} {m : MethodId} {args : Array Value} {below : List Frame} {meth : Method} {c : Code} {Q : State → Prop} {D : va_G} {cI cR : ClassId} {ad : Nat → Nat} {b L : Nat} {xs : Nat → Int32} {x3 : Int32} (C : LawC p s m args c D cI cR b L xs x3) (kk : AtL p l e s m args below meth c Q D cI cR ad b x3 1110) : AtL p l e s m args below meth c Q D cI cR ad b x3 343 := by
  obtain ⟨hx, hb, hml, hown, hts, hX, hbl, hK, hN, hi1, hi2, hi3, hi4, hi5⟩ := C
  have hA : ∀ q : Nat, s.heap.size ≤ q → AL s q := fun _ h => h
  have hbA : ¬ AL s b := Nat.not_le.mpr hbl
  intro ques trc flt th la le cf kind page asked sees cnt wet which leaf rds d_fittingPages d_leastPage d_greatestPage e_kind e_page e_asked e_sent e_count e_wetSet y_leaves y_led y_firstWrong h_kind h_page h_asked h_sent h_count h_wetSet f_dry f_askedUpTo f_costs f_roots f_size o_aheadOf o_ways o_count sorts slong mcells m_at m_readSlips m_read m_looked m_keptSees m_sumOfLeaves m_ledTo m_firstWrong m_dryOnes m_dryMany m_costs m_roots m_depth m_row m_placeOf H locs ls hI hP hD hS hl
  obtain ⟨y1, hy1⟩ : ∃ y, xs (x3 + 1).toNatClampNeg = y := ⟨_, rfl⟩
  obtain ⟨rv, wet_n, hTx, hTm, hI⟩ := T_wet th la le cf kind page asked sees cnt wet which leaf rds f_askedUpTo f_costs sorts slong mcells y1 hI
  refine lv_aload_n hx hb dL_law_343 rfl (lv_at hl 1 rfl) ?_
  refine lv_aload_n hx hb dL_law_344 rfl (lv_at hl 0 rfl) ?_
  refine lv_iload_n hx hb dL_law_345 rfl (lv_at hl 3 rfl) ?_
  refine lv_iconst (v := 1) hx hb dL_law_346 (by decide) ?_
  refine lv_iadd hx hb dL_law_347 ?_
  refine q_sld hx hb hX hbl hbA hS hi1 hy1 dL_law_348 ?_
  refine q_wVi (wr := [1, 2, 3, 4, 5, 6, 7, 8, 9, 15, 16, 17, 18, 19, 20, 21, 22, 23, 24, 25, 26, 27, 28, 29, 30, 31, 32, 33, 34, 35, 36, 37, 38, 39, 40, 41, 42, 43, 44, 45, 46, 47, 48, 49, 50, 51, 52, 53, 54].filterMap (fun i => (wL ad cI cR ques trc flt th la le cf kind page asked sees cnt wet which leaf rds d_fittingPages d_leastPage d_greatestPage e_kind e_page e_asked e_sent e_count e_wetSet y_leaves y_led y_firstWrong h_kind h_page h_asked h_sent h_count h_wetSet f_dry f_askedUpTo f_costs f_roots f_size o_aheadOf o_ways o_count sorts slong mcells m_at m_readSlips m_read m_looked m_keptSees m_sumOfLeaves m_ledTo m_firstWrong m_dryOnes m_dryMany m_costs m_roots m_depth m_row m_placeOf)[i]?)) (rest := []) ⟨hx, hb, hml, hown, hts⟩ (kX7_wet l D cI cR (ad 0) (ad 1) (ad 10) (ad 15) (ad 23) (ad 29) (ad 34) (ad 11) (ad 12) (ad 13) (ad 14) ques trc flt kind page asked sees cnt wet y1 (rv, wet_n) hTx) (cwV 1 hts gT_X7_wet rfl rfl rfl (by decide +kernel) ⟨Nat.le_of_ble_eq_true rfl, Nat.le_of_ble_eq_true rfl⟩) hP hD hS hA hK hN [0, 10, 11, 12, 13, 14] [1, 2, 3, 4, 5, 6, 7, 8, 9, 15, 16, 17, 18, 19, 20, 21, 22, 23, 24, 25, 26, 27, 28, 29, 30, 31, 32, 33, 34, 35, 36, 37, 38, 39, 40, 41, 42, 43, 44, 45, 46, 47, 48, 49, 50, 51, 52, 53, 54] rfl rfl (by decide) (by decide) (by decide) (va_recv hK hP (ci := 6) (q0 := 0) rfl rfl) rfl hl.1 rfl (Nat.le_of_ble_eq_true rfl) dL_law_349 ⟨Nat.le_of_ble_eq_true rfl, Nat.le_of_ble_eq_true rfl⟩ (fun H locs hP hD hS => ?_)
  have hP := hP.sub (ws' := wL ad cI cR ques trc flt th la le cf kind page asked sees cnt wet_n which leaf rds d_fittingPages d_leastPage d_greatestPage e_kind e_page e_asked e_sent e_count e_wetSet y_leaves y_led y_firstWrong h_kind h_page h_asked h_sent h_count h_wetSet f_dry f_askedUpTo f_costs f_roots f_size o_aheadOf o_ways o_count sorts slong mcells m_at m_readSlips m_read m_looked m_keptSees m_sumOfLeaves m_ledTo m_firstWrong m_dryOnes m_dryMany m_costs m_roots m_depth m_row m_placeOf) [49, 0, 1, 2, 3, 4, 5, 6, 7, 8, 50, 51, 52, 53, 54, 9, 10, 11, 12, 13, 14, 15, 16, 17, 18, 19, 20, 21, 22, 23, 24, 25, 26, 27, 28, 29, 30, 31, 32, 33, 34, 35, 36, 37, 38, 39, 40, 41, 42, 43, 44, 45, 46, 47, 48] rfl
  have hD := hD.sub (ws' := wL ad cI cR ques trc flt th la le cf kind page asked sees cnt wet_n which leaf rds d_fittingPages d_leastPage d_greatestPage e_kind e_page e_asked e_sent e_count e_wetSet y_leaves y_led y_firstWrong h_kind h_page h_asked h_sent h_count h_wetSet f_dry f_askedUpTo f_costs f_roots f_size o_aheadOf o_ways o_count sorts slong mcells m_at m_readSlips m_read m_looked m_keptSees m_sumOfLeaves m_ledTo m_firstWrong m_dryOnes m_dryMany m_costs m_roots m_depth m_row m_placeOf) [49, 0, 1, 2, 3, 4, 5, 6, 7, 8, 50, 51, 52, 53, 54, 9, 10, 11, 12, 13, 14, 15, 16, 17, 18, 19, 20, 21, 22, 23, 24, 25, 26, 27, 28, 29, 30, 31, 32, 33, 34, 35, 36, 37, 38, 39, 40, 41, 42, 43, 44, 45, 46, 47, 48] (by decide) rfl
  refine lv_aload_n hx hb dL_law_352 rfl (lv_at hl 2 rfl) ?_
  refine lv_aload_n hx hb dL_law_353 rfl (lv_at hl 0 rfl) ?_
  refine lv_iload_n hx hb dL_law_354 rfl (lv_at hl 3 rfl) ?_
  refine lv_iconst (v := 1) hx hb dL_law_355 (by decide) ?_
  refine lv_iadd hx hb dL_law_356 ?_
  refine q_sld hx hb hX hbl hbA hS hi1 hy1 dL_law_357 ?_
  refine q_wVi (wr := [0, 1, 2, 3, 4, 5, 6, 7, 8, 9, 10, 11, 12, 13, 14, 15, 16, 17, 18, 19, 20, 21, 22, 23, 24, 25, 26, 27, 28, 29, 30, 31, 32, 33, 34, 35, 36].filterMap (fun i => (wL ad cI cR ques trc flt th la le cf kind page asked sees cnt wet_n which leaf rds d_fittingPages d_leastPage d_greatestPage e_kind e_page e_asked e_sent e_count e_wetSet y_leaves y_led y_firstWrong h_kind h_page h_asked h_sent h_count h_wetSet f_dry f_askedUpTo f_costs f_roots f_size o_aheadOf o_ways o_count sorts slong mcells m_at m_readSlips m_read m_looked m_keptSees m_sumOfLeaves m_ledTo m_firstWrong m_dryOnes m_dryMany m_costs m_roots m_depth m_row m_placeOf)[i]?)) (rest := [.int rv]) ⟨hx, hb, hml, hown, hts⟩ (kX8_wet l D cI cR (ad 37) (ad 38) (ad 39) (ad 40) (ad 41) (ad 42) (ad 43) (ad 44) (ad 45) (ad 46) (ad 47) (ad 48) (ad 49) (ad 50) (ad 51) (ad 52) (ad 53) (ad 54) flt trc sorts slong mcells cnt ques wet_n kind page asked sees m_at m_readSlips m_read m_looked m_keptSees m_sumOfLeaves m_ledTo m_firstWrong m_dryOnes m_dryMany m_costs m_roots m_depth m_row m_placeOf rds which leaf y1 (rv, wet_n) hTm) (cwV 1 hts gT_X8_wet rfl rfl rfl (by decide +kernel) ⟨Nat.le_of_ble_eq_true rfl, Nat.le_of_ble_eq_true rfl⟩) hP hD hS hA hK hN [37, 38, 39, 40, 41, 42, 43, 44, 45, 46, 47, 48, 49, 50, 51, 52, 53, 54] [0, 1, 2, 3, 4, 5, 6, 7, 8, 9, 10, 11, 12, 13, 14, 15, 16, 17, 18, 19, 20, 21, 22, 23, 24, 25, 26, 27, 28, 29, 30, 31, 32, 33, 34, 35, 36] rfl rfl (by decide) (by decide) (by decide) (va_recv hK hP (ci := 7) (q0 := 37) rfl rfl) rfl hl.1 rfl (Nat.le_of_ble_eq_true rfl) dL_law_358 ⟨Nat.le_of_ble_eq_true rfl, Nat.le_of_ble_eq_true rfl⟩ (fun H locs hP hD hS => ?_)
  have hP := hP.sub (ws' := wL ad cI cR ques trc flt th la le cf kind page asked sees cnt wet_n which leaf rds d_fittingPages d_leastPage d_greatestPage e_kind e_page e_asked e_sent e_count e_wetSet y_leaves y_led y_firstWrong h_kind h_page h_asked h_sent h_count h_wetSet f_dry f_askedUpTo f_costs f_roots f_size o_aheadOf o_ways o_count sorts slong mcells m_at m_readSlips m_read m_looked m_keptSees m_sumOfLeaves m_ledTo m_firstWrong m_dryOnes m_dryMany m_costs m_roots m_depth m_row m_placeOf) [0, 1, 2, 3, 4, 5, 6, 7, 8, 9, 10, 11, 12, 13, 14, 15, 16, 17, 18, 19, 20, 21, 22, 23, 24, 25, 26, 27, 28, 29, 30, 31, 32, 33, 34, 35, 36, 37, 38, 39, 40, 41, 42, 43, 44, 45, 46, 47, 48, 49, 50, 51, 52, 53, 54] rfl
  have hD := hD.sub (ws' := wL ad cI cR ques trc flt th la le cf kind page asked sees cnt wet_n which leaf rds d_fittingPages d_leastPage d_greatestPage e_kind e_page e_asked e_sent e_count e_wetSet y_leaves y_led y_firstWrong h_kind h_page h_asked h_sent h_count h_wetSet f_dry f_askedUpTo f_costs f_roots f_size o_aheadOf o_ways o_count sorts slong mcells m_at m_readSlips m_read m_looked m_keptSees m_sumOfLeaves m_ledTo m_firstWrong m_dryOnes m_dryMany m_costs m_roots m_depth m_row m_placeOf) [0, 1, 2, 3, 4, 5, 6, 7, 8, 9, 10, 11, 12, 13, 14, 15, 16, 17, 18, 19, 20, 21, 22, 23, 24, 25, 26, 27, 28, 29, 30, 31, 32, 33, 34, 35, 36, 37, 38, 39, 40, 41, 42, 43, 44, 45, 46, 47, 48, 49, 50, 51, 52, 53, 54] (by decide) rfl
  refine lv_icmp_eq (tgt := 1110) hx hb dL_law_361 (by decide) (fun _ => ?_) (fun h => absurd rfl h)
  exact kk _ _ _ _ _ _ _ _ _ _ _ _ _ _ _ _ _ _ _ _ _ _ _ _ _ _ _ _ _ _ _ _ _ _ _ _ _ _ _ _ _ _ _ _ _ _ _ _ _ _ _ _ _ _ _ _ _ _ _ _ _ _ _ hI hP hD hS hl
set_option maxHeartbeats 8000000 in
set_option maxRecDepth 100000 in
theorem case_6 {p : Program} {l : Launch} {e : Env} {s : State} {m : MethodId} {args : Array Value} {below : List Frame} {meth : Method} {c : Code} {Q : State → Prop} {D : va_G} {cI cR : ClassId} {ad : Nat → Nat} {b L : Nat} {xs : Nat → Int32} {x3 : Int32} (C : LawC p s m args c D cI cR b L xs x3) (kk : AtL p l e s m args below meth c Q D cI cR ad b x3 1110) : AtL p l e s m args below meth c Q D cI cR ad b x3 366 := by
  obtain ⟨hx, hb, hml, hown, hts, hX, hbl, hK, hN, hi1, hi2, hi3, hi4, hi5⟩ := C
  have hA : ∀ q : Nat, s.heap.size ≤ q → AL s q := fun _ h => h
  have hbA : ¬ AL s b := Nat.not_le.mpr hbl
  intro ques trc flt th la le cf kind page asked sees cnt wet which leaf rds d_fittingPages d_leastPage d_greatestPage e_kind e_page e_asked e_sent e_count e_wetSet y_leaves y_led y_firstWrong h_kind h_page h_asked h_sent h_count h_wetSet f_dry f_askedUpTo f_costs f_roots f_size o_aheadOf o_ways o_count sorts slong mcells m_at m_readSlips m_read m_looked m_keptSees m_sumOfLeaves m_ledTo m_firstWrong m_dryOnes m_dryMany m_costs m_roots m_depth m_row m_placeOf H locs ls hI hP hD hS hl
  obtain ⟨y1, hy1⟩ : ∃ y, xs (x3 + 1).toNatClampNeg = y := ⟨_, rfl⟩
  obtain ⟨rv, wet_n, hTx, hTm, hI⟩ := T_dry th la le cf kind page asked sees cnt wet which leaf rds f_askedUpTo f_costs sorts slong mcells y1 hI
  refine lv_aload_n hx hb dL_law_366 rfl (lv_at hl 1 rfl) ?_
  refine lv_aload_n hx hb dL_law_367 rfl (lv_at hl 0 rfl) ?_
  refine lv_iload_n hx hb dL_law_368 rfl (lv_at hl 3 rfl) ?_
  refine lv_iconst (v := 1) hx hb dL_law_369 (by decide) ?_
  refine lv_iadd hx hb dL_law_370 ?_
  refine q_sld hx hb hX hbl hbA hS hi1 hy1 dL_law_371 ?_
  refine q_wVi (wr := [1, 2, 3, 4, 5, 6, 7, 8, 9, 15, 16, 17, 18, 19, 20, 21, 22, 23, 24, 25, 26, 27, 28, 29, 30, 31, 32, 33, 34, 35, 36, 37, 38, 39, 40, 41, 42, 43, 44, 45, 46, 47, 48, 49, 50, 51, 52, 53, 54].filterMap (fun i => (wL ad cI cR ques trc flt th la le cf kind page asked sees cnt wet which leaf rds d_fittingPages d_leastPage d_greatestPage e_kind e_page e_asked e_sent e_count e_wetSet y_leaves y_led y_firstWrong h_kind h_page h_asked h_sent h_count h_wetSet f_dry f_askedUpTo f_costs f_roots f_size o_aheadOf o_ways o_count sorts slong mcells m_at m_readSlips m_read m_looked m_keptSees m_sumOfLeaves m_ledTo m_firstWrong m_dryOnes m_dryMany m_costs m_roots m_depth m_row m_placeOf)[i]?)) (rest := []) ⟨hx, hb, hml, hown, hts⟩ (kX7_dry l D cI cR (ad 0) (ad 1) (ad 10) (ad 15) (ad 23) (ad 29) (ad 34) (ad 11) (ad 12) (ad 13) (ad 14) ques trc flt kind page asked sees cnt wet y1 (rv, wet_n) hTx) (cwV 1 hts gT_X7_dry rfl rfl rfl (by decide +kernel) ⟨Nat.le_of_ble_eq_true rfl, Nat.le_of_ble_eq_true rfl⟩) hP hD hS hA hK hN [0, 10, 11, 12, 13, 14] [1, 2, 3, 4, 5, 6, 7, 8, 9, 15, 16, 17, 18, 19, 20, 21, 22, 23, 24, 25, 26, 27, 28, 29, 30, 31, 32, 33, 34, 35, 36, 37, 38, 39, 40, 41, 42, 43, 44, 45, 46, 47, 48, 49, 50, 51, 52, 53, 54] rfl rfl (by decide) (by decide) (by decide) (va_recv hK hP (ci := 6) (q0 := 0) rfl rfl) rfl hl.1 rfl (Nat.le_of_ble_eq_true rfl) dL_law_372 ⟨Nat.le_of_ble_eq_true rfl, Nat.le_of_ble_eq_true rfl⟩ (fun H locs hP hD hS => ?_)
  have hP := hP.sub (ws' := wL ad cI cR ques trc flt th la le cf kind page asked sees cnt wet_n which leaf rds d_fittingPages d_leastPage d_greatestPage e_kind e_page e_asked e_sent e_count e_wetSet y_leaves y_led y_firstWrong h_kind h_page h_asked h_sent h_count h_wetSet f_dry f_askedUpTo f_costs f_roots f_size o_aheadOf o_ways o_count sorts slong mcells m_at m_readSlips m_read m_looked m_keptSees m_sumOfLeaves m_ledTo m_firstWrong m_dryOnes m_dryMany m_costs m_roots m_depth m_row m_placeOf) [49, 0, 1, 2, 3, 4, 5, 6, 7, 8, 50, 51, 52, 53, 54, 9, 10, 11, 12, 13, 14, 15, 16, 17, 18, 19, 20, 21, 22, 23, 24, 25, 26, 27, 28, 29, 30, 31, 32, 33, 34, 35, 36, 37, 38, 39, 40, 41, 42, 43, 44, 45, 46, 47, 48] rfl
  have hD := hD.sub (ws' := wL ad cI cR ques trc flt th la le cf kind page asked sees cnt wet_n which leaf rds d_fittingPages d_leastPage d_greatestPage e_kind e_page e_asked e_sent e_count e_wetSet y_leaves y_led y_firstWrong h_kind h_page h_asked h_sent h_count h_wetSet f_dry f_askedUpTo f_costs f_roots f_size o_aheadOf o_ways o_count sorts slong mcells m_at m_readSlips m_read m_looked m_keptSees m_sumOfLeaves m_ledTo m_firstWrong m_dryOnes m_dryMany m_costs m_roots m_depth m_row m_placeOf) [49, 0, 1, 2, 3, 4, 5, 6, 7, 8, 50, 51, 52, 53, 54, 9, 10, 11, 12, 13, 14, 15, 16, 17, 18, 19, 20, 21, 22, 23, 24, 25, 26, 27, 28, 29, 30, 31, 32, 33, 34, 35, 36, 37, 38, 39, 40, 41, 42, 43, 44, 45, 46, 47, 48] (by decide) rfl
  refine lv_aload_n hx hb dL_law_375 rfl (lv_at hl 2 rfl) ?_
  refine lv_aload_n hx hb dL_law_376 rfl (lv_at hl 0 rfl) ?_
  refine lv_iload_n hx hb dL_law_377 rfl (lv_at hl 3 rfl) ?_
  refine lv_iconst (v := 1) hx hb dL_law_378 (by decide) ?_
  refine lv_iadd hx hb dL_law_379 ?_
  refine q_sld hx hb hX hbl hbA hS hi1 hy1 dL_law_380 ?_
  refine q_wVi (wr := [0, 1, 2, 3, 4, 5, 6, 7, 8, 9, 10, 11, 12, 13, 14, 15, 16, 17, 18, 19, 20, 21, 22, 23, 24, 25, 26, 27, 28, 29, 30, 31, 32, 33, 34, 35, 36].filterMap (fun i => (wL ad cI cR ques trc flt th la le cf kind page asked sees cnt wet_n which leaf rds d_fittingPages d_leastPage d_greatestPage e_kind e_page e_asked e_sent e_count e_wetSet y_leaves y_led y_firstWrong h_kind h_page h_asked h_sent h_count h_wetSet f_dry f_askedUpTo f_costs f_roots f_size o_aheadOf o_ways o_count sorts slong mcells m_at m_readSlips m_read m_looked m_keptSees m_sumOfLeaves m_ledTo m_firstWrong m_dryOnes m_dryMany m_costs m_roots m_depth m_row m_placeOf)[i]?)) (rest := [.int rv]) ⟨hx, hb, hml, hown, hts⟩ (kX8_dry l D cI cR (ad 37) (ad 38) (ad 39) (ad 40) (ad 41) (ad 42) (ad 43) (ad 44) (ad 45) (ad 46) (ad 47) (ad 48) (ad 49) (ad 50) (ad 51) (ad 52) (ad 53) (ad 54) flt trc sorts slong mcells cnt ques wet_n kind page asked sees m_at m_readSlips m_read m_looked m_keptSees m_sumOfLeaves m_ledTo m_firstWrong m_dryOnes m_dryMany m_costs m_roots m_depth m_row m_placeOf rds which leaf y1 (rv, wet_n) hTm) (cwV 1 hts gT_X8_dry rfl rfl rfl (by decide +kernel) ⟨Nat.le_of_ble_eq_true rfl, Nat.le_of_ble_eq_true rfl⟩) hP hD hS hA hK hN [37, 38, 39, 40, 41, 42, 43, 44, 45, 46, 47, 48, 49, 50, 51, 52, 53, 54] [0, 1, 2, 3, 4, 5, 6, 7, 8, 9, 10, 11, 12, 13, 14, 15, 16, 17, 18, 19, 20, 21, 22, 23, 24, 25, 26, 27, 28, 29, 30, 31, 32, 33, 34, 35, 36] rfl rfl (by decide) (by decide) (by decide) (va_recv hK hP (ci := 7) (q0 := 37) rfl rfl) rfl hl.1 rfl (Nat.le_of_ble_eq_true rfl) dL_law_381 ⟨Nat.le_of_ble_eq_true rfl, Nat.le_of_ble_eq_true rfl⟩ (fun H locs hP hD hS => ?_)
  have hP := hP.sub (ws' := wL ad cI cR ques trc flt th la le cf kind page asked sees cnt wet_n which leaf rds d_fittingPages d_leastPage d_greatestPage e_kind e_page e_asked e_sent e_count e_wetSet y_leaves y_led y_firstWrong h_kind h_page h_asked h_sent h_count h_wetSet f_dry f_askedUpTo f_costs f_roots f_size o_aheadOf o_ways o_count sorts slong mcells m_at m_readSlips m_read m_looked m_keptSees m_sumOfLeaves m_ledTo m_firstWrong m_dryOnes m_dryMany m_costs m_roots m_depth m_row m_placeOf) [0, 1, 2, 3, 4, 5, 6, 7, 8, 9, 10, 11, 12, 13, 14, 15, 16, 17, 18, 19, 20, 21, 22, 23, 24, 25, 26, 27, 28, 29, 30, 31, 32, 33, 34, 35, 36, 37, 38, 39, 40, 41, 42, 43, 44, 45, 46, 47, 48, 49, 50, 51, 52, 53, 54] rfl
  have hD := hD.sub (ws' := wL ad cI cR ques trc flt th la le cf kind page asked sees cnt wet_n which leaf rds d_fittingPages d_leastPage d_greatestPage e_kind e_page e_asked e_sent e_count e_wetSet y_leaves y_led y_firstWrong h_kind h_page h_asked h_sent h_count h_wetSet f_dry f_askedUpTo f_costs f_roots f_size o_aheadOf o_ways o_count sorts slong mcells m_at m_readSlips m_read m_looked m_keptSees m_sumOfLeaves m_ledTo m_firstWrong m_dryOnes m_dryMany m_costs m_roots m_depth m_row m_placeOf) [0, 1, 2, 3, 4, 5, 6, 7, 8, 9, 10, 11, 12, 13, 14, 15, 16, 17, 18, 19, 20, 21, 22, 23, 24, 25, 26, 27, 28, 29, 30, 31, 32, 33, 34, 35, 36, 37, 38, 39, 40, 41, 42, 43, 44, 45, 46, 47, 48, 49, 50, 51, 52, 53, 54] (by decide) rfl
  refine lv_icmp_eq (tgt := 1110) hx hb dL_law_384 (by decide) (fun _ => ?_) (fun h => absurd rfl h)
  exact kk _ _ _ _ _ _ _ _ _ _ _ _ _ _ _ _ _ _ _ _ _ _ _ _ _ _ _ _ _ _ _ _ _ _ _ _ _ _ _ _ _ _ _ _ _ _ _ _ _ _ _ _ _ _ _ _ _ _ _ _ _ _ _ hI hP hD hS hl
set_option maxHeartbeats 8000000 in
set_option maxRecDepth 100000 in
theorem case_7 {p : Program} {l : Launch} {e : Env} {s : State} {m : MethodId} {args : Array Value} {below : List Frame} {meth : Method} {c : Code} {Q : State → Prop} {D : va_G} {cI cR : ClassId} {ad : Nat → Nat} {b L : Nat} {xs : Nat → Int32} {x3 : Int32} (C : LawC p s m args c D cI cR b L xs x3) (kk : AtL p l e s m args below meth c Q D cI cR ad b x3 1110) : AtL p l e s m args below meth c Q D cI cR ad b x3 389 := by
  obtain ⟨hx, hb, hml, hown, hts, hX, hbl, hK, hN, hi1, hi2, hi3, hi4, hi5⟩ := C
  have hA : ∀ q : Nat, s.heap.size ≤ q → AL s q := fun _ h => h
  have hbA : ¬ AL s b := Nat.not_le.mpr hbl
  intro ques trc flt th la le cf kind page asked sees cnt wet which leaf rds d_fittingPages d_leastPage d_greatestPage e_kind e_page e_asked e_sent e_count e_wetSet y_leaves y_led y_firstWrong h_kind h_page h_asked h_sent h_count h_wetSet f_dry f_askedUpTo f_costs f_roots f_size o_aheadOf o_ways o_count sorts slong mcells m_at m_readSlips m_read m_looked m_keptSees m_sumOfLeaves m_ledTo m_firstWrong m_dryOnes m_dryMany m_costs m_roots m_depth m_row m_placeOf H locs ls hI hP hD hS hl
  obtain ⟨y1, hy1⟩ : ∃ y, xs (x3 + 1).toNatClampNeg = y := ⟨_, rfl⟩
  obtain ⟨rv, m_looked_n, hTx, hTm, hI⟩ := T_leads th la le cf kind page asked sees cnt wet which leaf rds f_askedUpTo f_costs sorts slong mcells m_looked y1 hI
  refine lv_aload_n hx hb dL_law_389 rfl (lv_at hl 1 rfl) ?_
  refine lv_aload_n hx hb dL_law_390 rfl (lv_at hl 0 rfl) ?_
  refine lv_iload_n hx hb dL_law_391 rfl (lv_at hl 3 rfl) ?_
  refine lv_iconst (v := 1) hx hb dL_law_392 (by decide) ?_
  refine lv_iadd hx hb dL_law_393 ?_
  refine q_sld hx hb hX hbl hbA hS hi1 hy1 dL_law_394 ?_
  refine q_rV (rest := []) ⟨hx, hb, hml, hown, hts⟩ (kX7_leads l D cI cR (ad 0) (ad 1) (ad 10) (ad 15) (ad 23) (ad 29) (ad 34) (ad 11) (ad 12) (ad 13) (ad 14) ques trc flt kind page asked sees cnt wet y1 rv hTx) (cwV 1 hts gT_X7_leads rfl rfl rfl (by decide +kernel) ⟨Nat.le_of_ble_eq_true rfl, Nat.le_of_ble_eq_true rfl⟩) (hP.sub [0, 10, 11, 12, 13, 14] rfl) hK hN (va_recv hK hP (ci := 6) (q0 := 0) rfl rfl) rfl hl.1 rfl (Nat.le_of_ble_eq_true rfl) dL_law_395 ⟨Nat.le_of_ble_eq_true rfl, Nat.le_of_ble_eq_true rfl⟩ ?_
  refine lv_aload_n hx hb dL_law_398 rfl (lv_at hl 2 rfl) ?_
  refine lv_aload_n hx hb dL_law_399 rfl (lv_at hl 0 rfl) ?_
  refine lv_iload_n hx hb dL_law_400 rfl (lv_at hl 3 rfl) ?_
  refine lv_iconst (v := 1) hx hb dL_law_401 (by decide) ?_
  refine lv_iadd hx hb dL_law_402 ?_
  refine q_sld hx hb hX hbl hbA hS hi1 hy1 dL_law_403 ?_
  refine q_wVi (wr := [0, 1, 2, 3, 4, 5, 6, 7, 8, 9, 10, 11, 12, 13, 14, 15, 16, 17, 18, 19, 20, 21, 22, 23, 24, 25, 26, 27, 28, 29, 30, 31, 32, 33, 34, 35, 36].filterMap (fun i => (wL ad cI cR ques trc flt th la le cf kind page asked sees cnt wet which leaf rds d_fittingPages d_leastPage d_greatestPage e_kind e_page e_asked e_sent e_count e_wetSet y_leaves y_led y_firstWrong h_kind h_page h_asked h_sent h_count h_wetSet f_dry f_askedUpTo f_costs f_roots f_size o_aheadOf o_ways o_count sorts slong mcells m_at m_readSlips m_read m_looked m_keptSees m_sumOfLeaves m_ledTo m_firstWrong m_dryOnes m_dryMany m_costs m_roots m_depth m_row m_placeOf)[i]?)) (rest := [.int rv]) ⟨hx, hb, hml, hown, hts⟩ (kX8_leads l D cI cR (ad 37) (ad 38) (ad 39) (ad 40) (ad 41) (ad 42) (ad 43) (ad 44) (ad 45) (ad 46) (ad 47) (ad 48) (ad 49) (ad 50) (ad 51) (ad 52) (ad 53) (ad 54) flt trc sorts slong mcells cnt ques wet kind page asked sees m_at m_readSlips m_read m_looked m_keptSees m_sumOfLeaves m_ledTo m_firstWrong m_dryOnes m_dryMany m_costs m_roots m_depth m_row m_placeOf rds which leaf y1 (rv, m_looked_n) hTm) (cwV 1 hts gT_X8_leads rfl rfl rfl (by decide +kernel) ⟨Nat.le_of_ble_eq_true rfl, Nat.le_of_ble_eq_true rfl⟩) hP hD hS hA hK hN [37, 38, 39, 40, 41, 42, 43, 44, 45, 46, 47, 48, 49, 50, 51, 52, 53, 54] [0, 1, 2, 3, 4, 5, 6, 7, 8, 9, 10, 11, 12, 13, 14, 15, 16, 17, 18, 19, 20, 21, 22, 23, 24, 25, 26, 27, 28, 29, 30, 31, 32, 33, 34, 35, 36] rfl rfl (by decide) (by decide) (by decide) (va_recv hK hP (ci := 7) (q0 := 37) rfl rfl) rfl hl.1 rfl (Nat.le_of_ble_eq_true rfl) dL_law_404 ⟨Nat.le_of_ble_eq_true rfl, Nat.le_of_ble_eq_true rfl⟩ (fun H locs hP hD hS => ?_)
  have hP := hP.sub (ws' := wL ad cI cR ques trc flt th la le cf kind page asked sees cnt wet which leaf rds d_fittingPages d_leastPage d_greatestPage e_kind e_page e_asked e_sent e_count e_wetSet y_leaves y_led y_firstWrong h_kind h_page h_asked h_sent h_count h_wetSet f_dry f_askedUpTo f_costs f_roots f_size o_aheadOf o_ways o_count sorts slong mcells m_at m_readSlips m_read m_looked_n m_keptSees m_sumOfLeaves m_ledTo m_firstWrong m_dryOnes m_dryMany m_costs m_roots m_depth m_row m_placeOf) [0, 1, 2, 3, 4, 5, 6, 7, 8, 9, 10, 11, 12, 13, 14, 15, 16, 17, 18, 19, 20, 21, 22, 23, 24, 25, 26, 27, 28, 29, 30, 31, 32, 33, 34, 35, 36, 37, 38, 39, 40, 41, 42, 43, 44, 45, 46, 47, 48, 49, 50, 51, 52, 53, 54] rfl
  have hD := hD.sub (ws' := wL ad cI cR ques trc flt th la le cf kind page asked sees cnt wet which leaf rds d_fittingPages d_leastPage d_greatestPage e_kind e_page e_asked e_sent e_count e_wetSet y_leaves y_led y_firstWrong h_kind h_page h_asked h_sent h_count h_wetSet f_dry f_askedUpTo f_costs f_roots f_size o_aheadOf o_ways o_count sorts slong mcells m_at m_readSlips m_read m_looked_n m_keptSees m_sumOfLeaves m_ledTo m_firstWrong m_dryOnes m_dryMany m_costs m_roots m_depth m_row m_placeOf) [0, 1, 2, 3, 4, 5, 6, 7, 8, 9, 10, 11, 12, 13, 14, 15, 16, 17, 18, 19, 20, 21, 22, 23, 24, 25, 26, 27, 28, 29, 30, 31, 32, 33, 34, 35, 36, 37, 38, 39, 40, 41, 42, 43, 44, 45, 46, 47, 48, 49, 50, 51, 52, 53, 54] (by decide) rfl
  refine lv_icmp_eq (tgt := 1110) hx hb dL_law_407 (by decide) (fun _ => ?_) (fun h => absurd rfl h)
  exact kk _ _ _ _ _ _ _ _ _ _ _ _ _ _ _ _ _ _ _ _ _ _ _ _ _ _ _ _ _ _ _ _ _ _ _ _ _ _ _ _ _ _ _ _ _ _ _ _ _ _ _ _ _ _ _ _ _ _ _ _ _ _ _ hI hP hD hS hl
set_option maxHeartbeats 8000000 in
set_option maxRecDepth 100000 in
theorem case_8 {p : Program} {l : Launch} {e : Env} {s : State} {m : MethodId} {args : Array Value} {below : List Frame} {meth : Method} {c : Code} {Q : State → Prop} {D : va_G} {cI cR : ClassId} {ad : Nat → Nat} {b L : Nat} {xs : Nat → Int32} {x3 : Int32} (C : LawC p s m args c D cI cR b L xs x3) (kk : AtL p l e s m args below meth c Q D cI cR ad b x3 1110) : AtL p l e s m args below meth c Q D cI cR ad b x3 412 := by
  obtain ⟨hx, hb, hml, hown, hts, hX, hbl, hK, hN, hi1, hi2, hi3, hi4, hi5⟩ := C
  have hA : ∀ q : Nat, s.heap.size ≤ q → AL s q := fun _ h => h
  have hbA : ¬ AL s b := Nat.not_le.mpr hbl
  intro ques trc flt th la le cf kind page asked sees cnt wet which leaf rds d_fittingPages d_leastPage d_greatestPage e_kind e_page e_asked e_sent e_count e_wetSet y_leaves y_led y_firstWrong h_kind h_page h_asked h_sent h_count h_wetSet f_dry f_askedUpTo f_costs f_roots f_size o_aheadOf o_ways o_count sorts slong mcells m_at m_readSlips m_read m_looked m_keptSees m_sumOfLeaves m_ledTo m_firstWrong m_dryOnes m_dryMany m_costs m_roots m_depth m_row m_placeOf H locs ls hI hP hD hS hl
  obtain ⟨y1, hy1⟩ : ∃ y, xs (x3 + 1).toNatClampNeg = y := ⟨_, rfl⟩
  obtain ⟨y2, hy2⟩ : ∃ y, xs (x3 + 2).toNatClampNeg = y := ⟨_, rfl⟩
  obtain ⟨y3, hy3⟩ : ∃ y, xs (x3 + 3).toNatClampNeg = y := ⟨_, rfl⟩
  obtain ⟨y4, hy4⟩ : ∃ y, xs (x3 + 4).toNatClampNeg = y := ⟨_, rfl⟩
  obtain ⟨y5, hy5⟩ : ∃ y, xs (x3 + 5).toNatClampNeg = y := ⟨_, rfl⟩
  obtain ⟨k, hk, hr4⟩ := row_pick y1
  rcases (show k = 0 ∨ k = 1 ∨ k = 2 ∨ k = 3 by omega) with rfl | rfl | rfl | rfl
  · obtain ⟨rv, flt_n, y_leaves_n, y_led_n, y_firstWrong_n, h_kind_n, h_page_n, h_asked_n, h_sent_n, h_count_n, h_wetSet_n, m_looked_n, m_keptSees_n, m_sumOfLeaves_n, m_ledTo_n, m_firstWrong_n, hTx, hTm, hI⟩ := T_years flt th la le cf kind page asked sees cnt wet which leaf rds y_leaves y_led y_firstWrong h_kind h_page h_asked h_sent h_count h_wetSet f_askedUpTo f_costs sorts slong mcells m_looked m_keptSees m_sumOfLeaves m_ledTo m_firstWrong 0 (by decide) y1 y2 y3 y4 y5 hr4 hI
    refine lv_aload_n hx hb dL_law_412 rfl (lv_at hl 1 rfl) ?_
    refine lv_aload_n hx hb dL_law_413 rfl (lv_at hl 0 rfl) ?_
    refine lv_iload_n hx hb dL_law_414 rfl (lv_at hl 3 rfl) ?_
    refine lv_iconst (v := 1) hx hb dL_law_415 (by decide) ?_
    refine lv_iadd hx hb dL_law_416 ?_
    refine q_sld hx hb hX hbl hbA hS hi1 hy1 dL_law_417 ?_
    refine lv_aload_n hx hb dL_law_418 rfl (lv_at hl 0 rfl) ?_
    refine lv_iload_n hx hb dL_law_419 rfl (lv_at hl 3 rfl) ?_
    refine lv_iconst (v := 2) hx hb dL_law_420 (by decide) ?_
    refine lv_iadd hx hb dL_law_421 ?_
    refine q_sld hx hb hX hbl hbA hS hi2 hy2 dL_law_422 ?_
    refine lv_aload_n hx hb dL_law_423 rfl (lv_at hl 0 rfl) ?_
    refine lv_iload_n hx hb dL_law_424 rfl (lv_at hl 3 rfl) ?_
    refine lv_iconst (v := 3) hx hb dL_law_425 (by decide) ?_
    refine lv_iadd hx hb dL_law_426 ?_
    refine q_sld hx hb hX hbl hbA hS hi3 hy3 dL_law_427 ?_
    refine lv_aload_n hx hb dL_law_428 rfl (lv_at hl 0 rfl) ?_
    refine lv_iload_n hx hb dL_law_429 rfl (lv_at hl 3 rfl) ?_
    refine lv_iconst (v := 4) hx hb dL_law_430 (by decide) ?_
    refine lv_iadd hx hb dL_law_431 ?_
    refine q_sld hx hb hX hbl hbA hS hi4 hy4 dL_law_432 ?_
    refine lv_aload_n hx hb dL_law_433 rfl (lv_at hl 0 rfl) ?_
    refine lv_iload_n hx hb dL_law_434 rfl (lv_at hl 3 rfl) ?_
    refine lv_iconst (v := 5) hx hb dL_law_435 (by decide) ?_
    refine lv_iadd hx hb dL_law_436 ?_
    refine q_sld hx hb hX hbl hbA hS hi5 hy5 dL_law_437 ?_
    refine q_wVi (wr := [4, 5, 6, 7, 8, 9, 15, 16, 17, 18, 19, 20, 21, 22, 29, 30, 31, 32, 33, 34, 35, 36, 37, 38, 39, 40, 41, 42, 43, 44, 45, 46, 47, 48, 49, 50, 51, 52, 53, 54].filterMap (fun i => (wL ad cI cR ques trc flt th la le cf kind page asked sees cnt wet which leaf rds d_fittingPages d_leastPage d_greatestPage e_kind e_page e_asked e_sent e_count e_wetSet y_leaves y_led y_firstWrong h_kind h_page h_asked h_sent h_count h_wetSet f_dry f_askedUpTo f_costs f_roots f_size o_aheadOf o_ways o_count sorts slong mcells m_at m_readSlips m_read m_looked m_keptSees m_sumOfLeaves m_ledTo m_firstWrong m_dryOnes m_dryMany m_costs m_roots m_depth m_row m_placeOf)[i]?)) (rest := []) ⟨hx, hb, hml, hown, hts⟩ (kX7_years l D cI cR (ad 0) (ad 1) (ad 10) (ad 15) (ad 23) (ad 29) (ad 34) (ad 2) (ad 3) (ad 11) (ad 12) (ad 13) (ad 14) (ad 24) (ad 25) (ad 26) (ad 27) (ad 28) (rwF ad) ques trc flt (cf 0) (th 0) (la 0) (le 0) kind page asked sees cnt wet y_leaves y_led y_firstWrong h_kind h_page h_asked h_sent h_count h_wetSet y1 y2 y3 y4 y5 (fun h => by rw [hr4 h]; rfl) (rv, flt_n, y_leaves_n, y_led_n, y_firstWrong_n, h_kind_n, h_page_n, h_asked_n, h_sent_n, h_count_n, h_wetSet_n) hTx) (cwV 5 hts gT_X7_years rfl rfl rfl (by decide +kernel) ⟨Nat.le_of_ble_eq_true rfl, Nat.le_of_ble_eq_true rfl⟩) hP hD hS hA hK hN [0, 1, 2, 3, 10, 11, 12, 13, 14, 23, 24, 25, 26, 27, 28] [4, 5, 6, 7, 8, 9, 15, 16, 17, 18, 19, 20, 21, 22, 29, 30, 31, 32, 33, 34, 35, 36, 37, 38, 39, 40, 41, 42, 43, 44, 45, 46, 47, 48, 49, 50, 51, 52, 53, 54] rfl rfl (by decide) (by decide) (by decide) (va_recv hK hP (ci := 6) (q0 := 0) rfl rfl) rfl hl.1 rfl (Nat.le_of_ble_eq_true rfl) dL_law_438 ⟨Nat.le_of_ble_eq_true rfl, Nat.le_of_ble_eq_true rfl⟩ (fun H locs hP hD hS => ?_)
    have hP := hP.sub (ws' := wL ad cI cR ques trc flt_n th la le cf kind page asked sees cnt wet which leaf rds d_fittingPages d_leastPage d_greatestPage e_kind e_page e_asked e_sent e_count e_wetSet y_leaves_n y_led_n y_firstWrong_n h_kind_n h_page_n h_asked_n h_sent_n h_count_n h_wetSet_n f_dry f_askedUpTo f_costs f_roots f_size o_aheadOf o_ways o_count sorts slong mcells m_at m_readSlips m_read m_looked m_keptSees m_sumOfLeaves m_ledTo m_firstWrong m_dryOnes m_dryMany m_costs m_roots m_depth m_row m_placeOf) [40, 41, 42, 43, 0, 1, 2, 3, 4, 5, 44, 45, 46, 47, 48, 6, 7, 8, 9, 10, 11, 12, 13, 49, 50, 51, 52, 53, 54, 14, 15, 16, 17, 18, 19, 20, 21, 22, 23, 24, 25, 26, 27, 28, 29, 30, 31, 32, 33, 34, 35, 36, 37, 38, 39] rfl
    have hD := hD.sub (ws' := wL ad cI cR ques trc flt_n th la le cf kind page asked sees cnt wet which leaf rds d_fittingPages d_leastPage d_greatestPage e_kind e_page e_asked e_sent e_count e_wetSet y_leaves_n y_led_n y_firstWrong_n h_kind_n h_page_n h_asked_n h_sent_n h_count_n h_wetSet_n f_dry f_askedUpTo f_costs f_roots f_size o_aheadOf o_ways o_count sorts slong mcells m_at m_readSlips m_read m_looked m_keptSees m_sumOfLeaves m_ledTo m_firstWrong m_dryOnes m_dryMany m_costs m_roots m_depth m_row m_placeOf) [40, 41, 42, 43, 0, 1, 2, 3, 4, 5, 44, 45, 46, 47, 48, 6, 7, 8, 9, 10, 11, 12, 13, 49, 50, 51, 52, 53, 54, 14, 15, 16, 17, 18, 19, 20, 21, 22, 23, 24, 25, 26, 27, 28, 29, 30, 31, 32, 33, 34, 35, 36, 37, 38, 39] (by decide) rfl
    refine lv_aload_n hx hb dL_law_441 rfl (lv_at hl 2 rfl) ?_
    refine lv_aload_n hx hb dL_law_442 rfl (lv_at hl 0 rfl) ?_
    refine lv_iload_n hx hb dL_law_443 rfl (lv_at hl 3 rfl) ?_
    refine lv_iconst (v := 1) hx hb dL_law_444 (by decide) ?_
    refine lv_iadd hx hb dL_law_445 ?_
    refine q_sld hx hb hX hbl hbA hS hi1 hy1 dL_law_446 ?_
    refine lv_aload_n hx hb dL_law_447 rfl (lv_at hl 0 rfl) ?_
    refine lv_iload_n hx hb dL_law_448 rfl (lv_at hl 3 rfl) ?_
    refine lv_iconst (v := 2) hx hb dL_law_449 (by decide) ?_
    refine lv_iadd hx hb dL_law_450 ?_
    refine q_sld hx hb hX hbl hbA hS hi2 hy2 dL_law_451 ?_
    refine lv_aload_n hx hb dL_law_452 rfl (lv_at hl 0 rfl) ?_
    refine lv_iload_n hx hb dL_law_453 rfl (lv_at hl 3 rfl) ?_
    refine lv_iconst (v := 3) hx hb dL_law_454 (by decide) ?_
    refine lv_iadd hx hb dL_law_455 ?_
    refine q_sld hx hb hX hbl hbA hS hi3 hy3 dL_law_456 ?_
    refine lv_aload_n hx hb dL_law_457 rfl (lv_at hl 0 rfl) ?_
    refine lv_iload_n hx hb dL_law_458 rfl (lv_at hl 3 rfl) ?_
    refine lv_iconst (v := 4) hx hb dL_law_459 (by decide) ?_
    refine lv_iadd hx hb dL_law_460 ?_
    refine q_sld hx hb hX hbl hbA hS hi4 hy4 dL_law_461 ?_
    refine lv_aload_n hx hb dL_law_462 rfl (lv_at hl 0 rfl) ?_
    refine lv_iload_n hx hb dL_law_463 rfl (lv_at hl 3 rfl) ?_
    refine lv_iconst (v := 5) hx hb dL_law_464 (by decide) ?_
    refine lv_iadd hx hb dL_law_465 ?_
    refine q_sld hx hb hX hbl hbA hS hi5 hy5 dL_law_466 ?_
    refine q_wVi (wr := [0, 1, 2, 3, 4, 5, 6, 7, 8, 9, 10, 11, 12, 13, 14, 15, 16, 17, 18, 19, 20, 21, 22, 23, 24, 25, 26, 27, 28, 29, 30, 31, 32, 33, 34, 35, 36].filterMap (fun i => (wL ad cI cR ques trc flt_n th la le cf kind page asked sees cnt wet which leaf rds d_fittingPages d_leastPage d_greatestPage e_kind e_page e_asked e_sent e_count e_wetSet y_leaves_n y_led_n y_firstWrong_n h_kind_n h_page_n h_asked_n h_sent_n h_count_n h_wetSet_n f_dry f_askedUpTo f_costs f_roots f_size o_aheadOf o_ways o_count sorts slong mcells m_at m_readSlips m_read m_looked m_keptSees m_sumOfLeaves m_ledTo m_firstWrong m_dryOnes m_dryMany m_costs m_roots m_depth m_row m_placeOf)[i]?)) (rest := [.int rv]) ⟨hx, hb, hml, hown, hts⟩ (kX8_years l D cI cR (ad 37) (ad 38) (ad 39) (ad 40) (ad 41) (ad 42) (ad 43) (ad 44) (ad 45) (ad 46) (ad 47) (ad 48) (ad 49) (ad 50) (ad 51) (ad 52) (ad 53) (ad 54) flt_n trc sorts slong mcells cnt ques wet kind page asked sees m_at m_readSlips m_read m_looked m_keptSees m_sumOfLeaves m_ledTo m_firstWrong m_dryOnes m_dryMany m_costs m_roots m_depth m_row m_placeOf rds which leaf y1 y2 y3 y4 y5 (rv, flt_n, wet, sees, m_looked_n, m_keptSees_n, m_sumOfLeaves_n, m_ledTo_n, m_firstWrong_n) hTm) (cwV 5 hts gT_X8_years rfl rfl rfl (by decide +kernel) ⟨Nat.le_of_ble_eq_true rfl, Nat.le_of_ble_eq_true rfl⟩) hP hD hS hA hK hN [37, 38, 39, 40, 41, 42, 43, 44, 45, 46, 47, 48, 49, 50, 51, 52, 53, 54] [0, 1, 2, 3, 4, 5, 6, 7, 8, 9, 10, 11, 12, 13, 14, 15, 16, 17, 18, 19, 20, 21, 22, 23, 24, 25, 26, 27, 28, 29, 30, 31, 32, 33, 34, 35, 36] rfl rfl (by decide) (by decide) (by decide) (va_recv hK hP (ci := 7) (q0 := 37) rfl rfl) rfl hl.1 rfl (Nat.le_of_ble_eq_true rfl) dL_law_467 ⟨Nat.le_of_ble_eq_true rfl, Nat.le_of_ble_eq_true rfl⟩ (fun H locs hP hD hS => ?_)
    have hP := hP.sub (ws' := wL ad cI cR ques trc flt_n th la le cf kind page asked sees cnt wet which leaf rds d_fittingPages d_leastPage d_greatestPage e_kind e_page e_asked e_sent e_count e_wetSet y_leaves_n y_led_n y_firstWrong_n h_kind_n h_page_n h_asked_n h_sent_n h_count_n h_wetSet_n f_dry f_askedUpTo f_costs f_roots f_size o_aheadOf o_ways o_count sorts slong mcells m_at m_readSlips m_read m_looked_n m_keptSees_n m_sumOfLeaves_n m_ledTo_n m_firstWrong_n m_dryOnes m_dryMany m_costs m_roots m_depth m_row m_placeOf) [0, 1, 2, 3, 4, 5, 6, 7, 8, 9, 10, 11, 12, 13, 14, 15, 16, 17, 18, 19, 20, 21, 22, 23, 24, 25, 26, 27, 28, 29, 30, 31, 32, 33, 34, 35, 36, 37, 38, 39, 40, 41, 42, 43, 44, 45, 46, 47, 48, 49, 50, 51, 52, 53, 54] rfl
    have hD := hD.sub (ws' := wL ad cI cR ques trc flt_n th la le cf kind page asked sees cnt wet which leaf rds d_fittingPages d_leastPage d_greatestPage e_kind e_page e_asked e_sent e_count e_wetSet y_leaves_n y_led_n y_firstWrong_n h_kind_n h_page_n h_asked_n h_sent_n h_count_n h_wetSet_n f_dry f_askedUpTo f_costs f_roots f_size o_aheadOf o_ways o_count sorts slong mcells m_at m_readSlips m_read m_looked_n m_keptSees_n m_sumOfLeaves_n m_ledTo_n m_firstWrong_n m_dryOnes m_dryMany m_costs m_roots m_depth m_row m_placeOf) [0, 1, 2, 3, 4, 5, 6, 7, 8, 9, 10, 11, 12, 13, 14, 15, 16, 17, 18, 19, 20, 21, 22, 23, 24, 25, 26, 27, 28, 29, 30, 31, 32, 33, 34, 35, 36, 37, 38, 39, 40, 41, 42, 43, 44, 45, 46, 47, 48, 49, 50, 51, 52, 53, 54] (by decide) rfl
    refine lv_icmp_eq (tgt := 1110) hx hb dL_law_470 (by decide) (fun _ => ?_) (fun h => absurd rfl h)
    exact kk _ _ _ _ _ _ _ _ _ _ _ _ _ _ _ _ _ _ _ _ _ _ _ _ _ _ _ _ _ _ _ _ _ _ _ _ _ _ _ _ _ _ _ _ _ _ _ _ _ _ _ _ _ _ _ _ _ _ _ _ _ _ _ hI hP hD hS hl
  · obtain ⟨rv, flt_n, y_leaves_n, y_led_n, y_firstWrong_n, h_kind_n, h_page_n, h_asked_n, h_sent_n, h_count_n, h_wetSet_n, m_looked_n, m_keptSees_n, m_sumOfLeaves_n, m_ledTo_n, m_firstWrong_n, hTx, hTm, hI⟩ := T_years flt th la le cf kind page asked sees cnt wet which leaf rds y_leaves y_led y_firstWrong h_kind h_page h_asked h_sent h_count h_wetSet f_askedUpTo f_costs sorts slong mcells m_looked m_keptSees m_sumOfLeaves m_ledTo m_firstWrong 1 (by decide) y1 y2 y3 y4 y5 hr4 hI
    refine lv_aload_n hx hb dL_law_412 rfl (lv_at hl 1 rfl) ?_
    refine lv_aload_n hx hb dL_law_413 rfl (lv_at hl 0 rfl) ?_
    refine lv_iload_n hx hb dL_law_414 rfl (lv_at hl 3 rfl) ?_
    refine lv_iconst (v := 1) hx hb dL_law_415 (by decide) ?_
    refine lv_iadd hx hb dL_law_416 ?_
    refine q_sld hx hb hX hbl hbA hS hi1 hy1 dL_law_417 ?_
    refine lv_aload_n hx hb dL_law_418 rfl (lv_at hl 0 rfl) ?_
    refine lv_iload_n hx hb dL_law_419 rfl (lv_at hl 3 rfl) ?_
    refine lv_iconst (v := 2) hx hb dL_law_420 (by decide) ?_
    refine lv_iadd hx hb dL_law_421 ?_
    refine q_sld hx hb hX hbl hbA hS hi2 hy2 dL_law_422 ?_
    refine lv_aload_n hx hb dL_law_423 rfl (lv_at hl 0 rfl) ?_
    refine lv_iload_n hx hb dL_law_424 rfl (lv_at hl 3 rfl) ?_
    refine lv_iconst (v := 3) hx hb dL_law_425 (by decide) ?_
    refine lv_iadd hx hb dL_law_426 ?_
    refine q_sld hx hb hX hbl hbA hS hi3 hy3 dL_law_427 ?_
    refine lv_aload_n hx hb dL_law_428 rfl (lv_at hl 0 rfl) ?_
    refine lv_iload_n hx hb dL_law_429 rfl (lv_at hl 3 rfl) ?_
    refine lv_iconst (v := 4) hx hb dL_law_430 (by decide) ?_
    refine lv_iadd hx hb dL_law_431 ?_
    refine q_sld hx hb hX hbl hbA hS hi4 hy4 dL_law_432 ?_
    refine lv_aload_n hx hb dL_law_433 rfl (lv_at hl 0 rfl) ?_
    refine lv_iload_n hx hb dL_law_434 rfl (lv_at hl 3 rfl) ?_
    refine lv_iconst (v := 5) hx hb dL_law_435 (by decide) ?_
    refine lv_iadd hx hb dL_law_436 ?_
    refine q_sld hx hb hX hbl hbA hS hi5 hy5 dL_law_437 ?_
    refine q_wVi (wr := [2, 3, 6, 7, 8, 9, 15, 16, 17, 18, 19, 20, 21, 22, 29, 30, 31, 32, 33, 34, 35, 36, 37, 38, 39, 40, 41, 42, 43, 44, 45, 46, 47, 48, 49, 50, 51, 52, 53, 54].filterMap (fun i => (wL ad cI cR ques trc flt th la le cf kind page asked sees cnt wet which leaf rds d_fittingPages d_leastPage d_greatestPage e_kind e_page e_asked e_sent e_count e_wetSet y_leaves y_led y_firstWrong h_kind h_page h_asked h_sent h_count h_wetSet f_dry f_askedUpTo f_costs f_roots f_size o_aheadOf o_ways o_count sorts slong mcells m_at m_readSlips m_read m_looked m_keptSees m_sumOfLeaves m_ledTo m_firstWrong m_dryOnes m_dryMany m_costs m_roots m_depth m_row m_placeOf)[i]?)) (rest := []) ⟨hx, hb, hml, hown, hts⟩ (kX7_years l D cI cR (ad 0) (ad 1) (ad 10) (ad 15) (ad 23) (ad 29) (ad 34) (ad 4) (ad 5) (ad 11) (ad 12) (ad 13) (ad 14) (ad 24) (ad 25) (ad 26) (ad 27) (ad 28) (rwF ad) ques trc flt (cf 1) (th 1) (la 1) (le 1) kind page asked sees cnt wet y_leaves y_led y_firstWrong h_kind h_page h_asked h_sent h_count h_wetSet y1 y2 y3 y4 y5 (fun h => by rw [hr4 h]; rfl) (rv, flt_n, y_leaves_n, y_led_n, y_firstWrong_n, h_kind_n, h_page_n, h_asked_n, h_sent_n, h_count_n, h_wetSet_n) hTx) (cwV 5 hts gT_X7_years rfl rfl rfl (by decide +kernel) ⟨Nat.le_of_ble_eq_true rfl, Nat.le_of_ble_eq_true rfl⟩) hP hD hS hA hK hN [0, 1, 4, 5, 10, 11, 12, 13, 14, 23, 24, 25, 26, 27, 28] [2, 3, 6, 7, 8, 9, 15, 16, 17, 18, 19, 20, 21, 22, 29, 30, 31, 32, 33, 34, 35, 36, 37, 38, 39, 40, 41, 42, 43, 44, 45, 46, 47, 48, 49, 50, 51, 52, 53, 54] rfl rfl (by decide) (by decide) (by decide) (va_recv hK hP (ci := 6) (q0 := 0) rfl rfl) rfl hl.1 rfl (Nat.le_of_ble_eq_true rfl) dL_law_438 ⟨Nat.le_of_ble_eq_true rfl, Nat.le_of_ble_eq_true rfl⟩ (fun H locs hP hD hS => ?_)
    have hP := hP.sub (ws' := wL ad cI cR ques trc flt_n th la le cf kind page asked sees cnt wet which leaf rds d_fittingPages d_leastPage d_greatestPage e_kind e_page e_asked e_sent e_count e_wetSet y_leaves_n y_led_n y_firstWrong_n h_kind_n h_page_n h_asked_n h_sent_n h_count_n h_wetSet_n f_dry f_askedUpTo f_costs f_roots f_size o_aheadOf o_ways o_count sorts slong mcells m_at m_readSlips m_read m_looked m_keptSees m_sumOfLeaves m_ledTo m_firstWrong m_dryOnes m_dryMany m_costs m_roots m_depth m_row m_placeOf) [40, 41, 0, 1, 42, 43, 2, 3, 4, 5, 44, 45, 46, 47, 48, 6, 7, 8, 9, 10, 11, 12, 13, 49, 50, 51, 52, 53, 54, 14, 15, 16, 17, 18, 19, 20, 21, 22, 23, 24, 25, 26, 27, 28, 29, 30, 31, 32, 33, 34, 35, 36, 37, 38, 39] rfl
    have hD := hD.sub (ws' := wL ad cI cR ques trc flt_n th la le cf kind page asked sees cnt wet which leaf rds d_fittingPages d_leastPage d_greatestPage e_kind e_page e_asked e_sent e_count e_wetSet y_leaves_n y_led_n y_firstWrong_n h_kind_n h_page_n h_asked_n h_sent_n h_count_n h_wetSet_n f_dry f_askedUpTo f_costs f_roots f_size o_aheadOf o_ways o_count sorts slong mcells m_at m_readSlips m_read m_looked m_keptSees m_sumOfLeaves m_ledTo m_firstWrong m_dryOnes m_dryMany m_costs m_roots m_depth m_row m_placeOf) [40, 41, 0, 1, 42, 43, 2, 3, 4, 5, 44, 45, 46, 47, 48, 6, 7, 8, 9, 10, 11, 12, 13, 49, 50, 51, 52, 53, 54, 14, 15, 16, 17, 18, 19, 20, 21, 22, 23, 24, 25, 26, 27, 28, 29, 30, 31, 32, 33, 34, 35, 36, 37, 38, 39] (by decide) rfl
    refine lv_aload_n hx hb dL_law_441 rfl (lv_at hl 2 rfl) ?_
    refine lv_aload_n hx hb dL_law_442 rfl (lv_at hl 0 rfl) ?_
    refine lv_iload_n hx hb dL_law_443 rfl (lv_at hl 3 rfl) ?_
    refine lv_iconst (v := 1) hx hb dL_law_444 (by decide) ?_
    refine lv_iadd hx hb dL_law_445 ?_
    refine q_sld hx hb hX hbl hbA hS hi1 hy1 dL_law_446 ?_
    refine lv_aload_n hx hb dL_law_447 rfl (lv_at hl 0 rfl) ?_
    refine lv_iload_n hx hb dL_law_448 rfl (lv_at hl 3 rfl) ?_
    refine lv_iconst (v := 2) hx hb dL_law_449 (by decide) ?_
    refine lv_iadd hx hb dL_law_450 ?_
    refine q_sld hx hb hX hbl hbA hS hi2 hy2 dL_law_451 ?_
    refine lv_aload_n hx hb dL_law_452 rfl (lv_at hl 0 rfl) ?_
    refine lv_iload_n hx hb dL_law_453 rfl (lv_at hl 3 rfl) ?_
    refine lv_iconst (v := 3) hx hb dL_law_454 (by decide) ?_
    refine lv_iadd hx hb dL_law_455 ?_
    refine q_sld hx hb hX hbl hbA hS hi3 hy3 dL_law_456 ?_
    refine lv_aload_n hx hb dL_law_457 rfl (lv_at hl 0 rfl) ?_
    refine lv_iload_n hx hb dL_law_458 rfl (lv_at hl 3 rfl) ?_
    refine lv_iconst (v := 4) hx hb dL_law_459 (by decide) ?_
    refine lv_iadd hx hb dL_law_460 ?_
    refine q_sld hx hb hX hbl hbA hS hi4 hy4 dL_law_461 ?_
    refine lv_aload_n hx hb dL_law_462 rfl (lv_at hl 0 rfl) ?_
    refine lv_iload_n hx hb dL_law_463 rfl (lv_at hl 3 rfl) ?_
    refine lv_iconst (v := 5) hx hb dL_law_464 (by decide) ?_
    refine lv_iadd hx hb dL_law_465 ?_
    refine q_sld hx hb hX hbl hbA hS hi5 hy5 dL_law_466 ?_
    refine q_wVi (wr := [0, 1, 2, 3, 4, 5, 6, 7, 8, 9, 10, 11, 12, 13, 14, 15, 16, 17, 18, 19, 20, 21, 22, 23, 24, 25, 26, 27, 28, 29, 30, 31, 32, 33, 34, 35, 36].filterMap (fun i => (wL ad cI cR ques trc flt_n th la le cf kind page asked sees cnt wet which leaf rds d_fittingPages d_leastPage d_greatestPage e_kind e_page e_asked e_sent e_count e_wetSet y_leaves_n y_led_n y_firstWrong_n h_kind_n h_page_n h_asked_n h_sent_n h_count_n h_wetSet_n f_dry f_askedUpTo f_costs f_roots f_size o_aheadOf o_ways o_count sorts slong mcells m_at m_readSlips m_read m_looked m_keptSees m_sumOfLeaves m_ledTo m_firstWrong m_dryOnes m_dryMany m_costs m_roots m_depth m_row m_placeOf)[i]?)) (rest := [.int rv]) ⟨hx, hb, hml, hown, hts⟩ (kX8_years l D cI cR (ad 37) (ad 38) (ad 39) (ad 40) (ad 41) (ad 42) (ad 43) (ad 44) (ad 45) (ad 46) (ad 47) (ad 48) (ad 49) (ad 50) (ad 51) (ad 52) (ad 53) (ad 54) flt_n trc sorts slong mcells cnt ques wet kind page asked sees m_at m_readSlips m_read m_looked m_keptSees m_sumOfLeaves m_ledTo m_firstWrong m_dryOnes m_dryMany m_costs m_roots m_depth m_row m_placeOf rds which leaf y1 y2 y3 y4 y5 (rv, flt_n, wet, sees, m_looked_n, m_keptSees_n, m_sumOfLeaves_n, m_ledTo_n, m_firstWrong_n) hTm) (cwV 5 hts gT_X8_years rfl rfl rfl (by decide +kernel) ⟨Nat.le_of_ble_eq_true rfl, Nat.le_of_ble_eq_true rfl⟩) hP hD hS hA hK hN [37, 38, 39, 40, 41, 42, 43, 44, 45, 46, 47, 48, 49, 50, 51, 52, 53, 54] [0, 1, 2, 3, 4, 5, 6, 7, 8, 9, 10, 11, 12, 13, 14, 15, 16, 17, 18, 19, 20, 21, 22, 23, 24, 25, 26, 27, 28, 29, 30, 31, 32, 33, 34, 35, 36] rfl rfl (by decide) (by decide) (by decide) (va_recv hK hP (ci := 7) (q0 := 37) rfl rfl) rfl hl.1 rfl (Nat.le_of_ble_eq_true rfl) dL_law_467 ⟨Nat.le_of_ble_eq_true rfl, Nat.le_of_ble_eq_true rfl⟩ (fun H locs hP hD hS => ?_)
    have hP := hP.sub (ws' := wL ad cI cR ques trc flt_n th la le cf kind page asked sees cnt wet which leaf rds d_fittingPages d_leastPage d_greatestPage e_kind e_page e_asked e_sent e_count e_wetSet y_leaves_n y_led_n y_firstWrong_n h_kind_n h_page_n h_asked_n h_sent_n h_count_n h_wetSet_n f_dry f_askedUpTo f_costs f_roots f_size o_aheadOf o_ways o_count sorts slong mcells m_at m_readSlips m_read m_looked_n m_keptSees_n m_sumOfLeaves_n m_ledTo_n m_firstWrong_n m_dryOnes m_dryMany m_costs m_roots m_depth m_row m_placeOf) [0, 1, 2, 3, 4, 5, 6, 7, 8, 9, 10, 11, 12, 13, 14, 15, 16, 17, 18, 19, 20, 21, 22, 23, 24, 25, 26, 27, 28, 29, 30, 31, 32, 33, 34, 35, 36, 37, 38, 39, 40, 41, 42, 43, 44, 45, 46, 47, 48, 49, 50, 51, 52, 53, 54] rfl
    have hD := hD.sub (ws' := wL ad cI cR ques trc flt_n th la le cf kind page asked sees cnt wet which leaf rds d_fittingPages d_leastPage d_greatestPage e_kind e_page e_asked e_sent e_count e_wetSet y_leaves_n y_led_n y_firstWrong_n h_kind_n h_page_n h_asked_n h_sent_n h_count_n h_wetSet_n f_dry f_askedUpTo f_costs f_roots f_size o_aheadOf o_ways o_count sorts slong mcells m_at m_readSlips m_read m_looked_n m_keptSees_n m_sumOfLeaves_n m_ledTo_n m_firstWrong_n m_dryOnes m_dryMany m_costs m_roots m_depth m_row m_placeOf) [0, 1, 2, 3, 4, 5, 6, 7, 8, 9, 10, 11, 12, 13, 14, 15, 16, 17, 18, 19, 20, 21, 22, 23, 24, 25, 26, 27, 28, 29, 30, 31, 32, 33, 34, 35, 36, 37, 38, 39, 40, 41, 42, 43, 44, 45, 46, 47, 48, 49, 50, 51, 52, 53, 54] (by decide) rfl
    refine lv_icmp_eq (tgt := 1110) hx hb dL_law_470 (by decide) (fun _ => ?_) (fun h => absurd rfl h)
    exact kk _ _ _ _ _ _ _ _ _ _ _ _ _ _ _ _ _ _ _ _ _ _ _ _ _ _ _ _ _ _ _ _ _ _ _ _ _ _ _ _ _ _ _ _ _ _ _ _ _ _ _ _ _ _ _ _ _ _ _ _ _ _ _ hI hP hD hS hl
  · obtain ⟨rv, flt_n, y_leaves_n, y_led_n, y_firstWrong_n, h_kind_n, h_page_n, h_asked_n, h_sent_n, h_count_n, h_wetSet_n, m_looked_n, m_keptSees_n, m_sumOfLeaves_n, m_ledTo_n, m_firstWrong_n, hTx, hTm, hI⟩ := T_years flt th la le cf kind page asked sees cnt wet which leaf rds y_leaves y_led y_firstWrong h_kind h_page h_asked h_sent h_count h_wetSet f_askedUpTo f_costs sorts slong mcells m_looked m_keptSees m_sumOfLeaves m_ledTo m_firstWrong 2 (by decide) y1 y2 y3 y4 y5 hr4 hI
    refine lv_aload_n hx hb dL_law_412 rfl (lv_at hl 1 rfl) ?_
    refine lv_aload_n hx hb dL_law_413 rfl (lv_at hl 0 rfl) ?_
    refine lv_iload_n hx hb dL_law_414 rfl (lv_at hl 3 rfl) ?_
    refine lv_iconst (v := 1) hx hb dL_law_415 (by decide) ?_
    refine lv_iadd hx hb dL_law_416 ?_
    refine q_sld hx hb hX hbl hbA hS hi1 hy1 dL_law_417 ?_
    refine lv_aload_n hx hb dL_law_418 rfl (lv_at hl 0 rfl) ?_
    refine lv_iload_n hx hb dL_law_419 rfl (lv_at hl 3 rfl) ?_
    refine lv_iconst (v := 2) hx hb dL_law_420 (by decide) ?_
    refine lv_iadd hx hb dL_law_421 ?_
    refine q_sld hx hb hX hbl hbA hS hi2 hy2 dL_law_422 ?_
    refine lv_aload_n hx hb dL_law_423 rfl (lv_at hl 0 rfl) ?_
    refine lv_iload_n hx hb dL_law_424 rfl (lv_at hl 3 rfl) ?_
    refine lv_iconst (v := 3) hx hb dL_law_425 (by decide) ?_
    refine lv_iadd hx hb dL_law_426 ?_
    refine q_sld hx hb hX hbl hbA hS hi3 hy3 dL_law_427 ?_
    refine lv_aload_n hx hb dL_law_428 rfl (lv_at hl 0 rfl) ?_
    refine lv_iload_n hx hb dL_law_429 rfl (lv_at hl 3 rfl) ?_
    refine lv_iconst (v := 4) hx hb dL_law_430 (by decide) ?_
    refine lv_iadd hx hb dL_law_431 ?_
    refine q_sld hx hb hX hbl hbA hS hi4 hy4 dL_law_432 ?_
    refine lv_aload_n hx hb dL_law_433 rfl (lv_at hl 0 rfl) ?_
    refine lv_iload_n hx hb dL_law_434 rfl (lv_at hl 3 rfl) ?_
    refine lv_iconst (v := 5) hx hb dL_law_435 (by decide) ?_
    refine lv_iadd hx hb dL_law_436 ?_
    refine q_sld hx hb hX hbl hbA hS hi5 hy5 dL_law_437 ?_
    refine q_wVi (wr := [2, 3, 4, 5, 8, 9, 15, 16, 17, 18, 19, 20, 21, 22, 29, 30, 31, 32, 33, 34, 35, 36, 37, 38, 39, 40, 41, 42, 43, 44, 45, 46, 47, 48, 49, 50, 51, 52, 53, 54].filterMap (fun i => (wL ad cI cR ques trc flt th la le cf kind page asked sees cnt wet which leaf rds d_fittingPages d_leastPage d_greatestPage e_kind e_page e_asked e_sent e_count e_wetSet y_leaves y_led y_firstWrong h_kind h_page h_asked h_sent h_count h_wetSet f_dry f_askedUpTo f_costs f_roots f_size o_aheadOf o_ways o_count sorts slong mcells m_at m_readSlips m_read m_looked m_keptSees m_sumOfLeaves m_ledTo m_firstWrong m_dryOnes m_dryMany m_costs m_roots m_depth m_row m_placeOf)[i]?)) (rest := []) ⟨hx, hb, hml, hown, hts⟩ (kX7_years l D cI cR (ad 0) (ad 1) (ad 10) (ad 15) (ad 23) (ad 29) (ad 34) (ad 6) (ad 7) (ad 11) (ad 12) (ad 13) (ad 14) (ad 24) (ad 25) (ad 26) (ad 27) (ad 28) (rwF ad) ques trc flt (cf 2) (th 2) (la 2) (le 2) kind page asked sees cnt wet y_leaves y_led y_firstWrong h_kind h_page h_asked h_sent h_count h_wetSet y1 y2 y3 y4 y5 (fun h => by rw [hr4 h]; rfl) (rv, flt_n, y_leaves_n, y_led_n, y_firstWrong_n, h_kind_n, h_page_n, h_asked_n, h_sent_n, h_count_n, h_wetSet_n) hTx) (cwV 5 hts gT_X7_years rfl rfl rfl (by decide +kernel) ⟨Nat.le_of_ble_eq_true rfl, Nat.le_of_ble_eq_true rfl⟩) hP hD hS hA hK hN [0, 1, 6, 7, 10, 11, 12, 13, 14, 23, 24, 25, 26, 27, 28] [2, 3, 4, 5, 8, 9, 15, 16, 17, 18, 19, 20, 21, 22, 29, 30, 31, 32, 33, 34, 35, 36, 37, 38, 39, 40, 41, 42, 43, 44, 45, 46, 47, 48, 49, 50, 51, 52, 53, 54] rfl rfl (by decide) (by decide) (by decide) (va_recv hK hP (ci := 6) (q0 := 0) rfl rfl) rfl hl.1 rfl (Nat.le_of_ble_eq_true rfl) dL_law_438 ⟨Nat.le_of_ble_eq_true rfl, Nat.le_of_ble_eq_true rfl⟩ (fun H locs hP hD hS => ?_)
    have hP := hP.sub (ws' := wL ad cI cR ques trc flt_n th la le cf kind page asked sees cnt wet which leaf rds d_fittingPages d_leastPage d_greatestPage e_kind e_page e_asked e_sent e_count e_wetSet y_leaves_n y_led_n y_firstWrong_n h_kind_n h_page_n h_asked_n h_sent_n h_count_n h_wetSet_n f_dry f_askedUpTo f_costs f_roots f_size o_aheadOf o_ways o_count sorts slong mcells m_at m_readSlips m_read m_looked m_keptSees m_sumOfLeaves m_ledTo m_firstWrong m_dryOnes m_dryMany m_costs m_roots m_depth m_row m_placeOf) [40, 41, 0, 1, 2, 3, 42, 43, 4, 5, 44, 45, 46, 47, 48, 6, 7, 8, 9, 10, 11, 12, 13, 49, 50, 51, 52, 53, 54, 14, 15, 16, 17, 18, 19, 20, 21, 22, 23, 24, 25, 26, 27, 28, 29, 30, 31, 32, 33, 34, 35, 36, 37, 38, 39] rfl
    have hD := hD.sub (ws' := wL ad cI cR ques trc flt_n th la le cf kind page asked sees cnt wet which leaf rds d_fittingPages d_leastPage d_greatestPage e_kind e_page e_asked e_sent e_count e_wetSet y_leaves_n y_led_n y_firstWrong_n h_kind_n h_page_n h_asked_n h_sent_n h_count_n h_wetSet_n f_dry f_askedUpTo f_costs f_roots f_size o_aheadOf o_ways o_count sorts slong mcells m_at m_readSlips m_read m_looked m_keptSees m_sumOfLeaves m_ledTo m_firstWrong m_dryOnes m_dryMany m_costs m_roots m_depth m_row m_placeOf) [40, 41, 0, 1, 2, 3, 42, 43, 4, 5, 44, 45, 46, 47, 48, 6, 7, 8, 9, 10, 11, 12, 13, 49, 50, 51, 52, 53, 54, 14, 15, 16, 17, 18, 19, 20, 21, 22, 23, 24, 25, 26, 27, 28, 29, 30, 31, 32, 33, 34, 35, 36, 37, 38, 39] (by decide) rfl
    refine lv_aload_n hx hb dL_law_441 rfl (lv_at hl 2 rfl) ?_
    refine lv_aload_n hx hb dL_law_442 rfl (lv_at hl 0 rfl) ?_
    refine lv_iload_n hx hb dL_law_443 rfl (lv_at hl 3 rfl) ?_
    refine lv_iconst (v := 1) hx hb dL_law_444 (by decide) ?_
    refine lv_iadd hx hb dL_law_445 ?_
    refine q_sld hx hb hX hbl hbA hS hi1 hy1 dL_law_446 ?_
    refine lv_aload_n hx hb dL_law_447 rfl (lv_at hl 0 rfl) ?_
    refine lv_iload_n hx hb dL_law_448 rfl (lv_at hl 3 rfl) ?_
    refine lv_iconst (v := 2) hx hb dL_law_449 (by decide) ?_
    refine lv_iadd hx hb dL_law_450 ?_
    refine q_sld hx hb hX hbl hbA hS hi2 hy2 dL_law_451 ?_
    refine lv_aload_n hx hb dL_law_452 rfl (lv_at hl 0 rfl) ?_
    refine lv_iload_n hx hb dL_law_453 rfl (lv_at hl 3 rfl) ?_
    refine lv_iconst (v := 3) hx hb dL_law_454 (by decide) ?_
    refine lv_iadd hx hb dL_law_455 ?_
    refine q_sld hx hb hX hbl hbA hS hi3 hy3 dL_law_456 ?_
    refine lv_aload_n hx hb dL_law_457 rfl (lv_at hl 0 rfl) ?_
    refine lv_iload_n hx hb dL_law_458 rfl (lv_at hl 3 rfl) ?_
    refine lv_iconst (v := 4) hx hb dL_law_459 (by decide) ?_
    refine lv_iadd hx hb dL_law_460 ?_
    refine q_sld hx hb hX hbl hbA hS hi4 hy4 dL_law_461 ?_
    refine lv_aload_n hx hb dL_law_462 rfl (lv_at hl 0 rfl) ?_
    refine lv_iload_n hx hb dL_law_463 rfl (lv_at hl 3 rfl) ?_
    refine lv_iconst (v := 5) hx hb dL_law_464 (by decide) ?_
    refine lv_iadd hx hb dL_law_465 ?_
    refine q_sld hx hb hX hbl hbA hS hi5 hy5 dL_law_466 ?_
    refine q_wVi (wr := [0, 1, 2, 3, 4, 5, 6, 7, 8, 9, 10, 11, 12, 13, 14, 15, 16, 17, 18, 19, 20, 21, 22, 23, 24, 25, 26, 27, 28, 29, 30, 31, 32, 33, 34, 35, 36].filterMap (fun i => (wL ad cI cR ques trc flt_n th la le cf kind page asked sees cnt wet which leaf rds d_fittingPages d_leastPage d_greatestPage e_kind e_page e_asked e_sent e_count e_wetSet y_leaves_n y_led_n y_firstWrong_n h_kind_n h_page_n h_asked_n h_sent_n h_count_n h_wetSet_n f_dry f_askedUpTo f_costs f_roots f_size o_aheadOf o_ways o_count sorts slong mcells m_at m_readSlips m_read m_looked m_keptSees m_sumOfLeaves m_ledTo m_firstWrong m_dryOnes m_dryMany m_costs m_roots m_depth m_row m_placeOf)[i]?)) (rest := [.int rv]) ⟨hx, hb, hml, hown, hts⟩ (kX8_years l D cI cR (ad 37) (ad 38) (ad 39) (ad 40) (ad 41) (ad 42) (ad 43) (ad 44) (ad 45) (ad 46) (ad 47) (ad 48) (ad 49) (ad 50) (ad 51) (ad 52) (ad 53) (ad 54) flt_n trc sorts slong mcells cnt ques wet kind page asked sees m_at m_readSlips m_read m_looked m_keptSees m_sumOfLeaves m_ledTo m_firstWrong m_dryOnes m_dryMany m_costs m_roots m_depth m_row m_placeOf rds which leaf y1 y2 y3 y4 y5 (rv, flt_n, wet, sees, m_looked_n, m_keptSees_n, m_sumOfLeaves_n, m_ledTo_n, m_firstWrong_n) hTm) (cwV 5 hts gT_X8_years rfl rfl rfl (by decide +kernel) ⟨Nat.le_of_ble_eq_true rfl, Nat.le_of_ble_eq_true rfl⟩) hP hD hS hA hK hN [37, 38, 39, 40, 41, 42, 43, 44, 45, 46, 47, 48, 49, 50, 51, 52, 53, 54] [0, 1, 2, 3, 4, 5, 6, 7, 8, 9, 10, 11, 12, 13, 14, 15, 16, 17, 18, 19, 20, 21, 22, 23, 24, 25, 26, 27, 28, 29, 30, 31, 32, 33, 34, 35, 36] rfl rfl (by decide) (by decide) (by decide) (va_recv hK hP (ci := 7) (q0 := 37) rfl rfl) rfl hl.1 rfl (Nat.le_of_ble_eq_true rfl) dL_law_467 ⟨Nat.le_of_ble_eq_true rfl, Nat.le_of_ble_eq_true rfl⟩ (fun H locs hP hD hS => ?_)
    have hP := hP.sub (ws' := wL ad cI cR ques trc flt_n th la le cf kind page asked sees cnt wet which leaf rds d_fittingPages d_leastPage d_greatestPage e_kind e_page e_asked e_sent e_count e_wetSet y_leaves_n y_led_n y_firstWrong_n h_kind_n h_page_n h_asked_n h_sent_n h_count_n h_wetSet_n f_dry f_askedUpTo f_costs f_roots f_size o_aheadOf o_ways o_count sorts slong mcells m_at m_readSlips m_read m_looked_n m_keptSees_n m_sumOfLeaves_n m_ledTo_n m_firstWrong_n m_dryOnes m_dryMany m_costs m_roots m_depth m_row m_placeOf) [0, 1, 2, 3, 4, 5, 6, 7, 8, 9, 10, 11, 12, 13, 14, 15, 16, 17, 18, 19, 20, 21, 22, 23, 24, 25, 26, 27, 28, 29, 30, 31, 32, 33, 34, 35, 36, 37, 38, 39, 40, 41, 42, 43, 44, 45, 46, 47, 48, 49, 50, 51, 52, 53, 54] rfl
    have hD := hD.sub (ws' := wL ad cI cR ques trc flt_n th la le cf kind page asked sees cnt wet which leaf rds d_fittingPages d_leastPage d_greatestPage e_kind e_page e_asked e_sent e_count e_wetSet y_leaves_n y_led_n y_firstWrong_n h_kind_n h_page_n h_asked_n h_sent_n h_count_n h_wetSet_n f_dry f_askedUpTo f_costs f_roots f_size o_aheadOf o_ways o_count sorts slong mcells m_at m_readSlips m_read m_looked_n m_keptSees_n m_sumOfLeaves_n m_ledTo_n m_firstWrong_n m_dryOnes m_dryMany m_costs m_roots m_depth m_row m_placeOf) [0, 1, 2, 3, 4, 5, 6, 7, 8, 9, 10, 11, 12, 13, 14, 15, 16, 17, 18, 19, 20, 21, 22, 23, 24, 25, 26, 27, 28, 29, 30, 31, 32, 33, 34, 35, 36, 37, 38, 39, 40, 41, 42, 43, 44, 45, 46, 47, 48, 49, 50, 51, 52, 53, 54] (by decide) rfl
    refine lv_icmp_eq (tgt := 1110) hx hb dL_law_470 (by decide) (fun _ => ?_) (fun h => absurd rfl h)
    exact kk _ _ _ _ _ _ _ _ _ _ _ _ _ _ _ _ _ _ _ _ _ _ _ _ _ _ _ _ _ _ _ _ _ _ _ _ _ _ _ _ _ _ _ _ _ _ _ _ _ _ _ _ _ _ _ _ _ _ _ _ _ _ _ hI hP hD hS hl
  · obtain ⟨rv, flt_n, y_leaves_n, y_led_n, y_firstWrong_n, h_kind_n, h_page_n, h_asked_n, h_sent_n, h_count_n, h_wetSet_n, m_looked_n, m_keptSees_n, m_sumOfLeaves_n, m_ledTo_n, m_firstWrong_n, hTx, hTm, hI⟩ := T_years flt th la le cf kind page asked sees cnt wet which leaf rds y_leaves y_led y_firstWrong h_kind h_page h_asked h_sent h_count h_wetSet f_askedUpTo f_costs sorts slong mcells m_looked m_keptSees m_sumOfLeaves m_ledTo m_firstWrong 3 (by decide) y1 y2 y3 y4 y5 hr4 hI
    refine lv_aload_n hx hb dL_law_412 rfl (lv_at hl 1 rfl) ?_
    refine lv_aload_n hx hb dL_law_413 rfl (lv_at hl 0 rfl) ?_
    refine lv_iload_n hx hb dL_law_414 rfl (lv_at hl 3 rfl) ?_
    refine lv_iconst (v := 1) hx hb dL_law_415 (by decide) ?_
    refine lv_iadd hx hb dL_law_416 ?_
    refine q_sld hx hb hX hbl hbA hS hi1 hy1 dL_law_417 ?_
    refine lv_aload_n hx hb dL_law_418 rfl (lv_at hl 0 rfl) ?_
    refine lv_iload_n hx hb dL_law_419 rfl (lv_at hl 3 rfl) ?_
    refine lv_iconst (v := 2) hx hb dL_law_420 (by decide) ?_
    refine lv_iadd hx hb dL_law_421 ?_
    refine q_sld hx hb hX hbl hbA hS hi2 hy2 dL_law_422 ?_
    refine lv_aload_n hx hb dL_law_423 rfl (lv_at hl 0 rfl) ?_
    refine lv_iload_n hx hb dL_law_424 rfl (lv_at hl 3 rfl) ?_
    refine lv_iconst (v := 3) hx hb dL_law_425 (by decide) ?_
    refine lv_iadd hx hb dL_law_426 ?_
    refine q_sld hx hb hX hbl hbA hS hi3 hy3 dL_law_427 ?_
    refine lv_aload_n hx hb dL_law_428 rfl (lv_at hl 0 rfl) ?_
    refine lv_iload_n hx hb dL_law_429 rfl (lv_at hl 3 rfl) ?_
    refine lv_iconst (v := 4) hx hb dL_law_430 (by decide) ?_
    refine lv_iadd hx hb dL_law_431 ?_
    refine q_sld hx hb hX hbl hbA hS hi4 hy4 dL_law_432 ?_
    refine lv_aload_n hx hb dL_law_433 rfl (lv_at hl 0 rfl) ?_
    refine lv_iload_n hx hb dL_law_434 rfl (lv_at hl 3 rfl) ?_
    refine lv_iconst (v := 5) hx hb dL_law_435 (by decide) ?_
    refine lv_iadd hx hb dL_law_436 ?_
    refine q_sld hx hb hX hbl hbA hS hi5 hy5 dL_law_437 ?_
    refine q_wVi (wr := [2, 3, 4, 5, 6, 7, 15, 16, 17, 18, 19, 20, 21, 22, 29, 30, 31, 32, 33, 34, 35, 36, 37, 38, 39, 40, 41, 42, 43, 44, 45, 46, 47, 48, 49, 50, 51, 52, 53, 54].filterMap (fun i => (wL ad cI cR ques trc flt th la le cf kind page asked sees cnt wet which leaf rds d_fittingPages d_leastPage d_greatestPage e_kind e_page e_asked e_sent e_count e_wetSet y_leaves y_led y_firstWrong h_kind h_page h_asked h_sent h_count h_wetSet f_dry f_askedUpTo f_costs f_roots f_size o_aheadOf o_ways o_count sorts slong mcells m_at m_readSlips m_read m_looked m_keptSees m_sumOfLeaves m_ledTo m_firstWrong m_dryOnes m_dryMany m_costs m_roots m_depth m_row m_placeOf)[i]?)) (rest := []) ⟨hx, hb, hml, hown, hts⟩ (kX7_years l D cI cR (ad 0) (ad 1) (ad 10) (ad 15) (ad 23) (ad 29) (ad 34) (ad 8) (ad 9) (ad 11) (ad 12) (ad 13) (ad 14) (ad 24) (ad 25) (ad 26) (ad 27) (ad 28) (rwF ad) ques trc flt (cf 3) (th 3) (la 3) (le 3) kind page asked sees cnt wet y_leaves y_led y_firstWrong h_kind h_page h_asked h_sent h_count h_wetSet y1 y2 y3 y4 y5 (fun h => by rw [hr4 h]; rfl) (rv, flt_n, y_leaves_n, y_led_n, y_firstWrong_n, h_kind_n, h_page_n, h_asked_n, h_sent_n, h_count_n, h_wetSet_n) hTx) (cwV 5 hts gT_X7_years rfl rfl rfl (by decide +kernel) ⟨Nat.le_of_ble_eq_true rfl, Nat.le_of_ble_eq_true rfl⟩) hP hD hS hA hK hN [0, 1, 8, 9, 10, 11, 12, 13, 14, 23, 24, 25, 26, 27, 28] [2, 3, 4, 5, 6, 7, 15, 16, 17, 18, 19, 20, 21, 22, 29, 30, 31, 32, 33, 34, 35, 36, 37, 38, 39, 40, 41, 42, 43, 44, 45, 46, 47, 48, 49, 50, 51, 52, 53, 54] rfl rfl (by decide) (by decide) (by decide) (va_recv hK hP (ci := 6) (q0 := 0) rfl rfl) rfl hl.1 rfl (Nat.le_of_ble_eq_true rfl) dL_law_438 ⟨Nat.le_of_ble_eq_true rfl, Nat.le_of_ble_eq_true rfl⟩ (fun H locs hP hD hS => ?_)
    have hP := hP.sub (ws' := wL ad cI cR ques trc flt_n th la le cf kind page asked sees cnt wet which leaf rds d_fittingPages d_leastPage d_greatestPage e_kind e_page e_asked e_sent e_count e_wetSet y_leaves_n y_led_n y_firstWrong_n h_kind_n h_page_n h_asked_n h_sent_n h_count_n h_wetSet_n f_dry f_askedUpTo f_costs f_roots f_size o_aheadOf o_ways o_count sorts slong mcells m_at m_readSlips m_read m_looked m_keptSees m_sumOfLeaves m_ledTo m_firstWrong m_dryOnes m_dryMany m_costs m_roots m_depth m_row m_placeOf) [40, 41, 0, 1, 2, 3, 4, 5, 42, 43, 44, 45, 46, 47, 48, 6, 7, 8, 9, 10, 11, 12, 13, 49, 50, 51, 52, 53, 54, 14, 15, 16, 17, 18, 19, 20, 21, 22, 23, 24, 25, 26, 27, 28, 29, 30, 31, 32, 33, 34, 35, 36, 37, 38, 39] rfl
    have hD := hD.sub (ws' := wL ad cI cR ques trc flt_n th la le cf kind page asked sees cnt wet which leaf rds d_fittingPages d_leastPage d_greatestPage e_kind e_page e_asked e_sent e_count e_wetSet y_leaves_n y_led_n y_firstWrong_n h_kind_n h_page_n h_asked_n h_sent_n h_count_n h_wetSet_n f_dry f_askedUpTo f_costs f_roots f_size o_aheadOf o_ways o_count sorts slong mcells m_at m_readSlips m_read m_looked m_keptSees m_sumOfLeaves m_ledTo m_firstWrong m_dryOnes m_dryMany m_costs m_roots m_depth m_row m_placeOf) [40, 41, 0, 1, 2, 3, 4, 5, 42, 43, 44, 45, 46, 47, 48, 6, 7, 8, 9, 10, 11, 12, 13, 49, 50, 51, 52, 53, 54, 14, 15, 16, 17, 18, 19, 20, 21, 22, 23, 24, 25, 26, 27, 28, 29, 30, 31, 32, 33, 34, 35, 36, 37, 38, 39] (by decide) rfl
    refine lv_aload_n hx hb dL_law_441 rfl (lv_at hl 2 rfl) ?_
    refine lv_aload_n hx hb dL_law_442 rfl (lv_at hl 0 rfl) ?_
    refine lv_iload_n hx hb dL_law_443 rfl (lv_at hl 3 rfl) ?_
    refine lv_iconst (v := 1) hx hb dL_law_444 (by decide) ?_
    refine lv_iadd hx hb dL_law_445 ?_
    refine q_sld hx hb hX hbl hbA hS hi1 hy1 dL_law_446 ?_
    refine lv_aload_n hx hb dL_law_447 rfl (lv_at hl 0 rfl) ?_
    refine lv_iload_n hx hb dL_law_448 rfl (lv_at hl 3 rfl) ?_
    refine lv_iconst (v := 2) hx hb dL_law_449 (by decide) ?_
    refine lv_iadd hx hb dL_law_450 ?_
    refine q_sld hx hb hX hbl hbA hS hi2 hy2 dL_law_451 ?_
    refine lv_aload_n hx hb dL_law_452 rfl (lv_at hl 0 rfl) ?_
    refine lv_iload_n hx hb dL_law_453 rfl (lv_at hl 3 rfl) ?_
    refine lv_iconst (v := 3) hx hb dL_law_454 (by decide) ?_
    refine lv_iadd hx hb dL_law_455 ?_
    refine q_sld hx hb hX hbl hbA hS hi3 hy3 dL_law_456 ?_
    refine lv_aload_n hx hb dL_law_457 rfl (lv_at hl 0 rfl) ?_
    refine lv_iload_n hx hb dL_law_458 rfl (lv_at hl 3 rfl) ?_
    refine lv_iconst (v := 4) hx hb dL_law_459 (by decide) ?_
    refine lv_iadd hx hb dL_law_460 ?_
    refine q_sld hx hb hX hbl hbA hS hi4 hy4 dL_law_461 ?_
    refine lv_aload_n hx hb dL_law_462 rfl (lv_at hl 0 rfl) ?_
    refine lv_iload_n hx hb dL_law_463 rfl (lv_at hl 3 rfl) ?_
    refine lv_iconst (v := 5) hx hb dL_law_464 (by decide) ?_
    refine lv_iadd hx hb dL_law_465 ?_
    refine q_sld hx hb hX hbl hbA hS hi5 hy5 dL_law_466 ?_
    refine q_wVi (wr := [0, 1, 2, 3, 4, 5, 6, 7, 8, 9, 10, 11, 12, 13, 14, 15, 16, 17, 18, 19, 20, 21, 22, 23, 24, 25, 26, 27, 28, 29, 30, 31, 32, 33, 34, 35, 36].filterMap (fun i => (wL ad cI cR ques trc flt_n th la le cf kind page asked sees cnt wet which leaf rds d_fittingPages d_leastPage d_greatestPage e_kind e_page e_asked e_sent e_count e_wetSet y_leaves_n y_led_n y_firstWrong_n h_kind_n h_page_n h_asked_n h_sent_n h_count_n h_wetSet_n f_dry f_askedUpTo f_costs f_roots f_size o_aheadOf o_ways o_count sorts slong mcells m_at m_readSlips m_read m_looked m_keptSees m_sumOfLeaves m_ledTo m_firstWrong m_dryOnes m_dryMany m_costs m_roots m_depth m_row m_placeOf)[i]?)) (rest := [.int rv]) ⟨hx, hb, hml, hown, hts⟩ (kX8_years l D cI cR (ad 37) (ad 38) (ad 39) (ad 40) (ad 41) (ad 42) (ad 43) (ad 44) (ad 45) (ad 46) (ad 47) (ad 48) (ad 49) (ad 50) (ad 51) (ad 52) (ad 53) (ad 54) flt_n trc sorts slong mcells cnt ques wet kind page asked sees m_at m_readSlips m_read m_looked m_keptSees m_sumOfLeaves m_ledTo m_firstWrong m_dryOnes m_dryMany m_costs m_roots m_depth m_row m_placeOf rds which leaf y1 y2 y3 y4 y5 (rv, flt_n, wet, sees, m_looked_n, m_keptSees_n, m_sumOfLeaves_n, m_ledTo_n, m_firstWrong_n) hTm) (cwV 5 hts gT_X8_years rfl rfl rfl (by decide +kernel) ⟨Nat.le_of_ble_eq_true rfl, Nat.le_of_ble_eq_true rfl⟩) hP hD hS hA hK hN [37, 38, 39, 40, 41, 42, 43, 44, 45, 46, 47, 48, 49, 50, 51, 52, 53, 54] [0, 1, 2, 3, 4, 5, 6, 7, 8, 9, 10, 11, 12, 13, 14, 15, 16, 17, 18, 19, 20, 21, 22, 23, 24, 25, 26, 27, 28, 29, 30, 31, 32, 33, 34, 35, 36] rfl rfl (by decide) (by decide) (by decide) (va_recv hK hP (ci := 7) (q0 := 37) rfl rfl) rfl hl.1 rfl (Nat.le_of_ble_eq_true rfl) dL_law_467 ⟨Nat.le_of_ble_eq_true rfl, Nat.le_of_ble_eq_true rfl⟩ (fun H locs hP hD hS => ?_)
    have hP := hP.sub (ws' := wL ad cI cR ques trc flt_n th la le cf kind page asked sees cnt wet which leaf rds d_fittingPages d_leastPage d_greatestPage e_kind e_page e_asked e_sent e_count e_wetSet y_leaves_n y_led_n y_firstWrong_n h_kind_n h_page_n h_asked_n h_sent_n h_count_n h_wetSet_n f_dry f_askedUpTo f_costs f_roots f_size o_aheadOf o_ways o_count sorts slong mcells m_at m_readSlips m_read m_looked_n m_keptSees_n m_sumOfLeaves_n m_ledTo_n m_firstWrong_n m_dryOnes m_dryMany m_costs m_roots m_depth m_row m_placeOf) [0, 1, 2, 3, 4, 5, 6, 7, 8, 9, 10, 11, 12, 13, 14, 15, 16, 17, 18, 19, 20, 21, 22, 23, 24, 25, 26, 27, 28, 29, 30, 31, 32, 33, 34, 35, 36, 37, 38, 39, 40, 41, 42, 43, 44, 45, 46, 47, 48, 49, 50, 51, 52, 53, 54] rfl
    have hD := hD.sub (ws' := wL ad cI cR ques trc flt_n th la le cf kind page asked sees cnt wet which leaf rds d_fittingPages d_leastPage d_greatestPage e_kind e_page e_asked e_sent e_count e_wetSet y_leaves_n y_led_n y_firstWrong_n h_kind_n h_page_n h_asked_n h_sent_n h_count_n h_wetSet_n f_dry f_askedUpTo f_costs f_roots f_size o_aheadOf o_ways o_count sorts slong mcells m_at m_readSlips m_read m_looked_n m_keptSees_n m_sumOfLeaves_n m_ledTo_n m_firstWrong_n m_dryOnes m_dryMany m_costs m_roots m_depth m_row m_placeOf) [0, 1, 2, 3, 4, 5, 6, 7, 8, 9, 10, 11, 12, 13, 14, 15, 16, 17, 18, 19, 20, 21, 22, 23, 24, 25, 26, 27, 28, 29, 30, 31, 32, 33, 34, 35, 36, 37, 38, 39, 40, 41, 42, 43, 44, 45, 46, 47, 48, 49, 50, 51, 52, 53, 54] (by decide) rfl
    refine lv_icmp_eq (tgt := 1110) hx hb dL_law_470 (by decide) (fun _ => ?_) (fun h => absurd rfl h)
    exact kk _ _ _ _ _ _ _ _ _ _ _ _ _ _ _ _ _ _ _ _ _ _ _ _ _ _ _ _ _ _ _ _ _ _ _ _ _ _ _ _ _ _ _ _ _ _ _ _ _ _ _ _ _ _ _ _ _ _ _ _ _ _ _ hI hP hD hS hl
set_option maxHeartbeats 8000000 in
set_option maxRecDepth 100000 in
theorem case_9 {p : Program} {l : Launch} {e : Env} {s : State} {m : MethodId} {args : Array Value} {below : List Frame} {meth : Method} {c : Code} {Q : State → Prop} {D : va_G} {cI cR : ClassId} {ad : Nat → Nat} {b L : Nat} {xs : Nat → Int32} {x3 : Int32} (C : LawC p s m args c D cI cR b L xs x3) (kk : AtL p l e s m args below meth c Q D cI cR ad b x3 1110) : AtL p l e s m args below meth c Q D cI cR ad b x3 475 := by
  obtain ⟨hx, hb, hml, hown, hts, hX, hbl, hK, hN, hi1, hi2, hi3, hi4, hi5⟩ := C
  have hA : ∀ q : Nat, s.heap.size ≤ q → AL s q := fun _ h => h
  have hbA : ¬ AL s b := Nat.not_le.mpr hbl
  intro ques trc flt th la le cf kind page asked sees cnt wet which leaf rds d_fittingPages d_leastPage d_greatestPage e_kind e_page e_asked e_sent e_count e_wetSet y_leaves y_led y_firstWrong h_kind h_page h_asked h_sent h_count h_wetSet f_dry f_askedUpTo f_costs f_roots f_size o_aheadOf o_ways o_count sorts slong mcells m_at m_readSlips m_read m_looked m_keptSees m_sumOfLeaves m_ledTo m_firstWrong m_dryOnes m_dryMany m_costs m_roots m_depth m_row m_placeOf H locs ls hI hP hD hS hl
  obtain ⟨y1, hy1⟩ : ∃ y, xs (x3 + 1).toNatClampNeg = y := ⟨_, rfl⟩
  obtain ⟨rv, hTx, hTm, hI⟩ := T_rings th la le cf kind page asked sees cnt wet which leaf rds f_askedUpTo f_costs sorts slong mcells y1 hI
  refine lv_aload_n hx hb dL_law_475 rfl (lv_at hl 1 rfl) ?_
  refine lv_aload_n hx hb dL_law_476 rfl (lv_at hl 0 rfl) ?_
  refine lv_iload_n hx hb dL_law_477 rfl (lv_at hl 3 rfl) ?_
  refine lv_iconst (v := 1) hx hb dL_law_478 (by decide) ?_
  refine lv_iadd hx hb dL_law_479 ?_
  refine q_sld hx hb hX hbl hbA hS hi1 hy1 dL_law_480 ?_
  refine q_rV (rest := []) ⟨hx, hb, hml, hown, hts⟩ (kX7_rings l D cI cR (ad 0) (ad 1) (ad 10) (ad 15) (ad 23) (ad 29) (ad 34) (ad 11) (ad 12) (ad 13) (ad 14) ques trc flt kind page asked sees cnt wet y1 rv hTx) (cwV 1 hts gT_X7_rings rfl rfl rfl (by decide +kernel) ⟨Nat.le_of_ble_eq_true rfl, Nat.le_of_ble_eq_true rfl⟩) (hP.sub [0, 10, 11, 12, 13, 14] rfl) hK hN (va_recv hK hP (ci := 6) (q0 := 0) rfl rfl) rfl hl.1 rfl (Nat.le_of_ble_eq_true rfl) dL_law_481 ⟨Nat.le_of_ble_eq_true rfl, Nat.le_of_ble_eq_true rfl⟩ ?_
  refine lv_aload_n hx hb dL_law_484 rfl (lv_at hl 2 rfl) ?_
  refine lv_aload_n hx hb dL_law_485 rfl (lv_at hl 0 rfl) ?_
  refine lv_iload_n hx hb dL_law_486 rfl (lv_at hl 3 rfl) ?_
  refine lv_iconst (v := 1) hx hb dL_law_487 (by decide) ?_
  refine lv_iadd hx hb dL_law_488 ?_
  refine q_sld hx hb hX hbl hbA hS hi1 hy1 dL_law_489 ?_
  refine q_rV (rest := [.int rv]) ⟨hx, hb, hml, hown, hts⟩ (kX8_rings l D cI cR (ad 37) (ad 38) (ad 39) (ad 40) (ad 41) (ad 42) (ad 43) (ad 44) (ad 45) (ad 46) (ad 47) (ad 48) (ad 49) (ad 50) (ad 51) (ad 52) (ad 53) (ad 54) flt trc sorts slong mcells cnt ques wet kind page asked sees m_at m_readSlips m_read m_looked m_keptSees m_sumOfLeaves m_ledTo m_firstWrong m_dryOnes m_dryMany m_costs m_roots m_depth m_row m_placeOf rds which leaf y1 rv hTm) (cwV 1 hts gT_X8_rings rfl rfl rfl (by decide +kernel) ⟨Nat.le_of_ble_eq_true rfl, Nat.le_of_ble_eq_true rfl⟩) (hP.sub [37, 38, 39, 40, 41, 42, 43, 44, 45, 46, 47, 48, 49, 50, 51, 52, 53, 54] rfl) hK hN (va_recv hK hP (ci := 7) (q0 := 37) rfl rfl) rfl hl.1 rfl (Nat.le_of_ble_eq_true rfl) dL_law_490 ⟨Nat.le_of_ble_eq_true rfl, Nat.le_of_ble_eq_true rfl⟩ ?_
  refine lv_icmp_eq (tgt := 1110) hx hb dL_law_493 (by decide) (fun _ => ?_) (fun h => absurd rfl h)
  exact kk _ _ _ _ _ _ _ _ _ _ _ _ _ _ _ _ _ _ _ _ _ _ _ _ _ _ _ _ _ _ _ _ _ _ _ _ _ _ _ _ _ _ _ _ _ _ _ _ _ _ _ _ _ _ _ _ _ _ _ _ _ _ _ hI hP hD hS hl
set_option maxHeartbeats 8000000 in
set_option maxRecDepth 100000 in
theorem case_10 {p : Program} {l : Launch} {e : Env} {s : State} {m : MethodId} {args : Array Value} {below : List Frame} {meth : Method} {c : Code} {Q : State → Prop} {D : va_G} {cI cR : ClassId} {ad : Nat → Nat} {b L : Nat} {xs : Nat → Int32} {x3 : Int32} (C : LawC p s m args c D cI cR b L xs x3) (kk : AtL p l e s m args below meth c Q D cI cR ad b x3 1110) : AtL p l e s m args below meth c Q D cI cR ad b x3 498 := by
  obtain ⟨hx, hb, hml, hown, hts, hX, hbl, hK, hN, hi1, hi2, hi3, hi4, hi5⟩ := C
  have hA : ∀ q : Nat, s.heap.size ≤ q → AL s q := fun _ h => h
  have hbA : ¬ AL s b := Nat.not_le.mpr hbl
  intro ques trc flt th la le cf kind page asked sees cnt wet which leaf rds d_fittingPages d_leastPage d_greatestPage e_kind e_page e_asked e_sent e_count e_wetSet y_leaves y_led y_firstWrong h_kind h_page h_asked h_sent h_count h_wetSet f_dry f_askedUpTo f_costs f_roots f_size o_aheadOf o_ways o_count sorts slong mcells m_at m_readSlips m_read m_looked m_keptSees m_sumOfLeaves m_ledTo m_firstWrong m_dryOnes m_dryMany m_costs m_roots m_depth m_row m_placeOf H locs ls hI hP hD hS hl
  obtain ⟨rv, hTx, hTm, hI⟩ := T_cuts th la le cf kind page asked sees cnt wet which leaf rds f_askedUpTo f_costs sorts slong mcells  hI
  refine lv_aload_n hx hb dL_law_498 rfl (lv_at hl 1 rfl) ?_
  refine q_rV (rest := []) ⟨hx, hb, hml, hown, hts⟩ (kX7_cuts l D cI cR (ad 0) (ad 1) (ad 10) (ad 15) (ad 23) (ad 29) (ad 34) (ad 11) (ad 12) (ad 13) (ad 14) ques trc flt kind page asked sees cnt wet  rv hTx) (cwV 0 hts gT_X7_cuts rfl rfl rfl (by decide +kernel) ⟨Nat.le_of_ble_eq_true rfl, Nat.le_of_ble_eq_true rfl⟩) (hP.sub [0, 10, 11, 12, 13, 14] rfl) hK hN (va_recv hK hP (ci := 6) (q0 := 0) rfl rfl) rfl hl.1 rfl (Nat.le_of_ble_eq_true rfl) dL_law_499 ⟨Nat.le_of_ble_eq_true rfl, Nat.le_of_ble_eq_true rfl⟩ ?_
  refine lv_aload_n hx hb dL_law_502 rfl (lv_at hl 2 rfl) ?_
  refine q_rV (rest := [.int rv]) ⟨hx, hb, hml, hown, hts⟩ (kX8_cuts l D cI cR (ad 37) (ad 38) (ad 39) (ad 40) (ad 41) (ad 42) (ad 43) (ad 44) (ad 45) (ad 46) (ad 47) (ad 48) (ad 49) (ad 50) (ad 51) (ad 52) (ad 53) (ad 54) flt trc sorts slong mcells cnt ques wet kind page asked sees m_at m_readSlips m_read m_looked m_keptSees m_sumOfLeaves m_ledTo m_firstWrong m_dryOnes m_dryMany m_costs m_roots m_depth m_row m_placeOf rds which leaf  rv hTm) (cwV 0 hts gT_X8_cuts rfl rfl rfl (by decide +kernel) ⟨Nat.le_of_ble_eq_true rfl, Nat.le_of_ble_eq_true rfl⟩) (hP.sub [37, 38, 39, 40, 41, 42, 43, 44, 45, 46, 47, 48, 49, 50, 51, 52, 53, 54] rfl) hK hN (va_recv hK hP (ci := 7) (q0 := 37) rfl rfl) rfl hl.1 rfl (Nat.le_of_ble_eq_true rfl) dL_law_503 ⟨Nat.le_of_ble_eq_true rfl, Nat.le_of_ble_eq_true rfl⟩ ?_
  refine lv_icmp_eq (tgt := 1110) hx hb dL_law_506 (by decide) (fun _ => ?_) (fun h => absurd rfl h)
  exact kk _ _ _ _ _ _ _ _ _ _ _ _ _ _ _ _ _ _ _ _ _ _ _ _ _ _ _ _ _ _ _ _ _ _ _ _ _ _ _ _ _ _ _ _ _ _ _ _ _ _ _ _ _ _ _ _ _ _ _ _ _ _ _ hI hP hD hS hl
set_option maxHeartbeats 8000000 in
set_option maxRecDepth 100000 in
theorem case_11 {p : Program} {l : Launch} {e : Env} {s : State} {m : MethodId} {args : Array Value} {below : List Frame} {meth : Method} {c : Code} {Q : State → Prop} {D : va_G} {cI cR : ClassId} {ad : Nat → Nat} {b L : Nat} {xs : Nat → Int32} {x3 : Int32} (C : LawC p s m args c D cI cR b L xs x3) (kk : AtL p l e s m args below meth c Q D cI cR ad b x3 1110) : AtL p l e s m args below meth c Q D cI cR ad b x3 511 := by
  obtain ⟨hx, hb, hml, hown, hts, hX, hbl, hK, hN, hi1, hi2, hi3, hi4, hi5⟩ := C
  have hA : ∀ q : Nat, s.heap.size ≤ q → AL s q := fun _ h => h
  have hbA : ¬ AL s b := Nat.not_le.mpr hbl
  intro ques trc flt th la le cf kind page asked sees cnt wet which leaf rds d_fittingPages d_leastPage d_greatestPage e_kind e_page e_asked e_sent e_count e_wetSet y_leaves y_led y_firstWrong h_kind h_page h_asked h_sent h_count h_wetSet f_dry f_askedUpTo f_costs f_roots f_size o_aheadOf o_ways o_count sorts slong mcells m_at m_readSlips m_read m_looked m_keptSees m_sumOfLeaves m_ledTo m_firstWrong m_dryOnes m_dryMany m_costs m_roots m_depth m_row m_placeOf H locs ls hI hP hD hS hl
  obtain ⟨y1, hy1⟩ : ∃ y, xs (x3 + 1).toNatClampNeg = y := ⟨_, rfl⟩
  obtain ⟨rv, f_dry_n, f_askedUpTo_n, f_costs_n, f_roots_n, f_size_n, m_dryOnes_n, m_dryMany_n, m_costs_n, m_roots_n, m_depth_n, hTx, hTm, hI⟩ := T_tree th la le cf kind page asked sees cnt wet which leaf rds f_dry f_askedUpTo f_costs f_roots f_size sorts slong mcells m_dryOnes m_dryMany m_costs m_roots m_depth y1 hI
  refine lv_aload_n hx hb dL_law_511 rfl (lv_at hl 1 rfl) ?_
  refine lv_aload_n hx hb dL_law_512 rfl (lv_at hl 0 rfl) ?_
  refine lv_iload_n hx hb dL_law_513 rfl (lv_at hl 3 rfl) ?_
  refine lv_iconst (v := 1) hx hb dL_law_514 (by decide) ?_
  refine lv_iadd hx hb dL_law_515 ?_
  refine q_sld hx hb hX hbl hbA hS hi1 hy1 dL_law_516 ?_
  refine q_wVi (wr := [1, 2, 3, 4, 5, 6, 7, 8, 9, 15, 16, 17, 18, 19, 20, 21, 22, 23, 24, 25, 26, 27, 28, 34, 35, 36, 37, 38, 39, 40, 41, 42, 43, 44, 45, 46, 47, 48, 49, 50, 51, 52, 53, 54].filterMap (fun i => (wL ad cI cR ques trc flt th la le cf kind page asked sees cnt wet which leaf rds d_fittingPages d_leastPage d_greatestPage e_kind e_page e_asked e_sent e_count e_wetSet y_leaves y_led y_firstWrong h_kind h_page h_asked h_sent h_count h_wetSet f_dry f_askedUpTo f_costs f_roots f_size o_aheadOf o_ways o_count sorts slong mcells m_at m_readSlips m_read m_looked m_keptSees m_sumOfLeaves m_ledTo m_firstWrong m_dryOnes m_dryMany m_costs m_roots m_depth m_row m_placeOf)[i]?)) (rest := []) ⟨hx, hb, hml, hown, hts⟩ (kX7_tree l D cI cR (ad 0) (ad 1) (ad 10) (ad 15) (ad 23) (ad 29) (ad 34) (ad 11) (ad 12) (ad 13) (ad 14) (ad 30) (ad 31) (ad 32) (ad 33) ques trc flt kind page asked sees cnt wet f_dry f_askedUpTo f_costs f_roots f_size y1 (rv, f_dry_n, f_askedUpTo_n, f_costs_n, f_roots_n, f_size_n) hTx) (cwV 1 hts gT_X7_tree rfl rfl rfl (by decide +kernel) ⟨Nat.le_of_ble_eq_true rfl, Nat.le_of_ble_eq_true rfl⟩) hP hD hS hA hK hN [0, 10, 11, 12, 13, 14, 29, 30, 31, 32, 33] [1, 2, 3, 4, 5, 6, 7, 8, 9, 15, 16, 17, 18, 19, 20, 21, 22, 23, 24, 25, 26, 27, 28, 34, 35, 36, 37, 38, 39, 40, 41, 42, 43, 44, 45, 46, 47, 48, 49, 50, 51, 52, 53, 54] rfl rfl (by decide) (by decide) (by decide) (va_recv hK hP (ci := 6) (q0 := 0) rfl rfl) rfl hl.1 rfl (Nat.le_of_ble_eq_true rfl) dL_law_517 ⟨Nat.le_of_ble_eq_true rfl, Nat.le_of_ble_eq_true rfl⟩ (fun H locs hP hD hS => ?_)
  have hP := hP.sub (ws' := wL ad cI cR ques trc flt th la le cf kind page asked sees cnt wet which leaf rds d_fittingPages d_leastPage d_greatestPage e_kind e_page e_asked e_sent e_count e_wetSet y_leaves y_led y_firstWrong h_kind h_page h_asked h_sent h_count h_wetSet f_dry_n f_askedUpTo_n f_costs_n f_roots_n f_size_n o_aheadOf o_ways o_count sorts slong mcells m_at m_readSlips m_read m_looked m_keptSees m_sumOfLeaves m_ledTo m_firstWrong m_dryOnes m_dryMany m_costs m_roots m_depth m_row m_placeOf) [44, 0, 1, 2, 3, 4, 5, 6, 7, 8, 45, 46, 47, 48, 49, 9, 10, 11, 12, 13, 14, 15, 16, 17, 18, 19, 20, 21, 22, 50, 51, 52, 53, 54, 23, 24, 25, 26, 27, 28, 29, 30, 31, 32, 33, 34, 35, 36, 37, 38, 39, 40, 41, 42, 43] rfl
  have hD := hD.sub (ws' := wL ad cI cR ques trc flt th la le cf kind page asked sees cnt wet which leaf rds d_fittingPages d_leastPage d_greatestPage e_kind e_page e_asked e_sent e_count e_wetSet y_leaves y_led y_firstWrong h_kind h_page h_asked h_sent h_count h_wetSet f_dry_n f_askedUpTo_n f_costs_n f_roots_n f_size_n o_aheadOf o_ways o_count sorts slong mcells m_at m_readSlips m_read m_looked m_keptSees m_sumOfLeaves m_ledTo m_firstWrong m_dryOnes m_dryMany m_costs m_roots m_depth m_row m_placeOf) [44, 0, 1, 2, 3, 4, 5, 6, 7, 8, 45, 46, 47, 48, 49, 9, 10, 11, 12, 13, 14, 15, 16, 17, 18, 19, 20, 21, 22, 50, 51, 52, 53, 54, 23, 24, 25, 26, 27, 28, 29, 30, 31, 32, 33, 34, 35, 36, 37, 38, 39, 40, 41, 42, 43] (by decide) rfl
  refine lv_aload_n hx hb dL_law_520 rfl (lv_at hl 2 rfl) ?_
  refine lv_aload_n hx hb dL_law_521 rfl (lv_at hl 0 rfl) ?_
  refine lv_iload_n hx hb dL_law_522 rfl (lv_at hl 3 rfl) ?_
  refine lv_iconst (v := 1) hx hb dL_law_523 (by decide) ?_
  refine lv_iadd hx hb dL_law_524 ?_
  refine q_sld hx hb hX hbl hbA hS hi1 hy1 dL_law_525 ?_
  refine q_wVi (wr := [0, 1, 2, 3, 4, 5, 6, 7, 8, 9, 10, 11, 12, 13, 14, 15, 16, 17, 18, 19, 20, 21, 22, 23, 24, 25, 26, 27, 28, 29, 30, 31, 32, 33, 34, 35, 36].filterMap (fun i => (wL ad cI cR ques trc flt th la le cf kind page asked sees cnt wet which leaf rds d_fittingPages d_leastPage d_greatestPage e_kind e_page e_asked e_sent e_count e_wetSet y_leaves y_led y_firstWrong h_kind h_page h_asked h_sent h_count h_wetSet f_dry_n f_askedUpTo_n f_costs_n f_roots_n f_size_n o_aheadOf o_ways o_count sorts slong mcells m_at m_readSlips m_read m_looked m_keptSees m_sumOfLeaves m_ledTo m_firstWrong m_dryOnes m_dryMany m_costs m_roots m_depth m_row m_placeOf)[i]?)) (rest := [.int rv]) ⟨hx, hb, hml, hown, hts⟩ (kX8_tree l D cI cR (ad 37) (ad 38) (ad 39) (ad 40) (ad 41) (ad 42) (ad 43) (ad 44) (ad 45) (ad 46) (ad 47) (ad 48) (ad 49) (ad 50) (ad 51) (ad 52) (ad 53) (ad 54) flt trc sorts slong mcells cnt ques wet kind page asked sees m_at m_readSlips m_read m_looked m_keptSees m_sumOfLeaves m_ledTo m_firstWrong m_dryOnes m_dryMany m_costs m_roots m_depth m_row m_placeOf rds which leaf y1 (rv, m_dryOnes_n, m_dryMany_n, m_costs_n, m_roots_n, m_depth_n) hTm) (cwV 1 hts gT_X8_tree rfl rfl rfl (by decide +kernel) ⟨Nat.le_of_ble_eq_true rfl, Nat.le_of_ble_eq_true rfl⟩) hP hD hS hA hK hN [37, 38, 39, 40, 41, 42, 43, 44, 45, 46, 47, 48, 49, 50, 51, 52, 53, 54] [0, 1, 2, 3, 4, 5, 6, 7, 8, 9, 10, 11, 12, 13, 14, 15, 16, 17, 18, 19, 20, 21, 22, 23, 24, 25, 26, 27, 28, 29, 30, 31, 32, 33, 34, 35, 36] rfl rfl (by decide) (by decide) (by decide) (va_recv hK hP (ci := 7) (q0 := 37) rfl rfl) rfl hl.1 rfl (Nat.le_of_ble_eq_true rfl) dL_law_526 ⟨Nat.le_of_ble_eq_true rfl, Nat.le_of_ble_eq_true rfl⟩ (fun H locs hP hD hS => ?_)
  have hP := hP.sub (ws' := wL ad cI cR ques trc flt th la le cf kind page asked sees cnt wet which leaf rds d_fittingPages d_leastPage d_greatestPage e_kind e_page e_asked e_sent e_count e_wetSet y_leaves y_led y_firstWrong h_kind h_page h_asked h_sent h_count h_wetSet f_dry_n f_askedUpTo_n f_costs_n f_roots_n f_size_n o_aheadOf o_ways o_count sorts slong mcells m_at m_readSlips m_read m_looked m_keptSees m_sumOfLeaves m_ledTo m_firstWrong m_dryOnes_n m_dryMany_n m_costs_n m_roots_n m_depth_n m_row m_placeOf) [0, 1, 2, 3, 4, 5, 6, 7, 8, 9, 10, 11, 12, 13, 14, 15, 16, 17, 18, 19, 20, 21, 22, 23, 24, 25, 26, 27, 28, 29, 30, 31, 32, 33, 34, 35, 36, 37, 38, 39, 40, 41, 42, 43, 44, 45, 46, 47, 48, 49, 50, 51, 52, 53, 54] rfl
  have hD := hD.sub (ws' := wL ad cI cR ques trc flt th la le cf kind page asked sees cnt wet which leaf rds d_fittingPages d_leastPage d_greatestPage e_kind e_page e_asked e_sent e_count e_wetSet y_leaves y_led y_firstWrong h_kind h_page h_asked h_sent h_count h_wetSet f_dry_n f_askedUpTo_n f_costs_n f_roots_n f_size_n o_aheadOf o_ways o_count sorts slong mcells m_at m_readSlips m_read m_looked m_keptSees m_sumOfLeaves m_ledTo m_firstWrong m_dryOnes_n m_dryMany_n m_costs_n m_roots_n m_depth_n m_row m_placeOf) [0, 1, 2, 3, 4, 5, 6, 7, 8, 9, 10, 11, 12, 13, 14, 15, 16, 17, 18, 19, 20, 21, 22, 23, 24, 25, 26, 27, 28, 29, 30, 31, 32, 33, 34, 35, 36, 37, 38, 39, 40, 41, 42, 43, 44, 45, 46, 47, 48, 49, 50, 51, 52, 53, 54] (by decide) rfl
  refine lv_icmp_eq (tgt := 1110) hx hb dL_law_529 (by decide) (fun _ => ?_) (fun h => absurd rfl h)
  exact kk _ _ _ _ _ _ _ _ _ _ _ _ _ _ _ _ _ _ _ _ _ _ _ _ _ _ _ _ _ _ _ _ _ _ _ _ _ _ _ _ _ _ _ _ _ _ _ _ _ _ _ _ _ _ _ _ _ _ _ _ _ _ _ hI hP hD hS hl
