set_option maxHeartbeats 4000000 in
set_option maxRecDepth 100000 in
theorem kX7_ofSlip (l : Launch) (D : va_G) (cI cR : ClassId) (ax axrows as ad ay af ao askind aspage asasked assent : Nat) (x_questions : Int32) (x_traced : Int32) (x_latestFault : Int32) (s_kind : Nat → Int32) (s_page : Nat → Int32) (s_asked : Nat → Int32) (s_sent : Nat → Int32) (s_count : Int32) (s_wetSet : Int32) (p1 : Int32) (p2 : Int32) (q : Int32) (hf : pX7_ofSlip s_kind s_page s_asked s_sent s_count s_wetSet p1 p2 = some q) : CR l yX7_ofSlip wsX7_ofSlip ({ frames := 3, cells := 0, slots := 0, locals := 68 } : Room) D cI cR [.ref ax, .int p1, .int p2] [(ax, .inr (6, [.ref axrows, .ref as, .ref ad, .ref ay, .ref af, .ref ao, .int x_questions, .int x_traced, .int x_latestFault])), (as, .inr (4, [.ref askind, .ref aspage, .ref asasked, .ref assent, .int s_count, .int s_wetSet])), (askind, .inl (cI, 7, .inl s_kind)), (aspage, .inl (cI, 7, .inl s_page)), (asasked, .inl (cI, 7, .inl s_asked)), (assent, .inl (cI, 7, .inl s_sent))] (.int q) := by
  refine CRi.intro (cc := cX7_ofSlip) (maxL := 3) (ty := .int) (by decide) rfl (Nat.le_of_ble_eq_true rfl) ?_
  intro p e s m args below meth c hx hb hml hts hown hP hK hN QQ hRet ls hl
  have hown : s.vm.findClass RX7 = some m.cls := hown
  have hl : lv_has ls 3 [(0, .ref ax), (1, .int p1), (2, .int p2)] := hl
  have iX4 : ∀ w ∈ u_ws RX4 TX4 6, w ∈ wsX7_ofSlip := by decide +kernel
  have iX7 : ∀ w ∈ u_ws RX7 TX7 9, w ∈ wsX7_ofSlip := by decide +kernel
  have hF21 := hts (.fieldLink RX7 21 "WorldIndex" "slips" "LWorldIndex$Slips;") (by decide +kernel)
  have hG102 := NN.f (args := args) hN "WorldIndex" 102 "WorldIndex$Slips" "sent" "[I" "WorldIndex" (by decide +kernel)
  have hG92 := NN.f (args := args) hN "WorldIndex" 92 "WorldIndex$Slips" "kind" "[I" "WorldIndex" (by decide +kernel)
  have hG96 := NN.f (args := args) hN "WorldIndex" 96 "WorldIndex$Slips" "page" "[I" "WorldIndex" (by decide +kernel)
  have hG99 := NN.f (args := args) hN "WorldIndex" 99 "WorldIndex$Slips" "asked" "[I" "WorldIndex" (by decide +kernel)
  unfold pX7_ofSlip at hf
  refine lv_aload_n hx hb dX7_ofSlip_0 rfl (lv_at hl 0 rfl) ?_
  refine va_get (D := D) (ci := 6) (v := .ref as) (C := RX7) (T := TX7) (N := 9) hx hb hts iX7 hown hK hP 0 rfl rfl 1 (by decide) hF21 (fun _ h9 => h9) rfl dX7_ofSlip_1 ?_
  refine lv_iload_n hx hb dX7_ofSlip_4 rfl (lv_at hl 1 rfl) ?_
  refine q_rV (rest := []) ⟨hx, hb, hml, hown, hts⟩ (kX4_has l D cI cR as askind aspage asasked assent s_kind s_page s_asked s_sent s_count s_wetSet p1 _ rfl) (cwV 1 hts gX7_ofSlip_X4_has rfl rfl rfl (by decide +kernel) ⟨Nat.le_of_ble_eq_true rfl, Nat.le_of_ble_eq_true rfl⟩) (hP.sub [1, 2, 3, 4, 5] rfl) hK hN (va_recv hK hP (ci := 4) (q0 := 1) rfl rfl) rfl hl.1 rfl (Nat.le_of_ble_eq_true rfl) dX7_ofSlip_5 ⟨Nat.le_of_ble_eq_true rfl, Nat.le_of_ble_eq_true rfl⟩ ?_
  refine q_if_ne hx hb hf 13 dX7_ofSlip_8 (by decide) (fun hf => ?_) (fun hf => ?_)
  · refine lv_iload_n hx hb dX7_ofSlip_13 rfl (lv_at hl 2 rfl) ?_
    rcases q_sw hf with ⟨hs14_0, hf⟩ | ⟨hs14_0, hf⟩
    · refine lv_tableIn (off := 46) (tgt := 60) hx hb dX7_ofSlip_14 (by rw [hs14_0]; decide) (by rw [hs14_0]; decide) (by rw [hs14_0]; rfl) (by decide) ?_
      refine lv_aload_n hx hb dX7_ofSlip_60 rfl (lv_at hl 0 rfl) ?_
      refine va_get (D := D) (ci := 6) (v := .ref as) (C := RX7) (T := TX7) (N := 9) hx hb hts iX7 hown hK hP 0 rfl rfl 1 (by decide) hF21 (fun _ h9 => h9) rfl dX7_ofSlip_61 ?_
      refine va_getN (D := D) (ci := 4) (v := .ref askind) (C := RX4) (T := TX4) (N := 6) hx hb hts iX4 hown hK hP 1 rfl rfl 0 (by decide) hG92 (fun _ h9 => h9) rfl dX7_ofSlip_64 ?_
      refine lv_iload_n hx hb dX7_ofSlip_67 rfl (lv_at hl 1 rfl) ?_
      refine q_iald hx hb hK hP 2 0 rfl rfl hf dX7_ofSlip_68 (fun x1 hf => ?_)
      exact hRet _ _ _ rfl (Option.some.inj hf) dX7_ofSlip_69
    · skip
      rcases q_sw hf with ⟨hs14_1, hf⟩ | ⟨hs14_1, hf⟩
      · refine lv_tableIn (off := 56) (tgt := 70) hx hb dX7_ofSlip_14 (by rw [hs14_1]; decide) (by rw [hs14_1]; decide) (by rw [hs14_1]; rfl) (by decide) ?_
        refine lv_aload_n hx hb dX7_ofSlip_70 rfl (lv_at hl 0 rfl) ?_
        refine va_get (D := D) (ci := 6) (v := .ref as) (C := RX7) (T := TX7) (N := 9) hx hb hts iX7 hown hK hP 0 rfl rfl 1 (by decide) hF21 (fun _ h9 => h9) rfl dX7_ofSlip_71 ?_
        refine va_getN (D := D) (ci := 4) (v := .ref aspage) (C := RX4) (T := TX4) (N := 6) hx hb hts iX4 hown hK hP 1 rfl rfl 1 (by decide) hG96 (fun _ h9 => h9) rfl dX7_ofSlip_74 ?_
        refine lv_iload_n hx hb dX7_ofSlip_77 rfl (lv_at hl 1 rfl) ?_
        refine q_iald hx hb hK hP 3 0 rfl rfl hf dX7_ofSlip_78 (fun x2 hf => ?_)
        exact hRet _ _ _ rfl (Option.some.inj hf) dX7_ofSlip_79
      · skip
        rcases q_sw hf with ⟨hs14_2, hf⟩ | ⟨hs14_2, hf⟩
        · refine lv_tableIn (off := 66) (tgt := 80) hx hb dX7_ofSlip_14 (by rw [hs14_2]; decide) (by rw [hs14_2]; decide) (by rw [hs14_2]; rfl) (by decide) ?_
          refine lv_aload_n hx hb dX7_ofSlip_80 rfl (lv_at hl 0 rfl) ?_
          refine va_get (D := D) (ci := 6) (v := .ref as) (C := RX7) (T := TX7) (N := 9) hx hb hts iX7 hown hK hP 0 rfl rfl 1 (by decide) hF21 (fun _ h9 => h9) rfl dX7_ofSlip_81 ?_
          refine va_getN (D := D) (ci := 4) (v := .ref asasked) (C := RX4) (T := TX4) (N := 6) hx hb hts iX4 hown hK hP 1 rfl rfl 2 (by decide) hG99 (fun _ h9 => h9) rfl dX7_ofSlip_84 ?_
          refine lv_iload_n hx hb dX7_ofSlip_87 rfl (lv_at hl 1 rfl) ?_
          refine q_iald hx hb hK hP 4 0 rfl rfl hf dX7_ofSlip_88 (fun x3 hf => ?_)
          exact hRet _ _ _ rfl (Option.some.inj hf) dX7_ofSlip_89
        · skip
          rcases q_sw hf with ⟨hs14_3, hf⟩ | ⟨hs14_3, hf⟩
          · refine lv_tableIn (off := 76) (tgt := 90) hx hb dX7_ofSlip_14 (by rw [hs14_3]; decide) (by rw [hs14_3]; decide) (by rw [hs14_3]; rfl) (by decide) ?_
            refine lv_aload_n hx hb dX7_ofSlip_90 rfl (lv_at hl 0 rfl) ?_
            refine va_get (D := D) (ci := 6) (v := .ref as) (C := RX7) (T := TX7) (N := 9) hx hb hts iX7 hown hK hP 0 rfl rfl 1 (by decide) hF21 (fun _ h9 => h9) rfl dX7_ofSlip_91 ?_
            refine va_getN (D := D) (ci := 4) (v := .ref assent) (C := RX4) (T := TX4) (N := 6) hx hb hts iX4 hown hK hP 1 rfl rfl 3 (by decide) hG102 (fun _ h9 => h9) rfl dX7_ofSlip_94 ?_
            refine lv_iload_n hx hb dX7_ofSlip_97 rfl (lv_at hl 1 rfl) ?_
            refine q_iald hx hb hK hP 5 0 rfl rfl hf dX7_ofSlip_98 (fun x4 hf => ?_)
            exact hRet _ _ _ rfl (Option.some.inj hf) dX7_ofSlip_99
          · skip
            rcases q_sw hf with ⟨hs14_4, hf⟩ | ⟨hs14_4, hf⟩
            · refine lv_tableIn (off := 86) (tgt := 100) hx hb dX7_ofSlip_14 (by rw [hs14_4]; decide) (by rw [hs14_4]; decide) (by rw [hs14_4]; rfl) (by decide) ?_
              refine lv_aload_n hx hb dX7_ofSlip_100 rfl (lv_at hl 0 rfl) ?_
              refine va_get (D := D) (ci := 6) (v := .ref as) (C := RX7) (T := TX7) (N := 9) hx hb hts iX7 hown hK hP 0 rfl rfl 1 (by decide) hF21 (fun _ h9 => h9) rfl dX7_ofSlip_101 ?_
              refine lv_iload_n hx hb dX7_ofSlip_104 rfl (lv_at hl 1 rfl) ?_
              obtain ⟨z5, hz5, hf⟩ := bnd hf
              refine q_rV (rest := []) ⟨hx, hb, hml, hown, hts⟩ (kX4_leafOf l D cI cR as askind aspage asasked assent s_kind s_page s_asked s_sent s_count s_wetSet p1 z5 hz5) (cwV 1 hts gX7_ofSlip_X4_leafOf rfl rfl rfl (by decide +kernel) ⟨Nat.le_of_ble_eq_true rfl, Nat.le_of_ble_eq_true rfl⟩) (hP.sub [1, 2, 3, 4, 5] rfl) hK hN (va_recv hK hP (ci := 4) (q0 := 1) rfl rfl) rfl hl.1 rfl (Nat.le_of_ble_eq_true rfl) dX7_ofSlip_105 ⟨Nat.le_of_ble_eq_true rfl, Nat.le_of_ble_eq_true rfl⟩ ?_
              exact hRet _ _ _ rfl (Option.some.inj hf) dX7_ofSlip_108
            · skip
              rcases q_sw hf with ⟨hs14_5, hf⟩ | ⟨hs14_5, hf⟩
              · refine lv_tableIn (off := 95) (tgt := 109) hx hb dX7_ofSlip_14 (by rw [hs14_5]; decide) (by rw [hs14_5]; decide) (by rw [hs14_5]; rfl) (by decide) ?_
                refine lv_aload_n hx hb dX7_ofSlip_109 rfl (lv_at hl 0 rfl) ?_
                refine va_get (D := D) (ci := 6) (v := .ref as) (C := RX7) (T := TX7) (N := 9) hx hb hts iX7 hown hK hP 0 rfl rfl 1 (by decide) hF21 (fun _ h9 => h9) rfl dX7_ofSlip_110 ?_
                refine lv_iload_n hx hb dX7_ofSlip_113 rfl (lv_at hl 1 rfl) ?_
                obtain ⟨z6, hz6, hf⟩ := bnd hf
                refine q_rV (rest := []) ⟨hx, hb, hml, hown, hts⟩ (kX4_looksOf l D cI cR as askind aspage asasked assent s_kind s_page s_asked s_sent s_count s_wetSet p1 z6 hz6) (cwV 1 hts gX7_ofSlip_X4_looksOf rfl rfl rfl (by decide +kernel) ⟨Nat.le_of_ble_eq_true rfl, Nat.le_of_ble_eq_true rfl⟩) (hP.sub [1, 2, 3, 4, 5] rfl) hK hN (va_recv hK hP (ci := 4) (q0 := 1) rfl rfl) rfl hl.1 rfl (Nat.le_of_ble_eq_true rfl) dX7_ofSlip_114 ⟨Nat.le_of_ble_eq_true rfl, Nat.le_of_ble_eq_true rfl⟩ ?_
                exact hRet _ _ _ rfl (Option.some.inj hf) dX7_ofSlip_117
              · skip
                rcases q_sw hf with ⟨hs14_6, hf⟩ | ⟨hs14_6, hf⟩
                · refine lv_tableIn (off := 104) (tgt := 118) hx hb dX7_ofSlip_14 (by rw [hs14_6]; decide) (by rw [hs14_6]; decide) (by rw [hs14_6]; rfl) (by decide) ?_
                  refine lv_aload_n hx hb dX7_ofSlip_118 rfl (lv_at hl 0 rfl) ?_
                  refine va_get (D := D) (ci := 6) (v := .ref as) (C := RX7) (T := TX7) (N := 9) hx hb hts iX7 hown hK hP 0 rfl rfl 1 (by decide) hF21 (fun _ h9 => h9) rfl dX7_ofSlip_119 ?_
                  refine lv_iload_n hx hb dX7_ofSlip_122 rfl (lv_at hl 1 rfl) ?_
                  refine q_rV (rest := []) ⟨hx, hb, hml, hown, hts⟩ (kX4_isWet l D cI cR as askind aspage asasked assent s_kind s_page s_asked s_sent s_count s_wetSet p1 _ rfl) (cwV 1 hts gX7_ofSlip_X4_isWet rfl rfl rfl (by decide +kernel) ⟨Nat.le_of_ble_eq_true rfl, Nat.le_of_ble_eq_true rfl⟩) (hP.sub [1, 2, 3, 4, 5] rfl) hK hN (va_recv hK hP (ci := 4) (q0 := 1) rfl rfl) rfl hl.1 rfl (Nat.le_of_ble_eq_true rfl) dX7_ofSlip_123 ⟨Nat.le_of_ble_eq_true rfl, Nat.le_of_ble_eq_true rfl⟩ ?_
                  refine q_if_eq hx hb hf 133 dX7_ofSlip_126 (by decide) (fun hf => ?_) (fun hf => ?_)
                  · refine lv_iconst (v := 0) hx hb dX7_ofSlip_133 (by decide) ?_
                    exact hRet _ _ _ rfl (Option.some.inj hf) dX7_ofSlip_134
                  · refine lv_iconst (v := 1) hx hb dX7_ofSlip_129 (by decide) ?_
                    refine lv_goto (tgt := 134) hx hb dX7_ofSlip_130 (by decide) ?_
                    exact hRet _ _ _ rfl (Option.some.inj hf) dX7_ofSlip_134
                · skip
                  rcases q_sw hf with ⟨hs14_7, hf⟩ | ⟨hs14_7, hf⟩
                  · refine lv_tableIn (off := 121) (tgt := 135) hx hb dX7_ofSlip_14 (by rw [hs14_7]; decide) (by rw [hs14_7]; decide) (by rw [hs14_7]; rfl) (by decide) ?_
                    refine lv_aload_n hx hb dX7_ofSlip_135 rfl (lv_at hl 0 rfl) ?_
                    refine va_get (D := D) (ci := 6) (v := .ref as) (C := RX7) (T := TX7) (N := 9) hx hb hts iX7 hown hK hP 0 rfl rfl 1 (by decide) hF21 (fun _ h9 => h9) rfl dX7_ofSlip_136 ?_
                    refine lv_iload_n hx hb dX7_ofSlip_139 rfl (lv_at hl 1 rfl) ?_
                    obtain ⟨z7, hz7, hf⟩ := bnd hf
                    refine q_rV (rest := []) ⟨hx, hb, hml, hown, hts⟩ (kX4_pointsTo l D cI cR as askind aspage asasked assent s_kind s_page s_asked s_sent s_count s_wetSet p1 z7 hz7) (cwV 1 hts gX7_ofSlip_X4_pointsTo rfl rfl rfl (by decide +kernel) ⟨Nat.le_of_ble_eq_true rfl, Nat.le_of_ble_eq_true rfl⟩) (hP.sub [1, 2, 3, 4, 5] rfl) hK hN (va_recv hK hP (ci := 4) (q0 := 1) rfl rfl) rfl hl.1 rfl (Nat.le_of_ble_eq_true rfl) dX7_ofSlip_140 ⟨Nat.le_of_ble_eq_true rfl, Nat.le_of_ble_eq_true rfl⟩ ?_
                    exact hRet _ _ _ rfl (Option.some.inj hf) dX7_ofSlip_143
                  · skip
                    have ehs14_0 := nt_i hs14_0 (show ((0 : Int32)).toInt = (0 : Int) by decide)
                    have ehs14_1 := nt_i hs14_1 (show ((1 : Int32)).toInt = (1 : Int) by decide)
                    have ehs14_2 := nt_i hs14_2 (show ((2 : Int32)).toInt = (2 : Int) by decide)
                    have ehs14_3 := nt_i hs14_3 (show ((3 : Int32)).toInt = (3 : Int) by decide)
                    have ehs14_4 := nt_i hs14_4 (show ((4 : Int32)).toInt = (4 : Int) by decide)
                    have ehs14_5 := nt_i hs14_5 (show ((5 : Int32)).toInt = (5 : Int) by decide)
                    have ehs14_6 := nt_i hs14_6 (show ((6 : Int32)).toInt = (6 : Int) by decide)
                    have ehs14_7 := nt_i hs14_7 (show ((7 : Int32)).toInt = (7 : Int) by decide)
                    refine lv_tableOut (tgt := 144) hx hb dX7_ofSlip_14 (by omega) (by decide) ?_
                    refine lv_bipush (v := -2) hx hb dX7_ofSlip_144 (by decide) ?_
                    exact hRet _ _ _ rfl (Option.some.inj hf) dX7_ofSlip_146
  · refine lv_iconst (v := -1) hx hb dX7_ofSlip_11 (by decide) ?_
    exact hRet _ _ _ rfl (Option.some.inj hf) dX7_ofSlip_12
set_option maxHeartbeats 4000000 in
set_option maxRecDepth 100000 in
theorem kX7_orders (l : Launch) (D : va_G) (cI cR : ClassId) (ax axrows as ad ay af ao ar arcells askind aspage asasked assent aoaheadOf aoways : Nat) (x_rows : Nat → Option Nat) (x_questions : Int32) (x_traced : Int32) (x_latestFault : Int32) (r_cells : Nat → Int32) (r_there : Int32) (r_lane : Int32) (r_length : Int32) (s_kind : Nat → Int32) (s_page : Nat → Int32) (s_asked : Nat → Int32) (s_sent : Nat → Int32) (s_count : Int32) (s_wetSet : Int32) (o_aheadOf : Nat → Int32) (o_ways : Nat → Int32) (o_count : Int32) (p1 : Int32) (p2 : Int32) (p3 : Int32) (p4 : Int32) (p5 : Int32) (hrow : vp_in p1 4 → x_rows p1.toNatClampNeg = some ar) (q : Int32 × Int32 × (Nat → Int32) × (Nat → Int32) × Int32) (hf : pX7_orders x_latestFault r_cells r_there r_lane r_length s_count o_aheadOf o_ways o_count p1 p2 p3 p4 p5 = some q) : CWi l yX7_orders wsX7_orders ({ frames := 4, cells := 0, slots := 0, locals := 92 } : Room) D cI cR [.ref ax, .int p1, .int p2, .int p3, .int p4, .int p5] [(ax, .inr (6, [.ref axrows, .ref as, .ref ad, .ref ay, .ref af, .ref ao, .int x_questions, .int x_traced, .int x_latestFault])), (axrows, .inl (cR, 4, .inr (.inr (.inr (.inr x_rows))))), (ar, .inr (2, [.ref arcells, .int r_there, .int r_lane, .int r_length])), (arcells, .inl (cI, 60, .inl r_cells)), (as, .inr (4, [.ref askind, .ref aspage, .ref asasked, .ref assent, .int s_count, .int s_wetSet])), (askind, .inl (cI, 7, .inl s_kind)), (aspage, .inl (cI, 7, .inl s_page)), (asasked, .inl (cI, 7, .inl s_asked)), (assent, .inl (cI, 7, .inl s_sent)), (ao, .inr (0, [.ref aoaheadOf, .ref aoways, .int o_count])), (aoaheadOf, .inl (cI, 7, .inl o_aheadOf)), (aoways, .inl (cI, 128, .inl o_ways))] [(ax, .inr (6, [.ref axrows, .ref as, .ref ad, .ref ay, .ref af, .ref ao, .int x_questions, .int x_traced, .int q.2.1])), (axrows, .inl (cR, 4, .inr (.inr (.inr (.inr x_rows))))), (ar, .inr (2, [.ref arcells, .int r_there, .int r_lane, .int r_length])), (arcells, .inl (cI, 60, .inl r_cells)), (as, .inr (4, [.ref askind, .ref aspage, .ref asasked, .ref assent, .int s_count, .int s_wetSet])), (askind, .inl (cI, 7, .inl s_kind)), (aspage, .inl (cI, 7, .inl s_page)), (asasked, .inl (cI, 7, .inl s_asked)), (assent, .inl (cI, 7, .inl s_sent)), (ao, .inr (0, [.ref aoaheadOf, .ref aoways, .int q.2.2.2.2])), (aoaheadOf, .inl (cI, 7, .inl q.2.2.1)), (aoways, .inl (cI, 128, .inl q.2.2.2.1))] q.1 := by
  refine CWi.intro (cc := cX7_orders) (maxL := 11) (ty := .int) (by decide) rfl (Nat.le_of_ble_eq_true rfl) ?_
  intro p e s m args below meth c hx hb hml hts hown hP hK hN A hA hD hS QQ hRet ls hl
  have hown : s.vm.findClass RX7 = some m.cls := hown
  have hl : lv_has ls 11 [(0, .ref ax), (1, .int p1), (2, .int p2), (3, .int p3), (4, .int p4), (5, .int p5)] := hl
  have iX2 : ∀ w ∈ u_ws RX2 TX2 4, w ∈ wsX7_orders := by decide +kernel
  have iX4 : ∀ w ∈ u_ws RX4 TX4 6, w ∈ wsX7_orders := by decide +kernel
  have iX7 : ∀ w ∈ u_ws RX7 TX7 9, w ∈ wsX7_orders := by decide +kernel
  have hF13 := hts (.fieldLink RX7 13 "WorldIndex" "rows" "[LWorldIndex$Row;") (by decide +kernel)
  have hF21 := hts (.fieldLink RX7 21 "WorldIndex" "slips" "LWorldIndex$Slips;") (by decide +kernel)
  have hF49 := hts (.fieldLink RX7 49 "WorldIndex" "orderings" "LWorldIndex$Orderings;") (by decide +kernel)
  have hF53 := hts (.fieldLink RX7 53 "WorldIndex" "latestFault" "I") (by decide +kernel)
  have hG143 := NN.f (args := args) hN "WorldIndex" 143 "WorldIndex$Row" "cells" "[I" "WorldIndex" (by decide +kernel)
  have hG88 := NN.f (args := args) hN "WorldIndex" 88 "WorldIndex$Slips" "count" "I" "WorldIndex" (by decide +kernel)
  unfold pX7_orders at hf
  refine lv_aload_n hx hb dX7_orders_0 rfl (lv_at hl 0 rfl) ?_
  refine lv_iconst (v := 0) hx hb dX7_orders_1 (by decide) ?_
  refine va_put (D := D) (ci := 6) (v := .int ((0 : Int32))) (ty := .int) (C := RX7) (T := TX7) (N := 9) hx hb hts iX7 tyX7 tyX7_ok nmX7 hown hK hP hD hS 0 rfl rfl 8 (by decide) hF53 (fun _ h9 => h9) rfl (tyX7_ok 8 (by decide)) rfl rfl (Nat.le_of_ble_eq_true rfl) dX7_orders_2 (fun H locs hP hD hS => ?_)
  have hP : va_P D vwCl [(ax, .inr (6, [.ref axrows, .ref as, .ref ad, .ref ay, .ref af, .ref ao, .int x_questions, .int x_traced, .int ((0 : Int32))])), (axrows, .inl (cR, 4, .inr (.inr (.inr (.inr x_rows))))), (ar, .inr (2, [.ref arcells, .int r_there, .int r_lane, .int r_length])), (arcells, .inl (cI, 60, .inl r_cells)), (as, .inr (4, [.ref askind, .ref aspage, .ref asasked, .ref assent, .int s_count, .int s_wetSet])), (askind, .inl (cI, 7, .inl s_kind)), (aspage, .inl (cI, 7, .inl s_page)), (asasked, .inl (cI, 7, .inl s_asked)), (assent, .inl (cI, 7, .inl s_sent)), (ao, .inr (0, [.ref aoaheadOf, .ref aoways, .int o_count])), (aoaheadOf, .inl (cI, 7, .inl o_aheadOf)), (aoways, .inl (cI, 128, .inl o_ways))] H := hP
  have hD : va_D A [(ax, .inr (6, [.ref axrows, .ref as, .ref ad, .ref ay, .ref af, .ref ao, .int x_questions, .int x_traced, .int ((0 : Int32))])), (axrows, .inl (cR, 4, .inr (.inr (.inr (.inr x_rows))))), (ar, .inr (2, [.ref arcells, .int r_there, .int r_lane, .int r_length])), (arcells, .inl (cI, 60, .inl r_cells)), (as, .inr (4, [.ref askind, .ref aspage, .ref asasked, .ref assent, .int s_count, .int s_wetSet])), (askind, .inl (cI, 7, .inl s_kind)), (aspage, .inl (cI, 7, .inl s_page)), (asasked, .inl (cI, 7, .inl s_asked)), (assent, .inl (cI, 7, .inl s_sent)), (ao, .inr (0, [.ref aoaheadOf, .ref aoways, .int o_count])), (aoaheadOf, .inl (cI, 7, .inl o_aheadOf)), (aoways, .inl (cI, 128, .inl o_ways))] := hD
  refine lv_iload_n hx hb dX7_orders_5 rfl (lv_at hl 1 rfl) ?_
  refine q_rS (rest := []) ⟨hx, hb, hml, hown, hts⟩ (kX7_isSheet l D cI cR p1 _ rfl) (va_cwS 1 hts gX7_orders_X7_isSheet rfl rfl rfl (by decide +kernel) ⟨Nat.le_of_ble_eq_true rfl, Nat.le_of_ble_eq_true rfl⟩) (hP.sub [] rfl) hK hN rfl hl.1 rfl (Nat.le_of_ble_eq_true rfl) dX7_orders_6 ⟨Nat.le_of_ble_eq_true rfl, Nat.le_of_ble_eq_true rfl⟩ ?_
  refine q_if_ne hx hb hf 14 dX7_orders_9 (by decide) (fun hf => ?_) (fun hf => ?_)
  · refine lv_iload_n hx hb dX7_orders_14 rfl (lv_at hl 2 rfl) ?_
    refine q_rS (rest := []) ⟨hx, hb, hml, hown, hts⟩ (kX7_isLane l D cI cR p2 _ rfl) (va_cwS 1 hts gX7_orders_X7_isLane rfl rfl rfl (by decide +kernel) ⟨Nat.le_of_ble_eq_true rfl, Nat.le_of_ble_eq_true rfl⟩) (hP.sub [] rfl) hK hN rfl hl.1 rfl (Nat.le_of_ble_eq_true rfl) dX7_orders_15 ⟨Nat.le_of_ble_eq_true rfl, Nat.le_of_ble_eq_true rfl⟩ ?_
    refine q_if_eq hx hb hf 46 dX7_orders_18 (by decide) (fun hf => ?_) (fun hf => ?_)
    · refine lv_bipush (v := -2) hx hb dX7_orders_46 (by decide) ?_
      have hq9 := Option.some.inj hf
      subst hq9
      exact hRet _ _ _ _ _ rfl rfl hP hD hS dX7_orders_48
    · refine lv_iload hx hb dX7_orders_21 (lv_at hl 4 rfl) ?_
      refine q_if_lt hx hb hf 46 dX7_orders_23 (by decide) (fun hf => ?_) (fun hf => ?_)
      · refine lv_bipush (v := -2) hx hb dX7_orders_46 (by decide) ?_
        have hq9 := Option.some.inj hf
        subst hq9
        exact hRet _ _ _ _ _ rfl rfl hP hD hS dX7_orders_48
      · refine lv_iload hx hb dX7_orders_26 (lv_at hl 4 rfl) ?_
        refine lv_bipush (v := 10) hx hb dX7_orders_28 (by decide) ?_
        refine q_icmp_gt hx hb hf 46 dX7_orders_30 (by decide) (fun hf => ?_) (fun hf => ?_)
        · refine lv_bipush (v := -2) hx hb dX7_orders_46 (by decide) ?_
          have hq9 := Option.some.inj hf
          subst hq9
          exact hRet _ _ _ _ _ rfl rfl hP hD hS dX7_orders_48
        · refine lv_iload hx hb dX7_orders_33 (lv_at hl 5 rfl) ?_
          refine lv_iconst (v := -1) hx hb dX7_orders_35 (by decide) ?_
          refine q_icmp_lt hx hb hf 46 dX7_orders_36 (by decide) (fun hf => ?_) (fun hf => ?_)
          · refine lv_bipush (v := -2) hx hb dX7_orders_46 (by decide) ?_
            have hq9 := Option.some.inj hf
            subst hq9
            exact hRet _ _ _ _ _ rfl rfl hP hD hS dX7_orders_48
          · refine lv_iload hx hb dX7_orders_39 (lv_at hl 5 rfl) ?_
            refine lv_bipush (v := 7) hx hb dX7_orders_41 (by decide) ?_
            refine q_icmp_lt hx hb hf 49 dX7_orders_43 (by decide) (fun hf => ?_) (fun hf => ?_)
            · refine lv_aload_n hx hb dX7_orders_49 rfl (lv_at hl 0 rfl) ?_
              refine va_get (D := D) (ci := 6) (v := .ref axrows) (C := RX7) (T := TX7) (N := 9) hx hb hts iX7 hown hK hP 0 rfl rfl 0 (by decide) hF13 (fun _ h9 => h9) rfl dX7_orders_50 ?_
              refine lv_iload_n hx hb dX7_orders_53 rfl (lv_at hl 1 rfl) ?_
              refine q_aald hx hb hK hP 1 1 rfl rfl hf hrow dX7_orders_54 (fun hf => ?_)
              refine lv_astore (lv' := [(6, .ref ar), (0, .ref ax), (1, .int p1), (2, .int p2), (3, .int p3), (4, .int p4), (5, .int p5)]) hx hb dX7_orders_55 hl (by decide) rfl (fun ls hl => ?_)
              refine lv_aload hx hb dX7_orders_57 (lv_at hl 0 rfl) ?_
              refine lv_iload_n hx hb dX7_orders_59 rfl (lv_at hl 3 rfl) ?_
              refine lv_iload_n hx hb dX7_orders_60 rfl (lv_at hl 4 rfl) ?_
              refine lv_iconst (v := 2) hx hb dX7_orders_61 (by decide) ?_
              refine lv_iload hx hb dX7_orders_62 (lv_at hl 5 rfl) ?_
              refine lv_imul hx hb dX7_orders_64 ?_
              refine q_rV (rest := []) ⟨hx, hb, hml, hown, hts⟩ (kX2_faultAsLane l D cI cR ar arcells r_cells r_there r_lane r_length p2 p3 (((2 : Int32)) * p4) _ rfl) (cwV 3 hts gX7_orders_X2_faultAsLane rfl rfl rfl (by decide +kernel) ⟨Nat.le_of_ble_eq_true rfl, Nat.le_of_ble_eq_true rfl⟩) (hP.sub [2, 3] rfl) hK hN (va_recv hK hP (ci := 2) (q0 := 2) rfl rfl) rfl hl.1 rfl (Nat.le_of_ble_eq_true rfl) dX7_orders_65 ⟨Nat.le_of_ble_eq_true rfl, Nat.le_of_ble_eq_true rfl⟩ ?_
              refine lv_istore (lv' := [(7, .int (pX2_faultAsLane r_there r_lane r_length p2 p3 (((2 : Int32)) * p4))), (6, .ref ar), (0, .ref ax), (1, .int p1), (2, .int p2), (3, .int p3), (4, .int p4), (5, .int p5)]) hx hb dX7_orders_68 hl (by decide) rfl (fun ls hl => ?_)
              refine lv_iload hx hb dX7_orders_70 (lv_at hl 0 rfl) ?_
              refine q_if_eq hx hb hf 82 dX7_orders_72 (by decide) (fun hf => ?_) (fun hf => ?_)
              · refine lv_aload_n hx hb dX7_orders_82 rfl (lv_at hl 2 rfl) ?_
                refine va_get (D := D) (ci := 6) (v := .ref as) (C := RX7) (T := TX7) (N := 9) hx hb hts iX7 hown hK hP 0 rfl rfl 1 (by decide) hF21 (fun _ h9 => h9) rfl dX7_orders_83 ?_
                refine va_getN (D := D) (ci := 4) (v := .int s_count) (C := RX4) (T := TX4) (N := 6) hx hb hts iX4 hown hK hP 4 rfl rfl 4 (by decide) hG88 (fun _ h9 => h9) rfl dX7_orders_86 ?_
                refine q_if_ne hx hb hf 95 dX7_orders_89 (by decide) (fun hf => ?_) (fun hf => ?_)
                · refine lv_aload_n hx hb dX7_orders_95 rfl (lv_at hl 2 rfl) ?_
                  refine va_get (D := D) (ci := 6) (v := .ref ao) (C := RX7) (T := TX7) (N := 9) hx hb hts iX7 hown hK hP 0 rfl rfl 5 (by decide) hF49 (fun _ h9 => h9) rfl dX7_orders_96 ?_
                  refine lv_aload_n hx hb dX7_orders_99 rfl (lv_at hl 2 rfl) ?_
                  refine va_get (D := D) (ci := 6) (v := .ref as) (C := RX7) (T := TX7) (N := 9) hx hb hts iX7 hown hK hP 0 rfl rfl 1 (by decide) hF21 (fun _ h9 => h9) rfl dX7_orders_100 ?_
                  refine va_getN (D := D) (ci := 4) (v := .int s_count) (C := RX4) (T := TX4) (N := 6) hx hb hts iX4 hown hK hP 4 rfl rfl 4 (by decide) hG88 (fun _ h9 => h9) rfl dX7_orders_103 ?_
                  obtain ⟨z1, hz1, hf⟩ := bnd hf
                  refine q_wVv (wr := [(ax, .inr (6, [.ref axrows, .ref as, .ref ad, .ref ay, .ref af, .ref ao, .int x_questions, .int x_traced, .int ((0 : Int32))])), (axrows, .inl (cR, 4, .inr (.inr (.inr (.inr x_rows))))), (ar, .inr (2, [.ref arcells, .int r_there, .int r_lane, .int r_length])), (arcells, .inl (cI, 60, .inl r_cells)), (as, .inr (4, [.ref askind, .ref aspage, .ref asasked, .ref assent, .int s_count, .int s_wetSet])), (askind, .inl (cI, 7, .inl s_kind)), (aspage, .inl (cI, 7, .inl s_page)), (asasked, .inl (cI, 7, .inl s_asked)), (assent, .inl (cI, 7, .inl s_sent))]) (rest := []) ⟨hx, hb, hml, hown, hts⟩ (kX0_begin l D cI cR ao aoaheadOf aoways o_aheadOf o_ways o_count s_count z1 hz1) (cwV 1 hts gX7_orders_X0_begin rfl rfl rfl (by decide +kernel) ⟨Nat.le_of_ble_eq_true rfl, Nat.le_of_ble_eq_true rfl⟩) hP hD hS hA hK hN [9, 10, 11] [0, 1, 2, 3, 4, 5, 6, 7, 8] rfl rfl (by decide) (by decide) (by decide) (va_recv hK hP (ci := 0) (q0 := 9) rfl rfl) rfl hl.1 rfl (Nat.le_of_ble_eq_true rfl) dX7_orders_106 ⟨Nat.le_of_ble_eq_true rfl, Nat.le_of_ble_eq_true rfl⟩ (fun H locs hP hD hS => ?_)
                  have hP := hP.sub (ws' := [(ax, .inr (6, [.ref axrows, .ref as, .ref ad, .ref ay, .ref af, .ref ao, .int x_questions, .int x_traced, .int ((0 : Int32))])), (axrows, .inl (cR, 4, .inr (.inr (.inr (.inr x_rows))))), (ar, .inr (2, [.ref arcells, .int r_there, .int r_lane, .int r_length])), (arcells, .inl (cI, 60, .inl r_cells)), (as, .inr (4, [.ref askind, .ref aspage, .ref asasked, .ref assent, .int s_count, .int s_wetSet])), (askind, .inl (cI, 7, .inl s_kind)), (aspage, .inl (cI, 7, .inl s_page)), (asasked, .inl (cI, 7, .inl s_asked)), (assent, .inl (cI, 7, .inl s_sent)), (ao, .inr (0, [.ref aoaheadOf, .ref aoways, .int z1.2])), (aoaheadOf, .inl (cI, 7, .inl z1.1)), (aoways, .inl (cI, 128, .inl o_ways))]) [0, 1, 2, 3, 4, 5, 6, 7, 8, 9, 10, 11] rfl
                  have hD := hD.sub (ws' := [(ax, .inr (6, [.ref axrows, .ref as, .ref ad, .ref ay, .ref af, .ref ao, .int x_questions, .int x_traced, .int ((0 : Int32))])), (axrows, .inl (cR, 4, .inr (.inr (.inr (.inr x_rows))))), (ar, .inr (2, [.ref arcells, .int r_there, .int r_lane, .int r_length])), (arcells, .inl (cI, 60, .inl r_cells)), (as, .inr (4, [.ref askind, .ref aspage, .ref asasked, .ref assent, .int s_count, .int s_wetSet])), (askind, .inl (cI, 7, .inl s_kind)), (aspage, .inl (cI, 7, .inl s_page)), (asasked, .inl (cI, 7, .inl s_asked)), (assent, .inl (cI, 7, .inl s_sent)), (ao, .inr (0, [.ref aoaheadOf, .ref aoways, .int z1.2])), (aoaheadOf, .inl (cI, 7, .inl z1.1)), (aoways, .inl (cI, 128, .inl o_ways))]) [0, 1, 2, 3, 4, 5, 6, 7, 8, 9, 10, 11] (by decide) rfl
                  refine lv_iconst (v := 0) hx hb dX7_orders_109 (by decide) ?_
                  refine lv_istore (lv' := [(8, .int ((0 : Int32))), (7, .int (pX2_faultAsLane r_there r_lane r_length p2 p3 (((2 : Int32)) * p4))), (6, .ref ar), (0, .ref ax), (1, .int p1), (2, .int p2), (3, .int p3), (4, .int p4), (5, .int p5)]) hx hb dX7_orders_110 hl (by decide) rfl (fun ls hl => ?_)
                  have hL112 : ∀ (K : Int32 → (Nat → Int32) → Option (Int32 × Int32 × (Nat → Int32) × (Nat → Int32) × Int32)) (hKK : ∀ (k5_v8 : Int32) (k5_w_o_aheadOf : Nat → Int32) (H : Heap) (locs : List Loc) (ls : Array Slot), K k5_v8 k5_w_o_aheadOf = some q → va_P D vwCl [(ax, .inr (6, [.ref axrows, .ref as, .ref ad, .ref ay, .ref af, .ref ao, .int x_questions, .int x_traced, .int ((0 : Int32))])), (axrows, .inl (cR, 4, .inr (.inr (.inr (.inr x_rows))))), (ar, .inr (2, [.ref arcells, .int r_there, .int r_lane, .int r_length])), (arcells, .inl (cI, 60, .inl r_cells)), (as, .inr (4, [.ref askind, .ref aspage, .ref asasked, .ref assent, .int s_count, .int s_wetSet])), (askind, .inl (cI, 7, .inl s_kind)), (aspage, .inl (cI, 7, .inl s_page)), (asasked, .inl (cI, 7, .inl s_asked)), (assent, .inl (cI, 7, .inl s_sent)), (ao, .inr (0, [.ref aoaheadOf, .ref aoways, .int z1.2])), (aoaheadOf, .inl (cI, 7, .inl k5_w_o_aheadOf)), (aoways, .inl (cI, 128, .inl o_ways))] H → va_D A [(ax, .inr (6, [.ref axrows, .ref as, .ref ad, .ref ay, .ref af, .ref ao, .int x_questions, .int x_traced, .int ((0 : Int32))])), (axrows, .inl (cR, 4, .inr (.inr (.inr (.inr x_rows))))), (ar, .inr (2, [.ref arcells, .int r_there, .int r_lane, .int r_length])), (arcells, .inl (cI, 60, .inl r_cells)), (as, .inr (4, [.ref askind, .ref aspage, .ref asasked, .ref assent, .int s_count, .int s_wetSet])), (askind, .inl (cI, 7, .inl s_kind)), (aspage, .inl (cI, 7, .inl s_page)), (asasked, .inl (cI, 7, .inl s_asked)), (assent, .inl (cI, 7, .inl s_sent)), (ao, .inr (0, [.ref aoaheadOf, .ref aoways, .int z1.2])), (aoaheadOf, .inl (cI, 7, .inl k5_w_o_aheadOf)), (aoways, .inl (cI, 128, .inl o_ways))] → va_S A s.heap H locs → lv_has ls 11 [(0, .ref ax), (1, .int p1), (2, .int p2), (3, .int p3), (4, .int p4), (5, .int p5), (6, .ref ar), (7, .int (pX2_faultAsLane r_there r_lane r_length p2 p3 (((2 : Int32)) * p4))), (8, .int k5_v8)] → W p l e ({ frames := 4, cells := 0, slots := 0, locals := 92 } : Room) s m args below meth c H locs 0 0 QQ (F0 m 192 ls [])) (n : Nat), ∀ (b8_v8 : Int32) (b8_w_o_aheadOf : Nat → Int32) (H : Heap) (locs : List Loc) (ls : Array Slot), pX7_orders_L112 p3 p4 ((0 : Int32)) r_cells s_count o_ways z1.2 K n b8_v8 b8_w_o_aheadOf = some q → va_P D vwCl [(ax, .inr (6, [.ref axrows, .ref as, .ref ad, .ref ay, .ref af, .ref ao, .int x_questions, .int x_traced, .int ((0 : Int32))])), (axrows, .inl (cR, 4, .inr (.inr (.inr (.inr x_rows))))), (ar, .inr (2, [.ref arcells, .int r_there, .int r_lane, .int r_length])), (arcells, .inl (cI, 60, .inl r_cells)), (as, .inr (4, [.ref askind, .ref aspage, .ref asasked, .ref assent, .int s_count, .int s_wetSet])), (askind, .inl (cI, 7, .inl s_kind)), (aspage, .inl (cI, 7, .inl s_page)), (asasked, .inl (cI, 7, .inl s_asked)), (assent, .inl (cI, 7, .inl s_sent)), (ao, .inr (0, [.ref aoaheadOf, .ref aoways, .int z1.2])), (aoaheadOf, .inl (cI, 7, .inl b8_w_o_aheadOf)), (aoways, .inl (cI, 128, .inl o_ways))] H → va_D A [(ax, .inr (6, [.ref axrows, .ref as, .ref ad, .ref ay, .ref af, .ref ao, .int x_questions, .int x_traced, .int ((0 : Int32))])), (axrows, .inl (cR, 4, .inr (.inr (.inr (.inr x_rows))))), (ar, .inr (2, [.ref arcells, .int r_there, .int r_lane, .int r_length])), (arcells, .inl (cI, 60, .inl r_cells)), (as, .inr (4, [.ref askind, .ref aspage, .ref asasked, .ref assent, .int s_count, .int s_wetSet])), (askind, .inl (cI, 7, .inl s_kind)), (aspage, .inl (cI, 7, .inl s_page)), (asasked, .inl (cI, 7, .inl s_asked)), (assent, .inl (cI, 7, .inl s_sent)), (ao, .inr (0, [.ref aoaheadOf, .ref aoways, .int z1.2])), (aoaheadOf, .inl (cI, 7, .inl b8_w_o_aheadOf)), (aoways, .inl (cI, 128, .inl o_ways))] → va_S A s.heap H locs → lv_has ls 11 [(0, .ref ax), (1, .int p1), (2, .int p2), (3, .int p3), (4, .int p4), (5, .int p5), (6, .ref ar), (7, .int (pX2_faultAsLane r_there r_lane r_length p2 p3 (((2 : Int32)) * p4))), (8, .int b8_v8)] → W p l e ({ frames := 4, cells := 0, slots := 0, locals := 92 } : Room) s m args below meth c H locs 0 0 QQ (F0 m 112 ls []) := by
                    intro K hKK n
                    induction n with
                    | zero =>
                      intro b8_v8 b8_w_o_aheadOf H locs ls hf hP hD hS hl
                      rw [pX7_orders_L112_z] at hf
                      cases hf
                    | succ n ih =>
                      intro b8_v8 b8_w_o_aheadOf H locs ls hf hP hD hS hl
                      rw [pX7_orders_L112_s] at hf
                      refine lv_iload hx hb dX7_orders_112 (lv_at hl 8 rfl) ?_
                      refine lv_iload hx hb dX7_orders_114 (lv_at hl 4 rfl) ?_
                      refine q_icmp_ge hx hb hf 192 dX7_orders_116 (by decide) (fun hf => ?_) (fun hf => ?_)
                      · exact hKK _ _ _ _ _ hf hP hD hS (lv_sub hl [0, 1, 2, 3, 4, 5, 6, 7, 8] rfl)
                      · refine lv_aload hx hb dX7_orders_119 (lv_at hl 6 rfl) ?_
                        refine va_getN (D := D) (ci := 2) (v := .ref arcells) (C := RX2) (T := TX2) (N := 4) hx hb hts iX2 hown hK hP 2 rfl rfl 0 (by decide) hG143 (fun _ h9 => h9) rfl dX7_orders_121 ?_
                        refine lv_iload_n hx hb dX7_orders_124 rfl (lv_at hl 3 rfl) ?_
                        refine lv_iconst (v := 2) hx hb dX7_orders_125 (by decide) ?_
                        refine lv_iload hx hb dX7_orders_126 (lv_at hl 8 rfl) ?_
                        refine lv_imul hx hb dX7_orders_128 ?_
                        refine lv_iadd hx hb dX7_orders_129 ?_
                        refine q_iald hx hb hK hP 3 0 rfl rfl hf dX7_orders_130 (fun x9 hf => ?_)
                        refine lv_istore (lv' := [(9, .int x9), (0, .ref ax), (1, .int p1), (2, .int p2), (3, .int p3), (4, .int p4), (5, .int p5), (6, .ref ar), (7, .int (pX2_faultAsLane r_there r_lane r_length p2 p3 (((2 : Int32)) * p4))), (8, .int b8_v8)]) hx hb dX7_orders_131 hl (by decide) rfl (fun ls hl => ?_)
                        refine lv_aload hx hb dX7_orders_133 (lv_at hl 7 rfl) ?_
                        refine va_getN (D := D) (ci := 2) (v := .ref arcells) (C := RX2) (T := TX2) (N := 4) hx hb hts iX2 hown hK hP 2 rfl rfl 0 (by decide) hG143 (fun _ h9 => h9) rfl dX7_orders_135 ?_
                        refine lv_iload_n hx hb dX7_orders_138 rfl (lv_at hl 4 rfl) ?_
                        refine lv_iconst (v := 2) hx hb dX7_orders_139 (by decide) ?_
                        refine lv_iload hx hb dX7_orders_140 (lv_at hl 9 rfl) ?_
                        refine lv_imul hx hb dX7_orders_142 ?_
                        refine lv_iadd hx hb dX7_orders_143 ?_
                        refine lv_iconst (v := 1) hx hb dX7_orders_144 (by decide) ?_
                        refine lv_iadd hx hb dX7_orders_145 ?_
                        refine q_iald hx hb hK hP 3 0 rfl rfl hf dX7_orders_146 (fun x10 hf => ?_)
                        refine lv_istore (lv' := [(10, .int x10), (9, .int x9), (0, .ref ax), (1, .int p1), (2, .int p2), (3, .int p3), (4, .int p4), (5, .int p5), (6, .ref ar), (7, .int (pX2_faultAsLane r_there r_lane r_length p2 p3 (((2 : Int32)) * p4))), (8, .int b8_v8)]) hx hb dX7_orders_147 hl (by decide) rfl (fun ls hl => ?_)
                        refine lv_aload_n hx hb dX7_orders_149 rfl (lv_at hl 2 rfl) ?_
                        refine va_get (D := D) (ci := 6) (v := .ref as) (C := RX7) (T := TX7) (N := 9) hx hb hts iX7 hown hK hP 0 rfl rfl 1 (by decide) hF21 (fun _ h9 => h9) rfl dX7_orders_150 ?_
                        refine lv_iload hx hb dX7_orders_153 (lv_at hl 1 rfl) ?_
                        refine q_rV (rest := []) ⟨hx, hb, hml, hown, hts⟩ (kX4_has l D cI cR as askind aspage asasked assent s_kind s_page s_asked s_sent s_count s_wetSet x9 _ rfl) (cwV 1 hts gX7_orders_X4_has rfl rfl rfl (by decide +kernel) ⟨Nat.le_of_ble_eq_true rfl, Nat.le_of_ble_eq_true rfl⟩) (hP.sub [4, 5, 6, 7, 8] rfl) hK hN (va_recv hK hP (ci := 4) (q0 := 4) rfl rfl) rfl hl.1 rfl (Nat.le_of_ble_eq_true rfl) dX7_orders_155 ⟨Nat.le_of_ble_eq_true rfl, Nat.le_of_ble_eq_true rfl⟩ ?_
                        refine q_if_eq hx hb hf 173 dX7_orders_158 (by decide) (fun hf => ?_) (fun hf => ?_)
                        · refine lv_iconst (v := -1) hx hb dX7_orders_173 (by decide) ?_
                          have hq9 := Option.some.inj hf
                          subst hq9
                          exact hRet _ _ _ _ _ rfl rfl hP hD hS dX7_orders_174
                        · refine lv_aload_n hx hb dX7_orders_161 rfl (lv_at hl 2 rfl) ?_
                          refine va_get (D := D) (ci := 6) (v := .ref as) (C := RX7) (T := TX7) (N := 9) hx hb hts iX7 hown hK hP 0 rfl rfl 1 (by decide) hF21 (fun _ h9 => h9) rfl dX7_orders_162 ?_
                          refine lv_iload hx hb dX7_orders_165 (lv_at hl 0 rfl) ?_
                          refine q_rV (rest := []) ⟨hx, hb, hml, hown, hts⟩ (kX4_has l D cI cR as askind aspage asasked assent s_kind s_page s_asked s_sent s_count s_wetSet x10 _ rfl) (cwV 1 hts gX7_orders_X4_has rfl rfl rfl (by decide +kernel) ⟨Nat.le_of_ble_eq_true rfl, Nat.le_of_ble_eq_true rfl⟩) (hP.sub [4, 5, 6, 7, 8] rfl) hK hN (va_recv hK hP (ci := 4) (q0 := 4) rfl rfl) rfl hl.1 rfl (Nat.le_of_ble_eq_true rfl) dX7_orders_167 ⟨Nat.le_of_ble_eq_true rfl, Nat.le_of_ble_eq_true rfl⟩ ?_
                          refine q_if_ne hx hb hf 175 dX7_orders_170 (by decide) (fun hf => ?_) (fun hf => ?_)
                          · refine lv_aload_n hx hb dX7_orders_175 rfl (lv_at hl 2 rfl) ?_
                            refine va_get (D := D) (ci := 6) (v := .ref ao) (C := RX7) (T := TX7) (N := 9) hx hb hts iX7 hown hK hP 0 rfl rfl 5 (by decide) hF49 (fun _ h9 => h9) rfl dX7_orders_176 ?_
                            refine lv_iload hx hb dX7_orders_179 (lv_at hl 1 rfl) ?_
                            refine lv_iload hx hb dX7_orders_181 (lv_at hl 0 rfl) ?_
                            obtain ⟨z11, hz11, hf⟩ := bnd hf
                            refine q_wVv (wr := [(ax, .inr (6, [.ref axrows, .ref as, .ref ad, .ref ay, .ref af, .ref ao, .int x_questions, .int x_traced, .int ((0 : Int32))])), (axrows, .inl (cR, 4, .inr (.inr (.inr (.inr x_rows))))), (ar, .inr (2, [.ref arcells, .int r_there, .int r_lane, .int r_length])), (arcells, .inl (cI, 60, .inl r_cells)), (as, .inr (4, [.ref askind, .ref aspage, .ref asasked, .ref assent, .int s_count, .int s_wetSet])), (askind, .inl (cI, 7, .inl s_kind)), (aspage, .inl (cI, 7, .inl s_page)), (asasked, .inl (cI, 7, .inl s_asked)), (assent, .inl (cI, 7, .inl s_sent))]) (rest := []) ⟨hx, hb, hml, hown, hts⟩ (kX0_putAhead l D cI cR ao aoaheadOf aoways b8_w_o_aheadOf o_ways z1.2 x9 x10 z11 hz11) (cwV 2 hts gX7_orders_X0_putAhead rfl rfl rfl (by decide +kernel) ⟨Nat.le_of_ble_eq_true rfl, Nat.le_of_ble_eq_true rfl⟩) hP hD hS hA hK hN [9, 10, 11] [0, 1, 2, 3, 4, 5, 6, 7, 8] rfl rfl (by decide) (by decide) (by decide) (va_recv hK hP (ci := 0) (q0 := 9) rfl rfl) rfl hl.1 rfl (Nat.le_of_ble_eq_true rfl) dX7_orders_183 ⟨Nat.le_of_ble_eq_true rfl, Nat.le_of_ble_eq_true rfl⟩ (fun H locs hP hD hS => ?_)
                            have hP := hP.sub (ws' := [(ax, .inr (6, [.ref axrows, .ref as, .ref ad, .ref ay, .ref af, .ref ao, .int x_questions, .int x_traced, .int ((0 : Int32))])), (axrows, .inl (cR, 4, .inr (.inr (.inr (.inr x_rows))))), (ar, .inr (2, [.ref arcells, .int r_there, .int r_lane, .int r_length])), (arcells, .inl (cI, 60, .inl r_cells)), (as, .inr (4, [.ref askind, .ref aspage, .ref asasked, .ref assent, .int s_count, .int s_wetSet])), (askind, .inl (cI, 7, .inl s_kind)), (aspage, .inl (cI, 7, .inl s_page)), (asasked, .inl (cI, 7, .inl s_asked)), (assent, .inl (cI, 7, .inl s_sent)), (ao, .inr (0, [.ref aoaheadOf, .ref aoways, .int z1.2])), (aoaheadOf, .inl (cI, 7, .inl z11)), (aoways, .inl (cI, 128, .inl o_ways))]) [0, 1, 2, 3, 4, 5, 6, 7, 8, 9, 10, 11] rfl
                            have hD := hD.sub (ws' := [(ax, .inr (6, [.ref axrows, .ref as, .ref ad, .ref ay, .ref af, .ref ao, .int x_questions, .int x_traced, .int ((0 : Int32))])), (axrows, .inl (cR, 4, .inr (.inr (.inr (.inr x_rows))))), (ar, .inr (2, [.ref arcells, .int r_there, .int r_lane, .int r_length])), (arcells, .inl (cI, 60, .inl r_cells)), (as, .inr (4, [.ref askind, .ref aspage, .ref asasked, .ref assent, .int s_count, .int s_wetSet])), (askind, .inl (cI, 7, .inl s_kind)), (aspage, .inl (cI, 7, .inl s_page)), (asasked, .inl (cI, 7, .inl s_asked)), (assent, .inl (cI, 7, .inl s_sent)), (ao, .inr (0, [.ref aoaheadOf, .ref aoways, .int z1.2])), (aoaheadOf, .inl (cI, 7, .inl z11)), (aoways, .inl (cI, 128, .inl o_ways))]) [0, 1, 2, 3, 4, 5, 6, 7, 8, 9, 10, 11] (by decide) rfl
                            refine lv_iinc (v := b8_v8 + (1 : Int32)) (lv' := [(8, .int (b8_v8 + (1 : Int32))), (10, .int x10), (9, .int x9), (0, .ref ax), (1, .int p1), (2, .int p2), (3, .int p3), (4, .int p4), (5, .int p5), (6, .ref ar), (7, .int (pX2_faultAsLane r_there r_lane r_length p2 p3 (((2 : Int32)) * p4)))]) hx hb dX7_orders_186 hl (k := 10) rfl rfl (by decide) rfl (fun ls hl => ?_)
                            refine lv_goto (tgt := 112) hx hb dX7_orders_189 (by decide) ?_
                            exact ih _ _ _ _ _ hf hP hD hS (lv_sub hl [3, 4, 5, 6, 7, 8, 9, 10, 0] rfl)
                          · refine lv_iconst (v := -1) hx hb dX7_orders_173 (by decide) ?_
                            have hq9 := Option.some.inj hf
                            subst hq9
                            exact hRet _ _ _ _ _ rfl rfl hP hD hS dX7_orders_174
                  refine hL112 _ (fun k5_v8 k5_w_o_aheadOf H locs ls hf hP hD hS hl => ?_) fu _ _ _ _ _ hf hP hD hS (lv_sub hl [3, 4, 5, 6, 7, 8, 2, 1, 0] rfl)
                  refine lv_iload hx hb dX7_orders_192 (lv_at hl 5 rfl) ?_
                  refine lv_iconst (v := -1) hx hb dX7_orders_194 (by decide) ?_
                  refine q_icmp_ne hx hb hf 208 dX7_orders_195 (by decide) (fun hf => ?_) (fun hf => ?_)
                  · refine lv_aload_n hx hb dX7_orders_208 rfl (lv_at hl 0 rfl) ?_
                    refine va_get (D := D) (ci := 6) (v := .ref ao) (C := RX7) (T := TX7) (N := 9) hx hb hts iX7 hown hK hP 0 rfl rfl 5 (by decide) hF49 (fun _ h9 => h9) rfl dX7_orders_209 ?_
                    refine lv_iload hx hb dX7_orders_212 (lv_at hl 5 rfl) ?_
                    obtain ⟨z6, hz6, hf⟩ := bnd hf
                    refine q_wVi (wr := [(ax, .inr (6, [.ref axrows, .ref as, .ref ad, .ref ay, .ref af, .ref ao, .int x_questions, .int x_traced, .int ((0 : Int32))])), (axrows, .inl (cR, 4, .inr (.inr (.inr (.inr x_rows))))), (ar, .inr (2, [.ref arcells, .int r_there, .int r_lane, .int r_length])), (arcells, .inl (cI, 60, .inl r_cells)), (as, .inr (4, [.ref askind, .ref aspage, .ref asasked, .ref assent, .int s_count, .int s_wetSet])), (askind, .inl (cI, 7, .inl s_kind)), (aspage, .inl (cI, 7, .inl s_page)), (asasked, .inl (cI, 7, .inl s_asked)), (assent, .inl (cI, 7, .inl s_sent))]) (rest := []) ⟨hx, hb, hml, hown, hts⟩ (kX0_firstAt l D cI cR ao aoaheadOf aoways k5_w_o_aheadOf o_ways z1.2 p5 z6 hz6) (cwV 1 hts gX7_orders_X0_firstAt rfl rfl rfl (by decide +kernel) ⟨Nat.le_of_ble_eq_true rfl, Nat.le_of_ble_eq_true rfl⟩) hP hD hS hA hK hN [9, 10, 11] [0, 1, 2, 3, 4, 5, 6, 7, 8] rfl rfl (by decide) (by decide) (by decide) (va_recv hK hP (ci := 0) (q0 := 9) rfl rfl) rfl hl.1 rfl (Nat.le_of_ble_eq_true rfl) dX7_orders_214 ⟨Nat.le_of_ble_eq_true rfl, Nat.le_of_ble_eq_true rfl⟩ (fun H locs hP hD hS => ?_)
                    have hP := hP.sub (ws' := [(ax, .inr (6, [.ref axrows, .ref as, .ref ad, .ref ay, .ref af, .ref ao, .int x_questions, .int x_traced, .int ((0 : Int32))])), (axrows, .inl (cR, 4, .inr (.inr (.inr (.inr x_rows))))), (ar, .inr (2, [.ref arcells, .int r_there, .int r_lane, .int r_length])), (arcells, .inl (cI, 60, .inl r_cells)), (as, .inr (4, [.ref askind, .ref aspage, .ref asasked, .ref assent, .int s_count, .int s_wetSet])), (askind, .inl (cI, 7, .inl s_kind)), (aspage, .inl (cI, 7, .inl s_page)), (asasked, .inl (cI, 7, .inl s_asked)), (assent, .inl (cI, 7, .inl s_sent)), (ao, .inr (0, [.ref aoaheadOf, .ref aoways, .int z1.2])), (aoaheadOf, .inl (cI, 7, .inl k5_w_o_aheadOf)), (aoways, .inl (cI, 128, .inl z6.2))]) [0, 1, 2, 3, 4, 5, 6, 7, 8, 9, 10, 11] rfl
                    have hD := hD.sub (ws' := [(ax, .inr (6, [.ref axrows, .ref as, .ref ad, .ref ay, .ref af, .ref ao, .int x_questions, .int x_traced, .int ((0 : Int32))])), (axrows, .inl (cR, 4, .inr (.inr (.inr (.inr x_rows))))), (ar, .inr (2, [.ref arcells, .int r_there, .int r_lane, .int r_length])), (arcells, .inl (cI, 60, .inl r_cells)), (as, .inr (4, [.ref askind, .ref aspage, .ref asasked, .ref assent, .int s_count, .int s_wetSet])), (askind, .inl (cI, 7, .inl s_kind)), (aspage, .inl (cI, 7, .inl s_page)), (asasked, .inl (cI, 7, .inl s_asked)), (assent, .inl (cI, 7, .inl s_sent)), (ao, .inr (0, [.ref aoaheadOf, .ref aoways, .int z1.2])), (aoaheadOf, .inl (cI, 7, .inl k5_w_o_aheadOf)), (aoways, .inl (cI, 128, .inl z6.2))]) [0, 1, 2, 3, 4, 5, 6, 7, 8, 9, 10, 11] (by decide) rfl
                    have hq9 := Option.some.inj hf
                    subst hq9
                    exact hRet _ _ _ _ _ rfl rfl hP hD hS dX7_orders_217
                  · refine lv_aload_n hx hb dX7_orders_198 rfl (lv_at hl 0 rfl) ?_
                    refine va_get (D := D) (ci := 6) (v := .ref ao) (C := RX7) (T := TX7) (N := 9) hx hb hts iX7 hown hK hP 0 rfl rfl 5 (by decide) hF49 (fun _ h9 => h9) rfl dX7_orders_199 ?_
                    obtain ⟨z7, hz7, hf⟩ := bnd hf
                    refine q_wVi (wr := [(ax, .inr (6, [.ref axrows, .ref as, .ref ad, .ref ay, .ref af, .ref ao, .int x_questions, .int x_traced, .int ((0 : Int32))])), (axrows, .inl (cR, 4, .inr (.inr (.inr (.inr x_rows))))), (ar, .inr (2, [.ref arcells, .int r_there, .int r_lane, .int r_length])), (arcells, .inl (cI, 60, .inl r_cells)), (as, .inr (4, [.ref askind, .ref aspage, .ref asasked, .ref assent, .int s_count, .int s_wetSet])), (askind, .inl (cI, 7, .inl s_kind)), (aspage, .inl (cI, 7, .inl s_page)), (asasked, .inl (cI, 7, .inl s_asked)), (assent, .inl (cI, 7, .inl s_sent))]) (rest := []) ⟨hx, hb, hml, hown, hts⟩ (kX0_howMany l D cI cR ao aoaheadOf aoways k5_w_o_aheadOf o_ways z1.2 z7 hz7) (cwV 0 hts gX7_orders_X0_howMany rfl rfl rfl (by decide +kernel) ⟨Nat.le_of_ble_eq_true rfl, Nat.le_of_ble_eq_true rfl⟩) hP hD hS hA hK hN [9, 10, 11] [0, 1, 2, 3, 4, 5, 6, 7, 8] rfl rfl (by decide) (by decide) (by decide) (va_recv hK hP (ci := 0) (q0 := 9) rfl rfl) rfl hl.1 rfl (Nat.le_of_ble_eq_true rfl) dX7_orders_202 ⟨Nat.le_of_ble_eq_true rfl, Nat.le_of_ble_eq_true rfl⟩ (fun H locs hP hD hS => ?_)
                    have hP := hP.sub (ws' := [(ax, .inr (6, [.ref axrows, .ref as, .ref ad, .ref ay, .ref af, .ref ao, .int x_questions, .int x_traced, .int ((0 : Int32))])), (axrows, .inl (cR, 4, .inr (.inr (.inr (.inr x_rows))))), (ar, .inr (2, [.ref arcells, .int r_there, .int r_lane, .int r_length])), (arcells, .inl (cI, 60, .inl r_cells)), (as, .inr (4, [.ref askind, .ref aspage, .ref asasked, .ref assent, .int s_count, .int s_wetSet])), (askind, .inl (cI, 7, .inl s_kind)), (aspage, .inl (cI, 7, .inl s_page)), (asasked, .inl (cI, 7, .inl s_asked)), (assent, .inl (cI, 7, .inl s_sent)), (ao, .inr (0, [.ref aoaheadOf, .ref aoways, .int z1.2])), (aoaheadOf, .inl (cI, 7, .inl k5_w_o_aheadOf)), (aoways, .inl (cI, 128, .inl z7.2))]) [0, 1, 2, 3, 4, 5, 6, 7, 8, 9, 10, 11] rfl
                    have hD := hD.sub (ws' := [(ax, .inr (6, [.ref axrows, .ref as, .ref ad, .ref ay, .ref af, .ref ao, .int x_questions, .int x_traced, .int ((0 : Int32))])), (axrows, .inl (cR, 4, .inr (.inr (.inr (.inr x_rows))))), (ar, .inr (2, [.ref arcells, .int r_there, .int r_lane, .int r_length])), (arcells, .inl (cI, 60, .inl r_cells)), (as, .inr (4, [.ref askind, .ref aspage, .ref asasked, .ref assent, .int s_count, .int s_wetSet])), (askind, .inl (cI, 7, .inl s_kind)), (aspage, .inl (cI, 7, .inl s_page)), (asasked, .inl (cI, 7, .inl s_asked)), (assent, .inl (cI, 7, .inl s_sent)), (ao, .inr (0, [.ref aoaheadOf, .ref aoways, .int z1.2])), (aoaheadOf, .inl (cI, 7, .inl k5_w_o_aheadOf)), (aoways, .inl (cI, 128, .inl z7.2))]) [0, 1, 2, 3, 4, 5, 6, 7, 8, 9, 10, 11] (by decide) rfl
                    refine lv_goto (tgt := 217) hx hb dX7_orders_205 (by decide) ?_
                    have hq9 := Option.some.inj hf
                    subst hq9
                    exact hRet _ _ _ _ _ rfl rfl hP hD hS dX7_orders_217
                · refine lv_bipush (v := -3) hx hb dX7_orders_92 (by decide) ?_
                  have hq9 := Option.some.inj hf
                  subst hq9
                  exact hRet _ _ _ _ _ rfl rfl hP hD hS dX7_orders_94
              · refine lv_aload_n hx hb dX7_orders_75 rfl (lv_at hl 2 rfl) ?_
                refine lv_iload hx hb dX7_orders_76 (lv_at hl 0 rfl) ?_
                obtain ⟨z12, hz12, hf⟩ := bnd hf
                refine q_wVi (wr := [(axrows, .inl (cR, 4, .inr (.inr (.inr (.inr x_rows))))), (ar, .inr (2, [.ref arcells, .int r_there, .int r_lane, .int r_length])), (arcells, .inl (cI, 60, .inl r_cells)), (as, .inr (4, [.ref askind, .ref aspage, .ref asasked, .ref assent, .int s_count, .int s_wetSet])), (askind, .inl (cI, 7, .inl s_kind)), (aspage, .inl (cI, 7, .inl s_page)), (asasked, .inl (cI, 7, .inl s_asked)), (assent, .inl (cI, 7, .inl s_sent)), (ao, .inr (0, [.ref aoaheadOf, .ref aoways, .int o_count])), (aoaheadOf, .inl (cI, 7, .inl o_aheadOf)), (aoways, .inl (cI, 128, .inl o_ways))]) (rest := []) ⟨hx, hb, hml, hown, hts⟩ (kX7_faulted l D cI cR ax axrows as ad ay af ao x_questions x_traced ((0 : Int32)) (pX2_faultAsLane r_there r_lane r_length p2 p3 (((2 : Int32)) * p4)) z12 hz12) (cwV 1 hts gX7_orders_X7_faulted rfl rfl rfl (by decide +kernel) ⟨Nat.le_of_ble_eq_true rfl, Nat.le_of_ble_eq_true rfl⟩) hP hD hS hA hK hN [0] [1, 2, 3, 4, 5, 6, 7, 8, 9, 10, 11] rfl rfl (by decide) (by decide) (by decide) (va_recv hK hP (ci := 6) (q0 := 0) rfl rfl) rfl hl.1 rfl (Nat.le_of_ble_eq_true rfl) dX7_orders_78 ⟨Nat.le_of_ble_eq_true rfl, Nat.le_of_ble_eq_true rfl⟩ (fun H locs hP hD hS => ?_)
                have hP := hP.sub (ws' := [(ax, .inr (6, [.ref axrows, .ref as, .ref ad, .ref ay, .ref af, .ref ao, .int x_questions, .int x_traced, .int z12.2])), (axrows, .inl (cR, 4, .inr (.inr (.inr (.inr x_rows))))), (ar, .inr (2, [.ref arcells, .int r_there, .int r_lane, .int r_length])), (arcells, .inl (cI, 60, .inl r_cells)), (as, .inr (4, [.ref askind, .ref aspage, .ref asasked, .ref assent, .int s_count, .int s_wetSet])), (askind, .inl (cI, 7, .inl s_kind)), (aspage, .inl (cI, 7, .inl s_page)), (asasked, .inl (cI, 7, .inl s_asked)), (assent, .inl (cI, 7, .inl s_sent)), (ao, .inr (0, [.ref aoaheadOf, .ref aoways, .int o_count])), (aoaheadOf, .inl (cI, 7, .inl o_aheadOf)), (aoways, .inl (cI, 128, .inl o_ways))]) [11, 0, 1, 2, 3, 4, 5, 6, 7, 8, 9, 10] rfl
                have hD := hD.sub (ws' := [(ax, .inr (6, [.ref axrows, .ref as, .ref ad, .ref ay, .ref af, .ref ao, .int x_questions, .int x_traced, .int z12.2])), (axrows, .inl (cR, 4, .inr (.inr (.inr (.inr x_rows))))), (ar, .inr (2, [.ref arcells, .int r_there, .int r_lane, .int r_length])), (arcells, .inl (cI, 60, .inl r_cells)), (as, .inr (4, [.ref askind, .ref aspage, .ref asasked, .ref assent, .int s_count, .int s_wetSet])), (askind, .inl (cI, 7, .inl s_kind)), (aspage, .inl (cI, 7, .inl s_page)), (asasked, .inl (cI, 7, .inl s_asked)), (assent, .inl (cI, 7, .inl s_sent)), (ao, .inr (0, [.ref aoaheadOf, .ref aoways, .int o_count])), (aoaheadOf, .inl (cI, 7, .inl o_aheadOf)), (aoways, .inl (cI, 128, .inl o_ways))]) [11, 0, 1, 2, 3, 4, 5, 6, 7, 8, 9, 10] (by decide) rfl
                have hq9 := Option.some.inj hf
                subst hq9
                exact hRet _ _ _ _ _ rfl rfl hP hD hS dX7_orders_81
            · refine lv_bipush (v := -2) hx hb dX7_orders_46 (by decide) ?_
              have hq9 := Option.some.inj hf
              subst hq9
              exact hRet _ _ _ _ _ rfl rfl hP hD hS dX7_orders_48
  · refine lv_iconst (v := -1) hx hb dX7_orders_12 (by decide) ?_
    have hq9 := Option.some.inj hf
    subst hq9
    exact hRet _ _ _ _ _ rfl rfl hP hD hS dX7_orders_13
set_option maxHeartbeats 4000000 in
set_option maxRecDepth 100000 in
theorem kX7_pages (l : Launch) (D : va_G) (cI cR : ClassId) (ax axrows as ad ay af ao askind aspage asasked assent adslip adleaf ae aekind aepage aeasked aesent : Nat) (x_questions : Int32) (x_traced : Int32) (x_latestFault : Int32) (s_kind : Nat → Int32) (s_page : Nat → Int32) (s_asked : Nat → Int32) (s_sent : Nat → Int32) (s_count : Int32) (s_wetSet : Int32) (d_slip : Nat → Int32) (d_leaf : Nat → Int32) (d_count : Int32) (d_fittingPages : Int32) (d_leastPage : Int32) (d_greatestPage : Int32) (e_kind : Nat → Int32) (e_page : Nat → Int32) (e_asked : Nat → Int32) (e_sent : Nat → Int32) (e_count : Int32) (e_wetSet : Int32) (p1 : Int32) (p2 : Int32) (q : Int32 × Int32 × Int32 × Int32 × (Nat → Int32) × (Nat → Int32) × (Nat → Int32) × (Nat → Int32) × Int32 × Int32) (hf : pX7_pages s_kind s_page s_asked s_sent s_count s_wetSet d_slip d_leaf d_count d_fittingPages d_leastPage d_greatestPage e_kind e_page e_asked e_sent e_count e_wetSet p1 p2 = some q) : CWi l yX7_pages wsX7_pages ({ frames := 5, cells := 0, slots := 0, locals := 112 } : Room) D cI cR [.ref ax, .int p1, .int p2] [(ax, .inr (6, [.ref axrows, .ref as, .ref ad, .ref ay, .ref af, .ref ao, .int x_questions, .int x_traced, .int x_latestFault])), (as, .inr (4, [.ref askind, .ref aspage, .ref asasked, .ref assent, .int s_count, .int s_wetSet])), (askind, .inl (cI, 7, .inl s_kind)), (aspage, .inl (cI, 7, .inl s_page)), (asasked, .inl (cI, 7, .inl s_asked)), (assent, .inl (cI, 7, .inl s_sent)), (ad, .inr (1, [.ref adslip, .ref adleaf, .ref ae, .int d_count, .int d_fittingPages, .int d_leastPage, .int d_greatestPage])), (adslip, .inl (cI, 8, .inl d_slip)), (adleaf, .inl (cI, 8, .inl d_leaf)), (ae, .inr (4, [.ref aekind, .ref aepage, .ref aeasked, .ref aesent, .int e_count, .int e_wetSet])), (aekind, .inl (cI, 7, .inl e_kind)), (aepage, .inl (cI, 7, .inl e_page)), (aeasked, .inl (cI, 7, .inl e_asked)), (aesent, .inl (cI, 7, .inl e_sent))] [(ax, .inr (6, [.ref axrows, .ref as, .ref ad, .ref ay, .ref af, .ref ao, .int x_questions, .int x_traced, .int x_latestFault])), (as, .inr (4, [.ref askind, .ref aspage, .ref asasked, .ref assent, .int s_count, .int s_wetSet])), (askind, .inl (cI, 7, .inl s_kind)), (aspage, .inl (cI, 7, .inl s_page)), (asasked, .inl (cI, 7, .inl s_asked)), (assent, .inl (cI, 7, .inl s_sent)), (ad, .inr (1, [.ref adslip, .ref adleaf, .ref ae, .int d_count, .int q.2.1, .int q.2.2.1, .int q.2.2.2.1])), (adslip, .inl (cI, 8, .inl d_slip)), (adleaf, .inl (cI, 8, .inl d_leaf)), (ae, .inr (4, [.ref aekind, .ref aepage, .ref aeasked, .ref aesent, .int q.2.2.2.2.2.2.2.2.1, .int q.2.2.2.2.2.2.2.2.2])), (aekind, .inl (cI, 7, .inl q.2.2.2.2.1)), (aepage, .inl (cI, 7, .inl q.2.2.2.2.2.1)), (aeasked, .inl (cI, 7, .inl q.2.2.2.2.2.2.1)), (aesent, .inl (cI, 7, .inl q.2.2.2.2.2.2.2.1))] q.1 := by
  refine CWi.intro (cc := cX7_pages) (maxL := 3) (ty := .int) (by decide) rfl (Nat.le_of_ble_eq_true rfl) ?_
  intro p e s m args below meth c hx hb hml hts hown hP hK hN A hA hD hS QQ hRet ls hl
  have hown : s.vm.findClass RX7 = some m.cls := hown
  have hl : lv_has ls 3 [(0, .ref ax), (1, .int p1), (2, .int p2)] := hl
  have iX1 : ∀ w ∈ u_ws RX1 TX1 7, w ∈ wsX7_pages := by decide +kernel
  have iX7 : ∀ w ∈ u_ws RX7 TX7 9, w ∈ wsX7_pages := by decide +kernel
  have hF21 := hts (.fieldLink RX7 21 "WorldIndex" "slips" "LWorldIndex$Slips;") (by decide +kernel)
  have hF28 := hts (.fieldLink RX7 28 "WorldIndex" "readings" "LWorldIndex$Readings;") (by decide +kernel)
  have hG192 := NN.f (args := args) hN "WorldIndex" 192 "WorldIndex$Readings" "fittingPages" "I" "WorldIndex" (by decide +kernel)
  have hG195 := NN.f (args := args) hN "WorldIndex" 195 "WorldIndex$Readings" "leastPage" "I" "WorldIndex" (by decide +kernel)
  have hG198 := NN.f (args := args) hN "WorldIndex" 198 "WorldIndex$Readings" "greatestPage" "I" "WorldIndex" (by decide +kernel)
  unfold pX7_pages at hf
  refine lv_aload_n hx hb dX7_pages_0 rfl (lv_at hl 0 rfl) ?_
  refine va_get (D := D) (ci := 6) (v := .ref as) (C := RX7) (T := TX7) (N := 9) hx hb hts iX7 hown hK hP 0 rfl rfl 1 (by decide) hF21 (fun _ h9 => h9) rfl dX7_pages_1 ?_
  refine lv_iload_n hx hb dX7_pages_4 rfl (lv_at hl 1 rfl) ?_
  refine q_rV (rest := []) ⟨hx, hb, hml, hown, hts⟩ (kX4_has l D cI cR as askind aspage asasked assent s_kind s_page s_asked s_sent s_count s_wetSet p1 _ rfl) (cwV 1 hts gX7_pages_X4_has rfl rfl rfl (by decide +kernel) ⟨Nat.le_of_ble_eq_true rfl, Nat.le_of_ble_eq_true rfl⟩) (hP.sub [1, 2, 3, 4, 5] rfl) hK hN (va_recv hK hP (ci := 4) (q0 := 1) rfl rfl) rfl hl.1 rfl (Nat.le_of_ble_eq_true rfl) dX7_pages_5 ⟨Nat.le_of_ble_eq_true rfl, Nat.le_of_ble_eq_true rfl⟩ ?_
  refine q_if_ne hx hb hf 13 dX7_pages_8 (by decide) (fun hf => ?_) (fun hf => ?_)
  · refine lv_iload_n hx hb dX7_pages_13 rfl (lv_at hl 2 rfl) ?_
    refine q_if_lt hx hb hf 22 dX7_pages_14 (by decide) (fun hf => ?_) (fun hf => ?_)
    · refine lv_bipush (v := -2) hx hb dX7_pages_22 (by decide) ?_
      have hq9 := Option.some.inj hf
      subst hq9
      exact hRet _ _ _ _ _ rfl rfl hP hD hS dX7_pages_24
    · refine lv_iload_n hx hb dX7_pages_17 rfl (lv_at hl 2 rfl) ?_
      refine lv_iconst (v := 2) hx hb dX7_pages_18 (by decide) ?_
      refine q_icmp_le hx hb hf 25 dX7_pages_19 (by decide) (fun hf => ?_) (fun hf => ?_)
      · refine lv_aload_n hx hb dX7_pages_25 rfl (lv_at hl 0 rfl) ?_
        refine va_get (D := D) (ci := 6) (v := .ref ad) (C := RX7) (T := TX7) (N := 9) hx hb hts iX7 hown hK hP 0 rfl rfl 2 (by decide) hF28 (fun _ h9 => h9) rfl dX7_pages_26 ?_
        refine lv_aload_n hx hb dX7_pages_29 rfl (lv_at hl 0 rfl) ?_
        refine va_get (D := D) (ci := 6) (v := .ref as) (C := RX7) (T := TX7) (N := 9) hx hb hts iX7 hown hK hP 0 rfl rfl 1 (by decide) hF21 (fun _ h9 => h9) rfl dX7_pages_30 ?_
        refine lv_iload_n hx hb dX7_pages_33 rfl (lv_at hl 1 rfl) ?_
        obtain ⟨z1, hz1, hf⟩ := bnd hf
        refine q_wVv (wr := [(ax, .inr (6, [.ref axrows, .ref as, .ref ad, .ref ay, .ref af, .ref ao, .int x_questions, .int x_traced, .int x_latestFault]))]) (rest := []) ⟨hx, hb, hml, hown, hts⟩ (kX1_tryPages l D cI cR ad adslip adleaf ae aekind aepage aeasked aesent as askind aspage asasked assent d_slip d_leaf d_count d_fittingPages d_leastPage d_greatestPage e_kind e_page e_asked e_sent e_count e_wetSet s_kind s_page s_asked s_sent s_count s_wetSet p1 z1 hz1) (cwV 2 hts gX7_pages_X1_tryPages rfl rfl rfl (by decide +kernel) ⟨Nat.le_of_ble_eq_true rfl, Nat.le_of_ble_eq_true rfl⟩) hP hD hS hA hK hN [6, 7, 8, 9, 10, 11, 12, 13, 1, 2, 3, 4, 5] [0] rfl rfl (by decide) (by decide) (by decide) (va_recv hK hP (ci := 1) (q0 := 6) rfl rfl) rfl hl.1 rfl (Nat.le_of_ble_eq_true rfl) dX7_pages_34 ⟨Nat.le_of_ble_eq_true rfl, Nat.le_of_ble_eq_true rfl⟩ (fun H locs hP hD hS => ?_)
        have hP := hP.sub (ws' := [(ax, .inr (6, [.ref axrows, .ref as, .ref ad, .ref ay, .ref af, .ref ao, .int x_questions, .int x_traced, .int x_latestFault])), (as, .inr (4, [.ref askind, .ref aspage, .ref asasked, .ref assent, .int s_count, .int s_wetSet])), (askind, .inl (cI, 7, .inl s_kind)), (aspage, .inl (cI, 7, .inl s_page)), (asasked, .inl (cI, 7, .inl s_asked)), (assent, .inl (cI, 7, .inl s_sent)), (ad, .inr (1, [.ref adslip, .ref adleaf, .ref ae, .int d_count, .int z1.1, .int z1.2.1, .int z1.2.2.1])), (adslip, .inl (cI, 8, .inl d_slip)), (adleaf, .inl (cI, 8, .inl d_leaf)), (ae, .inr (4, [.ref aekind, .ref aepage, .ref aeasked, .ref aesent, .int z1.2.2.2.2.2.2.2.1, .int z1.2.2.2.2.2.2.2.2])), (aekind, .inl (cI, 7, .inl z1.2.2.2.1)), (aepage, .inl (cI, 7, .inl z1.2.2.2.2.1)), (aeasked, .inl (cI, 7, .inl z1.2.2.2.2.2.1)), (aesent, .inl (cI, 7, .inl z1.2.2.2.2.2.2.1))]) [0, 9, 10, 11, 12, 13, 1, 2, 3, 4, 5, 6, 7, 8] rfl
        have hD := hD.sub (ws' := [(ax, .inr (6, [.ref axrows, .ref as, .ref ad, .ref ay, .ref af, .ref ao, .int x_questions, .int x_traced, .int x_latestFault])), (as, .inr (4, [.ref askind, .ref aspage, .ref asasked, .ref assent, .int s_count, .int s_wetSet])), (askind, .inl (cI, 7, .inl s_kind)), (aspage, .inl (cI, 7, .inl s_page)), (asasked, .inl (cI, 7, .inl s_asked)), (assent, .inl (cI, 7, .inl s_sent)), (ad, .inr (1, [.ref adslip, .ref adleaf, .ref ae, .int d_count, .int z1.1, .int z1.2.1, .int z1.2.2.1])), (adslip, .inl (cI, 8, .inl d_slip)), (adleaf, .inl (cI, 8, .inl d_leaf)), (ae, .inr (4, [.ref aekind, .ref aepage, .ref aeasked, .ref aesent, .int z1.2.2.2.2.2.2.2.1, .int z1.2.2.2.2.2.2.2.2])), (aekind, .inl (cI, 7, .inl z1.2.2.2.1)), (aepage, .inl (cI, 7, .inl z1.2.2.2.2.1)), (aeasked, .inl (cI, 7, .inl z1.2.2.2.2.2.1)), (aesent, .inl (cI, 7, .inl z1.2.2.2.2.2.2.1))]) [0, 9, 10, 11, 12, 13, 1, 2, 3, 4, 5, 6, 7, 8] (by decide) rfl
        refine lv_iload_n hx hb dX7_pages_37 rfl (lv_at hl 2 rfl) ?_
        rcases q_sw hf with ⟨hs38_0, hf⟩ | ⟨hs38_0, hf⟩
        · refine lv_lookup (off := 26) (tgt := 64) hx hb dX7_pages_38 (by decide) (by rw [hs38_0]; rfl) (by decide) ?_
          refine lv_aload_n hx hb dX7_pages_64 rfl (lv_at hl 0 rfl) ?_
          refine va_get (D := D) (ci := 6) (v := .ref ad) (C := RX7) (T := TX7) (N := 9) hx hb hts iX7 hown hK hP 0 rfl rfl 2 (by decide) hF28 (fun _ h9 => h9) rfl dX7_pages_65 ?_
          refine va_getN (D := D) (ci := 1) (v := .int z1.1) (C := RX1) (T := TX1) (N := 7) hx hb hts iX1 hown hK hP 6 rfl rfl 4 (by decide) hG192 (fun _ h9 => h9) rfl dX7_pages_68 ?_
          have hq9 := Option.some.inj hf
          subst hq9
          exact hRet _ _ _ _ _ rfl rfl hP hD hS dX7_pages_71
        · skip
          rcases q_sw hf with ⟨hs38_1, hf⟩ | ⟨hs38_1, hf⟩
          · refine lv_lookup (off := 34) (tgt := 72) hx hb dX7_pages_38 (by decide) (by rw [hs38_1]; rfl) (by decide) ?_
            refine lv_aload_n hx hb dX7_pages_72 rfl (lv_at hl 0 rfl) ?_
            refine va_get (D := D) (ci := 6) (v := .ref ad) (C := RX7) (T := TX7) (N := 9) hx hb hts iX7 hown hK hP 0 rfl rfl 2 (by decide) hF28 (fun _ h9 => h9) rfl dX7_pages_73 ?_
            refine va_getN (D := D) (ci := 1) (v := .int z1.2.1) (C := RX1) (T := TX1) (N := 7) hx hb hts iX1 hown hK hP 6 rfl rfl 5 (by decide) hG195 (fun _ h9 => h9) rfl dX7_pages_76 ?_
            have hq9 := Option.some.inj hf
            subst hq9
            exact hRet _ _ _ _ _ rfl rfl hP hD hS dX7_pages_79
          · skip
            have ehs38_0 := nt_i hs38_0 (show ((0 : Int32)).toInt = (0 : Int) by decide)
            have ehs38_1 := nt_i hs38_1 (show ((1 : Int32)).toInt = (1 : Int) by decide)
            refine lv_lookup (off := 42) (tgt := 80) hx hb dX7_pages_38 (by decide) (by show Op.lookupswitch.offset [(0, 26), (1, 34)] 42 _ = _; rw [Op.lookupswitch.offset_cons, if_neg (fun z => ehs38_0 z.symm), Op.lookupswitch.offset_cons, if_neg (fun z => ehs38_1 z.symm)]; rfl) (by decide) ?_
            refine lv_aload_n hx hb dX7_pages_80 rfl (lv_at hl 0 rfl) ?_
            refine va_get (D := D) (ci := 6) (v := .ref ad) (C := RX7) (T := TX7) (N := 9) hx hb hts iX7 hown hK hP 0 rfl rfl 2 (by decide) hF28 (fun _ h9 => h9) rfl dX7_pages_81 ?_
            refine va_getN (D := D) (ci := 1) (v := .int z1.2.2.1) (C := RX1) (T := TX1) (N := 7) hx hb hts iX1 hown hK hP 6 rfl rfl 6 (by decide) hG198 (fun _ h9 => h9) rfl dX7_pages_84 ?_
            have hq9 := Option.some.inj hf
            subst hq9
            exact hRet _ _ _ _ _ rfl rfl hP hD hS dX7_pages_87
      · refine lv_bipush (v := -2) hx hb dX7_pages_22 (by decide) ?_
        have hq9 := Option.some.inj hf
        subst hq9
        exact hRet _ _ _ _ _ rfl rfl hP hD hS dX7_pages_24
  · refine lv_iconst (v := -1) hx hb dX7_pages_11 (by decide) ?_
    have hq9 := Option.some.inj hf
    subst hq9
    exact hRet _ _ _ _ _ rfl rfl hP hD hS dX7_pages_12
set_option maxHeartbeats 4000000 in
set_option maxRecDepth 100000 in
theorem kX7_put (l : Launch) (D : va_G) (cI cR : ClassId) (ax axrows as ad ay af ao ar arcells : Nat) (x_rows : Nat → Option Nat) (x_questions : Int32) (x_traced : Int32) (x_latestFault : Int32) (r_cells : Nat → Int32) (r_there : Int32) (r_lane : Int32) (r_length : Int32) (p1 : Int32) (p2 : Int32) (p3 : Int32) (hrow : vp_in p1 4 → x_rows p1.toNatClampNeg = some ar) (q : Int32 × Int32 × (Nat → Int32)) (hf : pX7_put x_latestFault r_cells r_there r_lane r_length p1 p2 p3 = some q) : CWi l yX7_put wsX7_put ({ frames := 1, cells := 0, slots := 0, locals := 21 } : Room) D cI cR [.ref ax, .int p1, .int p2, .int p3] [(ax, .inr (6, [.ref axrows, .ref as, .ref ad, .ref ay, .ref af, .ref ao, .int x_questions, .int x_traced, .int x_latestFault])), (axrows, .inl (cR, 4, .inr (.inr (.inr (.inr x_rows))))), (ar, .inr (2, [.ref arcells, .int r_there, .int r_lane, .int r_length])), (arcells, .inl (cI, 60, .inl r_cells))] [(ax, .inr (6, [.ref axrows, .ref as, .ref ad, .ref ay, .ref af, .ref ao, .int x_questions, .int x_traced, .int q.2.1])), (axrows, .inl (cR, 4, .inr (.inr (.inr (.inr x_rows))))), (ar, .inr (2, [.ref arcells, .int r_there, .int r_lane, .int r_length])), (arcells, .inl (cI, 60, .inl q.2.2))] q.1 := by
  refine CWi.intro (cc := cX7_put) (maxL := 5) (ty := .int) (by decide) rfl (Nat.le_of_ble_eq_true rfl) ?_
  intro p e s m args below meth c hx hb hml hts hown hP hK hN A hA hD hS QQ hRet ls hl
  have hown : s.vm.findClass RX7 = some m.cls := hown
  have hl : lv_has ls 5 [(0, .ref ax), (1, .int p1), (2, .int p2), (3, .int p3)] := hl
  have iX2 : ∀ w ∈ u_ws RX2 TX2 4, w ∈ wsX7_put := by decide +kernel
  have iX7 : ∀ w ∈ u_ws RX7 TX7 9, w ∈ wsX7_put := by decide +kernel
  have hF13 := hts (.fieldLink RX7 13 "WorldIndex" "rows" "[LWorldIndex$Row;") (by decide +kernel)
  have hF53 := hts (.fieldLink RX7 53 "WorldIndex" "latestFault" "I") (by decide +kernel)
  have hG143 := NN.f (args := args) hN "WorldIndex" 143 "WorldIndex$Row" "cells" "[I" "WorldIndex" (by decide +kernel)
  have hG216 := NN.f (args := args) hN "WorldIndex" 216 "WorldIndex$Row" "there" "Z" "WorldIndex" (by decide +kernel)
  have hG220 := NN.f (args := args) hN "WorldIndex" 220 "WorldIndex$Row" "length" "I" "WorldIndex" (by decide +kernel)
  have hG223 := NN.f (args := args) hN "WorldIndex" 223 "WorldIndex$Row" "lane" "I" "WorldIndex" (by decide +kernel)
  unfold pX7_put at hf
  refine lv_aload_n hx hb dX7_put_0 rfl (lv_at hl 0 rfl) ?_
  refine lv_iconst (v := 0) hx hb dX7_put_1 (by decide) ?_
  refine va_put (D := D) (ci := 6) (v := .int ((0 : Int32))) (ty := .int) (C := RX7) (T := TX7) (N := 9) hx hb hts iX7 tyX7 tyX7_ok nmX7 hown hK hP hD hS 0 rfl rfl 8 (by decide) hF53 (fun _ h9 => h9) rfl (tyX7_ok 8 (by decide)) rfl rfl (Nat.le_of_ble_eq_true rfl) dX7_put_2 (fun H locs hP hD hS => ?_)
  have hP : va_P D vwCl [(ax, .inr (6, [.ref axrows, .ref as, .ref ad, .ref ay, .ref af, .ref ao, .int x_questions, .int x_traced, .int ((0 : Int32))])), (axrows, .inl (cR, 4, .inr (.inr (.inr (.inr x_rows))))), (ar, .inr (2, [.ref arcells, .int r_there, .int r_lane, .int r_length])), (arcells, .inl (cI, 60, .inl r_cells))] H := hP
  have hD : va_D A [(ax, .inr (6, [.ref axrows, .ref as, .ref ad, .ref ay, .ref af, .ref ao, .int x_questions, .int x_traced, .int ((0 : Int32))])), (axrows, .inl (cR, 4, .inr (.inr (.inr (.inr x_rows))))), (ar, .inr (2, [.ref arcells, .int r_there, .int r_lane, .int r_length])), (arcells, .inl (cI, 60, .inl r_cells))] := hD
  refine lv_iload_n hx hb dX7_put_5 rfl (lv_at hl 1 rfl) ?_
  refine q_rS (rest := []) ⟨hx, hb, hml, hown, hts⟩ (kX7_isSheet l D cI cR p1 _ rfl) (va_cwS 1 hts gX7_put_X7_isSheet rfl rfl rfl (by decide +kernel) ⟨Nat.le_of_ble_eq_true rfl, Nat.le_of_ble_eq_true rfl⟩) (hP.sub [] rfl) hK hN rfl hl.1 rfl (Nat.le_of_ble_eq_true rfl) dX7_put_6 ⟨Nat.le_of_ble_eq_true rfl, Nat.le_of_ble_eq_true rfl⟩ ?_
  refine q_if_ne hx hb hf 14 dX7_put_9 (by decide) (fun hf => ?_) (fun hf => ?_)
  · refine lv_aload_n hx hb dX7_put_14 rfl (lv_at hl 0 rfl) ?_
    refine va_get (D := D) (ci := 6) (v := .ref axrows) (C := RX7) (T := TX7) (N := 9) hx hb hts iX7 hown hK hP 0 rfl rfl 0 (by decide) hF13 (fun _ h9 => h9) rfl dX7_put_15 ?_
    refine lv_iload_n hx hb dX7_put_18 rfl (lv_at hl 1 rfl) ?_
    refine q_aald hx hb hK hP 1 1 rfl rfl hf hrow dX7_put_19 (fun hf => ?_)
    refine lv_astore (lv' := [(4, .ref ar), (0, .ref ax), (1, .int p1), (2, .int p2), (3, .int p3)]) hx hb dX7_put_20 hl (by decide) rfl (fun ls hl => ?_)
    refine lv_aload hx hb dX7_put_22 (lv_at hl 0 rfl) ?_
    refine va_getN (D := D) (ci := 2) (v := .int r_there) (C := RX2) (T := TX2) (N := 4) hx hb hts iX2 hown hK hP 2 rfl rfl 1 (by decide) hG216 (fun _ h9 => h9) rfl dX7_put_24 ?_
    refine q_if_ne hx hb hf 36 dX7_put_27 (by decide) (fun hf => ?_) (fun hf => ?_)
    · refine lv_iload_n hx hb dX7_put_36 rfl (lv_at hl 3 rfl) ?_
      obtain ⟨J49_1, eJ49_1, hf⟩ := q_jn hf
      have hJ49_1 : ∀ (H : Heap) (locs : List Loc) (ls : Array Slot), J49_1 = some q → va_P D vwCl [(ax, .inr (6, [.ref axrows, .ref as, .ref ad, .ref ay, .ref af, .ref ao, .int x_questions, .int x_traced, .int ((0 : Int32))])), (axrows, .inl (cR, 4, .inr (.inr (.inr (.inr x_rows))))), (ar, .inr (2, [.ref arcells, .int r_there, .int r_lane, .int r_length])), (arcells, .inl (cI, 60, .inl r_cells))] H → va_D A [(ax, .inr (6, [.ref axrows, .ref as, .ref ad, .ref ay, .ref af, .ref ao, .int x_questions, .int x_traced, .int ((0 : Int32))])), (axrows, .inl (cR, 4, .inr (.inr (.inr (.inr x_rows))))), (ar, .inr (2, [.ref arcells, .int r_there, .int r_lane, .int r_length])), (arcells, .inl (cI, 60, .inl r_cells))] → va_S A s.heap H locs → lv_has ls 5 [(0, .ref ax), (1, .int p1), (2, .int p2), (3, .int p3), (4, .ref ar)] → W p l e ({ frames := 1, cells := 0, slots := 0, locals := 21 } : Room) s m args below meth c H locs 0 0 QQ (F0 m 49 ls []) := by
        intro H locs ls hf hP hD hS hl
        rw [eJ49_1] at hf
        refine lv_aload_n hx hb dX7_put_49 rfl (lv_at hl 0 rfl) ?_
        refine lv_iconst (v := 3) hx hb dX7_put_50 (by decide) ?_
        obtain ⟨z2, hz2, hf⟩ := bnd hf
        refine q_wVi (wr := [(axrows, .inl (cR, 4, .inr (.inr (.inr (.inr x_rows))))), (ar, .inr (2, [.ref arcells, .int r_there, .int r_lane, .int r_length])), (arcells, .inl (cI, 60, .inl r_cells))]) (rest := []) ⟨hx, hb, hml, hown, hts⟩ (kX7_faulted l D cI cR ax axrows as ad ay af ao x_questions x_traced ((0 : Int32)) ((3 : Int32)) z2 hz2) (cwV 1 hts gX7_put_X7_faulted rfl rfl rfl (by decide +kernel) ⟨Nat.le_of_ble_eq_true rfl, Nat.le_of_ble_eq_true rfl⟩) hP hD hS hA hK hN [0] [1, 2, 3] rfl rfl (by decide) (by decide) (by decide) (va_recv hK hP (ci := 6) (q0 := 0) rfl rfl) rfl hl.1 rfl (Nat.le_of_ble_eq_true rfl) dX7_put_51 ⟨Nat.le_of_ble_eq_true rfl, Nat.le_of_ble_eq_true rfl⟩ (fun H locs hP hD hS => ?_)
        have hP := hP.sub (ws' := [(ax, .inr (6, [.ref axrows, .ref as, .ref ad, .ref ay, .ref af, .ref ao, .int x_questions, .int x_traced, .int z2.2])), (axrows, .inl (cR, 4, .inr (.inr (.inr (.inr x_rows))))), (ar, .inr (2, [.ref arcells, .int r_there, .int r_lane, .int r_length])), (arcells, .inl (cI, 60, .inl r_cells))]) [3, 0, 1, 2] rfl
        have hD := hD.sub (ws' := [(ax, .inr (6, [.ref axrows, .ref as, .ref ad, .ref ay, .ref af, .ref ao, .int x_questions, .int x_traced, .int z2.2])), (axrows, .inl (cR, 4, .inr (.inr (.inr (.inr x_rows))))), (ar, .inr (2, [.ref arcells, .int r_there, .int r_lane, .int r_length])), (arcells, .inl (cI, 60, .inl r_cells))]) [3, 0, 1, 2] (by decide) rfl
        have hq9 := Option.some.inj hf
        subst hq9
        exact hRet _ _ _ _ _ rfl rfl hP hD hS dX7_put_54
      refine q_if_lt hx hb hf 49 dX7_put_37 (by decide) (fun hf => ?_) (fun hf => ?_)
      · exact hJ49_1 _ _ _ hf hP hD hS (lv_sub hl [1, 2, 3, 4, 0] rfl)
      · refine lv_iload_n hx hb dX7_put_40 rfl (lv_at hl 3 rfl) ?_
        refine lv_aload hx hb dX7_put_41 (lv_at hl 0 rfl) ?_
        refine va_getN (D := D) (ci := 2) (v := .int r_length) (C := RX2) (T := TX2) (N := 4) hx hb hts iX2 hown hK hP 2 rfl rfl 3 (by decide) hG220 (fun _ h9 => h9) rfl dX7_put_43 ?_
        refine q_icmp_lt hx hb hf 55 dX7_put_46 (by decide) (fun hf => ?_) (fun hf => ?_)
        · refine lv_aload hx hb dX7_put_55 (lv_at hl 0 rfl) ?_
          refine va_getN (D := D) (ci := 2) (v := .ref arcells) (C := RX2) (T := TX2) (N := 4) hx hb hts iX2 hown hK hP 2 rfl rfl 0 (by decide) hG143 (fun _ h9 => h9) rfl dX7_put_57 ?_
          refine lv_iload_n hx hb dX7_put_60 rfl (lv_at hl 3 rfl) ?_
          refine lv_aload hx hb dX7_put_61 (lv_at hl 0 rfl) ?_
          refine va_getN (D := D) (ci := 2) (v := .int r_lane) (C := RX2) (T := TX2) (N := 4) hx hb hts iX2 hown hK hP 2 rfl rfl 2 (by decide) hG223 (fun _ h9 => h9) rfl dX7_put_63 ?_
          refine lv_iload_n hx hb dX7_put_66 rfl (lv_at hl 4 rfl) ?_
          refine q_rS (rest := [.int p2, .ref arcells]) ⟨hx, hb, hml, hown, hts⟩ (kX7_cutTo l D cI cR r_lane p3 _ rfl) (va_cwS 2 hts gX7_put_X7_cutTo rfl rfl rfl (by decide +kernel) ⟨Nat.le_of_ble_eq_true rfl, Nat.le_of_ble_eq_true rfl⟩) (hP.sub [] rfl) hK hN rfl hl.1 rfl (Nat.le_of_ble_eq_true rfl) dX7_put_67 ⟨Nat.le_of_ble_eq_true rfl, Nat.le_of_ble_eq_true rfl⟩ ?_
          refine q_iast hx hb hK hP hD hS 3 0 rfl rfl hf dX7_put_70 (fun g3 H locs hf hP hD hS => ?_)
          have hP : va_P D vwCl [(ax, .inr (6, [.ref axrows, .ref as, .ref ad, .ref ay, .ref af, .ref ao, .int x_questions, .int x_traced, .int ((0 : Int32))])), (axrows, .inl (cR, 4, .inr (.inr (.inr (.inr x_rows))))), (ar, .inr (2, [.ref arcells, .int r_there, .int r_lane, .int r_length])), (arcells, .inl (cI, 60, .inl g3))] H := hP
          have hD : va_D A [(ax, .inr (6, [.ref axrows, .ref as, .ref ad, .ref ay, .ref af, .ref ao, .int x_questions, .int x_traced, .int ((0 : Int32))])), (axrows, .inl (cR, 4, .inr (.inr (.inr (.inr x_rows))))), (ar, .inr (2, [.ref arcells, .int r_there, .int r_lane, .int r_length])), (arcells, .inl (cI, 60, .inl g3))] := hD
          refine lv_iconst (v := 1) hx hb dX7_put_71 (by decide) ?_
          have hq9 := Option.some.inj hf
          subst hq9
          exact hRet _ _ _ _ _ rfl rfl hP hD hS dX7_put_72
        · exact hJ49_1 _ _ _ hf hP hD hS (lv_sub hl [1, 2, 3, 4, 0] rfl)
    · refine lv_aload_n hx hb dX7_put_30 rfl (lv_at hl 1 rfl) ?_
      refine lv_iconst (v := 1) hx hb dX7_put_31 (by decide) ?_
      obtain ⟨z4, hz4, hf⟩ := bnd hf
      refine q_wVi (wr := [(axrows, .inl (cR, 4, .inr (.inr (.inr (.inr x_rows))))), (ar, .inr (2, [.ref arcells, .int r_there, .int r_lane, .int r_length])), (arcells, .inl (cI, 60, .inl r_cells))]) (rest := []) ⟨hx, hb, hml, hown, hts⟩ (kX7_faulted l D cI cR ax axrows as ad ay af ao x_questions x_traced ((0 : Int32)) ((1 : Int32)) z4 hz4) (cwV 1 hts gX7_put_X7_faulted rfl rfl rfl (by decide +kernel) ⟨Nat.le_of_ble_eq_true rfl, Nat.le_of_ble_eq_true rfl⟩) hP hD hS hA hK hN [0] [1, 2, 3] rfl rfl (by decide) (by decide) (by decide) (va_recv hK hP (ci := 6) (q0 := 0) rfl rfl) rfl hl.1 rfl (Nat.le_of_ble_eq_true rfl) dX7_put_32 ⟨Nat.le_of_ble_eq_true rfl, Nat.le_of_ble_eq_true rfl⟩ (fun H locs hP hD hS => ?_)
      have hP := hP.sub (ws' := [(ax, .inr (6, [.ref axrows, .ref as, .ref ad, .ref ay, .ref af, .ref ao, .int x_questions, .int x_traced, .int z4.2])), (axrows, .inl (cR, 4, .inr (.inr (.inr (.inr x_rows))))), (ar, .inr (2, [.ref arcells, .int r_there, .int r_lane, .int r_length])), (arcells, .inl (cI, 60, .inl r_cells))]) [3, 0, 1, 2] rfl
      have hD := hD.sub (ws' := [(ax, .inr (6, [.ref axrows, .ref as, .ref ad, .ref ay, .ref af, .ref ao, .int x_questions, .int x_traced, .int z4.2])), (axrows, .inl (cR, 4, .inr (.inr (.inr (.inr x_rows))))), (ar, .inr (2, [.ref arcells, .int r_there, .int r_lane, .int r_length])), (arcells, .inl (cI, 60, .inl r_cells))]) [3, 0, 1, 2] (by decide) rfl
      have hq9 := Option.some.inj hf
      subst hq9
      exact hRet _ _ _ _ _ rfl rfl hP hD hS dX7_put_35
  · refine lv_iconst (v := -1) hx hb dX7_put_12 (by decide) ?_
    have hq9 := Option.some.inj hf
    subst hq9
    exact hRet _ _ _ _ _ rfl rfl hP hD hS dX7_put_13
set_option maxHeartbeats 4000000 in
set_option maxRecDepth 100000 in
theorem kX7_quote (l : Launch) (D : va_G) (cI cR : ClassId) (ax axrows as ad ay af ao askind aspage asasked assent : Nat) (x_questions : Int32) (x_traced : Int32) (x_latestFault : Int32) (s_kind : Nat → Int32) (s_page : Nat → Int32) (s_asked : Nat → Int32) (s_sent : Nat → Int32) (s_count : Int32) (s_wetSet : Int32) (p1 : Int32) (q : Int32 × Int32) (hf : pX7_quote x_traced s_kind s_count p1 = some q) : CWi l yX7_quote wsX7_quote ({ frames := 1, cells := 0, slots := 0, locals := 21 } : Room) D cI cR [.ref ax, .int p1] [(ax, .inr (6, [.ref axrows, .ref as, .ref ad, .ref ay, .ref af, .ref ao, .int x_questions, .int x_traced, .int x_latestFault])), (as, .inr (4, [.ref askind, .ref aspage, .ref asasked, .ref assent, .int s_count, .int s_wetSet])), (askind, .inl (cI, 7, .inl s_kind)), (aspage, .inl (cI, 7, .inl s_page)), (asasked, .inl (cI, 7, .inl s_asked)), (assent, .inl (cI, 7, .inl s_sent))] [(ax, .inr (6, [.ref axrows, .ref as, .ref ad, .ref ay, .ref af, .ref ao, .int x_questions, .int q.2, .int x_latestFault])), (as, .inr (4, [.ref askind, .ref aspage, .ref asasked, .ref assent, .int s_count, .int s_wetSet])), (askind, .inl (cI, 7, .inl s_kind)), (aspage, .inl (cI, 7, .inl s_page)), (asasked, .inl (cI, 7, .inl s_asked)), (assent, .inl (cI, 7, .inl s_sent))] q.1 := by
  refine CWi.intro (cc := cX7_quote) (maxL := 2) (ty := .int) (by decide) rfl (Nat.le_of_ble_eq_true rfl) ?_
  intro p e s m args below meth c hx hb hml hts hown hP hK hN A hA hD hS QQ hRet ls hl
  have hown : s.vm.findClass RX7 = some m.cls := hown
  have hl : lv_has ls 2 [(0, .ref ax), (1, .int p1)] := hl
  have iX4 : ∀ w ∈ u_ws RX4 TX4 6, w ∈ wsX7_quote := by decide +kernel
  have iX7 : ∀ w ∈ u_ws RX7 TX7 9, w ∈ wsX7_quote := by decide +kernel
  have hF21 := hts (.fieldLink RX7 21 "WorldIndex" "slips" "LWorldIndex$Slips;") (by decide +kernel)
  have hG92 := NN.f (args := args) hN "WorldIndex" 92 "WorldIndex$Slips" "kind" "[I" "WorldIndex" (by decide +kernel)
  unfold pX7_quote at hf
  refine lv_aload_n hx hb dX7_quote_0 rfl (lv_at hl 0 rfl) ?_
  refine va_get (D := D) (ci := 6) (v := .ref as) (C := RX7) (T := TX7) (N := 9) hx hb hts iX7 hown hK hP 0 rfl rfl 1 (by decide) hF21 (fun _ h9 => h9) rfl dX7_quote_1 ?_
  refine lv_iload_n hx hb dX7_quote_4 rfl (lv_at hl 1 rfl) ?_
  refine q_rV (rest := []) ⟨hx, hb, hml, hown, hts⟩ (kX4_has l D cI cR as askind aspage asasked assent s_kind s_page s_asked s_sent s_count s_wetSet p1 _ rfl) (cwV 1 hts gX7_quote_X4_has rfl rfl rfl (by decide +kernel) ⟨Nat.le_of_ble_eq_true rfl, Nat.le_of_ble_eq_true rfl⟩) (hP.sub [1, 2, 3, 4, 5] rfl) hK hN (va_recv hK hP (ci := 4) (q0 := 1) rfl rfl) rfl hl.1 rfl (Nat.le_of_ble_eq_true rfl) dX7_quote_5 ⟨Nat.le_of_ble_eq_true rfl, Nat.le_of_ble_eq_true rfl⟩ ?_
  refine q_if_ne hx hb hf 13 dX7_quote_8 (by decide) (fun hf => ?_) (fun hf => ?_)
  · refine lv_aload_n hx hb dX7_quote_13 rfl (lv_at hl 0 rfl) ?_
    refine va_get (D := D) (ci := 6) (v := .ref as) (C := RX7) (T := TX7) (N := 9) hx hb hts iX7 hown hK hP 0 rfl rfl 1 (by decide) hF21 (fun _ h9 => h9) rfl dX7_quote_14 ?_
    refine va_getN (D := D) (ci := 4) (v := .ref askind) (C := RX4) (T := TX4) (N := 6) hx hb hts iX4 hown hK hP 1 rfl rfl 0 (by decide) hG92 (fun _ h9 => h9) rfl dX7_quote_17 ?_
    refine lv_iload_n hx hb dX7_quote_20 rfl (lv_at hl 1 rfl) ?_
    refine q_iald hx hb hK hP 2 0 rfl rfl hf dX7_quote_21 (fun x1 hf => ?_)
    refine lv_iconst (v := 2) hx hb dX7_quote_22 (by decide) ?_
    refine q_icmp_ne hx hb hf 34 dX7_quote_23 (by decide) (fun hf => ?_) (fun hf => ?_)
    · refine lv_aload_n hx hb dX7_quote_34 rfl (lv_at hl 0 rfl) ?_
      refine lv_iconst (v := 4) hx hb dX7_quote_35 (by decide) ?_
      obtain ⟨z2, hz2, hf⟩ := bnd hf
      refine q_wVv (wr := [(as, .inr (4, [.ref askind, .ref aspage, .ref asasked, .ref assent, .int s_count, .int s_wetSet])), (askind, .inl (cI, 7, .inl s_kind)), (aspage, .inl (cI, 7, .inl s_page)), (asasked, .inl (cI, 7, .inl s_asked)), (assent, .inl (cI, 7, .inl s_sent))]) (rest := []) ⟨hx, hb, hml, hown, hts⟩ (kX7_leaveInTrace l D cI cR ax axrows as ad ay af ao x_questions x_traced x_latestFault ((4 : Int32)) z2 hz2) (cwV 1 hts gX7_quote_X7_leaveInTrace rfl rfl rfl (by decide +kernel) ⟨Nat.le_of_ble_eq_true rfl, Nat.le_of_ble_eq_true rfl⟩) hP hD hS hA hK hN [0] [1, 2, 3, 4, 5] rfl rfl (by decide) (by decide) (by decide) (va_recv hK hP (ci := 6) (q0 := 0) rfl rfl) rfl hl.1 rfl (Nat.le_of_ble_eq_true rfl) dX7_quote_36 ⟨Nat.le_of_ble_eq_true rfl, Nat.le_of_ble_eq_true rfl⟩ (fun H locs hP hD hS => ?_)
      have hP := hP.sub (ws' := [(ax, .inr (6, [.ref axrows, .ref as, .ref ad, .ref ay, .ref af, .ref ao, .int x_questions, .int z2, .int x_latestFault])), (as, .inr (4, [.ref askind, .ref aspage, .ref asasked, .ref assent, .int s_count, .int s_wetSet])), (askind, .inl (cI, 7, .inl s_kind)), (aspage, .inl (cI, 7, .inl s_page)), (asasked, .inl (cI, 7, .inl s_asked)), (assent, .inl (cI, 7, .inl s_sent))]) [5, 0, 1, 2, 3, 4] rfl
      have hD := hD.sub (ws' := [(ax, .inr (6, [.ref axrows, .ref as, .ref ad, .ref ay, .ref af, .ref ao, .int x_questions, .int z2, .int x_latestFault])), (as, .inr (4, [.ref askind, .ref aspage, .ref asasked, .ref assent, .int s_count, .int s_wetSet])), (askind, .inl (cI, 7, .inl s_kind)), (aspage, .inl (cI, 7, .inl s_page)), (asasked, .inl (cI, 7, .inl s_asked)), (assent, .inl (cI, 7, .inl s_sent))]) [5, 0, 1, 2, 3, 4] (by decide) rfl
      refine lv_iload_n hx hb dX7_quote_39 rfl (lv_at hl 1 rfl) ?_
      have hq9 := Option.some.inj hf
      subst hq9
      exact hRet _ _ _ _ _ rfl rfl hP hD hS dX7_quote_40
    · refine lv_aload_n hx hb dX7_quote_26 rfl (lv_at hl 0 rfl) ?_
      refine lv_iconst (v := 5) hx hb dX7_quote_27 (by decide) ?_
      obtain ⟨z3, hz3, hf⟩ := bnd hf
      refine q_wVv (wr := [(as, .inr (4, [.ref askind, .ref aspage, .ref asasked, .ref assent, .int s_count, .int s_wetSet])), (askind, .inl (cI, 7, .inl s_kind)), (aspage, .inl (cI, 7, .inl s_page)), (asasked, .inl (cI, 7, .inl s_asked)), (assent, .inl (cI, 7, .inl s_sent))]) (rest := []) ⟨hx, hb, hml, hown, hts⟩ (kX7_leaveInTrace l D cI cR ax axrows as ad ay af ao x_questions x_traced x_latestFault ((5 : Int32)) z3 hz3) (cwV 1 hts gX7_quote_X7_leaveInTrace rfl rfl rfl (by decide +kernel) ⟨Nat.le_of_ble_eq_true rfl, Nat.le_of_ble_eq_true rfl⟩) hP hD hS hA hK hN [0] [1, 2, 3, 4, 5] rfl rfl (by decide) (by decide) (by decide) (va_recv hK hP (ci := 6) (q0 := 0) rfl rfl) rfl hl.1 rfl (Nat.le_of_ble_eq_true rfl) dX7_quote_28 ⟨Nat.le_of_ble_eq_true rfl, Nat.le_of_ble_eq_true rfl⟩ (fun H locs hP hD hS => ?_)
      have hP := hP.sub (ws' := [(ax, .inr (6, [.ref axrows, .ref as, .ref ad, .ref ay, .ref af, .ref ao, .int x_questions, .int z3, .int x_latestFault])), (as, .inr (4, [.ref askind, .ref aspage, .ref asasked, .ref assent, .int s_count, .int s_wetSet])), (askind, .inl (cI, 7, .inl s_kind)), (aspage, .inl (cI, 7, .inl s_page)), (asasked, .inl (cI, 7, .inl s_asked)), (assent, .inl (cI, 7, .inl s_sent))]) [5, 0, 1, 2, 3, 4] rfl
      have hD := hD.sub (ws' := [(ax, .inr (6, [.ref axrows, .ref as, .ref ad, .ref ay, .ref af, .ref ao, .int x_questions, .int z3, .int x_latestFault])), (as, .inr (4, [.ref askind, .ref aspage, .ref asasked, .ref assent, .int s_count, .int s_wetSet])), (askind, .inl (cI, 7, .inl s_kind)), (aspage, .inl (cI, 7, .inl s_page)), (asasked, .inl (cI, 7, .inl s_asked)), (assent, .inl (cI, 7, .inl s_sent))]) [5, 0, 1, 2, 3, 4] (by decide) rfl
      refine lv_bipush (v := 20) hx hb dX7_quote_31 (by decide) ?_
      have hq9 := Option.some.inj hf
      subst hq9
      exact hRet _ _ _ _ _ rfl rfl hP hD hS dX7_quote_33
  · refine lv_iconst (v := -1) hx hb dX7_quote_11 (by decide) ?_
    have hq9 := Option.some.inj hf
    subst hq9
    exact hRet _ _ _ _ _ rfl rfl hP hD hS dX7_quote_12
set_option maxHeartbeats 4000000 in
set_option maxRecDepth 100000 in
theorem kX7_reading (l : Launch) (D : va_G) (cI cR : ClassId) (ax axrows as ad ay af ao askind aspage asasked assent adslip adleaf ae aekind aepage aeasked aesent : Nat) (x_questions : Int32) (x_traced : Int32) (x_latestFault : Int32) (s_kind : Nat → Int32) (s_page : Nat → Int32) (s_asked : Nat → Int32) (s_sent : Nat → Int32) (s_count : Int32) (s_wetSet : Int32) (d_slip : Nat → Int32) (d_leaf : Nat → Int32) (d_count : Int32) (d_fittingPages : Int32) (d_leastPage : Int32) (d_greatestPage : Int32) (e_kind : Nat → Int32) (e_page : Nat → Int32) (e_asked : Nat → Int32) (e_sent : Nat → Int32) (e_count : Int32) (e_wetSet : Int32) (p1 : Int32) (p2 : Int32) (q : Int32 × (Nat → Int32) × (Nat → Int32) × Int32) (hf : pX7_reading s_count d_slip d_leaf d_count p1 p2 = some q) : CWi l yX7_reading wsX7_reading ({ frames := 1, cells := 0, slots := 0, locals := 22 } : Room) D cI cR [.ref ax, .int p1, .int p2] [(ax, .inr (6, [.ref axrows, .ref as, .ref ad, .ref ay, .ref af, .ref ao, .int x_questions, .int x_traced, .int x_latestFault])), (as, .inr (4, [.ref askind, .ref aspage, .ref asasked, .ref assent, .int s_count, .int s_wetSet])), (askind, .inl (cI, 7, .inl s_kind)), (aspage, .inl (cI, 7, .inl s_page)), (asasked, .inl (cI, 7, .inl s_asked)), (assent, .inl (cI, 7, .inl s_sent)), (ad, .inr (1, [.ref adslip, .ref adleaf, .ref ae, .int d_count, .int d_fittingPages, .int d_leastPage, .int d_greatestPage])), (adslip, .inl (cI, 8, .inl d_slip)), (adleaf, .inl (cI, 8, .inl d_leaf)), (ae, .inr (4, [.ref aekind, .ref aepage, .ref aeasked, .ref aesent, .int e_count, .int e_wetSet])), (aekind, .inl (cI, 7, .inl e_kind)), (aepage, .inl (cI, 7, .inl e_page)), (aeasked, .inl (cI, 7, .inl e_asked)), (aesent, .inl (cI, 7, .inl e_sent))] [(ax, .inr (6, [.ref axrows, .ref as, .ref ad, .ref ay, .ref af, .ref ao, .int x_questions, .int x_traced, .int x_latestFault])), (as, .inr (4, [.ref askind, .ref aspage, .ref asasked, .ref assent, .int s_count, .int s_wetSet])), (askind, .inl (cI, 7, .inl s_kind)), (aspage, .inl (cI, 7, .inl s_page)), (asasked, .inl (cI, 7, .inl s_asked)), (assent, .inl (cI, 7, .inl s_sent)), (ad, .inr (1, [.ref adslip, .ref adleaf, .ref ae, .int q.2.2.2, .int d_fittingPages, .int d_leastPage, .int d_greatestPage])), (adslip, .inl (cI, 8, .inl q.2.1)), (adleaf, .inl (cI, 8, .inl q.2.2.1)), (ae, .inr (4, [.ref aekind, .ref aepage, .ref aeasked, .ref aesent, .int e_count, .int e_wetSet])), (aekind, .inl (cI, 7, .inl e_kind)), (aepage, .inl (cI, 7, .inl e_page)), (aeasked, .inl (cI, 7, .inl e_asked)), (aesent, .inl (cI, 7, .inl e_sent))] q.1 := by
  refine CWi.intro (cc := cX7_reading) (maxL := 3) (ty := .int) (by decide) rfl (Nat.le_of_ble_eq_true rfl) ?_
  intro p e s m args below meth c hx hb hml hts hown hP hK hN A hA hD hS QQ hRet ls hl
  have hown : s.vm.findClass RX7 = some m.cls := hown
  have hl : lv_has ls 3 [(0, .ref ax), (1, .int p1), (2, .int p2)] := hl
  have iX1 : ∀ w ∈ u_ws RX1 TX1 7, w ∈ wsX7_reading := by decide +kernel
  have iX7 : ∀ w ∈ u_ws RX7 TX7 9, w ∈ wsX7_reading := by decide +kernel
  have hF21 := hts (.fieldLink RX7 21 "WorldIndex" "slips" "LWorldIndex$Slips;") (by decide +kernel)
  have hF28 := hts (.fieldLink RX7 28 "WorldIndex" "readings" "LWorldIndex$Readings;") (by decide +kernel)
  have hG82 := NN.f (args := args) hN "WorldIndex" 82 "WorldIndex$Readings" "count" "I" "WorldIndex" (by decide +kernel)
  unfold pX7_reading at hf
  refine lv_aload_n hx hb dX7_reading_0 rfl (lv_at hl 0 rfl) ?_
  refine va_get (D := D) (ci := 6) (v := .ref as) (C := RX7) (T := TX7) (N := 9) hx hb hts iX7 hown hK hP 0 rfl rfl 1 (by decide) hF21 (fun _ h9 => h9) rfl dX7_reading_1 ?_
  refine lv_iload_n hx hb dX7_reading_4 rfl (lv_at hl 1 rfl) ?_
  refine q_rV (rest := []) ⟨hx, hb, hml, hown, hts⟩ (kX4_has l D cI cR as askind aspage asasked assent s_kind s_page s_asked s_sent s_count s_wetSet p1 _ rfl) (cwV 1 hts gX7_reading_X4_has rfl rfl rfl (by decide +kernel) ⟨Nat.le_of_ble_eq_true rfl, Nat.le_of_ble_eq_true rfl⟩) (hP.sub [1, 2, 3, 4, 5] rfl) hK hN (va_recv hK hP (ci := 4) (q0 := 1) rfl rfl) rfl hl.1 rfl (Nat.le_of_ble_eq_true rfl) dX7_reading_5 ⟨Nat.le_of_ble_eq_true rfl, Nat.le_of_ble_eq_true rfl⟩ ?_
  refine q_if_ne hx hb hf 13 dX7_reading_8 (by decide) (fun hf => ?_) (fun hf => ?_)
  · refine lv_iload_n hx hb dX7_reading_13 rfl (lv_at hl 2 rfl) ?_
    refine lv_bipush (v := -9) hx hb dX7_reading_14 (by decide) ?_
    obtain ⟨J29_1, eJ29_1, hf⟩ := q_jn hf
    have hJ29_1 : ∀ (H : Heap) (locs : List Loc) (ls : Array Slot), J29_1 = some q → va_P D vwCl [(ax, .inr (6, [.ref axrows, .ref as, .ref ad, .ref ay, .ref af, .ref ao, .int x_questions, .int x_traced, .int x_latestFault])), (as, .inr (4, [.ref askind, .ref aspage, .ref asasked, .ref assent, .int s_count, .int s_wetSet])), (askind, .inl (cI, 7, .inl s_kind)), (aspage, .inl (cI, 7, .inl s_page)), (asasked, .inl (cI, 7, .inl s_asked)), (assent, .inl (cI, 7, .inl s_sent)), (ad, .inr (1, [.ref adslip, .ref adleaf, .ref ae, .int d_count, .int d_fittingPages, .int d_leastPage, .int d_greatestPage])), (adslip, .inl (cI, 8, .inl d_slip)), (adleaf, .inl (cI, 8, .inl d_leaf)), (ae, .inr (4, [.ref aekind, .ref aepage, .ref aeasked, .ref aesent, .int e_count, .int e_wetSet])), (aekind, .inl (cI, 7, .inl e_kind)), (aepage, .inl (cI, 7, .inl e_page)), (aeasked, .inl (cI, 7, .inl e_asked)), (aesent, .inl (cI, 7, .inl e_sent))] H → va_D A [(ax, .inr (6, [.ref axrows, .ref as, .ref ad, .ref ay, .ref af, .ref ao, .int x_questions, .int x_traced, .int x_latestFault])), (as, .inr (4, [.ref askind, .ref aspage, .ref asasked, .ref assent, .int s_count, .int s_wetSet])), (askind, .inl (cI, 7, .inl s_kind)), (aspage, .inl (cI, 7, .inl s_page)), (asasked, .inl (cI, 7, .inl s_asked)), (assent, .inl (cI, 7, .inl s_sent)), (ad, .inr (1, [.ref adslip, .ref adleaf, .ref ae, .int d_count, .int d_fittingPages, .int d_leastPage, .int d_greatestPage])), (adslip, .inl (cI, 8, .inl d_slip)), (adleaf, .inl (cI, 8, .inl d_leaf)), (ae, .inr (4, [.ref aekind, .ref aepage, .ref aeasked, .ref aesent, .int e_count, .int e_wetSet])), (aekind, .inl (cI, 7, .inl e_kind)), (aepage, .inl (cI, 7, .inl e_page)), (aeasked, .inl (cI, 7, .inl e_asked)), (aesent, .inl (cI, 7, .inl e_sent))] → va_S A s.heap H locs → lv_has ls 3 [(0, .ref ax), (1, .int p1), (2, .int p2)] → W p l e ({ frames := 1, cells := 0, slots := 0, locals := 22 } : Room) s m args below meth c H locs 0 0 QQ (F0 m 29 ls []) := by
      intro H locs ls hf hP hD hS hl
      rw [eJ29_1] at hf
      refine lv_aload_n hx hb dX7_reading_29 rfl (lv_at hl 0 rfl) ?_
      refine va_get (D := D) (ci := 6) (v := .ref ad) (C := RX7) (T := TX7) (N := 9) hx hb hts iX7 hown hK hP 0 rfl rfl 2 (by decide) hF28 (fun _ h9 => h9) rfl dX7_reading_30 ?_
      refine va_getN (D := D) (ci := 1) (v := .int d_count) (C := RX1) (T := TX1) (N := 7) hx hb hts iX1 hown hK hP 6 rfl rfl 3 (by decide) hG82 (fun _ h9 => h9) rfl dX7_reading_33 ?_
      refine lv_bipush (v := 8) hx hb dX7_reading_36 (by decide) ?_
      refine q_icmp_lt hx hb hf 44 dX7_reading_38 (by decide) (fun hf => ?_) (fun hf => ?_)
      · refine lv_aload_n hx hb dX7_reading_44 rfl (lv_at hl 0 rfl) ?_
        refine va_get (D := D) (ci := 6) (v := .ref ad) (C := RX7) (T := TX7) (N := 9) hx hb hts iX7 hown hK hP 0 rfl rfl 2 (by decide) hF28 (fun _ h9 => h9) rfl dX7_reading_45 ?_
        refine lv_iload_n hx hb dX7_reading_48 rfl (lv_at hl 1 rfl) ?_
        refine lv_iload_n hx hb dX7_reading_49 rfl (lv_at hl 2 rfl) ?_
        obtain ⟨z2, hz2, hf⟩ := bnd hf
        refine q_wVi (wr := [(ax, .inr (6, [.ref axrows, .ref as, .ref ad, .ref ay, .ref af, .ref ao, .int x_questions, .int x_traced, .int x_latestFault])), (as, .inr (4, [.ref askind, .ref aspage, .ref asasked, .ref assent, .int s_count, .int s_wetSet])), (askind, .inl (cI, 7, .inl s_kind)), (aspage, .inl (cI, 7, .inl s_page)), (asasked, .inl (cI, 7, .inl s_asked)), (assent, .inl (cI, 7, .inl s_sent))]) (rest := []) ⟨hx, hb, hml, hown, hts⟩ (kX1_note l D cI cR ad adslip adleaf ae aekind aepage aeasked aesent d_slip d_leaf d_count d_fittingPages d_leastPage d_greatestPage e_kind e_page e_asked e_sent e_count e_wetSet p1 p2 z2 hz2) (cwV 2 hts gX7_reading_X1_note rfl rfl rfl (by decide +kernel) ⟨Nat.le_of_ble_eq_true rfl, Nat.le_of_ble_eq_true rfl⟩) hP hD hS hA hK hN [6, 7, 8, 9, 10, 11, 12, 13] [0, 1, 2, 3, 4, 5] rfl rfl (by decide) (by decide) (by decide) (va_recv hK hP (ci := 1) (q0 := 6) rfl rfl) rfl hl.1 rfl (Nat.le_of_ble_eq_true rfl) dX7_reading_50 ⟨Nat.le_of_ble_eq_true rfl, Nat.le_of_ble_eq_true rfl⟩ (fun H locs hP hD hS => ?_)
        have hP := hP.sub (ws' := [(ax, .inr (6, [.ref axrows, .ref as, .ref ad, .ref ay, .ref af, .ref ao, .int x_questions, .int x_traced, .int x_latestFault])), (as, .inr (4, [.ref askind, .ref aspage, .ref asasked, .ref assent, .int s_count, .int s_wetSet])), (askind, .inl (cI, 7, .inl s_kind)), (aspage, .inl (cI, 7, .inl s_page)), (asasked, .inl (cI, 7, .inl s_asked)), (assent, .inl (cI, 7, .inl s_sent)), (ad, .inr (1, [.ref adslip, .ref adleaf, .ref ae, .int z2.2.2.2, .int d_fittingPages, .int d_leastPage, .int d_greatestPage])), (adslip, .inl (cI, 8, .inl z2.2.1)), (adleaf, .inl (cI, 8, .inl z2.2.2.1)), (ae, .inr (4, [.ref aekind, .ref aepage, .ref aeasked, .ref aesent, .int e_count, .int e_wetSet])), (aekind, .inl (cI, 7, .inl e_kind)), (aepage, .inl (cI, 7, .inl e_page)), (aeasked, .inl (cI, 7, .inl e_asked)), (aesent, .inl (cI, 7, .inl e_sent))]) [0, 1, 2, 3, 4, 5, 6, 7, 8, 9, 10, 11, 12, 13] rfl
        have hD := hD.sub (ws' := [(ax, .inr (6, [.ref axrows, .ref as, .ref ad, .ref ay, .ref af, .ref ao, .int x_questions, .int x_traced, .int x_latestFault])), (as, .inr (4, [.ref askind, .ref aspage, .ref asasked, .ref assent, .int s_count, .int s_wetSet])), (askind, .inl (cI, 7, .inl s_kind)), (aspage, .inl (cI, 7, .inl s_page)), (asasked, .inl (cI, 7, .inl s_asked)), (assent, .inl (cI, 7, .inl s_sent)), (ad, .inr (1, [.ref adslip, .ref adleaf, .ref ae, .int z2.2.2.2, .int d_fittingPages, .int d_leastPage, .int d_greatestPage])), (adslip, .inl (cI, 8, .inl z2.2.1)), (adleaf, .inl (cI, 8, .inl z2.2.2.1)), (ae, .inr (4, [.ref aekind, .ref aepage, .ref aeasked, .ref aesent, .int e_count, .int e_wetSet])), (aekind, .inl (cI, 7, .inl e_kind)), (aepage, .inl (cI, 7, .inl e_page)), (aeasked, .inl (cI, 7, .inl e_asked)), (aesent, .inl (cI, 7, .inl e_sent))]) [0, 1, 2, 3, 4, 5, 6, 7, 8, 9, 10, 11, 12, 13] (by decide) rfl
        have hq9 := Option.some.inj hf
        subst hq9
        exact hRet _ _ _ _ _ rfl rfl hP hD hS dX7_reading_53
      · refine lv_bipush (v := -4) hx hb dX7_reading_41 (by decide) ?_
        have hq9 := Option.some.inj hf
        subst hq9
        exact hRet _ _ _ _ _ rfl rfl hP hD hS dX7_reading_43
    refine q_icmp_eq hx hb hf 29 dX7_reading_16 (by decide) (fun hf => ?_) (fun hf => ?_)
    · exact hJ29_1 _ _ _ hf hP hD hS (lv_sub hl [0, 1, 2] rfl)
    · refine lv_iload_n hx hb dX7_reading_19 rfl (lv_at hl 2 rfl) ?_
      refine q_rS (rest := []) ⟨hx, hb, hml, hown, hts⟩ (kX7_isLeaf l D cI cR p2 _ rfl) (va_cwS 1 hts gX7_reading_X7_isLeaf rfl rfl rfl (by decide +kernel) ⟨Nat.le_of_ble_eq_true rfl, Nat.le_of_ble_eq_true rfl⟩) (hP.sub [] rfl) hK hN rfl hl.1 rfl (Nat.le_of_ble_eq_true rfl) dX7_reading_20 ⟨Nat.le_of_ble_eq_true rfl, Nat.le_of_ble_eq_true rfl⟩ ?_
      refine q_if_ne hx hb hf 29 dX7_reading_23 (by decide) (fun hf => ?_) (fun hf => ?_)
      · exact hJ29_1 _ _ _ hf hP hD hS (lv_sub hl [0, 1, 2] rfl)
      · refine lv_bipush (v := -2) hx hb dX7_reading_26 (by decide) ?_
        have hq9 := Option.some.inj hf
        subst hq9
        exact hRet _ _ _ _ _ rfl rfl hP hD hS dX7_reading_28
  · refine lv_iconst (v := -1) hx hb dX7_reading_11 (by decide) ?_
    have hq9 := Option.some.inj hf
    subst hq9
    exact hRet _ _ _ _ _ rfl rfl hP hD hS dX7_reading_12
set_option maxHeartbeats 4000000 in
set_option maxRecDepth 100000 in
theorem kX7_refusalOfPairs (l : Launch) (D : va_G) (cI cR : ClassId) (ax axrows as ad ay af ao askind aspage asasked assent ar arcells : Nat) (x_questions : Int32) (x_traced : Int32) (x_latestFault : Int32) (s_kind : Nat → Int32) (s_page : Nat → Int32) (s_asked : Nat → Int32) (s_sent : Nat → Int32) (s_count : Int32) (s_wetSet : Int32) (r_cells : Nat → Int32) (r_there : Int32) (r_lane : Int32) (r_length : Int32) (p2 : Int32) (p3 : Int32) (q : Int32) (hf : pX7_refusalOfPairs s_count r_cells p2 p3 = some q) : CR l yX7_refusalOfPairs wsX7_refusalOfPairs ({ frames := 1, cells := 0, slots := 0, locals := 21 } : Room) D cI cR [.ref ax, .ref ar, .int p2, .int p3] [(ax, .inr (6, [.ref axrows, .ref as, .ref ad, .ref ay, .ref af, .ref ao, .int x_questions, .int x_traced, .int x_latestFault])), (as, .inr (4, [.ref askind, .ref aspage, .ref asasked, .ref assent, .int s_count, .int s_wetSet])), (askind, .inl (cI, 7, .inl s_kind)), (aspage, .inl (cI, 7, .inl s_page)), (asasked, .inl (cI, 7, .inl s_asked)), (assent, .inl (cI, 7, .inl s_sent)), (ar, .inr (2, [.ref arcells, .int r_there, .int r_lane, .int r_length])), (arcells, .inl (cI, 60, .inl r_cells))] (.int q) := by
  refine CRi.intro (cc := cX7_refusalOfPairs) (maxL := 5) (ty := .int) (by decide) rfl (Nat.le_of_ble_eq_true rfl) ?_
  intro p e s m args below meth c hx hb hml hts hown hP hK hN QQ hRet ls hl
  have hown : s.vm.findClass RX7 = some m.cls := hown
  have hl : lv_has ls 5 [(0, .ref ax), (1, .ref ar), (2, .int p2), (3, .int p3)] := hl
  have iX2 : ∀ w ∈ u_ws RX2 TX2 4, w ∈ wsX7_refusalOfPairs := by decide +kernel
  have iX7 : ∀ w ∈ u_ws RX7 TX7 9, w ∈ wsX7_refusalOfPairs := by decide +kernel
  have hF21 := hts (.fieldLink RX7 21 "WorldIndex" "slips" "LWorldIndex$Slips;") (by decide +kernel)
  have hG143 := NN.f (args := args) hN "WorldIndex" 143 "WorldIndex$Row" "cells" "[I" "WorldIndex" (by decide +kernel)
  unfold pX7_refusalOfPairs at hf
  refine lv_iconst (v := 0) hx hb dX7_refusalOfPairs_0 (by decide) ?_
  refine lv_istore (lv' := [(4, .int ((0 : Int32))), (0, .ref ax), (1, .ref ar), (2, .int p2), (3, .int p3)]) hx hb dX7_refusalOfPairs_1 hl (by decide) rfl (fun ls hl => ?_)
  have hL3 : ∀ (K : Int32 → Option (Int32)) (hKK : ∀ (k3_v4 : Int32) (ls : Array Slot), K k3_v4 = some q → lv_has ls 5 [(0, .ref ax), (1, .ref ar), (2, .int p2), (3, .int p3), (4, .int k3_v4)] → W p l e ({ frames := 1, cells := 0, slots := 0, locals := 21 } : Room) s m args below meth c s.heap [] 0 0 QQ (F0 m 60 ls [])) (n : Nat), ∀ (b4_v4 : Int32) (ls : Array Slot), pX7_refusalOfPairs_L3 p2 p3 s_count r_cells K n b4_v4 = some q → lv_has ls 5 [(0, .ref ax), (1, .ref ar), (2, .int p2), (3, .int p3), (4, .int b4_v4)] → W p l e ({ frames := 1, cells := 0, slots := 0, locals := 21 } : Room) s m args below meth c s.heap [] 0 0 QQ (F0 m 3 ls []) := by
    intro K hKK n
    induction n with
    | zero =>
      intro b4_v4 ls hf hl
      rw [pX7_refusalOfPairs_L3_z] at hf
      cases hf
    | succ n ih =>
      intro b4_v4 ls hf hl
      rw [pX7_refusalOfPairs_L3_s] at hf
      refine lv_iload hx hb dX7_refusalOfPairs_3 (lv_at hl 4 rfl) ?_
      refine lv_iload_n hx hb dX7_refusalOfPairs_5 rfl (lv_at hl 3 rfl) ?_
      refine q_icmp_ge hx hb hf 60 dX7_refusalOfPairs_6 (by decide) (fun hf => ?_) (fun hf => ?_)
      · exact hKK _ _ hf (lv_sub hl [0, 1, 2, 3, 4] rfl)
      · refine lv_aload_n hx hb dX7_refusalOfPairs_9 rfl (lv_at hl 1 rfl) ?_
        refine va_getN (D := D) (ci := 2) (v := .ref arcells) (C := RX2) (T := TX2) (N := 4) hx hb hts iX2 hown hK hP 6 rfl rfl 0 (by decide) hG143 (fun _ h9 => h9) rfl dX7_refusalOfPairs_10 ?_
        refine lv_iload_n hx hb dX7_refusalOfPairs_13 rfl (lv_at hl 2 rfl) ?_
        refine lv_iconst (v := 2) hx hb dX7_refusalOfPairs_14 (by decide) ?_
        refine lv_iload hx hb dX7_refusalOfPairs_15 (lv_at hl 4 rfl) ?_
        refine lv_imul hx hb dX7_refusalOfPairs_17 ?_
        refine lv_iadd hx hb dX7_refusalOfPairs_18 ?_
        refine lv_iconst (v := 1) hx hb dX7_refusalOfPairs_19 (by decide) ?_
        refine lv_iadd hx hb dX7_refusalOfPairs_20 ?_
        refine q_iald hx hb hK hP 7 0 rfl rfl hf dX7_refusalOfPairs_21 (fun x5 hf => ?_)
        refine q_rS (rest := []) ⟨hx, hb, hml, hown, hts⟩ (kX6_isDeed l D cI cR x5 _ rfl) (va_cwS 1 hts gX7_refusalOfPairs_X6_isDeed rfl rfl rfl (by decide +kernel) ⟨Nat.le_of_ble_eq_true rfl, Nat.le_of_ble_eq_true rfl⟩) (hP.sub [] rfl) hK hN rfl hl.1 rfl (Nat.le_of_ble_eq_true rfl) dX7_refusalOfPairs_22 ⟨Nat.le_of_ble_eq_true rfl, Nat.le_of_ble_eq_true rfl⟩ ?_
        refine q_if_ne hx hb hf 31 dX7_refusalOfPairs_25 (by decide) (fun hf => ?_) (fun hf => ?_)
        · refine lv_aload_n hx hb dX7_refusalOfPairs_31 rfl (lv_at hl 0 rfl) ?_
          refine va_get (D := D) (ci := 6) (v := .ref as) (C := RX7) (T := TX7) (N := 9) hx hb hts iX7 hown hK hP 0 rfl rfl 1 (by decide) hF21 (fun _ h9 => h9) rfl dX7_refusalOfPairs_32 ?_
          refine lv_aload_n hx hb dX7_refusalOfPairs_35 rfl (lv_at hl 1 rfl) ?_
          refine va_getN (D := D) (ci := 2) (v := .ref arcells) (C := RX2) (T := TX2) (N := 4) hx hb hts iX2 hown hK hP 6 rfl rfl 0 (by decide) hG143 (fun _ h9 => h9) rfl dX7_refusalOfPairs_36 ?_
          refine lv_iload_n hx hb dX7_refusalOfPairs_39 rfl (lv_at hl 2 rfl) ?_
          refine lv_iconst (v := 2) hx hb dX7_refusalOfPairs_40 (by decide) ?_
          refine lv_iload hx hb dX7_refusalOfPairs_41 (lv_at hl 4 rfl) ?_
          refine lv_imul hx hb dX7_refusalOfPairs_43 ?_
          refine lv_iadd hx hb dX7_refusalOfPairs_44 ?_
          refine q_iald hx hb hK hP 7 0 rfl rfl hf dX7_refusalOfPairs_45 (fun x6 hf => ?_)
          refine q_rV (rest := []) ⟨hx, hb, hml, hown, hts⟩ (kX4_has l D cI cR as askind aspage asasked assent s_kind s_page s_asked s_sent s_count s_wetSet x6 _ rfl) (cwV 1 hts gX7_refusalOfPairs_X4_has rfl rfl rfl (by decide +kernel) ⟨Nat.le_of_ble_eq_true rfl, Nat.le_of_ble_eq_true rfl⟩) (hP.sub [1, 2, 3, 4, 5] rfl) hK hN (va_recv hK hP (ci := 4) (q0 := 1) rfl rfl) rfl hl.1 rfl (Nat.le_of_ble_eq_true rfl) dX7_refusalOfPairs_46 ⟨Nat.le_of_ble_eq_true rfl, Nat.le_of_ble_eq_true rfl⟩ ?_
          refine q_if_ne hx hb hf 54 dX7_refusalOfPairs_49 (by decide) (fun hf => ?_) (fun hf => ?_)
          · refine lv_iinc (v := b4_v4 + (1 : Int32)) (lv' := [(4, .int (b4_v4 + (1 : Int32))), (0, .ref ax), (1, .ref ar), (2, .int p2), (3, .int p3)]) hx hb dX7_refusalOfPairs_54 hl (k := 4) rfl rfl (by decide) rfl (fun ls hl => ?_)
            refine lv_goto (tgt := 3) hx hb dX7_refusalOfPairs_57 (by decide) ?_
            exact ih _ _ hf (lv_sub hl [1, 2, 3, 4, 0] rfl)
          · refine lv_iconst (v := -1) hx hb dX7_refusalOfPairs_52 (by decide) ?_
            exact hRet _ _ _ rfl (Option.some.inj hf) dX7_refusalOfPairs_53
        · refine lv_bipush (v := -2) hx hb dX7_refusalOfPairs_28 (by decide) ?_
          exact hRet _ _ _ rfl (Option.some.inj hf) dX7_refusalOfPairs_30
  refine hL3 _ (fun k3_v4 ls hf hl => ?_) fu _ _ hf (lv_sub hl [1, 2, 3, 4, 0] rfl)
  refine lv_iconst (v := 0) hx hb dX7_refusalOfPairs_60 (by decide) ?_
  exact hRet _ _ _ rfl (Option.some.inj hf) dX7_refusalOfPairs_61
set_option maxHeartbeats 4000000 in
set_option maxRecDepth 100000 in
theorem kX7_rings (l : Launch) (D : va_G) (cI cR : ClassId) (ax axrows as ad ay af ao askind aspage asasked assent : Nat) (x_questions : Int32) (x_traced : Int32) (x_latestFault : Int32) (s_kind : Nat → Int32) (s_page : Nat → Int32) (s_asked : Nat → Int32) (s_sent : Nat → Int32) (s_count : Int32) (s_wetSet : Int32) (p1 : Int32) (q : Int32) (hf : pX7_rings s_sent s_count p1 = some q) : CR l yX7_rings wsX7_rings ({ frames := 3, cells := 0, slots := 0, locals := 67 } : Room) D cI cR [.ref ax, .int p1] [(ax, .inr (6, [.ref axrows, .ref as, .ref ad, .ref ay, .ref af, .ref ao, .int x_questions, .int x_traced, .int x_latestFault])), (as, .inr (4, [.ref askind, .ref aspage, .ref asasked, .ref assent, .int s_count, .int s_wetSet])), (askind, .inl (cI, 7, .inl s_kind)), (aspage, .inl (cI, 7, .inl s_page)), (asasked, .inl (cI, 7, .inl s_asked)), (assent, .inl (cI, 7, .inl s_sent))] (.int q) := by
  refine CRi.intro (cc := cX7_rings) (maxL := 2) (ty := .int) (by decide) rfl (Nat.le_of_ble_eq_true rfl) ?_
  intro p e s m args below meth c hx hb hml hts hown hP hK hN QQ hRet ls hl
  have hown : s.vm.findClass RX7 = some m.cls := hown
  have hl : lv_has ls 2 [(0, .ref ax), (1, .int p1)] := hl
  have iX4 : ∀ w ∈ u_ws RX4 TX4 6, w ∈ wsX7_rings := by decide +kernel
  have iX7 : ∀ w ∈ u_ws RX7 TX7 9, w ∈ wsX7_rings := by decide +kernel
  have hF21 := hts (.fieldLink RX7 21 "WorldIndex" "slips" "LWorldIndex$Slips;") (by decide +kernel)
  have hG88 := NN.f (args := args) hN "WorldIndex" 88 "WorldIndex$Slips" "count" "I" "WorldIndex" (by decide +kernel)
  unfold pX7_rings at hf
  refine lv_iload_n hx hb dX7_rings_0 rfl (lv_at hl 1 rfl) ?_
  obtain ⟨J12_1, eJ12_1, hf⟩ := q_jn hf
  have hJ12_1 : ∀ (ls : Array Slot), J12_1 = some q → lv_has ls 2 [(0, .ref ax), (1, .int p1)] → W p l e ({ frames := 3, cells := 0, slots := 0, locals := 67 } : Room) s m args below meth c s.heap [] 0 0 QQ (F0 m 12 ls []) := by
    intro ls hf hl
    rw [eJ12_1] at hf
    refine lv_aload_n hx hb dX7_rings_12 rfl (lv_at hl 0 rfl) ?_
    refine va_get (D := D) (ci := 6) (v := .ref as) (C := RX7) (T := TX7) (N := 9) hx hb hts iX7 hown hK hP 0 rfl rfl 1 (by decide) hF21 (fun _ h9 => h9) rfl dX7_rings_13 ?_
    refine va_getN (D := D) (ci := 4) (v := .int s_count) (C := RX4) (T := TX4) (N := 6) hx hb hts iX4 hown hK hP 1 rfl rfl 4 (by decide) hG88 (fun _ h9 => h9) rfl dX7_rings_16 ?_
    refine q_if_ne hx hb hf 25 dX7_rings_19 (by decide) (fun hf => ?_) (fun hf => ?_)
    · refine lv_iload_n hx hb dX7_rings_25 rfl (lv_at hl 1 rfl) ?_
      refine q_if_ne hx hb hf 39 dX7_rings_26 (by decide) (fun hf => ?_) (fun hf => ?_)
      · refine lv_aload_n hx hb dX7_rings_39 rfl (lv_at hl 0 rfl) ?_
        refine va_get (D := D) (ci := 6) (v := .ref as) (C := RX7) (T := TX7) (N := 9) hx hb hts iX7 hown hK hP 0 rfl rfl 1 (by decide) hF21 (fun _ h9 => h9) rfl dX7_rings_40 ?_
        obtain ⟨z2, hz2, hf⟩ := bnd hf
        refine q_rV (rest := []) ⟨hx, hb, hml, hown, hts⟩ (kX4_leastOfRings l D cI cR as askind aspage asasked assent s_kind s_page s_asked s_sent s_count s_wetSet z2 hz2) (cwV 0 hts gX7_rings_X4_leastOfRings rfl rfl rfl (by decide +kernel) ⟨Nat.le_of_ble_eq_true rfl, Nat.le_of_ble_eq_true rfl⟩) (hP.sub [1, 2, 3, 4, 5] rfl) hK hN (va_recv hK hP (ci := 4) (q0 := 1) rfl rfl) rfl hl.1 rfl (Nat.le_of_ble_eq_true rfl) dX7_rings_43 ⟨Nat.le_of_ble_eq_true rfl, Nat.le_of_ble_eq_true rfl⟩ ?_
        refine q_rS (rest := []) ⟨hx, hb, hml, hown, hts⟩ (kJ6_bitCount_0f7a4 l D cI cR z2 _ rfl) (va_cwS 1 hts gX7_rings_J6_bitCount_0f7a4 rfl rfl rfl (by decide +kernel) ⟨Nat.le_of_ble_eq_true rfl, Nat.le_of_ble_eq_true rfl⟩) (hP.sub [] rfl) hK hN rfl hl.1 rfl (Nat.le_of_ble_eq_true rfl) dX7_rings_46 ⟨Nat.le_of_ble_eq_true rfl, Nat.le_of_ble_eq_true rfl⟩ ?_
        exact hRet _ _ _ rfl (Option.some.inj hf) dX7_rings_49
      · refine lv_aload_n hx hb dX7_rings_29 rfl (lv_at hl 0 rfl) ?_
        refine va_get (D := D) (ci := 6) (v := .ref as) (C := RX7) (T := TX7) (N := 9) hx hb hts iX7 hown hK hP 0 rfl rfl 1 (by decide) hF21 (fun _ h9 => h9) rfl dX7_rings_30 ?_
        obtain ⟨z3, hz3, hf⟩ := bnd hf
        refine q_rV (rest := []) ⟨hx, hb, hml, hown, hts⟩ (kX4_inRings l D cI cR as askind aspage asasked assent s_kind s_page s_asked s_sent s_count s_wetSet z3 hz3) (cwV 0 hts gX7_rings_X4_inRings rfl rfl rfl (by decide +kernel) ⟨Nat.le_of_ble_eq_true rfl, Nat.le_of_ble_eq_true rfl⟩) (hP.sub [1, 2, 3, 4, 5] rfl) hK hN (va_recv hK hP (ci := 4) (q0 := 1) rfl rfl) rfl hl.1 rfl (Nat.le_of_ble_eq_true rfl) dX7_rings_33 ⟨Nat.le_of_ble_eq_true rfl, Nat.le_of_ble_eq_true rfl⟩ ?_
        refine lv_goto (tgt := 49) hx hb dX7_rings_36 (by decide) ?_
        exact hRet _ _ _ rfl (Option.some.inj hf) dX7_rings_49
    · refine lv_bipush (v := -3) hx hb dX7_rings_22 (by decide) ?_
      exact hRet _ _ _ rfl (Option.some.inj hf) dX7_rings_24
  refine q_if_eq hx hb hf 12 dX7_rings_1 (by decide) (fun hf => ?_) (fun hf => ?_)
  · exact hJ12_1 _ hf (lv_sub hl [0, 1] rfl)
  · refine lv_iload_n hx hb dX7_rings_4 rfl (lv_at hl 1 rfl) ?_
    refine lv_iconst (v := 1) hx hb dX7_rings_5 (by decide) ?_
    refine q_icmp_eq hx hb hf 12 dX7_rings_6 (by decide) (fun hf => ?_) (fun hf => ?_)
    · exact hJ12_1 _ hf (lv_sub hl [0, 1] rfl)
    · refine lv_bipush (v := -2) hx hb dX7_rings_9 (by decide) ?_
      exact hRet _ _ _ rfl (Option.some.inj hf) dX7_rings_11
set_option maxHeartbeats 4000000 in
set_option maxRecDepth 100000 in
theorem kX7_see (l : Launch) (D : va_G) (cI cR : ClassId) (ax axrows as ad ay af ao askind aspage asasked assent : Nat) (x_questions : Int32) (x_traced : Int32) (x_latestFault : Int32) (s_kind : Nat → Int32) (s_page : Nat → Int32) (s_asked : Nat → Int32) (s_sent : Nat → Int32) (s_count : Int32) (s_wetSet : Int32) (p1 : Int32) (p2 : Int32) (q : Int32 × (Nat → Int32)) (hf : pX7_see s_sent s_count p1 p2 = some q) : CWi l yX7_see wsX7_see ({ frames := 1, cells := 0, slots := 0, locals := 21 } : Room) D cI cR [.ref ax, .int p1, .int p2] [(ax, .inr (6, [.ref axrows, .ref as, .ref ad, .ref ay, .ref af, .ref ao, .int x_questions, .int x_traced, .int x_latestFault])), (as, .inr (4, [.ref askind, .ref aspage, .ref asasked, .ref assent, .int s_count, .int s_wetSet])), (askind, .inl (cI, 7, .inl s_kind)), (aspage, .inl (cI, 7, .inl s_page)), (asasked, .inl (cI, 7, .inl s_asked)), (assent, .inl (cI, 7, .inl s_sent))] [(ax, .inr (6, [.ref axrows, .ref as, .ref ad, .ref ay, .ref af, .ref ao, .int x_questions, .int x_traced, .int x_latestFault])), (as, .inr (4, [.ref askind, .ref aspage, .ref asasked, .ref assent, .int s_count, .int s_wetSet])), (askind, .inl (cI, 7, .inl s_kind)), (aspage, .inl (cI, 7, .inl s_page)), (asasked, .inl (cI, 7, .inl s_asked)), (assent, .inl (cI, 7, .inl q.2))] q.1 := by
  refine CWi.intro (cc := cX7_see) (maxL := 4) (ty := .int) (by decide) rfl (Nat.le_of_ble_eq_true rfl) ?_
  intro p e s m args below meth c hx hb hml hts hown hP hK hN A hA hD hS QQ hRet ls hl
  have hown : s.vm.findClass RX7 = some m.cls := hown
  have hl : lv_has ls 4 [(0, .ref ax), (1, .int p1), (2, .int p2)] := hl
  have iX4 : ∀ w ∈ u_ws RX4 TX4 6, w ∈ wsX7_see := by decide +kernel
  have iX7 : ∀ w ∈ u_ws RX7 TX7 9, w ∈ wsX7_see := by decide +kernel
  have hF21 := hts (.fieldLink RX7 21 "WorldIndex" "slips" "LWorldIndex$Slips;") (by decide +kernel)
  have hG102 := NN.f (args := args) hN "WorldIndex" 102 "WorldIndex$Slips" "sent" "[I" "WorldIndex" (by decide +kernel)
  unfold pX7_see at hf
  refine lv_aload_n hx hb dX7_see_0 rfl (lv_at hl 0 rfl) ?_
  refine va_get (D := D) (ci := 6) (v := .ref as) (C := RX7) (T := TX7) (N := 9) hx hb hts iX7 hown hK hP 0 rfl rfl 1 (by decide) hF21 (fun _ h9 => h9) rfl dX7_see_1 ?_
  refine lv_iload_n hx hb dX7_see_4 rfl (lv_at hl 1 rfl) ?_
  refine q_rV (rest := []) ⟨hx, hb, hml, hown, hts⟩ (kX4_has l D cI cR as askind aspage asasked assent s_kind s_page s_asked s_sent s_count s_wetSet p1 _ rfl) (cwV 1 hts gX7_see_X4_has rfl rfl rfl (by decide +kernel) ⟨Nat.le_of_ble_eq_true rfl, Nat.le_of_ble_eq_true rfl⟩) (hP.sub [1, 2, 3, 4, 5] rfl) hK hN (va_recv hK hP (ci := 4) (q0 := 1) rfl rfl) rfl hl.1 rfl (Nat.le_of_ble_eq_true rfl) dX7_see_5 ⟨Nat.le_of_ble_eq_true rfl, Nat.le_of_ble_eq_true rfl⟩ ?_
  refine q_if_ne hx hb hf 13 dX7_see_8 (by decide) (fun hf => ?_) (fun hf => ?_)
  · refine lv_iload_n hx hb dX7_see_13 rfl (lv_at hl 2 rfl) ?_
    refine lv_bipush (v := -9) hx hb dX7_see_14 (by decide) ?_
    obtain ⟨J32_1, eJ32_1, hf⟩ := q_jn hf
    have hJ32_1 : ∀ (H : Heap) (locs : List Loc) (ls : Array Slot), J32_1 = some q → va_P D vwCl [(ax, .inr (6, [.ref axrows, .ref as, .ref ad, .ref ay, .ref af, .ref ao, .int x_questions, .int x_traced, .int x_latestFault])), (as, .inr (4, [.ref askind, .ref aspage, .ref asasked, .ref assent, .int s_count, .int s_wetSet])), (askind, .inl (cI, 7, .inl s_kind)), (aspage, .inl (cI, 7, .inl s_page)), (asasked, .inl (cI, 7, .inl s_asked)), (assent, .inl (cI, 7, .inl s_sent))] H → va_D A [(ax, .inr (6, [.ref axrows, .ref as, .ref ad, .ref ay, .ref af, .ref ao, .int x_questions, .int x_traced, .int x_latestFault])), (as, .inr (4, [.ref askind, .ref aspage, .ref asasked, .ref assent, .int s_count, .int s_wetSet])), (askind, .inl (cI, 7, .inl s_kind)), (aspage, .inl (cI, 7, .inl s_page)), (asasked, .inl (cI, 7, .inl s_asked)), (assent, .inl (cI, 7, .inl s_sent))] → va_S A s.heap H locs → lv_has ls 4 [(0, .ref ax), (1, .int p1), (2, .int p2)] → W p l e ({ frames := 1, cells := 0, slots := 0, locals := 21 } : Room) s m args below meth c H locs 0 0 QQ (F0 m 32 ls []) := by
      intro H locs ls hf hP hD hS hl
      rw [eJ32_1] at hf
      refine lv_aload_n hx hb dX7_see_32 rfl (lv_at hl 0 rfl) ?_
      refine va_get (D := D) (ci := 6) (v := .ref as) (C := RX7) (T := TX7) (N := 9) hx hb hts iX7 hown hK hP 0 rfl rfl 1 (by decide) hF21 (fun _ h9 => h9) rfl dX7_see_33 ?_
      refine va_getN (D := D) (ci := 4) (v := .ref assent) (C := RX4) (T := TX4) (N := 6) hx hb hts iX4 hown hK hP 1 rfl rfl 3 (by decide) hG102 (fun _ h9 => h9) rfl dX7_see_36 ?_
      refine lv_iload_n hx hb dX7_see_39 rfl (lv_at hl 1 rfl) ?_
      refine q_iald hx hb hK hP 5 0 rfl rfl hf dX7_see_40 (fun x2 hf => ?_)
      refine lv_istore_n (lv' := [(3, .int x2), (0, .ref ax), (1, .int p1), (2, .int p2)]) hx hb dX7_see_41 rfl hl (by decide) rfl (fun ls hl => ?_)
      refine lv_aload_n hx hb dX7_see_42 rfl (lv_at hl 1 rfl) ?_
      refine va_get (D := D) (ci := 6) (v := .ref as) (C := RX7) (T := TX7) (N := 9) hx hb hts iX7 hown hK hP 0 rfl rfl 1 (by decide) hF21 (fun _ h9 => h9) rfl dX7_see_43 ?_
      refine va_getN (D := D) (ci := 4) (v := .ref assent) (C := RX4) (T := TX4) (N := 6) hx hb hts iX4 hown hK hP 1 rfl rfl 3 (by decide) hG102 (fun _ h9 => h9) rfl dX7_see_46 ?_
      refine lv_iload_n hx hb dX7_see_49 rfl (lv_at hl 2 rfl) ?_
      refine lv_iload_n hx hb dX7_see_50 rfl (lv_at hl 3 rfl) ?_
      refine q_iast hx hb hK hP hD hS 5 0 rfl rfl hf dX7_see_51 (fun g3 H locs hf hP hD hS => ?_)
      have hP : va_P D vwCl [(ax, .inr (6, [.ref axrows, .ref as, .ref ad, .ref ay, .ref af, .ref ao, .int x_questions, .int x_traced, .int x_latestFault])), (as, .inr (4, [.ref askind, .ref aspage, .ref asasked, .ref assent, .int s_count, .int s_wetSet])), (askind, .inl (cI, 7, .inl s_kind)), (aspage, .inl (cI, 7, .inl s_page)), (asasked, .inl (cI, 7, .inl s_asked)), (assent, .inl (cI, 7, .inl g3))] H := hP
      have hD : va_D A [(ax, .inr (6, [.ref axrows, .ref as, .ref ad, .ref ay, .ref af, .ref ao, .int x_questions, .int x_traced, .int x_latestFault])), (as, .inr (4, [.ref askind, .ref aspage, .ref asasked, .ref assent, .int s_count, .int s_wetSet])), (askind, .inl (cI, 7, .inl s_kind)), (aspage, .inl (cI, 7, .inl s_page)), (asasked, .inl (cI, 7, .inl s_asked)), (assent, .inl (cI, 7, .inl g3))] := hD
      refine lv_iload_n hx hb dX7_see_52 rfl (lv_at hl 0 rfl) ?_
      have hq9 := Option.some.inj hf
      subst hq9
      exact hRet _ _ _ _ _ rfl rfl hP hD hS dX7_see_53
    refine q_icmp_eq hx hb hf 32 dX7_see_16 (by decide) (fun hf => ?_) (fun hf => ?_)
    · exact hJ32_1 _ _ _ hf hP hD hS (lv_sub hl [0, 1, 2] rfl)
    · refine lv_aload_n hx hb dX7_see_19 rfl (lv_at hl 0 rfl) ?_
      refine va_get (D := D) (ci := 6) (v := .ref as) (C := RX7) (T := TX7) (N := 9) hx hb hts iX7 hown hK hP 0 rfl rfl 1 (by decide) hF21 (fun _ h9 => h9) rfl dX7_see_20 ?_
      refine lv_iload_n hx hb dX7_see_23 rfl (lv_at hl 2 rfl) ?_
      refine q_rV (rest := []) ⟨hx, hb, hml, hown, hts⟩ (kX4_has l D cI cR as askind aspage asasked assent s_kind s_page s_asked s_sent s_count s_wetSet p2 _ rfl) (cwV 1 hts gX7_see_X4_has rfl rfl rfl (by decide +kernel) ⟨Nat.le_of_ble_eq_true rfl, Nat.le_of_ble_eq_true rfl⟩) (hP.sub [1, 2, 3, 4, 5] rfl) hK hN (va_recv hK hP (ci := 4) (q0 := 1) rfl rfl) rfl hl.1 rfl (Nat.le_of_ble_eq_true rfl) dX7_see_24 ⟨Nat.le_of_ble_eq_true rfl, Nat.le_of_ble_eq_true rfl⟩ ?_
      refine q_if_ne hx hb hf 32 dX7_see_27 (by decide) (fun hf => ?_) (fun hf => ?_)
      · exact hJ32_1 _ _ _ hf hP hD hS (lv_sub hl [0, 1, 2] rfl)
      · refine lv_iconst (v := -1) hx hb dX7_see_30 (by decide) ?_
        have hq9 := Option.some.inj hf
        subst hq9
        exact hRet _ _ _ _ _ rfl rfl hP hD hS dX7_see_31
  · refine lv_iconst (v := -1) hx hb dX7_see_11 (by decide) ?_
    have hq9 := Option.some.inj hf
    subst hq9
    exact hRet _ _ _ _ _ rfl rfl hP hD hS dX7_see_12
set_option maxHeartbeats 4000000 in
set_option maxRecDepth 100000 in
theorem kX7_seen (l : Launch) (D : va_G) (cI cR : ClassId) (ax axrows as ad ay af ao askind aspage asasked assent adslip adleaf ae aekind aepage aeasked aesent : Nat) (x_questions : Int32) (x_traced : Int32) (x_latestFault : Int32) (s_kind : Nat → Int32) (s_page : Nat → Int32) (s_asked : Nat → Int32) (s_sent : Nat → Int32) (s_count : Int32) (s_wetSet : Int32) (d_slip : Nat → Int32) (d_leaf : Nat → Int32) (d_count : Int32) (d_fittingPages : Int32) (d_leastPage : Int32) (d_greatestPage : Int32) (e_kind : Nat → Int32) (e_page : Nat → Int32) (e_asked : Nat → Int32) (e_sent : Nat → Int32) (e_count : Int32) (e_wetSet : Int32) (p1 : Int32) (q : Int32 × (Nat → Int32) × (Nat → Int32) × (Nat → Int32) × (Nat → Int32) × Int32 × Int32) (hf : pX7_seen s_kind s_page s_asked s_sent s_count s_wetSet d_slip d_leaf d_count e_kind e_page e_asked e_sent e_count e_wetSet p1 = some q) : CWi l yX7_seen wsX7_seen ({ frames := 5, cells := 0, slots := 0, locals := 113 } : Room) D cI cR [.ref ax, .int p1] [(ax, .inr (6, [.ref axrows, .ref as, .ref ad, .ref ay, .ref af, .ref ao, .int x_questions, .int x_traced, .int x_latestFault])), (as, .inr (4, [.ref askind, .ref aspage, .ref asasked, .ref assent, .int s_count, .int s_wetSet])), (askind, .inl (cI, 7, .inl s_kind)), (aspage, .inl (cI, 7, .inl s_page)), (asasked, .inl (cI, 7, .inl s_asked)), (assent, .inl (cI, 7, .inl s_sent)), (ad, .inr (1, [.ref adslip, .ref adleaf, .ref ae, .int d_count, .int d_fittingPages, .int d_leastPage, .int d_greatestPage])), (adslip, .inl (cI, 8, .inl d_slip)), (adleaf, .inl (cI, 8, .inl d_leaf)), (ae, .inr (4, [.ref aekind, .ref aepage, .ref aeasked, .ref aesent, .int e_count, .int e_wetSet])), (aekind, .inl (cI, 7, .inl e_kind)), (aepage, .inl (cI, 7, .inl e_page)), (aeasked, .inl (cI, 7, .inl e_asked)), (aesent, .inl (cI, 7, .inl e_sent))] [(ax, .inr (6, [.ref axrows, .ref as, .ref ad, .ref ay, .ref af, .ref ao, .int x_questions, .int x_traced, .int x_latestFault])), (as, .inr (4, [.ref askind, .ref aspage, .ref asasked, .ref assent, .int s_count, .int s_wetSet])), (askind, .inl (cI, 7, .inl s_kind)), (aspage, .inl (cI, 7, .inl s_page)), (asasked, .inl (cI, 7, .inl s_asked)), (assent, .inl (cI, 7, .inl s_sent)), (ad, .inr (1, [.ref adslip, .ref adleaf, .ref ae, .int d_count, .int d_fittingPages, .int d_leastPage, .int d_greatestPage])), (adslip, .inl (cI, 8, .inl d_slip)), (adleaf, .inl (cI, 8, .inl d_leaf)), (ae, .inr (4, [.ref aekind, .ref aepage, .ref aeasked, .ref aesent, .int q.2.2.2.2.2.1, .int q.2.2.2.2.2.2])), (aekind, .inl (cI, 7, .inl q.2.1)), (aepage, .inl (cI, 7, .inl q.2.2.1)), (aeasked, .inl (cI, 7, .inl q.2.2.2.1)), (aesent, .inl (cI, 7, .inl q.2.2.2.2.1))] q.1 := by
  refine CWi.intro (cc := cX7_seen) (maxL := 2) (ty := .int) (by decide) rfl (Nat.le_of_ble_eq_true rfl) ?_
  intro p e s m args below meth c hx hb hml hts hown hP hK hN A hA hD hS QQ hRet ls hl
  have hown : s.vm.findClass RX7 = some m.cls := hown
  have hl : lv_has ls 2 [(0, .ref ax), (1, .int p1)] := hl
  have iX7 : ∀ w ∈ u_ws RX7 TX7 9, w ∈ wsX7_seen := by decide +kernel
  have hF21 := hts (.fieldLink RX7 21 "WorldIndex" "slips" "LWorldIndex$Slips;") (by decide +kernel)
  have hF28 := hts (.fieldLink RX7 28 "WorldIndex" "readings" "LWorldIndex$Readings;") (by decide +kernel)
  unfold pX7_seen at hf
  refine lv_aload_n hx hb dX7_seen_0 rfl (lv_at hl 0 rfl) ?_
  refine va_get (D := D) (ci := 6) (v := .ref as) (C := RX7) (T := TX7) (N := 9) hx hb hts iX7 hown hK hP 0 rfl rfl 1 (by decide) hF21 (fun _ h9 => h9) rfl dX7_seen_1 ?_
  refine lv_iload_n hx hb dX7_seen_4 rfl (lv_at hl 1 rfl) ?_
  refine q_rV (rest := []) ⟨hx, hb, hml, hown, hts⟩ (kX4_has l D cI cR as askind aspage asasked assent s_kind s_page s_asked s_sent s_count s_wetSet p1 _ rfl) (cwV 1 hts gX7_seen_X4_has rfl rfl rfl (by decide +kernel) ⟨Nat.le_of_ble_eq_true rfl, Nat.le_of_ble_eq_true rfl⟩) (hP.sub [1, 2, 3, 4, 5] rfl) hK hN (va_recv hK hP (ci := 4) (q0 := 1) rfl rfl) rfl hl.1 rfl (Nat.le_of_ble_eq_true rfl) dX7_seen_5 ⟨Nat.le_of_ble_eq_true rfl, Nat.le_of_ble_eq_true rfl⟩ ?_
  refine q_if_ne hx hb hf 13 dX7_seen_8 (by decide) (fun hf => ?_) (fun hf => ?_)
  · refine lv_aload_n hx hb dX7_seen_13 rfl (lv_at hl 0 rfl) ?_
    refine va_get (D := D) (ci := 6) (v := .ref ad) (C := RX7) (T := TX7) (N := 9) hx hb hts iX7 hown hK hP 0 rfl rfl 2 (by decide) hF28 (fun _ h9 => h9) rfl dX7_seen_14 ?_
    refine lv_aload_n hx hb dX7_seen_17 rfl (lv_at hl 0 rfl) ?_
    refine va_get (D := D) (ci := 6) (v := .ref as) (C := RX7) (T := TX7) (N := 9) hx hb hts iX7 hown hK hP 0 rfl rfl 1 (by decide) hF21 (fun _ h9 => h9) rfl dX7_seen_18 ?_
    refine lv_iload_n hx hb dX7_seen_21 rfl (lv_at hl 1 rfl) ?_
    obtain ⟨z1, hz1, hf⟩ := bnd hf
    refine q_wVi (wr := [(ax, .inr (6, [.ref axrows, .ref as, .ref ad, .ref ay, .ref af, .ref ao, .int x_questions, .int x_traced, .int x_latestFault]))]) (rest := []) ⟨hx, hb, hml, hown, hts⟩ (kX1_seenOf l D cI cR ad adslip adleaf ae aekind aepage aeasked aesent as askind aspage asasked assent d_slip d_leaf d_count d_fittingPages d_leastPage d_greatestPage e_kind e_page e_asked e_sent e_count e_wetSet s_kind s_page s_asked s_sent s_count s_wetSet p1 z1 hz1) (cwV 2 hts gX7_seen_X1_seenOf rfl rfl rfl (by decide +kernel) ⟨Nat.le_of_ble_eq_true rfl, Nat.le_of_ble_eq_true rfl⟩) hP hD hS hA hK hN [6, 7, 8, 9, 10, 11, 12, 13, 1, 2, 3, 4, 5] [0] rfl rfl (by decide) (by decide) (by decide) (va_recv hK hP (ci := 1) (q0 := 6) rfl rfl) rfl hl.1 rfl (Nat.le_of_ble_eq_true rfl) dX7_seen_22 ⟨Nat.le_of_ble_eq_true rfl, Nat.le_of_ble_eq_true rfl⟩ (fun H locs hP hD hS => ?_)
    have hP := hP.sub (ws' := [(ax, .inr (6, [.ref axrows, .ref as, .ref ad, .ref ay, .ref af, .ref ao, .int x_questions, .int x_traced, .int x_latestFault])), (as, .inr (4, [.ref askind, .ref aspage, .ref asasked, .ref assent, .int s_count, .int s_wetSet])), (askind, .inl (cI, 7, .inl s_kind)), (aspage, .inl (cI, 7, .inl s_page)), (asasked, .inl (cI, 7, .inl s_asked)), (assent, .inl (cI, 7, .inl s_sent)), (ad, .inr (1, [.ref adslip, .ref adleaf, .ref ae, .int d_count, .int d_fittingPages, .int d_leastPage, .int d_greatestPage])), (adslip, .inl (cI, 8, .inl d_slip)), (adleaf, .inl (cI, 8, .inl d_leaf)), (ae, .inr (4, [.ref aekind, .ref aepage, .ref aeasked, .ref aesent, .int z1.2.2.2.2.2.1, .int z1.2.2.2.2.2.2])), (aekind, .inl (cI, 7, .inl z1.2.1)), (aepage, .inl (cI, 7, .inl z1.2.2.1)), (aeasked, .inl (cI, 7, .inl z1.2.2.2.1)), (aesent, .inl (cI, 7, .inl z1.2.2.2.2.1))]) [0, 9, 10, 11, 12, 13, 1, 2, 3, 4, 5, 6, 7, 8] rfl
    have hD := hD.sub (ws' := [(ax, .inr (6, [.ref axrows, .ref as, .ref ad, .ref ay, .ref af, .ref ao, .int x_questions, .int x_traced, .int x_latestFault])), (as, .inr (4, [.ref askind, .ref aspage, .ref asasked, .ref assent, .int s_count, .int s_wetSet])), (askind, .inl (cI, 7, .inl s_kind)), (aspage, .inl (cI, 7, .inl s_page)), (asasked, .inl (cI, 7, .inl s_asked)), (assent, .inl (cI, 7, .inl s_sent)), (ad, .inr (1, [.ref adslip, .ref adleaf, .ref ae, .int d_count, .int d_fittingPages, .int d_leastPage, .int d_greatestPage])), (adslip, .inl (cI, 8, .inl d_slip)), (adleaf, .inl (cI, 8, .inl d_leaf)), (ae, .inr (4, [.ref aekind, .ref aepage, .ref aeasked, .ref aesent, .int z1.2.2.2.2.2.1, .int z1.2.2.2.2.2.2])), (aekind, .inl (cI, 7, .inl z1.2.1)), (aepage, .inl (cI, 7, .inl z1.2.2.1)), (aeasked, .inl (cI, 7, .inl z1.2.2.2.1)), (aesent, .inl (cI, 7, .inl z1.2.2.2.2.1))]) [0, 9, 10, 11, 12, 13, 1, 2, 3, 4, 5, 6, 7, 8] (by decide) rfl
    have hq9 := Option.some.inj hf
    subst hq9
    exact hRet _ _ _ _ _ rfl rfl hP hD hS dX7_seen_25
  · refine lv_iconst (v := -1) hx hb dX7_seen_11 (by decide) ?_
    have hq9 := Option.some.inj hf
    subst hq9
    exact hRet _ _ _ _ _ rfl rfl hP hD hS dX7_seen_12
set_option maxHeartbeats 4000000 in
set_option maxRecDepth 100000 in
theorem kX7_sheet (l : Launch) (D : va_G) (cI cR : ClassId) (ax axrows as ad ay af ao ar arcells : Nat) (x_rows : Nat → Option Nat) (x_questions : Int32) (x_traced : Int32) (x_latestFault : Int32) (r_cells : Nat → Int32) (r_there : Int32) (r_lane : Int32) (r_length : Int32) (p1 : Int32) (p2 : Int32) (p3 : Int32) (hrow : vp_in p1 4 → x_rows p1.toNatClampNeg = some ar) (q : Int32 × Int32 × (Nat → Int32) × Int32 × Int32 × Int32) (hf : pX7_sheet x_latestFault r_cells r_there r_lane r_length p1 p2 p3 = some q) : CWi l yX7_sheet wsX7_sheet ({ frames := 1, cells := 0, slots := 0, locals := 23 } : Room) D cI cR [.ref ax, .int p1, .int p2, .int p3] [(ax, .inr (6, [.ref axrows, .ref as, .ref ad, .ref ay, .ref af, .ref ao, .int x_questions, .int x_traced, .int x_latestFault])), (axrows, .inl (cR, 4, .inr (.inr (.inr (.inr x_rows))))), (ar, .inr (2, [.ref arcells, .int r_there, .int r_lane, .int r_length])), (arcells, .inl (cI, 60, .inl r_cells))] [(ax, .inr (6, [.ref axrows, .ref as, .ref ad, .ref ay, .ref af, .ref ao, .int x_questions, .int x_traced, .int q.2.1])), (axrows, .inl (cR, 4, .inr (.inr (.inr (.inr x_rows))))), (ar, .inr (2, [.ref arcells, .int q.2.2.2.1, .int q.2.2.2.2.1, .int q.2.2.2.2.2])), (arcells, .inl (cI, 60, .inl q.2.2.1))] q.1 := by
  refine CWi.intro (cc := cX7_sheet) (maxL := 4) (ty := .int) (by decide) rfl (Nat.le_of_ble_eq_true rfl) ?_
  intro p e s m args below meth c hx hb hml hts hown hP hK hN A hA hD hS QQ hRet ls hl
  have hown : s.vm.findClass RX7 = some m.cls := hown
  have hl : lv_has ls 4 [(0, .ref ax), (1, .int p1), (2, .int p2), (3, .int p3)] := hl
  have iX7 : ∀ w ∈ u_ws RX7 TX7 9, w ∈ wsX7_sheet := by decide +kernel
  have hF13 := hts (.fieldLink RX7 13 "WorldIndex" "rows" "[LWorldIndex$Row;") (by decide +kernel)
  have hF53 := hts (.fieldLink RX7 53 "WorldIndex" "latestFault" "I") (by decide +kernel)
  unfold pX7_sheet at hf
  refine lv_aload_n hx hb dX7_sheet_0 rfl (lv_at hl 0 rfl) ?_
  refine lv_iconst (v := 0) hx hb dX7_sheet_1 (by decide) ?_
  refine va_put (D := D) (ci := 6) (v := .int ((0 : Int32))) (ty := .int) (C := RX7) (T := TX7) (N := 9) hx hb hts iX7 tyX7 tyX7_ok nmX7 hown hK hP hD hS 0 rfl rfl 8 (by decide) hF53 (fun _ h9 => h9) rfl (tyX7_ok 8 (by decide)) rfl rfl (Nat.le_of_ble_eq_true rfl) dX7_sheet_2 (fun H locs hP hD hS => ?_)
  have hP : va_P D vwCl [(ax, .inr (6, [.ref axrows, .ref as, .ref ad, .ref ay, .ref af, .ref ao, .int x_questions, .int x_traced, .int ((0 : Int32))])), (axrows, .inl (cR, 4, .inr (.inr (.inr (.inr x_rows))))), (ar, .inr (2, [.ref arcells, .int r_there, .int r_lane, .int r_length])), (arcells, .inl (cI, 60, .inl r_cells))] H := hP
  have hD : va_D A [(ax, .inr (6, [.ref axrows, .ref as, .ref ad, .ref ay, .ref af, .ref ao, .int x_questions, .int x_traced, .int ((0 : Int32))])), (axrows, .inl (cR, 4, .inr (.inr (.inr (.inr x_rows))))), (ar, .inr (2, [.ref arcells, .int r_there, .int r_lane, .int r_length])), (arcells, .inl (cI, 60, .inl r_cells))] := hD
  refine lv_iload_n hx hb dX7_sheet_5 rfl (lv_at hl 1 rfl) ?_
  refine q_rS (rest := []) ⟨hx, hb, hml, hown, hts⟩ (kX7_isSheet l D cI cR p1 _ rfl) (va_cwS 1 hts gX7_sheet_X7_isSheet rfl rfl rfl (by decide +kernel) ⟨Nat.le_of_ble_eq_true rfl, Nat.le_of_ble_eq_true rfl⟩) (hP.sub [] rfl) hK hN rfl hl.1 rfl (Nat.le_of_ble_eq_true rfl) dX7_sheet_6 ⟨Nat.le_of_ble_eq_true rfl, Nat.le_of_ble_eq_true rfl⟩ ?_
  refine q_if_ne hx hb hf 14 dX7_sheet_9 (by decide) (fun hf => ?_) (fun hf => ?_)
  · refine lv_iload_n hx hb dX7_sheet_14 rfl (lv_at hl 2 rfl) ?_
    refine q_rS (rest := []) ⟨hx, hb, hml, hown, hts⟩ (kX7_isLane l D cI cR p2 _ rfl) (va_cwS 1 hts gX7_sheet_X7_isLane rfl rfl rfl (by decide +kernel) ⟨Nat.le_of_ble_eq_true rfl, Nat.le_of_ble_eq_true rfl⟩) (hP.sub [] rfl) hK hN rfl hl.1 rfl (Nat.le_of_ble_eq_true rfl) dX7_sheet_15 ⟨Nat.le_of_ble_eq_true rfl, Nat.le_of_ble_eq_true rfl⟩ ?_
    refine q_if_eq hx hb hf 27 dX7_sheet_18 (by decide) (fun hf => ?_) (fun hf => ?_)
    · refine lv_bipush (v := -2) hx hb dX7_sheet_27 (by decide) ?_
      have hq9 := Option.some.inj hf
      subst hq9
      exact hRet _ _ _ _ _ rfl rfl hP hD hS dX7_sheet_29
    · refine lv_iload_n hx hb dX7_sheet_21 rfl (lv_at hl 3 rfl) ?_
      refine lv_bipush (v := 60) hx hb dX7_sheet_22 (by decide) ?_
      refine q_icmp_le hx hb hf 30 dX7_sheet_24 (by decide) (fun hf => ?_) (fun hf => ?_)
      · refine lv_iload_n hx hb dX7_sheet_30 rfl (lv_at hl 3 rfl) ?_
        refine q_if_ge hx hb hf 40 dX7_sheet_31 (by decide) (fun hf => ?_) (fun hf => ?_)
        · refine lv_aload_n hx hb dX7_sheet_40 rfl (lv_at hl 0 rfl) ?_
          refine va_get (D := D) (ci := 6) (v := .ref axrows) (C := RX7) (T := TX7) (N := 9) hx hb hts iX7 hown hK hP 0 rfl rfl 0 (by decide) hF13 (fun _ h9 => h9) rfl dX7_sheet_41 ?_
          refine lv_iload_n hx hb dX7_sheet_44 rfl (lv_at hl 1 rfl) ?_
          refine q_aald hx hb hK hP 1 1 rfl rfl hf hrow dX7_sheet_45 (fun hf => ?_)
          refine lv_iload_n hx hb dX7_sheet_46 rfl (lv_at hl 2 rfl) ?_
          refine lv_iload_n hx hb dX7_sheet_47 rfl (lv_at hl 3 rfl) ?_
          obtain ⟨z1, hz1, hf⟩ := bnd hf
          refine q_wVv (wr := [(ax, .inr (6, [.ref axrows, .ref as, .ref ad, .ref ay, .ref af, .ref ao, .int x_questions, .int x_traced, .int ((0 : Int32))])), (axrows, .inl (cR, 4, .inr (.inr (.inr (.inr x_rows)))))]) (rest := []) ⟨hx, hb, hml, hown, hts⟩ (kX2_renew l D cI cR ar arcells r_cells r_there r_lane r_length p2 p3 z1 hz1) (cwV 2 hts gX7_sheet_X2_renew rfl rfl rfl (by decide +kernel) ⟨Nat.le_of_ble_eq_true rfl, Nat.le_of_ble_eq_true rfl⟩) hP hD hS hA hK hN [2, 3] [0, 1] rfl rfl (by decide) (by decide) (by decide) (va_recv hK hP (ci := 2) (q0 := 2) rfl rfl) rfl hl.1 rfl (Nat.le_of_ble_eq_true rfl) dX7_sheet_48 ⟨Nat.le_of_ble_eq_true rfl, Nat.le_of_ble_eq_true rfl⟩ (fun H locs hP hD hS => ?_)
          have hP := hP.sub (ws' := [(ax, .inr (6, [.ref axrows, .ref as, .ref ad, .ref ay, .ref af, .ref ao, .int x_questions, .int x_traced, .int ((0 : Int32))])), (axrows, .inl (cR, 4, .inr (.inr (.inr (.inr x_rows))))), (ar, .inr (2, [.ref arcells, .int z1.2.1, .int z1.2.2.1, .int z1.2.2.2])), (arcells, .inl (cI, 60, .inl z1.1))]) [0, 1, 2, 3] rfl
          have hD := hD.sub (ws' := [(ax, .inr (6, [.ref axrows, .ref as, .ref ad, .ref ay, .ref af, .ref ao, .int x_questions, .int x_traced, .int ((0 : Int32))])), (axrows, .inl (cR, 4, .inr (.inr (.inr (.inr x_rows))))), (ar, .inr (2, [.ref arcells, .int z1.2.1, .int z1.2.2.1, .int z1.2.2.2])), (arcells, .inl (cI, 60, .inl z1.1))]) [0, 1, 2, 3] (by decide) rfl
          refine lv_iconst (v := 1) hx hb dX7_sheet_51 (by decide) ?_
          have hq9 := Option.some.inj hf
          subst hq9
          exact hRet _ _ _ _ _ rfl rfl hP hD hS dX7_sheet_52
        · refine lv_aload_n hx hb dX7_sheet_34 rfl (lv_at hl 0 rfl) ?_
          refine lv_iconst (v := 4) hx hb dX7_sheet_35 (by decide) ?_
          obtain ⟨z2, hz2, hf⟩ := bnd hf
          refine q_wVi (wr := [(axrows, .inl (cR, 4, .inr (.inr (.inr (.inr x_rows))))), (ar, .inr (2, [.ref arcells, .int r_there, .int r_lane, .int r_length])), (arcells, .inl (cI, 60, .inl r_cells))]) (rest := []) ⟨hx, hb, hml, hown, hts⟩ (kX7_faulted l D cI cR ax axrows as ad ay af ao x_questions x_traced ((0 : Int32)) ((4 : Int32)) z2 hz2) (cwV 1 hts gX7_sheet_X7_faulted rfl rfl rfl (by decide +kernel) ⟨Nat.le_of_ble_eq_true rfl, Nat.le_of_ble_eq_true rfl⟩) hP hD hS hA hK hN [0] [1, 2, 3] rfl rfl (by decide) (by decide) (by decide) (va_recv hK hP (ci := 6) (q0 := 0) rfl rfl) rfl hl.1 rfl (Nat.le_of_ble_eq_true rfl) dX7_sheet_36 ⟨Nat.le_of_ble_eq_true rfl, Nat.le_of_ble_eq_true rfl⟩ (fun H locs hP hD hS => ?_)
          have hP := hP.sub (ws' := [(ax, .inr (6, [.ref axrows, .ref as, .ref ad, .ref ay, .ref af, .ref ao, .int x_questions, .int x_traced, .int z2.2])), (axrows, .inl (cR, 4, .inr (.inr (.inr (.inr x_rows))))), (ar, .inr (2, [.ref arcells, .int r_there, .int r_lane, .int r_length])), (arcells, .inl (cI, 60, .inl r_cells))]) [3, 0, 1, 2] rfl
          have hD := hD.sub (ws' := [(ax, .inr (6, [.ref axrows, .ref as, .ref ad, .ref ay, .ref af, .ref ao, .int x_questions, .int x_traced, .int z2.2])), (axrows, .inl (cR, 4, .inr (.inr (.inr (.inr x_rows))))), (ar, .inr (2, [.ref arcells, .int r_there, .int r_lane, .int r_length])), (arcells, .inl (cI, 60, .inl r_cells))]) [3, 0, 1, 2] (by decide) rfl
          have hq9 := Option.some.inj hf
          subst hq9
          exact hRet _ _ _ _ _ rfl rfl hP hD hS dX7_sheet_39
      · refine lv_bipush (v := -2) hx hb dX7_sheet_27 (by decide) ?_
        have hq9 := Option.some.inj hf
        subst hq9
        exact hRet _ _ _ _ _ rfl rfl hP hD hS dX7_sheet_29
  · refine lv_iconst (v := -1) hx hb dX7_sheet_12 (by decide) ?_
    have hq9 := Option.some.inj hf
    subst hq9
    exact hRet _ _ _ _ _ rfl rfl hP hD hS dX7_sheet_13
set_option maxHeartbeats 4000000 in
set_option maxRecDepth 100000 in
theorem kX7_tell (l : Launch) (D : va_G) (cI cR : ClassId) (ax axrows as ad ay af ao askind aspage asasked assent : Nat) (x_questions : Int32) (x_traced : Int32) (x_latestFault : Int32) (s_kind : Nat → Int32) (s_page : Nat → Int32) (s_asked : Nat → Int32) (s_sent : Nat → Int32) (s_count : Int32) (s_wetSet : Int32) (p1 : Int32) (q : Int32 × Int32) (hf : pX7_tell x_traced s_kind s_page s_count p1 = some q) : CWi l yX7_tell wsX7_tell ({ frames := 4, cells := 0, slots := 0, locals := 85 } : Room) D cI cR [.ref ax, .int p1] [(ax, .inr (6, [.ref axrows, .ref as, .ref ad, .ref ay, .ref af, .ref ao, .int x_questions, .int x_traced, .int x_latestFault])), (as, .inr (4, [.ref askind, .ref aspage, .ref asasked, .ref assent, .int s_count, .int s_wetSet])), (askind, .inl (cI, 7, .inl s_kind)), (aspage, .inl (cI, 7, .inl s_page)), (asasked, .inl (cI, 7, .inl s_asked)), (assent, .inl (cI, 7, .inl s_sent))] [(ax, .inr (6, [.ref axrows, .ref as, .ref ad, .ref ay, .ref af, .ref ao, .int x_questions, .int q.2, .int x_latestFault])), (as, .inr (4, [.ref askind, .ref aspage, .ref asasked, .ref assent, .int s_count, .int s_wetSet])), (askind, .inl (cI, 7, .inl s_kind)), (aspage, .inl (cI, 7, .inl s_page)), (asasked, .inl (cI, 7, .inl s_asked)), (assent, .inl (cI, 7, .inl s_sent))] q.1 := by
  refine CWi.intro (cc := cX7_tell) (maxL := 2) (ty := .int) (by decide) rfl (Nat.le_of_ble_eq_true rfl) ?_
  intro p e s m args below meth c hx hb hml hts hown hP hK hN A hA hD hS QQ hRet ls hl
  have hown : s.vm.findClass RX7 = some m.cls := hown
  have hl : lv_has ls 2 [(0, .ref ax), (1, .int p1)] := hl
  have iX4 : ∀ w ∈ u_ws RX4 TX4 6, w ∈ wsX7_tell := by decide +kernel
  have iX7 : ∀ w ∈ u_ws RX7 TX7 9, w ∈ wsX7_tell := by decide +kernel
  have hF21 := hts (.fieldLink RX7 21 "WorldIndex" "slips" "LWorldIndex$Slips;") (by decide +kernel)
  have hG92 := NN.f (args := args) hN "WorldIndex" 92 "WorldIndex$Slips" "kind" "[I" "WorldIndex" (by decide +kernel)
  unfold pX7_tell at hf
  refine lv_aload_n hx hb dX7_tell_0 rfl (lv_at hl 0 rfl) ?_
  refine va_get (D := D) (ci := 6) (v := .ref as) (C := RX7) (T := TX7) (N := 9) hx hb hts iX7 hown hK hP 0 rfl rfl 1 (by decide) hF21 (fun _ h9 => h9) rfl dX7_tell_1 ?_
  refine lv_iload_n hx hb dX7_tell_4 rfl (lv_at hl 1 rfl) ?_
  refine q_rV (rest := []) ⟨hx, hb, hml, hown, hts⟩ (kX4_has l D cI cR as askind aspage asasked assent s_kind s_page s_asked s_sent s_count s_wetSet p1 _ rfl) (cwV 1 hts gX7_tell_X4_has rfl rfl rfl (by decide +kernel) ⟨Nat.le_of_ble_eq_true rfl, Nat.le_of_ble_eq_true rfl⟩) (hP.sub [1, 2, 3, 4, 5] rfl) hK hN (va_recv hK hP (ci := 4) (q0 := 1) rfl rfl) rfl hl.1 rfl (Nat.le_of_ble_eq_true rfl) dX7_tell_5 ⟨Nat.le_of_ble_eq_true rfl, Nat.le_of_ble_eq_true rfl⟩ ?_
  refine q_if_ne hx hb hf 13 dX7_tell_8 (by decide) (fun hf => ?_) (fun hf => ?_)
  · refine lv_aload_n hx hb dX7_tell_13 rfl (lv_at hl 0 rfl) ?_
    refine va_get (D := D) (ci := 6) (v := .ref as) (C := RX7) (T := TX7) (N := 9) hx hb hts iX7 hown hK hP 0 rfl rfl 1 (by decide) hF21 (fun _ h9 => h9) rfl dX7_tell_14 ?_
    refine va_getN (D := D) (ci := 4) (v := .ref askind) (C := RX4) (T := TX4) (N := 6) hx hb hts iX4 hown hK hP 1 rfl rfl 0 (by decide) hG92 (fun _ h9 => h9) rfl dX7_tell_17 ?_
    refine lv_iload_n hx hb dX7_tell_20 rfl (lv_at hl 1 rfl) ?_
    refine q_iald hx hb hK hP 2 0 rfl rfl hf dX7_tell_21 (fun x1 hf => ?_)
    rcases q_sw hf with ⟨hs22_0, hf⟩ | ⟨hs22_0, hf⟩
    · refine lv_lookup (off := 26) (tgt := 48) hx hb dX7_tell_22 (by decide) (by rw [hs22_0]; rfl) (by decide) ?_
      refine lv_aload_n hx hb dX7_tell_48 rfl (lv_at hl 0 rfl) ?_
      refine lv_iload_n hx hb dX7_tell_49 rfl (lv_at hl 1 rfl) ?_
      obtain ⟨z2, hz2, hf⟩ := bnd hf
      refine q_wVi (wr := []) (rest := []) ⟨hx, hb, hml, hown, hts⟩ (kX7_dashBody l D cI cR ax axrows as ad ay af ao askind aspage asasked assent x_questions x_traced x_latestFault s_kind s_page s_asked s_sent s_count s_wetSet p1 z2 hz2) (cwV 1 hts gX7_tell_X7_dashBody rfl rfl rfl (by decide +kernel) ⟨Nat.le_of_ble_eq_true rfl, Nat.le_of_ble_eq_true rfl⟩) hP hD hS hA hK hN [0, 1, 2, 3, 4, 5] [] rfl rfl (by decide) (by decide) (by decide) (va_recv hK hP (ci := 6) (q0 := 0) rfl rfl) rfl hl.1 rfl (Nat.le_of_ble_eq_true rfl) dX7_tell_50 ⟨Nat.le_of_ble_eq_true rfl, Nat.le_of_ble_eq_true rfl⟩ (fun H locs hP hD hS => ?_)
      have hP : va_P D vwCl [(ax, .inr (6, [.ref axrows, .ref as, .ref ad, .ref ay, .ref af, .ref ao, .int x_questions, .int z2.2, .int x_latestFault])), (as, .inr (4, [.ref askind, .ref aspage, .ref asasked, .ref assent, .int s_count, .int s_wetSet])), (askind, .inl (cI, 7, .inl s_kind)), (aspage, .inl (cI, 7, .inl s_page)), (asasked, .inl (cI, 7, .inl s_asked)), (assent, .inl (cI, 7, .inl s_sent))] H := hP
      have hD : va_D A [(ax, .inr (6, [.ref axrows, .ref as, .ref ad, .ref ay, .ref af, .ref ao, .int x_questions, .int z2.2, .int x_latestFault])), (as, .inr (4, [.ref askind, .ref aspage, .ref asasked, .ref assent, .int s_count, .int s_wetSet])), (askind, .inl (cI, 7, .inl s_kind)), (aspage, .inl (cI, 7, .inl s_page)), (asasked, .inl (cI, 7, .inl s_asked)), (assent, .inl (cI, 7, .inl s_sent))] := hD
      have hq9 := Option.some.inj hf
      subst hq9
      exact hRet _ _ _ _ _ rfl rfl hP hD hS dX7_tell_53
    · skip
      rcases q_sw hf with ⟨hs22_1, hf⟩ | ⟨hs22_1, hf⟩
      · refine lv_lookup (off := 32) (tgt := 54) hx hb dX7_tell_22 (by decide) (by rw [hs22_1]; rfl) (by decide) ?_
        refine lv_aload_n hx hb dX7_tell_54 rfl (lv_at hl 0 rfl) ?_
        refine lv_iload_n hx hb dX7_tell_55 rfl (lv_at hl 1 rfl) ?_
        obtain ⟨z3, hz3, hf⟩ := bnd hf
        refine q_wVi (wr := []) (rest := []) ⟨hx, hb, hml, hown, hts⟩ (kX7_boldBody l D cI cR ax axrows as ad ay af ao askind aspage asasked assent x_questions x_traced x_latestFault s_kind s_page s_asked s_sent s_count s_wetSet p1 z3 hz3) (cwV 1 hts gX7_tell_X7_boldBody rfl rfl rfl (by decide +kernel) ⟨Nat.le_of_ble_eq_true rfl, Nat.le_of_ble_eq_true rfl⟩) hP hD hS hA hK hN [0, 1, 2, 3, 4, 5] [] rfl rfl (by decide) (by decide) (by decide) (va_recv hK hP (ci := 6) (q0 := 0) rfl rfl) rfl hl.1 rfl (Nat.le_of_ble_eq_true rfl) dX7_tell_56 ⟨Nat.le_of_ble_eq_true rfl, Nat.le_of_ble_eq_true rfl⟩ (fun H locs hP hD hS => ?_)
        have hP : va_P D vwCl [(ax, .inr (6, [.ref axrows, .ref as, .ref ad, .ref ay, .ref af, .ref ao, .int x_questions, .int z3.2, .int x_latestFault])), (as, .inr (4, [.ref askind, .ref aspage, .ref asasked, .ref assent, .int s_count, .int s_wetSet])), (askind, .inl (cI, 7, .inl s_kind)), (aspage, .inl (cI, 7, .inl s_page)), (asasked, .inl (cI, 7, .inl s_asked)), (assent, .inl (cI, 7, .inl s_sent))] H := hP
        have hD : va_D A [(ax, .inr (6, [.ref axrows, .ref as, .ref ad, .ref ay, .ref af, .ref ao, .int x_questions, .int z3.2, .int x_latestFault])), (as, .inr (4, [.ref askind, .ref aspage, .ref asasked, .ref assent, .int s_count, .int s_wetSet])), (askind, .inl (cI, 7, .inl s_kind)), (aspage, .inl (cI, 7, .inl s_page)), (asasked, .inl (cI, 7, .inl s_asked)), (assent, .inl (cI, 7, .inl s_sent))] := hD
        have hq9 := Option.some.inj hf
        subst hq9
        exact hRet _ _ _ _ _ rfl rfl hP hD hS dX7_tell_59
      · skip
        have ehs22_0 := nt_i hs22_0 (show ((1 : Int32)).toInt = (1 : Int) by decide)
        have ehs22_1 := nt_i hs22_1 (show ((2 : Int32)).toInt = (2 : Int) by decide)
        refine lv_lookup (off := 38) (tgt := 60) hx hb dX7_tell_22 (by decide) (by show Op.lookupswitch.offset [(1, 26), (2, 32)] 38 _ = _; rw [Op.lookupswitch.offset_cons, if_neg (fun z => ehs22_0 z.symm), Op.lookupswitch.offset_cons, if_neg (fun z => ehs22_1 z.symm)]; rfl) (by decide) ?_
        refine lv_aload_n hx hb dX7_tell_60 rfl (lv_at hl 0 rfl) ?_
        refine lv_iload_n hx hb dX7_tell_61 rfl (lv_at hl 1 rfl) ?_
        obtain ⟨z4, hz4, hf⟩ := bnd hf
        refine q_wVi (wr := []) (rest := []) ⟨hx, hb, hml, hown, hts⟩ (kX7_lineBody l D cI cR ax axrows as ad ay af ao askind aspage asasked assent x_questions x_traced x_latestFault s_kind s_page s_asked s_sent s_count s_wetSet p1 z4 hz4) (cwV 1 hts gX7_tell_X7_lineBody rfl rfl rfl (by decide +kernel) ⟨Nat.le_of_ble_eq_true rfl, Nat.le_of_ble_eq_true rfl⟩) hP hD hS hA hK hN [0, 1, 2, 3, 4, 5] [] rfl rfl (by decide) (by decide) (by decide) (va_recv hK hP (ci := 6) (q0 := 0) rfl rfl) rfl hl.1 rfl (Nat.le_of_ble_eq_true rfl) dX7_tell_62 ⟨Nat.le_of_ble_eq_true rfl, Nat.le_of_ble_eq_true rfl⟩ (fun H locs hP hD hS => ?_)
        have hP : va_P D vwCl [(ax, .inr (6, [.ref axrows, .ref as, .ref ad, .ref ay, .ref af, .ref ao, .int x_questions, .int z4.2, .int x_latestFault])), (as, .inr (4, [.ref askind, .ref aspage, .ref asasked, .ref assent, .int s_count, .int s_wetSet])), (askind, .inl (cI, 7, .inl s_kind)), (aspage, .inl (cI, 7, .inl s_page)), (asasked, .inl (cI, 7, .inl s_asked)), (assent, .inl (cI, 7, .inl s_sent))] H := hP
        have hD : va_D A [(ax, .inr (6, [.ref axrows, .ref as, .ref ad, .ref ay, .ref af, .ref ao, .int x_questions, .int z4.2, .int x_latestFault])), (as, .inr (4, [.ref askind, .ref aspage, .ref asasked, .ref assent, .int s_count, .int s_wetSet])), (askind, .inl (cI, 7, .inl s_kind)), (aspage, .inl (cI, 7, .inl s_page)), (asasked, .inl (cI, 7, .inl s_asked)), (assent, .inl (cI, 7, .inl s_sent))] := hD
        have hq9 := Option.some.inj hf
        subst hq9
        exact hRet _ _ _ _ _ rfl rfl hP hD hS dX7_tell_65
  · refine lv_iconst (v := -1) hx hb dX7_tell_11 (by decide) ?_
    have hq9 := Option.some.inj hf
    subst hq9
    exact hRet _ _ _ _ _ rfl rfl hP hD hS dX7_tell_12
set_option maxHeartbeats 4000000 in
set_option maxRecDepth 100000 in
theorem kX7_trace (l : Launch) (D : va_G) (cI cR : ClassId) (ax axrows as ad ay af ao : Nat) (x_questions : Int32) (x_traced : Int32) (x_latestFault : Int32) (q : Int32) (hf : pX7_trace x_traced = q) : CR l yX7_trace wsX7_trace ({ frames := 0, cells := 0, slots := 0, locals := 0 } : Room) D cI cR [.ref ax] [(ax, .inr (6, [.ref axrows, .ref as, .ref ad, .ref ay, .ref af, .ref ao, .int x_questions, .int x_traced, .int x_latestFault]))] (.int q) := by
  refine CRi.intro (cc := cX7_trace) (maxL := 1) (ty := .int) (by decide) rfl (Nat.le_of_ble_eq_true rfl) ?_
  intro p e s m args below meth c hx hb hml hts hown hP hK hN QQ hRet ls hl
  have hown : s.vm.findClass RX7 = some m.cls := hown
  have hl : lv_has ls 1 [(0, .ref ax)] := hl
  have iX7 : ∀ w ∈ u_ws RX7 TX7 9, w ∈ wsX7_trace := by decide +kernel
  have hF254 := hts (.fieldLink RX7 254 "WorldIndex" "traced" "I") (by decide +kernel)
  unfold pX7_trace at hf
  refine lv_aload_n hx hb dX7_trace_0 rfl (lv_at hl 0 rfl) ?_
  refine va_get (D := D) (ci := 6) (v := .int x_traced) (C := RX7) (T := TX7) (N := 9) hx hb hts iX7 hown hK hP 0 rfl rfl 7 (by decide) hF254 (fun _ h9 => h9) rfl dX7_trace_1 ?_
  exact hRet _ _ _ rfl hf dX7_trace_4
set_option maxHeartbeats 4000000 in
set_option maxRecDepth 100000 in
theorem kX7_tree (l : Launch) (D : va_G) (cI cR : ClassId) (ax axrows as ad ay af ao askind aspage asasked assent afdry afaskedUpTo afcosts afroots : Nat) (x_questions : Int32) (x_traced : Int32) (x_latestFault : Int32) (s_kind : Nat → Int32) (s_page : Nat → Int32) (s_asked : Nat → Int32) (s_sent : Nat → Int32) (s_count : Int32) (s_wetSet : Int32) (f_dry : Nat → Int32) (f_askedUpTo : Nat → Int32) (f_costs : Nat → Int32) (f_roots : Nat → Int32) (f_size : Int32) (p1 : Int32) (q : Int32 × (Nat → Int32) × (Nat → Int32) × (Nat → Int32) × (Nat → Int32) × Int32) (hf : pX7_tree s_asked s_count s_wetSet f_dry f_askedUpTo f_costs f_roots f_size p1 = some q) : CWi l yX7_tree wsX7_tree ({ frames := 3, cells := 0, slots := 0, locals := 70 } : Room) D cI cR [.ref ax, .int p1] [(ax, .inr (6, [.ref axrows, .ref as, .ref ad, .ref ay, .ref af, .ref ao, .int x_questions, .int x_traced, .int x_latestFault])), (as, .inr (4, [.ref askind, .ref aspage, .ref asasked, .ref assent, .int s_count, .int s_wetSet])), (askind, .inl (cI, 7, .inl s_kind)), (aspage, .inl (cI, 7, .inl s_page)), (asasked, .inl (cI, 7, .inl s_asked)), (assent, .inl (cI, 7, .inl s_sent)), (af, .inr (3, [.ref afdry, .ref afaskedUpTo, .ref afcosts, .ref afroots, .int f_size])), (afdry, .inl (cI, 7, .inl f_dry)), (afaskedUpTo, .inl (cI, 8, .inl f_askedUpTo)), (afcosts, .inl (cI, 64, .inl f_costs)), (afroots, .inl (cI, 64, .inl f_roots))] [(ax, .inr (6, [.ref axrows, .ref as, .ref ad, .ref ay, .ref af, .ref ao, .int x_questions, .int x_traced, .int x_latestFault])), (as, .inr (4, [.ref askind, .ref aspage, .ref asasked, .ref assent, .int s_count, .int s_wetSet])), (askind, .inl (cI, 7, .inl s_kind)), (aspage, .inl (cI, 7, .inl s_page)), (asasked, .inl (cI, 7, .inl s_asked)), (assent, .inl (cI, 7, .inl s_sent)), (af, .inr (3, [.ref afdry, .ref afaskedUpTo, .ref afcosts, .ref afroots, .int q.2.2.2.2.2])), (afdry, .inl (cI, 7, .inl q.2.1)), (afaskedUpTo, .inl (cI, 8, .inl q.2.2.1)), (afcosts, .inl (cI, 64, .inl q.2.2.2.1)), (afroots, .inl (cI, 64, .inl q.2.2.2.2.1))] q.1 := by
  refine CWi.intro (cc := cX7_tree) (maxL := 2) (ty := .int) (by decide) rfl (Nat.le_of_ble_eq_true rfl) ?_
  intro p e s m args below meth c hx hb hml hts hown hP hK hN A hA hD hS QQ hRet ls hl
  have hown : s.vm.findClass RX7 = some m.cls := hown
  have hl : lv_has ls 2 [(0, .ref ax), (1, .int p1)] := hl
  have iX4 : ∀ w ∈ u_ws RX4 TX4 6, w ∈ wsX7_tree := by decide +kernel
  have iX7 : ∀ w ∈ u_ws RX7 TX7 9, w ∈ wsX7_tree := by decide +kernel
  have hF21 := hts (.fieldLink RX7 21 "WorldIndex" "slips" "LWorldIndex$Slips;") (by decide +kernel)
  have hF42 := hts (.fieldLink RX7 42 "WorldIndex" "searchTree" "LWorldIndex$SearchTree;") (by decide +kernel)
  have hG88 := NN.f (args := args) hN "WorldIndex" 88 "WorldIndex$Slips" "count" "I" "WorldIndex" (by decide +kernel)
  unfold pX7_tree at hf
  refine lv_iload_n hx hb dX7_tree_0 rfl (lv_at hl 1 rfl) ?_
  refine lv_iconst (v := -1) hx hb dX7_tree_1 (by decide) ?_
  refine q_icmp_lt hx hb hf 11 dX7_tree_2 (by decide) (fun hf => ?_) (fun hf => ?_)
  · refine lv_bipush (v := -2) hx hb dX7_tree_11 (by decide) ?_
    have hq9 := Option.some.inj hf
    subst hq9
    exact hRet _ _ _ _ _ rfl rfl hP hD hS dX7_tree_13
  · refine lv_iload_n hx hb dX7_tree_5 rfl (lv_at hl 1 rfl) ?_
    refine lv_bipush (v := 7) hx hb dX7_tree_6 (by decide) ?_
    refine q_icmp_lt hx hb hf 14 dX7_tree_8 (by decide) (fun hf => ?_) (fun hf => ?_)
    · refine lv_aload_n hx hb dX7_tree_14 rfl (lv_at hl 0 rfl) ?_
      refine va_get (D := D) (ci := 6) (v := .ref as) (C := RX7) (T := TX7) (N := 9) hx hb hts iX7 hown hK hP 0 rfl rfl 1 (by decide) hF21 (fun _ h9 => h9) rfl dX7_tree_15 ?_
      refine va_getN (D := D) (ci := 4) (v := .int s_count) (C := RX4) (T := TX4) (N := 6) hx hb hts iX4 hown hK hP 1 rfl rfl 4 (by decide) hG88 (fun _ h9 => h9) rfl dX7_tree_18 ?_
      refine q_if_ne hx hb hf 27 dX7_tree_21 (by decide) (fun hf => ?_) (fun hf => ?_)
      · refine lv_aload_n hx hb dX7_tree_27 rfl (lv_at hl 0 rfl) ?_
        refine va_get (D := D) (ci := 6) (v := .ref af) (C := RX7) (T := TX7) (N := 9) hx hb hts iX7 hown hK hP 0 rfl rfl 4 (by decide) hF42 (fun _ h9 => h9) rfl dX7_tree_28 ?_
        refine lv_aload_n hx hb dX7_tree_31 rfl (lv_at hl 0 rfl) ?_
        refine va_get (D := D) (ci := 6) (v := .ref as) (C := RX7) (T := TX7) (N := 9) hx hb hts iX7 hown hK hP 0 rfl rfl 1 (by decide) hF21 (fun _ h9 => h9) rfl dX7_tree_32 ?_
        obtain ⟨z1, hz1, hf⟩ := bnd hf
        refine q_wVv (wr := [(ax, .inr (6, [.ref axrows, .ref as, .ref ad, .ref ay, .ref af, .ref ao, .int x_questions, .int x_traced, .int x_latestFault]))]) (rest := []) ⟨hx, hb, hml, hown, hts⟩ (kX3_grow l D cI cR af afdry afaskedUpTo afcosts afroots as askind aspage asasked assent f_dry f_askedUpTo f_costs f_roots f_size s_kind s_page s_asked s_sent s_count s_wetSet z1 hz1) (cwV 1 hts gX7_tree_X3_grow rfl rfl rfl (by decide +kernel) ⟨Nat.le_of_ble_eq_true rfl, Nat.le_of_ble_eq_true rfl⟩) hP hD hS hA hK hN [6, 7, 8, 9, 10, 1, 2, 3, 4, 5] [0] rfl rfl (by decide) (by decide) (by decide) (va_recv hK hP (ci := 3) (q0 := 6) rfl rfl) rfl hl.1 rfl (Nat.le_of_ble_eq_true rfl) dX7_tree_35 ⟨Nat.le_of_ble_eq_true rfl, Nat.le_of_ble_eq_true rfl⟩ (fun H locs hP hD hS => ?_)
        have hP := hP.sub (ws' := [(ax, .inr (6, [.ref axrows, .ref as, .ref ad, .ref ay, .ref af, .ref ao, .int x_questions, .int x_traced, .int x_latestFault])), (as, .inr (4, [.ref askind, .ref aspage, .ref asasked, .ref assent, .int s_count, .int s_wetSet])), (askind, .inl (cI, 7, .inl s_kind)), (aspage, .inl (cI, 7, .inl s_page)), (asasked, .inl (cI, 7, .inl s_asked)), (assent, .inl (cI, 7, .inl s_sent)), (af, .inr (3, [.ref afdry, .ref afaskedUpTo, .ref afcosts, .ref afroots, .int z1.2.2.2.2])), (afdry, .inl (cI, 7, .inl z1.1)), (afaskedUpTo, .inl (cI, 8, .inl z1.2.1)), (afcosts, .inl (cI, 64, .inl z1.2.2.1)), (afroots, .inl (cI, 64, .inl z1.2.2.2.1))]) [0, 6, 7, 8, 9, 10, 1, 2, 3, 4, 5] rfl
        have hD := hD.sub (ws' := [(ax, .inr (6, [.ref axrows, .ref as, .ref ad, .ref ay, .ref af, .ref ao, .int x_questions, .int x_traced, .int x_latestFault])), (as, .inr (4, [.ref askind, .ref aspage, .ref asasked, .ref assent, .int s_count, .int s_wetSet])), (askind, .inl (cI, 7, .inl s_kind)), (aspage, .inl (cI, 7, .inl s_page)), (asasked, .inl (cI, 7, .inl s_asked)), (assent, .inl (cI, 7, .inl s_sent)), (af, .inr (3, [.ref afdry, .ref afaskedUpTo, .ref afcosts, .ref afroots, .int z1.2.2.2.2])), (afdry, .inl (cI, 7, .inl z1.1)), (afaskedUpTo, .inl (cI, 8, .inl z1.2.1)), (afcosts, .inl (cI, 64, .inl z1.2.2.1)), (afroots, .inl (cI, 64, .inl z1.2.2.2.1))]) [0, 6, 7, 8, 9, 10, 1, 2, 3, 4, 5] (by decide) rfl
        refine lv_iload_n hx hb dX7_tree_38 rfl (lv_at hl 1 rfl) ?_
        refine lv_iconst (v := -1) hx hb dX7_tree_39 (by decide) ?_
        refine q_icmp_ne hx hb hf 53 dX7_tree_40 (by decide) (fun hf => ?_) (fun hf => ?_)
        · refine lv_aload_n hx hb dX7_tree_53 rfl (lv_at hl 0 rfl) ?_
          refine va_get (D := D) (ci := 6) (v := .ref af) (C := RX7) (T := TX7) (N := 9) hx hb hts iX7 hown hK hP 0 rfl rfl 4 (by decide) hF42 (fun _ h9 => h9) rfl dX7_tree_54 ?_
          refine lv_iload_n hx hb dX7_tree_57 rfl (lv_at hl 1 rfl) ?_
          obtain ⟨z2, hz2, hf⟩ := bnd hf
          refine q_rV (rest := []) ⟨hx, hb, hml, hown, hts⟩ (kX3_depthOf l D cI cR af afdry afaskedUpTo afcosts afroots z1.1 z1.2.1 z1.2.2.1 z1.2.2.2.1 z1.2.2.2.2 p1 z2 hz2) (cwV 1 hts gX7_tree_X3_depthOf rfl rfl rfl (by decide +kernel) ⟨Nat.le_of_ble_eq_true rfl, Nat.le_of_ble_eq_true rfl⟩) (hP.sub [6, 7, 8, 9, 10] rfl) hK hN (va_recv hK hP (ci := 3) (q0 := 6) rfl rfl) rfl hl.1 rfl (Nat.le_of_ble_eq_true rfl) dX7_tree_58 ⟨Nat.le_of_ble_eq_true rfl, Nat.le_of_ble_eq_true rfl⟩ ?_
          have hq9 := Option.some.inj hf
          subst hq9
          exact hRet _ _ _ _ _ rfl rfl hP hD hS dX7_tree_61
        · refine lv_aload_n hx hb dX7_tree_43 rfl (lv_at hl 0 rfl) ?_
          refine va_get (D := D) (ci := 6) (v := .ref af) (C := RX7) (T := TX7) (N := 9) hx hb hts iX7 hown hK hP 0 rfl rfl 4 (by decide) hF42 (fun _ h9 => h9) rfl dX7_tree_44 ?_
          obtain ⟨z3, hz3, hf⟩ := bnd hf
          refine q_rV (rest := []) ⟨hx, hb, hml, hown, hts⟩ (kX3_leastCost l D cI cR af afdry afaskedUpTo afcosts afroots z1.1 z1.2.1 z1.2.2.1 z1.2.2.2.1 z1.2.2.2.2 z3 hz3) (cwV 0 hts gX7_tree_X3_leastCost rfl rfl rfl (by decide +kernel) ⟨Nat.le_of_ble_eq_true rfl, Nat.le_of_ble_eq_true rfl⟩) (hP.sub [6, 7, 8, 9, 10] rfl) hK hN (va_recv hK hP (ci := 3) (q0 := 6) rfl rfl) rfl hl.1 rfl (Nat.le_of_ble_eq_true rfl) dX7_tree_47 ⟨Nat.le_of_ble_eq_true rfl, Nat.le_of_ble_eq_true rfl⟩ ?_
          refine lv_goto (tgt := 61) hx hb dX7_tree_50 (by decide) ?_
          have hq9 := Option.some.inj hf
          subst hq9
          exact hRet _ _ _ _ _ rfl rfl hP hD hS dX7_tree_61
      · refine lv_bipush (v := -3) hx hb dX7_tree_24 (by decide) ?_
        have hq9 := Option.some.inj hf
        subst hq9
        exact hRet _ _ _ _ _ rfl rfl hP hD hS dX7_tree_26
    · refine lv_bipush (v := -2) hx hb dX7_tree_11 (by decide) ?_
      have hq9 := Option.some.inj hf
      subst hq9
      exact hRet _ _ _ _ _ rfl rfl hP hD hS dX7_tree_13
set_option maxHeartbeats 4000000 in
set_option maxRecDepth 100000 in
theorem kX7_want (l : Launch) (D : va_G) (cI cR : ClassId) (ax axrows as ad ay af ao askind aspage asasked assent : Nat) (x_questions : Int32) (x_traced : Int32) (x_latestFault : Int32) (s_kind : Nat → Int32) (s_page : Nat → Int32) (s_asked : Nat → Int32) (s_sent : Nat → Int32) (s_count : Int32) (s_wetSet : Int32) (p1 : Int32) (p2 : Int32) (q : Int32 × (Nat → Int32)) (hf : pX7_want s_asked s_count p1 p2 = some q) : CWi l yX7_want wsX7_want ({ frames := 1, cells := 0, slots := 0, locals := 21 } : Room) D cI cR [.ref ax, .int p1, .int p2] [(ax, .inr (6, [.ref axrows, .ref as, .ref ad, .ref ay, .ref af, .ref ao, .int x_questions, .int x_traced, .int x_latestFault])), (as, .inr (4, [.ref askind, .ref aspage, .ref asasked, .ref assent, .int s_count, .int s_wetSet])), (askind, .inl (cI, 7, .inl s_kind)), (aspage, .inl (cI, 7, .inl s_page)), (asasked, .inl (cI, 7, .inl s_asked)), (assent, .inl (cI, 7, .inl s_sent))] [(ax, .inr (6, [.ref axrows, .ref as, .ref ad, .ref ay, .ref af, .ref ao, .int x_questions, .int x_traced, .int x_latestFault])), (as, .inr (4, [.ref askind, .ref aspage, .ref asasked, .ref assent, .int s_count, .int s_wetSet])), (askind, .inl (cI, 7, .inl s_kind)), (aspage, .inl (cI, 7, .inl s_page)), (asasked, .inl (cI, 7, .inl q.2)), (assent, .inl (cI, 7, .inl s_sent))] q.1 := by
  refine CWi.intro (cc := cX7_want) (maxL := 4) (ty := .int) (by decide) rfl (Nat.le_of_ble_eq_true rfl) ?_
  intro p e s m args below meth c hx hb hml hts hown hP hK hN A hA hD hS QQ hRet ls hl
  have hown : s.vm.findClass RX7 = some m.cls := hown
  have hl : lv_has ls 4 [(0, .ref ax), (1, .int p1), (2, .int p2)] := hl
  have iX4 : ∀ w ∈ u_ws RX4 TX4 6, w ∈ wsX7_want := by decide +kernel
  have iX7 : ∀ w ∈ u_ws RX7 TX7 9, w ∈ wsX7_want := by decide +kernel
  have hF21 := hts (.fieldLink RX7 21 "WorldIndex" "slips" "LWorldIndex$Slips;") (by decide +kernel)
  have hG99 := NN.f (args := args) hN "WorldIndex" 99 "WorldIndex$Slips" "asked" "[I" "WorldIndex" (by decide +kernel)
  unfold pX7_want at hf
  refine lv_aload_n hx hb dX7_want_0 rfl (lv_at hl 0 rfl) ?_
  refine va_get (D := D) (ci := 6) (v := .ref as) (C := RX7) (T := TX7) (N := 9) hx hb hts iX7 hown hK hP 0 rfl rfl 1 (by decide) hF21 (fun _ h9 => h9) rfl dX7_want_1 ?_
  refine lv_iload_n hx hb dX7_want_4 rfl (lv_at hl 1 rfl) ?_
  refine q_rV (rest := []) ⟨hx, hb, hml, hown, hts⟩ (kX4_has l D cI cR as askind aspage asasked assent s_kind s_page s_asked s_sent s_count s_wetSet p1 _ rfl) (cwV 1 hts gX7_want_X4_has rfl rfl rfl (by decide +kernel) ⟨Nat.le_of_ble_eq_true rfl, Nat.le_of_ble_eq_true rfl⟩) (hP.sub [1, 2, 3, 4, 5] rfl) hK hN (va_recv hK hP (ci := 4) (q0 := 1) rfl rfl) rfl hl.1 rfl (Nat.le_of_ble_eq_true rfl) dX7_want_5 ⟨Nat.le_of_ble_eq_true rfl, Nat.le_of_ble_eq_true rfl⟩ ?_
  refine q_if_ne hx hb hf 13 dX7_want_8 (by decide) (fun hf => ?_) (fun hf => ?_)
  · refine lv_iload_n hx hb dX7_want_13 rfl (lv_at hl 2 rfl) ?_
    refine q_if_lt hx hb hf 23 dX7_want_14 (by decide) (fun hf => ?_) (fun hf => ?_)
    · refine lv_bipush (v := -2) hx hb dX7_want_23 (by decide) ?_
      have hq9 := Option.some.inj hf
      subst hq9
      exact hRet _ _ _ _ _ rfl rfl hP hD hS dX7_want_25
    · refine lv_iload_n hx hb dX7_want_17 rfl (lv_at hl 2 rfl) ?_
      refine lv_bipush (v := 9) hx hb dX7_want_18 (by decide) ?_
      refine q_icmp_le hx hb hf 26 dX7_want_20 (by decide) (fun hf => ?_) (fun hf => ?_)
      · refine lv_aload_n hx hb dX7_want_26 rfl (lv_at hl 0 rfl) ?_
        refine va_get (D := D) (ci := 6) (v := .ref as) (C := RX7) (T := TX7) (N := 9) hx hb hts iX7 hown hK hP 0 rfl rfl 1 (by decide) hF21 (fun _ h9 => h9) rfl dX7_want_27 ?_
        refine va_getN (D := D) (ci := 4) (v := .ref asasked) (C := RX4) (T := TX4) (N := 6) hx hb hts iX4 hown hK hP 1 rfl rfl 2 (by decide) hG99 (fun _ h9 => h9) rfl dX7_want_30 ?_
        refine lv_iload_n hx hb dX7_want_33 rfl (lv_at hl 1 rfl) ?_
        refine q_iald hx hb hK hP 4 0 rfl rfl hf dX7_want_34 (fun x1 hf => ?_)
        refine lv_istore_n (lv' := [(3, .int x1), (0, .ref ax), (1, .int p1), (2, .int p2)]) hx hb dX7_want_35 rfl hl (by decide) rfl (fun ls hl => ?_)
        refine lv_aload_n hx hb dX7_want_36 rfl (lv_at hl 1 rfl) ?_
        refine va_get (D := D) (ci := 6) (v := .ref as) (C := RX7) (T := TX7) (N := 9) hx hb hts iX7 hown hK hP 0 rfl rfl 1 (by decide) hF21 (fun _ h9 => h9) rfl dX7_want_37 ?_
        refine va_getN (D := D) (ci := 4) (v := .ref asasked) (C := RX4) (T := TX4) (N := 6) hx hb hts iX4 hown hK hP 1 rfl rfl 2 (by decide) hG99 (fun _ h9 => h9) rfl dX7_want_40 ?_
        refine lv_iload_n hx hb dX7_want_43 rfl (lv_at hl 2 rfl) ?_
        refine lv_iload_n hx hb dX7_want_44 rfl (lv_at hl 3 rfl) ?_
        refine q_iast hx hb hK hP hD hS 4 0 rfl rfl hf dX7_want_45 (fun g2 H locs hf hP hD hS => ?_)
        have hP : va_P D vwCl [(ax, .inr (6, [.ref axrows, .ref as, .ref ad, .ref ay, .ref af, .ref ao, .int x_questions, .int x_traced, .int x_latestFault])), (as, .inr (4, [.ref askind, .ref aspage, .ref asasked, .ref assent, .int s_count, .int s_wetSet])), (askind, .inl (cI, 7, .inl s_kind)), (aspage, .inl (cI, 7, .inl s_page)), (asasked, .inl (cI, 7, .inl g2)), (assent, .inl (cI, 7, .inl s_sent))] H := hP
        have hD : va_D A [(ax, .inr (6, [.ref axrows, .ref as, .ref ad, .ref ay, .ref af, .ref ao, .int x_questions, .int x_traced, .int x_latestFault])), (as, .inr (4, [.ref askind, .ref aspage, .ref asasked, .ref assent, .int s_count, .int s_wetSet])), (askind, .inl (cI, 7, .inl s_kind)), (aspage, .inl (cI, 7, .inl s_page)), (asasked, .inl (cI, 7, .inl g2)), (assent, .inl (cI, 7, .inl s_sent))] := hD
        refine lv_iload_n hx hb dX7_want_46 rfl (lv_at hl 0 rfl) ?_
        have hq9 := Option.some.inj hf
        subst hq9
        exact hRet _ _ _ _ _ rfl rfl hP hD hS dX7_want_47
      · refine lv_bipush (v := -2) hx hb dX7_want_23 (by decide) ?_
        have hq9 := Option.some.inj hf
        subst hq9
        exact hRet _ _ _ _ _ rfl rfl hP hD hS dX7_want_25
  · refine lv_iconst (v := -1) hx hb dX7_want_11 (by decide) ?_
    have hq9 := Option.some.inj hf
    subst hq9
    exact hRet _ _ _ _ _ rfl rfl hP hD hS dX7_want_12
set_option maxHeartbeats 4000000 in
set_option maxRecDepth 100000 in
theorem kX7_wet (l : Launch) (D : va_G) (cI cR : ClassId) (ax axrows as ad ay af ao askind aspage asasked assent : Nat) (x_questions : Int32) (x_traced : Int32) (x_latestFault : Int32) (s_kind : Nat → Int32) (s_page : Nat → Int32) (s_asked : Nat → Int32) (s_sent : Nat → Int32) (s_count : Int32) (s_wetSet : Int32) (p1 : Int32) (q : Int32 × Int32) (hf : pX7_wet s_count s_wetSet p1 = some q) : CWi l yX7_wet wsX7_wet ({ frames := 2, cells := 0, slots := 0, locals := 42 } : Room) D cI cR [.ref ax, .int p1] [(ax, .inr (6, [.ref axrows, .ref as, .ref ad, .ref ay, .ref af, .ref ao, .int x_questions, .int x_traced, .int x_latestFault])), (as, .inr (4, [.ref askind, .ref aspage, .ref asasked, .ref assent, .int s_count, .int s_wetSet])), (askind, .inl (cI, 7, .inl s_kind)), (aspage, .inl (cI, 7, .inl s_page)), (asasked, .inl (cI, 7, .inl s_asked)), (assent, .inl (cI, 7, .inl s_sent))] [(ax, .inr (6, [.ref axrows, .ref as, .ref ad, .ref ay, .ref af, .ref ao, .int x_questions, .int x_traced, .int x_latestFault])), (as, .inr (4, [.ref askind, .ref aspage, .ref asasked, .ref assent, .int s_count, .int q.2])), (askind, .inl (cI, 7, .inl s_kind)), (aspage, .inl (cI, 7, .inl s_page)), (asasked, .inl (cI, 7, .inl s_asked)), (assent, .inl (cI, 7, .inl s_sent))] q.1 := by
  refine CWi.intro (cc := cX7_wet) (maxL := 2) (ty := .int) (by decide) rfl (Nat.le_of_ble_eq_true rfl) ?_
  intro p e s m args below meth c hx hb hml hts hown hP hK hN A hA hD hS QQ hRet ls hl
  have hown : s.vm.findClass RX7 = some m.cls := hown
  have hl : lv_has ls 2 [(0, .ref ax), (1, .int p1)] := hl
  have iX7 : ∀ w ∈ u_ws RX7 TX7 9, w ∈ wsX7_wet := by decide +kernel
  have hF21 := hts (.fieldLink RX7 21 "WorldIndex" "slips" "LWorldIndex$Slips;") (by decide +kernel)
  unfold pX7_wet at hf
  refine lv_aload_n hx hb dX7_wet_0 rfl (lv_at hl 0 rfl) ?_
  refine va_get (D := D) (ci := 6) (v := .ref as) (C := RX7) (T := TX7) (N := 9) hx hb hts iX7 hown hK hP 0 rfl rfl 1 (by decide) hF21 (fun _ h9 => h9) rfl dX7_wet_1 ?_
  refine lv_iload_n hx hb dX7_wet_4 rfl (lv_at hl 1 rfl) ?_
  refine q_rV (rest := []) ⟨hx, hb, hml, hown, hts⟩ (kX4_has l D cI cR as askind aspage asasked assent s_kind s_page s_asked s_sent s_count s_wetSet p1 _ rfl) (cwV 1 hts gX7_wet_X4_has rfl rfl rfl (by decide +kernel) ⟨Nat.le_of_ble_eq_true rfl, Nat.le_of_ble_eq_true rfl⟩) (hP.sub [1, 2, 3, 4, 5] rfl) hK hN (va_recv hK hP (ci := 4) (q0 := 1) rfl rfl) rfl hl.1 rfl (Nat.le_of_ble_eq_true rfl) dX7_wet_5 ⟨Nat.le_of_ble_eq_true rfl, Nat.le_of_ble_eq_true rfl⟩ ?_
  refine q_if_ne hx hb hf 13 dX7_wet_8 (by decide) (fun hf => ?_) (fun hf => ?_)
  · refine lv_aload_n hx hb dX7_wet_13 rfl (lv_at hl 0 rfl) ?_
    refine va_get (D := D) (ci := 6) (v := .ref as) (C := RX7) (T := TX7) (N := 9) hx hb hts iX7 hown hK hP 0 rfl rfl 1 (by decide) hF21 (fun _ h9 => h9) rfl dX7_wet_14 ?_
    refine lv_iload_n hx hb dX7_wet_17 rfl (lv_at hl 1 rfl) ?_
    obtain ⟨z1, hz1, hf⟩ := bnd hf
    refine q_wVi (wr := [(ax, .inr (6, [.ref axrows, .ref as, .ref ad, .ref ay, .ref af, .ref ao, .int x_questions, .int x_traced, .int x_latestFault]))]) (rest := []) ⟨hx, hb, hml, hown, hts⟩ (kX4_soak l D cI cR as askind aspage asasked assent s_kind s_page s_asked s_sent s_count s_wetSet p1 z1 hz1) (cwV 1 hts gX7_wet_X4_soak rfl rfl rfl (by decide +kernel) ⟨Nat.le_of_ble_eq_true rfl, Nat.le_of_ble_eq_true rfl⟩) hP hD hS hA hK hN [1, 2, 3, 4, 5] [0] rfl rfl (by decide) (by decide) (by decide) (va_recv hK hP (ci := 4) (q0 := 1) rfl rfl) rfl hl.1 rfl (Nat.le_of_ble_eq_true rfl) dX7_wet_18 ⟨Nat.le_of_ble_eq_true rfl, Nat.le_of_ble_eq_true rfl⟩ (fun H locs hP hD hS => ?_)
    have hP := hP.sub (ws' := [(ax, .inr (6, [.ref axrows, .ref as, .ref ad, .ref ay, .ref af, .ref ao, .int x_questions, .int x_traced, .int x_latestFault])), (as, .inr (4, [.ref askind, .ref aspage, .ref asasked, .ref assent, .int s_count, .int z1.2])), (askind, .inl (cI, 7, .inl s_kind)), (aspage, .inl (cI, 7, .inl s_page)), (asasked, .inl (cI, 7, .inl s_asked)), (assent, .inl (cI, 7, .inl s_sent))]) [0, 1, 2, 3, 4, 5] rfl
    have hD := hD.sub (ws' := [(ax, .inr (6, [.ref axrows, .ref as, .ref ad, .ref ay, .ref af, .ref ao, .int x_questions, .int x_traced, .int x_latestFault])), (as, .inr (4, [.ref askind, .ref aspage, .ref asasked, .ref assent, .int s_count, .int z1.2])), (askind, .inl (cI, 7, .inl s_kind)), (aspage, .inl (cI, 7, .inl s_page)), (asasked, .inl (cI, 7, .inl s_asked)), (assent, .inl (cI, 7, .inl s_sent))]) [0, 1, 2, 3, 4, 5] (by decide) rfl
    refine q_if_ne hx hb hf 27 dX7_wet_21 (by decide) (fun hf => ?_) (fun hf => ?_)
    · refine lv_aload_n hx hb dX7_wet_27 rfl (lv_at hl 0 rfl) ?_
      refine va_get (D := D) (ci := 6) (v := .ref as) (C := RX7) (T := TX7) (N := 9) hx hb hts iX7 hown hK hP 0 rfl rfl 1 (by decide) hF21 (fun _ h9 => h9) rfl dX7_wet_28 ?_
      refine q_rV (rest := []) ⟨hx, hb, hml, hown, hts⟩ (kX4_howManyWet l D cI cR as askind aspage asasked assent s_kind s_page s_asked s_sent s_count z1.2 _ rfl) (cwV 0 hts gX7_wet_X4_howManyWet rfl rfl rfl (by decide +kernel) ⟨Nat.le_of_ble_eq_true rfl, Nat.le_of_ble_eq_true rfl⟩) (hP.sub [1, 2, 3, 4, 5] rfl) hK hN (va_recv hK hP (ci := 4) (q0 := 1) rfl rfl) rfl hl.1 rfl (Nat.le_of_ble_eq_true rfl) dX7_wet_31 ⟨Nat.le_of_ble_eq_true rfl, Nat.le_of_ble_eq_true rfl⟩ ?_
      have hq9 := Option.some.inj hf
      subst hq9
      exact hRet _ _ _ _ _ rfl rfl hP hD hS dX7_wet_34
    · refine lv_bipush (v := -3) hx hb dX7_wet_24 (by decide) ?_
      have hq9 := Option.some.inj hf
      subst hq9
      exact hRet _ _ _ _ _ rfl rfl hP hD hS dX7_wet_26
  · refine lv_iconst (v := -1) hx hb dX7_wet_11 (by decide) ?_
    have hq9 := Option.some.inj hf
    subst hq9
    exact hRet _ _ _ _ _ rfl rfl hP hD hS dX7_wet_12
