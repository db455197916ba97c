def pX7_copyD (x_latestFault : Int32) (r_cells : Nat → Int32) (r_there : Int32) (r_lane : Int32) (r_length : Int32) (q_cells : Nat → Int32) (q_there : Int32) (q_lane : Int32) (q_length : Int32) (p1 : Int32) (p2 : Int32) (p3 : Int32) (p4 : Int32) (p5 : Int32) : Option (Int32 × Int32 × (Nat → Int32)) := if (pX7_isSheet p1) = 0 then (some (((-1 : Int32), (0 : Int32), q_cells))) else (if (pX7_isSheet p3) = 0 then (some (((-1 : Int32), (0 : Int32), q_cells))) else ((gx 4 p1).bind fun _ => (gx 4 p3).bind fun _ => jn ((pX7_faulted ((0 : Int32)) ((1 : Int32))).bind fun z2 => some ((z2.1, z2.2, q_cells))) (fun J53_1 : Option (Int32 × Int32 × (Nat → Int32)) => if r_there = 0 then (J53_1) else (if q_there = 0 then (J53_1) else (if r_lane = q_lane then (jn ((pX7_faulted ((0 : Int32)) ((3 : Int32))).bind fun z4 => some ((z4.1, z4.2, q_cells))) (fun J106_3 : Option (Int32 × Int32 × (Nat → Int32)) => if p5 < 0 then (J106_3) else (if (pX2_holds r_length p2 p5) = 0 then (J106_3) else (if (pX2_holds q_length p4 p5) = 0 then (J106_3) else ((cpq r_cells q_cells 60 60 p2 p4 p5).bind fun g5 => some ((p5, (0 : Int32), g5))))))) else ((pX7_faulted ((0 : Int32)) ((2 : Int32))).bind fun z6 => some ((z6.1, z6.2, q_cells))))))))
def pX7_copyS (x_latestFault : Int32) (r_cells : Nat → Int32) (r_there : Int32) (r_lane : Int32) (r_length : Int32) (p1 : Int32) (p2 : Int32) (p3 : Int32) (p4 : Int32) (p5 : Int32) : Option (Int32 × Int32 × (Nat → Int32)) := if (pX7_isSheet p1) = 0 then (some (((-1 : Int32), (0 : Int32), r_cells))) else (if (pX7_isSheet p3) = 0 then (some (((-1 : Int32), (0 : Int32), r_cells))) else ((gx 4 p1).bind fun _ => (gx 4 p3).bind fun _ => jn ((pX7_faulted ((0 : Int32)) ((1 : Int32))).bind fun z2 => some ((z2.1, z2.2, r_cells))) (fun J53_1 : Option (Int32 × Int32 × (Nat → Int32)) => if r_there = 0 then (J53_1) else (if r_there = 0 then (J53_1) else (if r_lane = r_lane then (jn ((pX7_faulted ((0 : Int32)) ((3 : Int32))).bind fun z4 => some ((z4.1, z4.2, r_cells))) (fun J106_3 : Option (Int32 × Int32 × (Nat → Int32)) => if p5 < 0 then (J106_3) else (if (pX2_holds r_length p2 p5) = 0 then (J106_3) else (if (pX2_holds r_length p4 p5) = 0 then (J106_3) else ((cpq r_cells r_cells 60 60 p2 p4 p5).bind fun g5 => some ((p5, (0 : Int32), g5))))))) else ((pX7_faulted ((0 : Int32)) ((2 : Int32))).bind fun z6 => some ((z6.1, z6.2, r_cells))))))))
set_option maxHeartbeats 4000000 in
set_option maxRecDepth 100000 in
theorem kX7_copyD (l : Launch) (D : va_G) (cI cR : ClassId) (ax axrows as ad ay af ao ar arcells aq aqcells : Nat) (x_rows : Nat → Option Nat) (x_questions : Int32) (x_traced : Int32) (x_latestFault : Int32) (r_cells : Nat → Int32) (r_there : Int32) (r_lane : Int32) (r_length : Int32) (q_cells : Nat → Int32) (q_there : Int32) (q_lane : Int32) (q_length : Int32) (p1 : Int32) (p2 : Int32) (p3 : Int32) (p4 : Int32) (p5 : Int32) (hrow : vp_in p1 4 → x_rows p1.toNatClampNeg = some ar) (hrow2 : vp_in p3 4 → x_rows p3.toNatClampNeg = some aq) (q : Int32 × Int32 × (Nat → Int32)) (hf : pX7_copyD x_latestFault r_cells r_there r_lane r_length q_cells q_there q_lane q_length p1 p2 p3 p4 p5 = some q) : CWi l yX7_copy wsX7_copy ({ frames := 1, cells := 0, slots := 0, locals := 60 } : Room) D cI cR [.ref ax, .int p1, .int p2, .int p3, .int p4, .int p5] [(ax, .inr (6, [.ref axrows, .ref as, .ref ad, .ref ay, .ref af, .ref ao, .int x_questions, .int x_traced, .int x_latestFault])), (axrows, .inl (cR, 4, .inr (.inr (.inr (.inr x_rows))))), (ar, .inr (2, [.ref arcells, .int r_there, .int r_lane, .int r_length])), (arcells, .inl (cI, 60, .inl r_cells)), (aq, .inr (2, [.ref aqcells, .int q_there, .int q_lane, .int q_length])), (aqcells, .inl (cI, 60, .inl q_cells))] [(ax, .inr (6, [.ref axrows, .ref as, .ref ad, .ref ay, .ref af, .ref ao, .int x_questions, .int x_traced, .int q.2.1])), (axrows, .inl (cR, 4, .inr (.inr (.inr (.inr x_rows))))), (ar, .inr (2, [.ref arcells, .int r_there, .int r_lane, .int r_length])), (arcells, .inl (cI, 60, .inl r_cells)), (aq, .inr (2, [.ref aqcells, .int q_there, .int q_lane, .int q_length])), (aqcells, .inl (cI, 60, .inl q.2.2))] q.1 := by
  refine CWi.intro (cc := cX7_copy) (maxL := 8) (ty := .int) (by decide) rfl (Nat.le_of_ble_eq_true rfl) ?_
  intro p e s m args below meth c hx hb hml hts hown hP hK hN A hA hD hS QQ hRet ls hl
  have hown : s.vm.findClass RX7 = some m.cls := hown
  have hl : lv_has ls 8 [(0, .ref ax), (1, .int p1), (2, .int p2), (3, .int p3), (4, .int p4), (5, .int p5)] := hl
  have iX2 : ∀ w ∈ u_ws RX2 TX2 4, w ∈ wsX7_copy := by decide +kernel
  have iX7 : ∀ w ∈ u_ws RX7 TX7 9, w ∈ wsX7_copy := by decide +kernel
  have hF13 := hts (.fieldLink RX7 13 "WorldIndex" "rows" "[LWorldIndex$Row;") (by decide +kernel)
  have hF53 := hts (.fieldLink RX7 53 "WorldIndex" "latestFault" "I") (by decide +kernel)
  have hG143 := NN.f (args := args) hN "WorldIndex" 143 "WorldIndex$Row" "cells" "[I" "WorldIndex" (by decide +kernel)
  have hG216 := NN.f (args := args) hN "WorldIndex" 216 "WorldIndex$Row" "there" "Z" "WorldIndex" (by decide +kernel)
  have hG223 := NN.f (args := args) hN "WorldIndex" 223 "WorldIndex$Row" "lane" "I" "WorldIndex" (by decide +kernel)
  have ha0 := hts (.methodLink RX7 233 arraycopyName) (by decide +kernel)
  have ha1 := hts (.native arraycopyName) (by decide +kernel)
  have ha2 := hts (.static arraycopyName) (by decide +kernel)
  have ha3 := hts (.initialized "java/lang/System") (by decide +kernel)
  unfold pX7_copyD at hf
  refine lv_aload_n hx hb dX7_copy_0 rfl (lv_at hl 0 rfl) ?_
  refine lv_iconst (v := 0) hx hb dX7_copy_1 (by decide) ?_
  refine va_put (D := D) (ci := 6) (v := .int ((0 : Int32))) (ty := .int) (C := RX7) (T := TX7) (N := 9) hx hb hts iX7 tyX7 tyX7_ok nmX7 hown hK hP hD hS 0 rfl rfl 8 (by decide) hF53 (fun _ h9 => h9) rfl (tyX7_ok 8 (by decide)) rfl rfl (Nat.le_of_ble_eq_true rfl) dX7_copy_2 (fun H locs hP hD hS => ?_)
  have hP : va_P D vwCl [(ax, .inr (6, [.ref axrows, .ref as, .ref ad, .ref ay, .ref af, .ref ao, .int x_questions, .int x_traced, .int ((0 : Int32))])), (axrows, .inl (cR, 4, .inr (.inr (.inr (.inr x_rows))))), (ar, .inr (2, [.ref arcells, .int r_there, .int r_lane, .int r_length])), (arcells, .inl (cI, 60, .inl r_cells)), (aq, .inr (2, [.ref aqcells, .int q_there, .int q_lane, .int q_length])), (aqcells, .inl (cI, 60, .inl q_cells))] H := hP
  have hD : va_D A [(ax, .inr (6, [.ref axrows, .ref as, .ref ad, .ref ay, .ref af, .ref ao, .int x_questions, .int x_traced, .int ((0 : Int32))])), (axrows, .inl (cR, 4, .inr (.inr (.inr (.inr x_rows))))), (ar, .inr (2, [.ref arcells, .int r_there, .int r_lane, .int r_length])), (arcells, .inl (cI, 60, .inl r_cells)), (aq, .inr (2, [.ref aqcells, .int q_there, .int q_lane, .int q_length])), (aqcells, .inl (cI, 60, .inl q_cells))] := hD
  refine lv_iload_n hx hb dX7_copy_5 rfl (lv_at hl 1 rfl) ?_
  refine q_rS (rest := []) ⟨hx, hb, hml, hown, hts⟩ (kX7_isSheet l D cI cR p1 _ rfl) (va_cwS 1 hts gX7_copy_X7_isSheet rfl rfl rfl (by decide +kernel) ⟨Nat.le_of_ble_eq_true rfl, Nat.le_of_ble_eq_true rfl⟩) (hP.sub [] rfl) hK hN rfl hl.1 rfl (Nat.le_of_ble_eq_true rfl) dX7_copy_6 ⟨Nat.le_of_ble_eq_true rfl, Nat.le_of_ble_eq_true rfl⟩ ?_
  refine q_if_eq hx hb hf 19 dX7_copy_9 (by decide) (fun hf => ?_) (fun hf => ?_)
  · refine lv_iconst (v := -1) hx hb dX7_copy_19 (by decide) ?_
    have hq9 := Option.some.inj hf
    subst hq9
    exact hRet _ _ _ _ _ rfl rfl hP hD hS dX7_copy_20
  · refine lv_iload_n hx hb dX7_copy_12 rfl (lv_at hl 3 rfl) ?_
    refine q_rS (rest := []) ⟨hx, hb, hml, hown, hts⟩ (kX7_isSheet l D cI cR p3 _ rfl) (va_cwS 1 hts gX7_copy_X7_isSheet rfl rfl rfl (by decide +kernel) ⟨Nat.le_of_ble_eq_true rfl, Nat.le_of_ble_eq_true rfl⟩) (hP.sub [] rfl) hK hN rfl hl.1 rfl (Nat.le_of_ble_eq_true rfl) dX7_copy_13 ⟨Nat.le_of_ble_eq_true rfl, Nat.le_of_ble_eq_true rfl⟩ ?_
    refine q_if_ne hx hb hf 21 dX7_copy_16 (by decide) (fun hf => ?_) (fun hf => ?_)
    · refine lv_aload_n hx hb dX7_copy_21 rfl (lv_at hl 0 rfl) ?_
      refine va_get (D := D) (ci := 6) (v := .ref axrows) (C := RX7) (T := TX7) (N := 9) hx hb hts iX7 hown hK hP 0 rfl rfl 0 (by decide) hF13 (fun _ h9 => h9) rfl dX7_copy_22 ?_
      refine lv_iload_n hx hb dX7_copy_25 rfl (lv_at hl 1 rfl) ?_
      refine q_aald hx hb hK hP 1 1 rfl rfl hf hrow dX7_copy_26 (fun hf => ?_)
      refine lv_astore (lv' := [(6, .ref ar), (0, .ref ax), (1, .int p1), (2, .int p2), (3, .int p3), (4, .int p4), (5, .int p5)]) hx hb dX7_copy_27 hl (by decide) rfl (fun ls hl => ?_)
      refine lv_aload_n hx hb dX7_copy_29 rfl (lv_at hl 1 rfl) ?_
      refine va_get (D := D) (ci := 6) (v := .ref axrows) (C := RX7) (T := TX7) (N := 9) hx hb hts iX7 hown hK hP 0 rfl rfl 0 (by decide) hF13 (fun _ h9 => h9) rfl dX7_copy_30 ?_
      refine lv_iload_n hx hb dX7_copy_33 rfl (lv_at hl 4 rfl) ?_
      refine q_aald hx hb hK hP 1 1 rfl rfl hf hrow2 dX7_copy_34 (fun hf => ?_)
      refine lv_astore (lv' := [(7, .ref aq), (6, .ref ar), (0, .ref ax), (1, .int p1), (2, .int p2), (3, .int p3), (4, .int p4), (5, .int p5)]) hx hb dX7_copy_35 hl (by decide) rfl (fun ls hl => ?_)
      refine lv_aload hx hb dX7_copy_37 (lv_at hl 1 rfl) ?_
      refine va_getN (D := D) (ci := 2) (v := .int r_there) (C := RX2) (T := TX2) (N := 4) hx hb hts iX2 hown hK hP 2 rfl rfl 1 (by decide) hG216 (fun _ h9 => h9) rfl dX7_copy_39 ?_
      obtain ⟨J53_1, eJ53_1, hf⟩ := q_jn hf
      have hJ53_1 : ∀ (H : Heap) (locs : List Loc) (ls : Array Slot), J53_1 = some q → va_P D vwCl [(ax, .inr (6, [.ref axrows, .ref as, .ref ad, .ref ay, .ref af, .ref ao, .int x_questions, .int x_traced, .int ((0 : Int32))])), (axrows, .inl (cR, 4, .inr (.inr (.inr (.inr x_rows))))), (ar, .inr (2, [.ref arcells, .int r_there, .int r_lane, .int r_length])), (arcells, .inl (cI, 60, .inl r_cells)), (aq, .inr (2, [.ref aqcells, .int q_there, .int q_lane, .int q_length])), (aqcells, .inl (cI, 60, .inl q_cells))] H → va_D A [(ax, .inr (6, [.ref axrows, .ref as, .ref ad, .ref ay, .ref af, .ref ao, .int x_questions, .int x_traced, .int ((0 : Int32))])), (axrows, .inl (cR, 4, .inr (.inr (.inr (.inr x_rows))))), (ar, .inr (2, [.ref arcells, .int r_there, .int r_lane, .int r_length])), (arcells, .inl (cI, 60, .inl r_cells)), (aq, .inr (2, [.ref aqcells, .int q_there, .int q_lane, .int q_length])), (aqcells, .inl (cI, 60, .inl q_cells))] → va_S A s.heap H locs → lv_has ls 8 [(0, .ref ax), (1, .int p1), (2, .int p2), (3, .int p3), (4, .int p4), (5, .int p5), (6, .ref ar), (7, .ref aq)] → W p l e ({ frames := 1, cells := 0, slots := 0, locals := 60 } : Room) s m args below meth c H locs 0 0 QQ (F0 m 53 ls []) := by
        intro H locs ls hf hP hD hS hl
        rw [eJ53_1] at hf
        refine lv_aload_n hx hb dX7_copy_53 rfl (lv_at hl 0 rfl) ?_
        refine lv_iconst (v := 1) hx hb dX7_copy_54 (by decide) ?_
        obtain ⟨z2, hz2, hf⟩ := bnd hf
        refine q_wVi (wr := [(axrows, .inl (cR, 4, .inr (.inr (.inr (.inr x_rows))))), (ar, .inr (2, [.ref arcells, .int r_there, .int r_lane, .int r_length])), (arcells, .inl (cI, 60, .inl r_cells)), (aq, .inr (2, [.ref aqcells, .int q_there, .int q_lane, .int q_length])), (aqcells, .inl (cI, 60, .inl q_cells))]) (rest := []) ⟨hx, hb, hml, hown, hts⟩ (kX7_faulted l D cI cR ax axrows as ad ay af ao x_questions x_traced ((0 : Int32)) ((1 : Int32)) z2 hz2) (cwV 1 hts gX7_copy_X7_faulted rfl rfl rfl (by decide +kernel) ⟨Nat.le_of_ble_eq_true rfl, Nat.le_of_ble_eq_true rfl⟩) hP hD hS hA hK hN [0] [1, 2, 3, 4, 5] rfl rfl (by decide) (by decide) (by decide) (va_recv hK hP (ci := 6) (q0 := 0) rfl rfl) rfl hl.1 rfl (Nat.le_of_ble_eq_true rfl) dX7_copy_55 ⟨Nat.le_of_ble_eq_true rfl, Nat.le_of_ble_eq_true rfl⟩ (fun H locs hP hD hS => ?_)
        have hP := hP.sub (ws' := [(ax, .inr (6, [.ref axrows, .ref as, .ref ad, .ref ay, .ref af, .ref ao, .int x_questions, .int x_traced, .int z2.2])), (axrows, .inl (cR, 4, .inr (.inr (.inr (.inr x_rows))))), (ar, .inr (2, [.ref arcells, .int r_there, .int r_lane, .int r_length])), (arcells, .inl (cI, 60, .inl r_cells)), (aq, .inr (2, [.ref aqcells, .int q_there, .int q_lane, .int q_length])), (aqcells, .inl (cI, 60, .inl q_cells))]) [5, 0, 1, 2, 3, 4] rfl
        have hD := hD.sub (ws' := [(ax, .inr (6, [.ref axrows, .ref as, .ref ad, .ref ay, .ref af, .ref ao, .int x_questions, .int x_traced, .int z2.2])), (axrows, .inl (cR, 4, .inr (.inr (.inr (.inr x_rows))))), (ar, .inr (2, [.ref arcells, .int r_there, .int r_lane, .int r_length])), (arcells, .inl (cI, 60, .inl r_cells)), (aq, .inr (2, [.ref aqcells, .int q_there, .int q_lane, .int q_length])), (aqcells, .inl (cI, 60, .inl q_cells))]) [5, 0, 1, 2, 3, 4] (by decide) rfl
        have hq9 := Option.some.inj hf
        subst hq9
        exact hRet _ _ _ _ _ rfl rfl hP hD hS dX7_copy_58
      refine q_if_eq hx hb hf 53 dX7_copy_42 (by decide) (fun hf => ?_) (fun hf => ?_)
      · exact hJ53_1 _ _ _ hf hP hD hS (lv_sub hl [2, 3, 4, 5, 6, 7, 1, 0] rfl)
      · refine lv_aload hx hb dX7_copy_45 (lv_at hl 0 rfl) ?_
        refine va_getN (D := D) (ci := 2) (v := .int q_there) (C := RX2) (T := TX2) (N := 4) hx hb hts iX2 hown hK hP 4 rfl rfl 1 (by decide) hG216 (fun _ h9 => h9) rfl dX7_copy_47 ?_
        refine q_if_ne hx hb hf 59 dX7_copy_50 (by decide) (fun hf => ?_) (fun hf => ?_)
        · refine lv_aload hx hb dX7_copy_59 (lv_at hl 1 rfl) ?_
          refine va_getN (D := D) (ci := 2) (v := .int r_lane) (C := RX2) (T := TX2) (N := 4) hx hb hts iX2 hown hK hP 2 rfl rfl 2 (by decide) hG223 (fun _ h9 => h9) rfl dX7_copy_61 ?_
          refine lv_aload hx hb dX7_copy_64 (lv_at hl 0 rfl) ?_
          refine va_getN (D := D) (ci := 2) (v := .int q_lane) (C := RX2) (T := TX2) (N := 4) hx hb hts iX2 hown hK hP 4 rfl rfl 2 (by decide) hG223 (fun _ h9 => h9) rfl dX7_copy_66 ?_
          refine q_icmp_eq hx hb hf 78 dX7_copy_69 (by decide) (fun hf => ?_) (fun hf => ?_)
          · refine lv_iload hx hb dX7_copy_78 (lv_at hl 7 rfl) ?_
            obtain ⟨J106_3, eJ106_3, hf⟩ := q_jn hf
            have hJ106_3 : ∀ (H : Heap) (locs : List Loc) (ls : Array Slot), J106_3 = some q → va_P D vwCl [(ax, .inr (6, [.ref axrows, .ref as, .ref ad, .ref ay, .ref af, .ref ao, .int x_questions, .int x_traced, .int ((0 : Int32))])), (axrows, .inl (cR, 4, .inr (.inr (.inr (.inr x_rows))))), (ar, .inr (2, [.ref arcells, .int r_there, .int r_lane, .int r_length])), (arcells, .inl (cI, 60, .inl r_cells)), (aq, .inr (2, [.ref aqcells, .int q_there, .int q_lane, .int q_length])), (aqcells, .inl (cI, 60, .inl q_cells))] H → va_D A [(ax, .inr (6, [.ref axrows, .ref as, .ref ad, .ref ay, .ref af, .ref ao, .int x_questions, .int x_traced, .int ((0 : Int32))])), (axrows, .inl (cR, 4, .inr (.inr (.inr (.inr x_rows))))), (ar, .inr (2, [.ref arcells, .int r_there, .int r_lane, .int r_length])), (arcells, .inl (cI, 60, .inl r_cells)), (aq, .inr (2, [.ref aqcells, .int q_there, .int q_lane, .int q_length])), (aqcells, .inl (cI, 60, .inl q_cells))] → va_S A s.heap H locs → lv_has ls 8 [(0, .ref ax), (1, .int p1), (2, .int p2), (3, .int p3), (4, .int p4), (5, .int p5), (6, .ref ar), (7, .ref aq)] → W p l e ({ frames := 1, cells := 0, slots := 0, locals := 60 } : Room) s m args below meth c H locs 0 0 QQ (F0 m 106 ls []) := by
              intro H locs ls hf hP hD hS hl
              rw [eJ106_3] at hf
              refine lv_aload_n hx hb dX7_copy_106 rfl (lv_at hl 0 rfl) ?_
              refine lv_iconst (v := 3) hx hb dX7_copy_107 (by decide) ?_
              obtain ⟨z4, hz4, hf⟩ := bnd hf
              refine q_wVi (wr := [(axrows, .inl (cR, 4, .inr (.inr (.inr (.inr x_rows))))), (ar, .inr (2, [.ref arcells, .int r_there, .int r_lane, .int r_length])), (arcells, .inl (cI, 60, .inl r_cells)), (aq, .inr (2, [.ref aqcells, .int q_there, .int q_lane, .int q_length])), (aqcells, .inl (cI, 60, .inl q_cells))]) (rest := []) ⟨hx, hb, hml, hown, hts⟩ (kX7_faulted l D cI cR ax axrows as ad ay af ao x_questions x_traced ((0 : Int32)) ((3 : Int32)) z4 hz4) (cwV 1 hts gX7_copy_X7_faulted rfl rfl rfl (by decide +kernel) ⟨Nat.le_of_ble_eq_true rfl, Nat.le_of_ble_eq_true rfl⟩) hP hD hS hA hK hN [0] [1, 2, 3, 4, 5] rfl rfl (by decide) (by decide) (by decide) (va_recv hK hP (ci := 6) (q0 := 0) rfl rfl) rfl hl.1 rfl (Nat.le_of_ble_eq_true rfl) dX7_copy_108 ⟨Nat.le_of_ble_eq_true rfl, Nat.le_of_ble_eq_true rfl⟩ (fun H locs hP hD hS => ?_)
              have hP := hP.sub (ws' := [(ax, .inr (6, [.ref axrows, .ref as, .ref ad, .ref ay, .ref af, .ref ao, .int x_questions, .int x_traced, .int z4.2])), (axrows, .inl (cR, 4, .inr (.inr (.inr (.inr x_rows))))), (ar, .inr (2, [.ref arcells, .int r_there, .int r_lane, .int r_length])), (arcells, .inl (cI, 60, .inl r_cells)), (aq, .inr (2, [.ref aqcells, .int q_there, .int q_lane, .int q_length])), (aqcells, .inl (cI, 60, .inl q_cells))]) [5, 0, 1, 2, 3, 4] rfl
              have hD := hD.sub (ws' := [(ax, .inr (6, [.ref axrows, .ref as, .ref ad, .ref ay, .ref af, .ref ao, .int x_questions, .int x_traced, .int z4.2])), (axrows, .inl (cR, 4, .inr (.inr (.inr (.inr x_rows))))), (ar, .inr (2, [.ref arcells, .int r_there, .int r_lane, .int r_length])), (arcells, .inl (cI, 60, .inl r_cells)), (aq, .inr (2, [.ref aqcells, .int q_there, .int q_lane, .int q_length])), (aqcells, .inl (cI, 60, .inl q_cells))]) [5, 0, 1, 2, 3, 4] (by decide) rfl
              have hq9 := Option.some.inj hf
              subst hq9
              exact hRet _ _ _ _ _ rfl rfl hP hD hS dX7_copy_111
            refine q_if_lt hx hb hf 106 dX7_copy_80 (by decide) (fun hf => ?_) (fun hf => ?_)
            · exact hJ106_3 _ _ _ hf hP hD hS (lv_sub hl [2, 3, 4, 5, 6, 7, 1, 0] rfl)
            · refine lv_aload hx hb dX7_copy_83 (lv_at hl 1 rfl) ?_
              refine lv_iload_n hx hb dX7_copy_85 rfl (lv_at hl 4 rfl) ?_
              refine lv_iload hx hb dX7_copy_86 (lv_at hl 7 rfl) ?_
              refine q_rV (rest := []) ⟨hx, hb, hml, hown, hts⟩ (kX2_holds l D cI cR ar arcells r_cells r_there r_lane r_length p2 p5 _ rfl) (cwV 2 hts gX7_copy_X2_holds rfl rfl rfl (by decide +kernel) ⟨Nat.le_of_ble_eq_true rfl, Nat.le_of_ble_eq_true rfl⟩) (hP.sub [2, 3] rfl) hK hN (va_recv hK hP (ci := 2) (q0 := 2) rfl rfl) rfl hl.1 rfl (Nat.le_of_ble_eq_true rfl) dX7_copy_88 ⟨Nat.le_of_ble_eq_true rfl, Nat.le_of_ble_eq_true rfl⟩ ?_
              refine q_if_eq hx hb hf 106 dX7_copy_91 (by decide) (fun hf => ?_) (fun hf => ?_)
              · exact hJ106_3 _ _ _ hf hP hD hS (lv_sub hl [2, 3, 4, 5, 6, 7, 1, 0] rfl)
              · refine lv_aload hx hb dX7_copy_94 (lv_at hl 0 rfl) ?_
                refine lv_iload hx hb dX7_copy_96 (lv_at hl 6 rfl) ?_
                refine lv_iload hx hb dX7_copy_98 (lv_at hl 7 rfl) ?_
                refine q_rV (rest := []) ⟨hx, hb, hml, hown, hts⟩ (kX2_holds l D cI cR aq aqcells q_cells q_there q_lane q_length p4 p5 _ rfl) (cwV 2 hts gX7_copy_X2_holds rfl rfl rfl (by decide +kernel) ⟨Nat.le_of_ble_eq_true rfl, Nat.le_of_ble_eq_true rfl⟩) (hP.sub [4, 5] rfl) hK hN (va_recv hK hP (ci := 2) (q0 := 4) rfl rfl) rfl hl.1 rfl (Nat.le_of_ble_eq_true rfl) dX7_copy_100 ⟨Nat.le_of_ble_eq_true rfl, Nat.le_of_ble_eq_true rfl⟩ ?_
                refine q_if_ne hx hb hf 112 dX7_copy_103 (by decide) (fun hf => ?_) (fun hf => ?_)
                · refine lv_aload hx hb dX7_copy_112 (lv_at hl 1 rfl) ?_
                  refine va_getN (D := D) (ci := 2) (v := .ref arcells) (C := RX2) (T := TX2) (N := 4) hx hb hts iX2 hown hK hP 2 rfl rfl 0 (by decide) hG143 (fun _ h9 => h9) rfl dX7_copy_114 ?_
                  refine lv_iload_n hx hb dX7_copy_117 rfl (lv_at hl 4 rfl) ?_
                  refine lv_aload hx hb dX7_copy_118 (lv_at hl 0 rfl) ?_
                  refine va_getN (D := D) (ci := 2) (v := .ref aqcells) (C := RX2) (T := TX2) (N := 4) hx hb hts iX2 hown hK hP 4 rfl rfl 0 (by decide) hG143 (fun _ h9 => h9) rfl dX7_copy_120 ?_
                  refine lv_iload hx hb dX7_copy_123 (lv_at hl 6 rfl) ?_
                  refine lv_iload hx hb dX7_copy_125 (lv_at hl 7 rfl) ?_
                  refine q_copyi hx hb (hml.trans hl.1.symm) hown ha0 ha1 ha2 ha3 hK hP hD hS 3 5 0 0 rfl rfl rfl rfl hf (Nat.le_of_ble_eq_true rfl) (by decide) dX7_copy_127 (fun g5 H locs hf hP hD hS => ?_)
                  have hP : va_P D vwCl [(ax, .inr (6, [.ref axrows, .ref as, .ref ad, .ref ay, .ref af, .ref ao, .int x_questions, .int x_traced, .int ((0 : Int32))])), (axrows, .inl (cR, 4, .inr (.inr (.inr (.inr x_rows))))), (ar, .inr (2, [.ref arcells, .int r_there, .int r_lane, .int r_length])), (arcells, .inl (cI, 60, .inl r_cells)), (aq, .inr (2, [.ref aqcells, .int q_there, .int q_lane, .int q_length])), (aqcells, .inl (cI, 60, .inl g5))] H := hP
                  have hD : va_D A [(ax, .inr (6, [.ref axrows, .ref as, .ref ad, .ref ay, .ref af, .ref ao, .int x_questions, .int x_traced, .int ((0 : Int32))])), (axrows, .inl (cR, 4, .inr (.inr (.inr (.inr x_rows))))), (ar, .inr (2, [.ref arcells, .int r_there, .int r_lane, .int r_length])), (arcells, .inl (cI, 60, .inl r_cells)), (aq, .inr (2, [.ref aqcells, .int q_there, .int q_lane, .int q_length])), (aqcells, .inl (cI, 60, .inl g5))] := hD
                  refine lv_iload hx hb dX7_copy_130 (lv_at hl 7 rfl) ?_
                  have hq9 := Option.some.inj hf
                  subst hq9
                  exact hRet _ _ _ _ _ rfl rfl hP hD hS dX7_copy_132
                · exact hJ106_3 _ _ _ hf hP hD hS (lv_sub hl [2, 3, 4, 5, 6, 7, 1, 0] rfl)
          · refine lv_aload_n hx hb dX7_copy_72 rfl (lv_at hl 2 rfl) ?_
            refine lv_iconst (v := 2) hx hb dX7_copy_73 (by decide) ?_
            obtain ⟨z6, hz6, hf⟩ := bnd hf
            refine q_wVi (wr := [(axrows, .inl (cR, 4, .inr (.inr (.inr (.inr x_rows))))), (ar, .inr (2, [.ref arcells, .int r_there, .int r_lane, .int r_length])), (arcells, .inl (cI, 60, .inl r_cells)), (aq, .inr (2, [.ref aqcells, .int q_there, .int q_lane, .int q_length])), (aqcells, .inl (cI, 60, .inl q_cells))]) (rest := []) ⟨hx, hb, hml, hown, hts⟩ (kX7_faulted l D cI cR ax axrows as ad ay af ao x_questions x_traced ((0 : Int32)) ((2 : Int32)) z6 hz6) (cwV 1 hts gX7_copy_X7_faulted rfl rfl rfl (by decide +kernel) ⟨Nat.le_of_ble_eq_true rfl, Nat.le_of_ble_eq_true rfl⟩) hP hD hS hA hK hN [0] [1, 2, 3, 4, 5] rfl rfl (by decide) (by decide) (by decide) (va_recv hK hP (ci := 6) (q0 := 0) rfl rfl) rfl hl.1 rfl (Nat.le_of_ble_eq_true rfl) dX7_copy_74 ⟨Nat.le_of_ble_eq_true rfl, Nat.le_of_ble_eq_true rfl⟩ (fun H locs hP hD hS => ?_)
            have hP := hP.sub (ws' := [(ax, .inr (6, [.ref axrows, .ref as, .ref ad, .ref ay, .ref af, .ref ao, .int x_questions, .int x_traced, .int z6.2])), (axrows, .inl (cR, 4, .inr (.inr (.inr (.inr x_rows))))), (ar, .inr (2, [.ref arcells, .int r_there, .int r_lane, .int r_length])), (arcells, .inl (cI, 60, .inl r_cells)), (aq, .inr (2, [.ref aqcells, .int q_there, .int q_lane, .int q_length])), (aqcells, .inl (cI, 60, .inl q_cells))]) [5, 0, 1, 2, 3, 4] rfl
            have hD := hD.sub (ws' := [(ax, .inr (6, [.ref axrows, .ref as, .ref ad, .ref ay, .ref af, .ref ao, .int x_questions, .int x_traced, .int z6.2])), (axrows, .inl (cR, 4, .inr (.inr (.inr (.inr x_rows))))), (ar, .inr (2, [.ref arcells, .int r_there, .int r_lane, .int r_length])), (arcells, .inl (cI, 60, .inl r_cells)), (aq, .inr (2, [.ref aqcells, .int q_there, .int q_lane, .int q_length])), (aqcells, .inl (cI, 60, .inl q_cells))]) [5, 0, 1, 2, 3, 4] (by decide) rfl
            have hq9 := Option.some.inj hf
            subst hq9
            exact hRet _ _ _ _ _ rfl rfl hP hD hS dX7_copy_77
        · exact hJ53_1 _ _ _ hf hP hD hS (lv_sub hl [2, 3, 4, 5, 6, 7, 1, 0] rfl)
    · refine lv_iconst (v := -1) hx hb dX7_copy_19 (by decide) ?_
      have hq9 := Option.some.inj hf
      subst hq9
      exact hRet _ _ _ _ _ rfl rfl hP hD hS dX7_copy_20
set_option maxHeartbeats 4000000 in
set_option maxRecDepth 100000 in
theorem kX7_copyS (l : Launch) (D : va_G) (cI cR : ClassId) (ax axrows as ad ay af ao ar arcells : Nat) (x_rows : Nat → Option Nat) (x_questions : Int32) (x_traced : Int32) (x_latestFault : Int32) (r_cells : Nat → Int32) (r_there : Int32) (r_lane : Int32) (r_length : Int32) (p1 : Int32) (p2 : Int32) (p3 : Int32) (p4 : Int32) (p5 : Int32) (hrow : vp_in p1 4 → x_rows p1.toNatClampNeg = some ar) (hrow2 : vp_in p3 4 → x_rows p3.toNatClampNeg = some ar) (q : Int32 × Int32 × (Nat → Int32)) (hf : pX7_copyS x_latestFault r_cells r_there r_lane r_length p1 p2 p3 p4 p5 = some q) : CWi l yX7_copy wsX7_copy ({ frames := 1, cells := 0, slots := 0, locals := 60 } : Room) D cI cR [.ref ax, .int p1, .int p2, .int p3, .int p4, .int p5] [(ax, .inr (6, [.ref axrows, .ref as, .ref ad, .ref ay, .ref af, .ref ao, .int x_questions, .int x_traced, .int x_latestFault])), (axrows, .inl (cR, 4, .inr (.inr (.inr (.inr x_rows))))), (ar, .inr (2, [.ref arcells, .int r_there, .int r_lane, .int r_length])), (arcells, .inl (cI, 60, .inl r_cells))] [(ax, .inr (6, [.ref axrows, .ref as, .ref ad, .ref ay, .ref af, .ref ao, .int x_questions, .int x_traced, .int q.2.1])), (axrows, .inl (cR, 4, .inr (.inr (.inr (.inr x_rows))))), (ar, .inr (2, [.ref arcells, .int r_there, .int r_lane, .int r_length])), (arcells, .inl (cI, 60, .inl q.2.2))] q.1 := by
  refine CWi.intro (cc := cX7_copy) (maxL := 8) (ty := .int) (by decide) rfl (Nat.le_of_ble_eq_true rfl) ?_
  intro p e s m args below meth c hx hb hml hts hown hP hK hN A hA hD hS QQ hRet ls hl
  have hown : s.vm.findClass RX7 = some m.cls := hown
  have hl : lv_has ls 8 [(0, .ref ax), (1, .int p1), (2, .int p2), (3, .int p3), (4, .int p4), (5, .int p5)] := hl
  have iX2 : ∀ w ∈ u_ws RX2 TX2 4, w ∈ wsX7_copy := by decide +kernel
  have iX7 : ∀ w ∈ u_ws RX7 TX7 9, w ∈ wsX7_copy := by decide +kernel
  have hF13 := hts (.fieldLink RX7 13 "WorldIndex" "rows" "[LWorldIndex$Row;") (by decide +kernel)
  have hF53 := hts (.fieldLink RX7 53 "WorldIndex" "latestFault" "I") (by decide +kernel)
  have hG143 := NN.f (args := args) hN "WorldIndex" 143 "WorldIndex$Row" "cells" "[I" "WorldIndex" (by decide +kernel)
  have hG216 := NN.f (args := args) hN "WorldIndex" 216 "WorldIndex$Row" "there" "Z" "WorldIndex" (by decide +kernel)
  have hG223 := NN.f (args := args) hN "WorldIndex" 223 "WorldIndex$Row" "lane" "I" "WorldIndex" (by decide +kernel)
  have ha0 := hts (.methodLink RX7 233 arraycopyName) (by decide +kernel)
  have ha1 := hts (.native arraycopyName) (by decide +kernel)
  have ha2 := hts (.static arraycopyName) (by decide +kernel)
  have ha3 := hts (.initialized "java/lang/System") (by decide +kernel)
  unfold pX7_copyS at hf
  refine lv_aload_n hx hb dX7_copy_0 rfl (lv_at hl 0 rfl) ?_
  refine lv_iconst (v := 0) hx hb dX7_copy_1 (by decide) ?_
  refine va_put (D := D) (ci := 6) (v := .int ((0 : Int32))) (ty := .int) (C := RX7) (T := TX7) (N := 9) hx hb hts iX7 tyX7 tyX7_ok nmX7 hown hK hP hD hS 0 rfl rfl 8 (by decide) hF53 (fun _ h9 => h9) rfl (tyX7_ok 8 (by decide)) rfl rfl (Nat.le_of_ble_eq_true rfl) dX7_copy_2 (fun H locs hP hD hS => ?_)
  have hP : va_P D vwCl [(ax, .inr (6, [.ref axrows, .ref as, .ref ad, .ref ay, .ref af, .ref ao, .int x_questions, .int x_traced, .int ((0 : Int32))])), (axrows, .inl (cR, 4, .inr (.inr (.inr (.inr x_rows))))), (ar, .inr (2, [.ref arcells, .int r_there, .int r_lane, .int r_length])), (arcells, .inl (cI, 60, .inl r_cells))] H := hP
  have hD : va_D A [(ax, .inr (6, [.ref axrows, .ref as, .ref ad, .ref ay, .ref af, .ref ao, .int x_questions, .int x_traced, .int ((0 : Int32))])), (axrows, .inl (cR, 4, .inr (.inr (.inr (.inr x_rows))))), (ar, .inr (2, [.ref arcells, .int r_there, .int r_lane, .int r_length])), (arcells, .inl (cI, 60, .inl r_cells))] := hD
  refine lv_iload_n hx hb dX7_copy_5 rfl (lv_at hl 1 rfl) ?_
  refine q_rS (rest := []) ⟨hx, hb, hml, hown, hts⟩ (kX7_isSheet l D cI cR p1 _ rfl) (va_cwS 1 hts gX7_copy_X7_isSheet rfl rfl rfl (by decide +kernel) ⟨Nat.le_of_ble_eq_true rfl, Nat.le_of_ble_eq_true rfl⟩) (hP.sub [] rfl) hK hN rfl hl.1 rfl (Nat.le_of_ble_eq_true rfl) dX7_copy_6 ⟨Nat.le_of_ble_eq_true rfl, Nat.le_of_ble_eq_true rfl⟩ ?_
  refine q_if_eq hx hb hf 19 dX7_copy_9 (by decide) (fun hf => ?_) (fun hf => ?_)
  · refine lv_iconst (v := -1) hx hb dX7_copy_19 (by decide) ?_
    have hq9 := Option.some.inj hf
    subst hq9
    exact hRet _ _ _ _ _ rfl rfl hP hD hS dX7_copy_20
  · refine lv_iload_n hx hb dX7_copy_12 rfl (lv_at hl 3 rfl) ?_
    refine q_rS (rest := []) ⟨hx, hb, hml, hown, hts⟩ (kX7_isSheet l D cI cR p3 _ rfl) (va_cwS 1 hts gX7_copy_X7_isSheet rfl rfl rfl (by decide +kernel) ⟨Nat.le_of_ble_eq_true rfl, Nat.le_of_ble_eq_true rfl⟩) (hP.sub [] rfl) hK hN rfl hl.1 rfl (Nat.le_of_ble_eq_true rfl) dX7_copy_13 ⟨Nat.le_of_ble_eq_true rfl, Nat.le_of_ble_eq_true rfl⟩ ?_
    refine q_if_ne hx hb hf 21 dX7_copy_16 (by decide) (fun hf => ?_) (fun hf => ?_)
    · refine lv_aload_n hx hb dX7_copy_21 rfl (lv_at hl 0 rfl) ?_
      refine va_get (D := D) (ci := 6) (v := .ref axrows) (C := RX7) (T := TX7) (N := 9) hx hb hts iX7 hown hK hP 0 rfl rfl 0 (by decide) hF13 (fun _ h9 => h9) rfl dX7_copy_22 ?_
      refine lv_iload_n hx hb dX7_copy_25 rfl (lv_at hl 1 rfl) ?_
      refine q_aald hx hb hK hP 1 1 rfl rfl hf hrow dX7_copy_26 (fun hf => ?_)
      refine lv_astore (lv' := [(6, .ref ar), (0, .ref ax), (1, .int p1), (2, .int p2), (3, .int p3), (4, .int p4), (5, .int p5)]) hx hb dX7_copy_27 hl (by decide) rfl (fun ls hl => ?_)
      refine lv_aload_n hx hb dX7_copy_29 rfl (lv_at hl 1 rfl) ?_
      refine va_get (D := D) (ci := 6) (v := .ref axrows) (C := RX7) (T := TX7) (N := 9) hx hb hts iX7 hown hK hP 0 rfl rfl 0 (by decide) hF13 (fun _ h9 => h9) rfl dX7_copy_30 ?_
      refine lv_iload_n hx hb dX7_copy_33 rfl (lv_at hl 4 rfl) ?_
      refine q_aald hx hb hK hP 1 1 rfl rfl hf hrow2 dX7_copy_34 (fun hf => ?_)
      refine lv_astore (lv' := [(7, .ref ar), (6, .ref ar), (0, .ref ax), (1, .int p1), (2, .int p2), (3, .int p3), (4, .int p4), (5, .int p5)]) hx hb dX7_copy_35 hl (by decide) rfl (fun ls hl => ?_)
      refine lv_aload hx hb dX7_copy_37 (lv_at hl 1 rfl) ?_
      refine va_getN (D := D) (ci := 2) (v := .int r_there) (C := RX2) (T := TX2) (N := 4) hx hb hts iX2 hown hK hP 2 rfl rfl 1 (by decide) hG216 (fun _ h9 => h9) rfl dX7_copy_39 ?_
      obtain ⟨J53_1, eJ53_1, hf⟩ := q_jn hf
      have hJ53_1 : ∀ (H : Heap) (locs : List Loc) (ls : Array Slot), J53_1 = some q → va_P D vwCl [(ax, .inr (6, [.ref axrows, .ref as, .ref ad, .ref ay, .ref af, .ref ao, .int x_questions, .int x_traced, .int ((0 : Int32))])), (axrows, .inl (cR, 4, .inr (.inr (.inr (.inr x_rows))))), (ar, .inr (2, [.ref arcells, .int r_there, .int r_lane, .int r_length])), (arcells, .inl (cI, 60, .inl r_cells))] H → va_D A [(ax, .inr (6, [.ref axrows, .ref as, .ref ad, .ref ay, .ref af, .ref ao, .int x_questions, .int x_traced, .int ((0 : Int32))])), (axrows, .inl (cR, 4, .inr (.inr (.inr (.inr x_rows))))), (ar, .inr (2, [.ref arcells, .int r_there, .int r_lane, .int r_length])), (arcells, .inl (cI, 60, .inl r_cells))] → va_S A s.heap H locs → lv_has ls 8 [(0, .ref ax), (1, .int p1), (2, .int p2), (3, .int p3), (4, .int p4), (5, .int p5), (6, .ref ar), (7, .ref ar)] → W p l e ({ frames := 1, cells := 0, slots := 0, locals := 60 } : Room) s m args below meth c H locs 0 0 QQ (F0 m 53 ls []) := by
        intro H locs ls hf hP hD hS hl
        rw [eJ53_1] at hf
        refine lv_aload_n hx hb dX7_copy_53 rfl (lv_at hl 0 rfl) ?_
        refine lv_iconst (v := 1) hx hb dX7_copy_54 (by decide) ?_
        obtain ⟨z2, hz2, hf⟩ := bnd hf
        refine q_wVi (wr := [(axrows, .inl (cR, 4, .inr (.inr (.inr (.inr x_rows))))), (ar, .inr (2, [.ref arcells, .int r_there, .int r_lane, .int r_length])), (arcells, .inl (cI, 60, .inl r_cells))]) (rest := []) ⟨hx, hb, hml, hown, hts⟩ (kX7_faulted l D cI cR ax axrows as ad ay af ao x_questions x_traced ((0 : Int32)) ((1 : Int32)) z2 hz2) (cwV 1 hts gX7_copy_X7_faulted rfl rfl rfl (by decide +kernel) ⟨Nat.le_of_ble_eq_true rfl, Nat.le_of_ble_eq_true rfl⟩) hP hD hS hA hK hN [0] [1, 2, 3] rfl rfl (by decide) (by decide) (by decide) (va_recv hK hP (ci := 6) (q0 := 0) rfl rfl) rfl hl.1 rfl (Nat.le_of_ble_eq_true rfl) dX7_copy_55 ⟨Nat.le_of_ble_eq_true rfl, Nat.le_of_ble_eq_true rfl⟩ (fun H locs hP hD hS => ?_)
        have hP := hP.sub (ws' := [(ax, .inr (6, [.ref axrows, .ref as, .ref ad, .ref ay, .ref af, .ref ao, .int x_questions, .int x_traced, .int z2.2])), (axrows, .inl (cR, 4, .inr (.inr (.inr (.inr x_rows))))), (ar, .inr (2, [.ref arcells, .int r_there, .int r_lane, .int r_length])), (arcells, .inl (cI, 60, .inl r_cells))]) [3, 0, 1, 2] rfl
        have hD := hD.sub (ws' := [(ax, .inr (6, [.ref axrows, .ref as, .ref ad, .ref ay, .ref af, .ref ao, .int x_questions, .int x_traced, .int z2.2])), (axrows, .inl (cR, 4, .inr (.inr (.inr (.inr x_rows))))), (ar, .inr (2, [.ref arcells, .int r_there, .int r_lane, .int r_length])), (arcells, .inl (cI, 60, .inl r_cells))]) [3, 0, 1, 2] (by decide) rfl
        have hq9 := Option.some.inj hf
        subst hq9
        exact hRet _ _ _ _ _ rfl rfl hP hD hS dX7_copy_58
      refine q_if_eq hx hb hf 53 dX7_copy_42 (by decide) (fun hf => ?_) (fun hf => ?_)
      · exact hJ53_1 _ _ _ hf hP hD hS (lv_sub hl [2, 3, 4, 5, 6, 7, 1, 0] rfl)
      · refine lv_aload hx hb dX7_copy_45 (lv_at hl 0 rfl) ?_
        refine va_getN (D := D) (ci := 2) (v := .int r_there) (C := RX2) (T := TX2) (N := 4) hx hb hts iX2 hown hK hP 2 rfl rfl 1 (by decide) hG216 (fun _ h9 => h9) rfl dX7_copy_47 ?_
        refine q_if_ne hx hb hf 59 dX7_copy_50 (by decide) (fun hf => ?_) (fun hf => ?_)
        · refine lv_aload hx hb dX7_copy_59 (lv_at hl 1 rfl) ?_
          refine va_getN (D := D) (ci := 2) (v := .int r_lane) (C := RX2) (T := TX2) (N := 4) hx hb hts iX2 hown hK hP 2 rfl rfl 2 (by decide) hG223 (fun _ h9 => h9) rfl dX7_copy_61 ?_
          refine lv_aload hx hb dX7_copy_64 (lv_at hl 0 rfl) ?_
          refine va_getN (D := D) (ci := 2) (v := .int r_lane) (C := RX2) (T := TX2) (N := 4) hx hb hts iX2 hown hK hP 2 rfl rfl 2 (by decide) hG223 (fun _ h9 => h9) rfl dX7_copy_66 ?_
          refine q_icmp_eq hx hb hf 78 dX7_copy_69 (by decide) (fun hf => ?_) (fun hf => ?_)
          · refine lv_iload hx hb dX7_copy_78 (lv_at hl 7 rfl) ?_
            obtain ⟨J106_3, eJ106_3, hf⟩ := q_jn hf
            have hJ106_3 : ∀ (H : Heap) (locs : List Loc) (ls : Array Slot), J106_3 = some q → va_P D vwCl [(ax, .inr (6, [.ref axrows, .ref as, .ref ad, .ref ay, .ref af, .ref ao, .int x_questions, .int x_traced, .int ((0 : Int32))])), (axrows, .inl (cR, 4, .inr (.inr (.inr (.inr x_rows))))), (ar, .inr (2, [.ref arcells, .int r_there, .int r_lane, .int r_length])), (arcells, .inl (cI, 60, .inl r_cells))] H → va_D A [(ax, .inr (6, [.ref axrows, .ref as, .ref ad, .ref ay, .ref af, .ref ao, .int x_questions, .int x_traced, .int ((0 : Int32))])), (axrows, .inl (cR, 4, .inr (.inr (.inr (.inr x_rows))))), (ar, .inr (2, [.ref arcells, .int r_there, .int r_lane, .int r_length])), (arcells, .inl (cI, 60, .inl r_cells))] → va_S A s.heap H locs → lv_has ls 8 [(0, .ref ax), (1, .int p1), (2, .int p2), (3, .int p3), (4, .int p4), (5, .int p5), (6, .ref ar), (7, .ref ar)] → W p l e ({ frames := 1, cells := 0, slots := 0, locals := 60 } : Room) s m args below meth c H locs 0 0 QQ (F0 m 106 ls []) := by
              intro H locs ls hf hP hD hS hl
              rw [eJ106_3] at hf
              refine lv_aload_n hx hb dX7_copy_106 rfl (lv_at hl 0 rfl) ?_
              refine lv_iconst (v := 3) hx hb dX7_copy_107 (by decide) ?_
              obtain ⟨z4, hz4, hf⟩ := bnd hf
              refine q_wVi (wr := [(axrows, .inl (cR, 4, .inr (.inr (.inr (.inr x_rows))))), (ar, .inr (2, [.ref arcells, .int r_there, .int r_lane, .int r_length])), (arcells, .inl (cI, 60, .inl r_cells))]) (rest := []) ⟨hx, hb, hml, hown, hts⟩ (kX7_faulted l D cI cR ax axrows as ad ay af ao x_questions x_traced ((0 : Int32)) ((3 : Int32)) z4 hz4) (cwV 1 hts gX7_copy_X7_faulted rfl rfl rfl (by decide +kernel) ⟨Nat.le_of_ble_eq_true rfl, Nat.le_of_ble_eq_true rfl⟩) hP hD hS hA hK hN [0] [1, 2, 3] rfl rfl (by decide) (by decide) (by decide) (va_recv hK hP (ci := 6) (q0 := 0) rfl rfl) rfl hl.1 rfl (Nat.le_of_ble_eq_true rfl) dX7_copy_108 ⟨Nat.le_of_ble_eq_true rfl, Nat.le_of_ble_eq_true rfl⟩ (fun H locs hP hD hS => ?_)
              have hP := hP.sub (ws' := [(ax, .inr (6, [.ref axrows, .ref as, .ref ad, .ref ay, .ref af, .ref ao, .int x_questions, .int x_traced, .int z4.2])), (axrows, .inl (cR, 4, .inr (.inr (.inr (.inr x_rows))))), (ar, .inr (2, [.ref arcells, .int r_there, .int r_lane, .int r_length])), (arcells, .inl (cI, 60, .inl r_cells))]) [3, 0, 1, 2] rfl
              have hD := hD.sub (ws' := [(ax, .inr (6, [.ref axrows, .ref as, .ref ad, .ref ay, .ref af, .ref ao, .int x_questions, .int x_traced, .int z4.2])), (axrows, .inl (cR, 4, .inr (.inr (.inr (.inr x_rows))))), (ar, .inr (2, [.ref arcells, .int r_there, .int r_lane, .int r_length])), (arcells, .inl (cI, 60, .inl r_cells))]) [3, 0, 1, 2] (by decide) rfl
              have hq9 := Option.some.inj hf
              subst hq9
              exact hRet _ _ _ _ _ rfl rfl hP hD hS dX7_copy_111
            refine q_if_lt hx hb hf 106 dX7_copy_80 (by decide) (fun hf => ?_) (fun hf => ?_)
            · exact hJ106_3 _ _ _ hf hP hD hS (lv_sub hl [2, 3, 4, 5, 6, 7, 1, 0] rfl)
            · refine lv_aload hx hb dX7_copy_83 (lv_at hl 1 rfl) ?_
              refine lv_iload_n hx hb dX7_copy_85 rfl (lv_at hl 4 rfl) ?_
              refine lv_iload hx hb dX7_copy_86 (lv_at hl 7 rfl) ?_
              refine q_rV (rest := []) ⟨hx, hb, hml, hown, hts⟩ (kX2_holds l D cI cR ar arcells r_cells r_there r_lane r_length p2 p5 _ rfl) (cwV 2 hts gX7_copy_X2_holds rfl rfl rfl (by decide +kernel) ⟨Nat.le_of_ble_eq_true rfl, Nat.le_of_ble_eq_true rfl⟩) (hP.sub [2, 3] rfl) hK hN (va_recv hK hP (ci := 2) (q0 := 2) rfl rfl) rfl hl.1 rfl (Nat.le_of_ble_eq_true rfl) dX7_copy_88 ⟨Nat.le_of_ble_eq_true rfl, Nat.le_of_ble_eq_true rfl⟩ ?_
              refine q_if_eq hx hb hf 106 dX7_copy_91 (by decide) (fun hf => ?_) (fun hf => ?_)
              · exact hJ106_3 _ _ _ hf hP hD hS (lv_sub hl [2, 3, 4, 5, 6, 7, 1, 0] rfl)
              · refine lv_aload hx hb dX7_copy_94 (lv_at hl 0 rfl) ?_
                refine lv_iload hx hb dX7_copy_96 (lv_at hl 6 rfl) ?_
                refine lv_iload hx hb dX7_copy_98 (lv_at hl 7 rfl) ?_
                refine q_rV (rest := []) ⟨hx, hb, hml, hown, hts⟩ (kX2_holds l D cI cR ar arcells r_cells r_there r_lane r_length p4 p5 _ rfl) (cwV 2 hts gX7_copy_X2_holds rfl rfl rfl (by decide +kernel) ⟨Nat.le_of_ble_eq_true rfl, Nat.le_of_ble_eq_true rfl⟩) (hP.sub [2, 3] rfl) hK hN (va_recv hK hP (ci := 2) (q0 := 2) rfl rfl) rfl hl.1 rfl (Nat.le_of_ble_eq_true rfl) dX7_copy_100 ⟨Nat.le_of_ble_eq_true rfl, Nat.le_of_ble_eq_true rfl⟩ ?_
                refine q_if_ne hx hb hf 112 dX7_copy_103 (by decide) (fun hf => ?_) (fun hf => ?_)
                · refine lv_aload hx hb dX7_copy_112 (lv_at hl 1 rfl) ?_
                  refine va_getN (D := D) (ci := 2) (v := .ref arcells) (C := RX2) (T := TX2) (N := 4) hx hb hts iX2 hown hK hP 2 rfl rfl 0 (by decide) hG143 (fun _ h9 => h9) rfl dX7_copy_114 ?_
                  refine lv_iload_n hx hb dX7_copy_117 rfl (lv_at hl 4 rfl) ?_
                  refine lv_aload hx hb dX7_copy_118 (lv_at hl 0 rfl) ?_
                  refine va_getN (D := D) (ci := 2) (v := .ref arcells) (C := RX2) (T := TX2) (N := 4) hx hb hts iX2 hown hK hP 2 rfl rfl 0 (by decide) hG143 (fun _ h9 => h9) rfl dX7_copy_120 ?_
                  refine lv_iload hx hb dX7_copy_123 (lv_at hl 6 rfl) ?_
                  refine lv_iload hx hb dX7_copy_125 (lv_at hl 7 rfl) ?_
                  refine q_copyi hx hb (hml.trans hl.1.symm) hown ha0 ha1 ha2 ha3 hK hP hD hS 3 3 0 0 rfl rfl rfl rfl hf (Nat.le_of_ble_eq_true rfl) (by decide) dX7_copy_127 (fun g5 H locs hf hP hD hS => ?_)
                  have hP : va_P D vwCl [(ax, .inr (6, [.ref axrows, .ref as, .ref ad, .ref ay, .ref af, .ref ao, .int x_questions, .int x_traced, .int ((0 : Int32))])), (axrows, .inl (cR, 4, .inr (.inr (.inr (.inr x_rows))))), (ar, .inr (2, [.ref arcells, .int r_there, .int r_lane, .int r_length])), (arcells, .inl (cI, 60, .inl g5))] H := hP
                  have hD : va_D A [(ax, .inr (6, [.ref axrows, .ref as, .ref ad, .ref ay, .ref af, .ref ao, .int x_questions, .int x_traced, .int ((0 : Int32))])), (axrows, .inl (cR, 4, .inr (.inr (.inr (.inr x_rows))))), (ar, .inr (2, [.ref arcells, .int r_there, .int r_lane, .int r_length])), (arcells, .inl (cI, 60, .inl g5))] := hD
                  refine lv_iload hx hb dX7_copy_130 (lv_at hl 7 rfl) ?_
                  have hq9 := Option.some.inj hf
                  subst hq9
                  exact hRet _ _ _ _ _ rfl rfl hP hD hS dX7_copy_132
                · exact hJ106_3 _ _ _ hf hP hD hS (lv_sub hl [2, 3, 4, 5, 6, 7, 1, 0] rfl)
          · refine lv_aload_n hx hb dX7_copy_72 rfl (lv_at hl 2 rfl) ?_
            refine lv_iconst (v := 2) hx hb dX7_copy_73 (by decide) ?_
            obtain ⟨z6, hz6, hf⟩ := bnd hf
            refine q_wVi (wr := [(axrows, .inl (cR, 4, .inr (.inr (.inr (.inr x_rows))))), (ar, .inr (2, [.ref arcells, .int r_there, .int r_lane, .int r_length])), (arcells, .inl (cI, 60, .inl r_cells))]) (rest := []) ⟨hx, hb, hml, hown, hts⟩ (kX7_faulted l D cI cR ax axrows as ad ay af ao x_questions x_traced ((0 : Int32)) ((2 : Int32)) z6 hz6) (cwV 1 hts gX7_copy_X7_faulted rfl rfl rfl (by decide +kernel) ⟨Nat.le_of_ble_eq_true rfl, Nat.le_of_ble_eq_true rfl⟩) hP hD hS hA hK hN [0] [1, 2, 3] rfl rfl (by decide) (by decide) (by decide) (va_recv hK hP (ci := 6) (q0 := 0) rfl rfl) rfl hl.1 rfl (Nat.le_of_ble_eq_true rfl) dX7_copy_74 ⟨Nat.le_of_ble_eq_true rfl, Nat.le_of_ble_eq_true rfl⟩ (fun H locs hP hD hS => ?_)
            have hP := hP.sub (ws' := [(ax, .inr (6, [.ref axrows, .ref as, .ref ad, .ref ay, .ref af, .ref ao, .int x_questions, .int x_traced, .int z6.2])), (axrows, .inl (cR, 4, .inr (.inr (.inr (.inr x_rows))))), (ar, .inr (2, [.ref arcells, .int r_there, .int r_lane, .int r_length])), (arcells, .inl (cI, 60, .inl r_cells))]) [3, 0, 1, 2] rfl
            have hD := hD.sub (ws' := [(ax, .inr (6, [.ref axrows, .ref as, .ref ad, .ref ay, .ref af, .ref ao, .int x_questions, .int x_traced, .int z6.2])), (axrows, .inl (cR, 4, .inr (.inr (.inr (.inr x_rows))))), (ar, .inr (2, [.ref arcells, .int r_there, .int r_lane, .int r_length])), (arcells, .inl (cI, 60, .inl r_cells))]) [3, 0, 1, 2] (by decide) rfl
            have hq9 := Option.some.inj hf
            subst hq9
            exact hRet _ _ _ _ _ rfl rfl hP hD hS dX7_copy_77
        · exact hJ53_1 _ _ _ hf hP hD hS (lv_sub hl [2, 3, 4, 5, 6, 7, 1, 0] rfl)
    · refine lv_iconst (v := -1) hx hb dX7_copy_19 (by decide) ?_
      have hq9 := Option.some.inj hf
      subst hq9
      exact hRet _ _ _ _ _ rfl rfl hP hD hS dX7_copy_20
