set_option maxHeartbeats 4000000 in
set_option maxRecDepth 100000 in
theorem kX2_holds (l : Launch) (D : va_G) (cI cR : ClassId) (ar arcells : Nat) (r_cells : Nat → Int32) (r_there : Int32) (r_lane : Int32) (r_length : Int32) (p1 : Int32) (p2 : Int32) (q : Int32) (hf : pX2_holds r_length p1 p2 = q) : CR l yX2_holds wsX2_holds ({ frames := 0, cells := 0, slots := 0, locals := 0 } : Room) D cI cR [.ref ar, .int p1, .int p2] [(ar, .inr (2, [.ref arcells, .int r_there, .int r_lane, .int r_length])), (arcells, .inl (cI, 60, .inl r_cells))] (.int q) := by
  refine CRi.intro (cc := cX2_holds) (maxL := 3) (ty := .boolean) (by decide) rfl (Nat.le_of_ble_eq_true rfl) ?_
  intro p e s m args below meth c hx hb hml hts hown hP hK hN QQ hRet ls hl
  have hown : s.vm.findClass RX2 = some m.cls := hown
  have hl : lv_has ls 3 [(0, .ref ar), (1, .int p1), (2, .int p2)] := hl
  have iX2 : ∀ w ∈ u_ws RX2 TX2 4, w ∈ wsX2_holds := by decide +kernel
  have hF23 := hts (.fieldLink RX2 23 "WorldIndex$Row" "length" "I") (by decide +kernel)
  unfold pX2_holds at hf
  refine lv_iload_n hx hb dX2_holds_0 rfl (lv_at hl 1 rfl) ?_
  refine q_if_lt hx hb hf 26 dX2_holds_1 (by decide) (fun hf => ?_) (fun hf => ?_)
  · refine lv_iconst (v := 0) hx hb dX2_holds_26 (by decide) ?_
    exact hRet _ _ _ (by decide) hf dX2_holds_27
  · refine lv_iload_n hx hb dX2_holds_4 rfl (lv_at hl 1 rfl) ?_
    refine lv_aload_n hx hb dX2_holds_5 rfl (lv_at hl 0 rfl) ?_
    refine va_get (D := D) (ci := 2) (v := .int r_length) (C := RX2) (T := TX2) (N := 4) hx hb hts iX2 hown hK hP 0 rfl rfl 3 (by decide) hF23 (fun _ h9 => h9) rfl dX2_holds_6 ?_
    refine q_icmp_gt hx hb hf 26 dX2_holds_9 (by decide) (fun hf => ?_) (fun hf => ?_)
    · refine lv_iconst (v := 0) hx hb dX2_holds_26 (by decide) ?_
      exact hRet _ _ _ (by decide) hf dX2_holds_27
    · refine lv_iload_n hx hb dX2_holds_12 rfl (lv_at hl 2 rfl) ?_
      refine lv_aload_n hx hb dX2_holds_13 rfl (lv_at hl 0 rfl) ?_
      refine va_get (D := D) (ci := 2) (v := .int r_length) (C := RX2) (T := TX2) (N := 4) hx hb hts iX2 hown hK hP 0 rfl rfl 3 (by decide) hF23 (fun _ h9 => h9) rfl dX2_holds_14 ?_
      refine lv_iload_n hx hb dX2_holds_17 rfl (lv_at hl 1 rfl) ?_
      refine lv_isub hx hb dX2_holds_18 ?_
      refine q_icmp_gt hx hb hf 26 dX2_holds_19 (by decide) (fun hf => ?_) (fun hf => ?_)
      · refine lv_iconst (v := 0) hx hb dX2_holds_26 (by decide) ?_
        exact hRet _ _ _ (by decide) hf dX2_holds_27
      · refine lv_iconst (v := 1) hx hb dX2_holds_22 (by decide) ?_
        refine lv_goto (tgt := 27) hx hb dX2_holds_23 (by decide) ?_
        exact hRet _ _ _ (by decide) hf dX2_holds_27
set_option maxHeartbeats 4000000 in
set_option maxRecDepth 100000 in
theorem kX2_faultAsLane (l : Launch) (D : va_G) (cI cR : ClassId) (ar arcells : Nat) (r_cells : Nat → Int32) (r_there : Int32) (r_lane : Int32) (r_length : Int32) (p1 : Int32) (p2 : Int32) (p3 : Int32) (q : Int32) (hf : pX2_faultAsLane r_there r_lane r_length p1 p2 p3 = q) : CR l yX2_faultAsLane wsX2_faultAsLane ({ frames := 1, cells := 0, slots := 0, locals := 22 } : Room) D cI cR [.ref ar, .int p1, .int p2, .int p3] [(ar, .inr (2, [.ref arcells, .int r_there, .int r_lane, .int r_length])), (arcells, .inl (cI, 60, .inl r_cells))] (.int q) := by
  refine CRi.intro (cc := cX2_faultAsLane) (maxL := 4) (ty := .int) (by decide) rfl (Nat.le_of_ble_eq_true rfl) ?_
  intro p e s m args below meth c hx hb hml hts hown hP hK hN QQ hRet ls hl
  have hown : s.vm.findClass RX2 = some m.cls := hown
  have hl : lv_has ls 4 [(0, .ref ar), (1, .int p1), (2, .int p2), (3, .int p3)] := hl
  have iX2 : ∀ w ∈ u_ws RX2 TX2 4, w ∈ wsX2_faultAsLane := by decide +kernel
  have hF15 := hts (.fieldLink RX2 15 "WorldIndex$Row" "there" "Z") (by decide +kernel)
  have hF19 := hts (.fieldLink RX2 19 "WorldIndex$Row" "lane" "I") (by decide +kernel)
  unfold pX2_faultAsLane at hf
  refine lv_aload_n hx hb dX2_faultAsLane_0 rfl (lv_at hl 0 rfl) ?_
  refine va_get (D := D) (ci := 2) (v := .int r_there) (C := RX2) (T := TX2) (N := 4) hx hb hts iX2 hown hK hP 0 rfl rfl 1 (by decide) hF15 (fun _ h9 => h9) rfl dX2_faultAsLane_1 ?_
  obtain ⟨J17_1, eJ17_1, hf⟩ := q_jn hf
  have hJ17_1 : ∀ (ls : Array Slot), J17_1 = q → lv_has ls 4 [(0, .ref ar), (1, .int p1), (2, .int p2), (3, .int p3)] → W p l e ({ frames := 1, cells := 0, slots := 0, locals := 22 } : Room) s m args below meth c s.heap [] 0 0 QQ (F0 m 17 ls []) := by
    intro ls hf hl
    rw [eJ17_1] at hf
    refine lv_aload_n hx hb dX2_faultAsLane_17 rfl (lv_at hl 0 rfl) ?_
    refine va_get (D := D) (ci := 2) (v := .int r_there) (C := RX2) (T := TX2) (N := 4) hx hb hts iX2 hown hK hP 0 rfl rfl 1 (by decide) hF15 (fun _ h9 => h9) rfl dX2_faultAsLane_18 ?_
    refine q_if_ne hx hb hf 26 dX2_faultAsLane_21 (by decide) (fun hf => ?_) (fun hf => ?_)
    · refine lv_iload_n hx hb dX2_faultAsLane_26 rfl (lv_at hl 3 rfl) ?_
      refine q_if_ge hx hb hf 32 dX2_faultAsLane_27 (by decide) (fun hf => ?_) (fun hf => ?_)
      · refine lv_aload_n hx hb dX2_faultAsLane_32 rfl (lv_at hl 0 rfl) ?_
        refine lv_iload_n hx hb dX2_faultAsLane_33 rfl (lv_at hl 2 rfl) ?_
        refine lv_iload_n hx hb dX2_faultAsLane_34 rfl (lv_at hl 3 rfl) ?_
        refine q_rV (rest := []) ⟨hx, hb, hml, hown, hts⟩ (kX2_holds l D cI cR ar arcells r_cells r_there r_lane r_length p2 p3 _ rfl) (cwV 2 hts gX2_faultAsLane_X2_holds rfl rfl rfl (by decide +kernel) ⟨Nat.le_of_ble_eq_true rfl, Nat.le_of_ble_eq_true rfl⟩) hP hK hN (va_recv hK hP (ci := 2) (q0 := 0) rfl rfl) rfl hl.1 rfl (Nat.le_of_ble_eq_true rfl) dX2_faultAsLane_35 ⟨Nat.le_of_ble_eq_true rfl, Nat.le_of_ble_eq_true rfl⟩ ?_
        refine q_if_eq hx hb hf 45 dX2_faultAsLane_38 (by decide) (fun hf => ?_) (fun hf => ?_)
        · refine lv_iconst (v := 3) hx hb dX2_faultAsLane_45 (by decide) ?_
          exact hRet _ _ _ rfl hf dX2_faultAsLane_46
        · refine lv_iconst (v := 0) hx hb dX2_faultAsLane_41 (by decide) ?_
          refine lv_goto (tgt := 46) hx hb dX2_faultAsLane_42 (by decide) ?_
          exact hRet _ _ _ rfl hf dX2_faultAsLane_46
      · refine lv_iconst (v := 4) hx hb dX2_faultAsLane_30 (by decide) ?_
        exact hRet _ _ _ rfl hf dX2_faultAsLane_31
    · refine lv_iconst (v := 1) hx hb dX2_faultAsLane_24 (by decide) ?_
      exact hRet _ _ _ rfl hf dX2_faultAsLane_25
  refine q_if_eq hx hb hf 17 dX2_faultAsLane_4 (by decide) (fun hf => ?_) (fun hf => ?_)
  · exact hJ17_1 _ hf (lv_sub hl [0, 1, 2, 3] rfl)
  · refine lv_aload_n hx hb dX2_faultAsLane_7 rfl (lv_at hl 0 rfl) ?_
    refine va_get (D := D) (ci := 2) (v := .int r_lane) (C := RX2) (T := TX2) (N := 4) hx hb hts iX2 hown hK hP 0 rfl rfl 2 (by decide) hF19 (fun _ h9 => h9) rfl dX2_faultAsLane_8 ?_
    refine lv_iload_n hx hb dX2_faultAsLane_11 rfl (lv_at hl 1 rfl) ?_
    refine q_icmp_eq hx hb hf 17 dX2_faultAsLane_12 (by decide) (fun hf => ?_) (fun hf => ?_)
    · exact hJ17_1 _ hf (lv_sub hl [0, 1, 2, 3] rfl)
    · refine lv_iconst (v := 2) hx hb dX2_faultAsLane_15 (by decide) ?_
      exact hRet _ _ _ rfl hf dX2_faultAsLane_16
set_option maxHeartbeats 4000000 in
set_option maxRecDepth 100000 in
theorem kX2_renew (l : Launch) (D : va_G) (cI cR : ClassId) (ar arcells : Nat) (r_cells : Nat → Int32) (r_there : Int32) (r_lane : Int32) (r_length : Int32) (p1 : Int32) (p2 : Int32) (q : (Nat → Int32) × Int32 × Int32 × Int32) (hf : pX2_renew r_cells r_there r_lane r_length p1 p2 = some q) : CWv l yX2_renew wsX2_renew ({ frames := 0, cells := 0, slots := 0, locals := 0 } : Room) D cI cR [.ref ar, .int p1, .int p2] [(ar, .inr (2, [.ref arcells, .int r_there, .int r_lane, .int r_length])), (arcells, .inl (cI, 60, .inl r_cells))] [(ar, .inr (2, [.ref arcells, .int q.2.1, .int q.2.2.1, .int q.2.2.2])), (arcells, .inl (cI, 60, .inl q.1))] := by
  refine CWv.intro (cc := cX2_renew) (maxL := 4) (by decide) rfl (Nat.le_of_ble_eq_true rfl) ?_
  intro p e s m args below meth c hx hb hml hts hown hP hK hN A hA hD hS QQ hRet ls hl
  have hown : s.vm.findClass RX2 = some m.cls := hown
  have hl : lv_has ls 4 [(0, .ref ar), (1, .int p1), (2, .int p2)] := hl
  have iX2 : ∀ w ∈ u_ws RX2 TX2 4, w ∈ wsX2_renew := by decide +kernel
  have hF15 := hts (.fieldLink RX2 15 "WorldIndex$Row" "there" "Z") (by decide +kernel)
  have hF19 := hts (.fieldLink RX2 19 "WorldIndex$Row" "lane" "I") (by decide +kernel)
  have hF23 := hts (.fieldLink RX2 23 "WorldIndex$Row" "length" "I") (by decide +kernel)
  have hF9 := hts (.fieldLink RX2 9 "WorldIndex$Row" "cells" "[I") (by decide +kernel)
  unfold pX2_renew at hf
  refine lv_iconst (v := 0) hx hb dX2_renew_0 (by decide) ?_
  refine lv_istore_n (lv' := [(3, .int ((0 : Int32))), (0, .ref ar), (1, .int p1), (2, .int p2)]) hx hb dX2_renew_1 rfl hl (by decide) rfl (fun ls hl => ?_)
  have hL2 : ∀ (K : Int32 → (Nat → Int32) → Option ((Nat → Int32) × Int32 × Int32 × Int32)) (hKK : ∀ (k2_v3 : Int32) (k2_w_r_cells : Nat → Int32) (H : Heap) (locs : List Loc) (ls : Array Slot), K k2_v3 k2_w_r_cells = some q → va_P D vwCl [(ar, .inr (2, [.ref arcells, .int r_there, .int r_lane, .int r_length])), (arcells, .inl (cI, 60, .inl k2_w_r_cells))] H → va_D A [(ar, .inr (2, [.ref arcells, .int r_there, .int r_lane, .int r_length])), (arcells, .inl (cI, 60, .inl k2_w_r_cells))] → va_S A s.heap H locs → lv_has ls 4 [(0, .ref ar), (1, .int p1), (2, .int p2), (3, .int k2_v3)] → W p l e ({ frames := 0, cells := 0, slots := 0, locals := 0 } : Room) s m args below meth c H locs 0 0 QQ (F0 m 21 ls [])) (n : Nat), ∀ (b3_v3 : Int32) (b3_w_r_cells : Nat → Int32) (H : Heap) (locs : List Loc) (ls : Array Slot), pX2_renew_L2  K n b3_v3 b3_w_r_cells = some q → va_P D vwCl [(ar, .inr (2, [.ref arcells, .int r_there, .int r_lane, .int r_length])), (arcells, .inl (cI, 60, .inl b3_w_r_cells))] H → va_D A [(ar, .inr (2, [.ref arcells, .int r_there, .int r_lane, .int r_length])), (arcells, .inl (cI, 60, .inl b3_w_r_cells))] → va_S A s.heap H locs → lv_has ls 4 [(0, .ref ar), (1, .int p1), (2, .int p2), (3, .int b3_v3)] → W p l e ({ frames := 0, cells := 0, slots := 0, locals := 0 } : Room) s m args below meth c H locs 0 0 QQ (F0 m 2 ls []) := by
    intro K hKK n
    induction n with
    | zero =>
      intro b3_v3 b3_w_r_cells H locs ls hf hP hD hS hl
      rw [pX2_renew_L2_z] at hf
      cases hf
    | succ n ih =>
      intro b3_v3 b3_w_r_cells H locs ls hf hP hD hS hl
      rw [pX2_renew_L2_s] at hf
      refine lv_iload_n hx hb dX2_renew_2 rfl (lv_at hl 3 rfl) ?_
      refine lv_bipush (v := 60) hx hb dX2_renew_3 (by decide) ?_
      refine q_icmp_ge hx hb hf 21 dX2_renew_5 (by decide) (fun hf => ?_) (fun hf => ?_)
      · exact hKK _ _ _ _ _ hf hP hD hS (lv_sub hl [0, 1, 2, 3] rfl)
      · refine lv_aload_n hx hb dX2_renew_8 rfl (lv_at hl 0 rfl) ?_
        refine va_get (D := D) (ci := 2) (v := .ref arcells) (C := RX2) (T := TX2) (N := 4) hx hb hts iX2 hown hK hP 0 rfl rfl 0 (by decide) hF9 (fun _ h9 => h9) rfl dX2_renew_9 ?_
        refine lv_iload_n hx hb dX2_renew_12 rfl (lv_at hl 3 rfl) ?_
        refine lv_iconst (v := 0) hx hb dX2_renew_13 (by decide) ?_
        refine q_iast hx hb hK hP hD hS 1 0 rfl rfl hf dX2_renew_14 (fun g4 H locs hf hP hD hS => ?_)
        have hP : va_P D vwCl [(ar, .inr (2, [.ref arcells, .int r_there, .int r_lane, .int r_length])), (arcells, .inl (cI, 60, .inl g4))] H := hP
        have hD : va_D A [(ar, .inr (2, [.ref arcells, .int r_there, .int r_lane, .int r_length])), (arcells, .inl (cI, 60, .inl g4))] := hD
        refine lv_iinc (v := b3_v3 + (1 : Int32)) (lv' := [(3, .int (b3_v3 + (1 : Int32))), (0, .ref ar), (1, .int p1), (2, .int p2)]) hx hb dX2_renew_15 hl (k := 3) rfl rfl (by decide) rfl (fun ls hl => ?_)
        refine lv_goto (tgt := 2) hx hb dX2_renew_18 (by decide) ?_
        exact ih _ _ _ _ _ hf hP hD hS (lv_sub hl [1, 2, 3, 0] rfl)
  refine hL2 _ (fun k2_v3 k2_w_r_cells H locs ls hf hP hD hS hl => ?_) fu _ _ _ _ _ hf hP hD hS (lv_sub hl [1, 2, 3, 0] rfl)
  refine lv_aload_n hx hb dX2_renew_21 rfl (lv_at hl 0 rfl) ?_
  refine lv_iconst (v := 1) hx hb dX2_renew_22 (by decide) ?_
  refine va_put (D := D) (ci := 2) (v := .int ((1 : Int32))) (ty := .boolean) (C := RX2) (T := TX2) (N := 4) hx hb hts iX2 tyX2 tyX2_ok nmX2 hown hK hP hD hS 0 rfl rfl 1 (by decide) hF15 (fun _ h9 => h9) rfl (tyX2_ok 1 (by decide)) rfl rfl (Nat.le_of_ble_eq_true rfl) dX2_renew_23 (fun H locs hP hD hS => ?_)
  have hP : va_P D vwCl [(ar, .inr (2, [.ref arcells, .int ((1 : Int32)), .int r_lane, .int r_length])), (arcells, .inl (cI, 60, .inl k2_w_r_cells))] H := hP
  have hD : va_D A [(ar, .inr (2, [.ref arcells, .int ((1 : Int32)), .int r_lane, .int r_length])), (arcells, .inl (cI, 60, .inl k2_w_r_cells))] := hD
  refine lv_aload_n hx hb dX2_renew_26 rfl (lv_at hl 0 rfl) ?_
  refine lv_iload_n hx hb dX2_renew_27 rfl (lv_at hl 1 rfl) ?_
  refine va_put (D := D) (ci := 2) (v := .int p1) (ty := .int) (C := RX2) (T := TX2) (N := 4) hx hb hts iX2 tyX2 tyX2_ok nmX2 hown hK hP hD hS 0 rfl rfl 2 (by decide) hF19 (fun _ h9 => h9) rfl (tyX2_ok 2 (by decide)) rfl rfl (Nat.le_of_ble_eq_true rfl) dX2_renew_28 (fun H locs hP hD hS => ?_)
  have hP : va_P D vwCl [(ar, .inr (2, [.ref arcells, .int ((1 : Int32)), .int p1, .int r_length])), (arcells, .inl (cI, 60, .inl k2_w_r_cells))] H := hP
  have hD : va_D A [(ar, .inr (2, [.ref arcells, .int ((1 : Int32)), .int p1, .int r_length])), (arcells, .inl (cI, 60, .inl k2_w_r_cells))] := hD
  refine lv_aload_n hx hb dX2_renew_31 rfl (lv_at hl 0 rfl) ?_
  refine lv_iload_n hx hb dX2_renew_32 rfl (lv_at hl 2 rfl) ?_
  refine va_put (D := D) (ci := 2) (v := .int p2) (ty := .int) (C := RX2) (T := TX2) (N := 4) hx hb hts iX2 tyX2 tyX2_ok nmX2 hown hK hP hD hS 0 rfl rfl 3 (by decide) hF23 (fun _ h9 => h9) rfl (tyX2_ok 3 (by decide)) rfl rfl (Nat.le_of_ble_eq_true rfl) dX2_renew_33 (fun H locs hP hD hS => ?_)
  have hP : va_P D vwCl [(ar, .inr (2, [.ref arcells, .int ((1 : Int32)), .int p1, .int p2])), (arcells, .inl (cI, 60, .inl k2_w_r_cells))] H := hP
  have hD : va_D A [(ar, .inr (2, [.ref arcells, .int ((1 : Int32)), .int p1, .int p2])), (arcells, .inl (cI, 60, .inl k2_w_r_cells))] := hD
  have hq9 := Option.some.inj hf
  subst hq9
  exact hRet _ _ _ _ hP hD hS dX2_renew_36
set_option maxHeartbeats 4000000 in
set_option maxRecDepth 100000 in
theorem kX3_partOf (l : Launch) (D : va_G) (cI cR : ClassId) (p0 : Int32) (p1 : Int32) (q : Int32) (hf : pX3_partOf p0 p1 = q) : CR l yX3_partOf wsX3_partOf ({ frames := 0, cells := 0, slots := 0, locals := 0 } : Room) D cI cR [.int p0, .int p1] [] (.int q) := by
  refine CRi.intro (cc := cX3_partOf) (maxL := 2) (ty := .int) (by decide) rfl (Nat.le_of_ble_eq_true rfl) ?_
  intro p e s m args below meth c hx hb hml hts hown hP hK hN QQ hRet ls hl
  have hown : s.vm.findClass RX3 = some m.cls := hown
  have hl : lv_has ls 2 [(0, .int p0), (1, .int p1)] := hl
  unfold pX3_partOf at hf
  refine lv_iload_n hx hb dX3_partOf_0 rfl (lv_at hl 0 rfl) ?_
  refine lv_bipush (v := 8) hx hb dX3_partOf_1 (by decide) ?_
  refine lv_imul hx hb dX3_partOf_3 ?_
  refine lv_iload_n hx hb dX3_partOf_4 rfl (lv_at hl 1 rfl) ?_
  refine lv_iadd hx hb dX3_partOf_5 ?_
  exact hRet _ _ _ rfl hf dX3_partOf_6
set_option maxHeartbeats 4000000 in
set_option maxRecDepth 100000 in
theorem kX3_chooseRoot (l : Launch) (D : va_G) (cI cR : ClassId) (af afdry afaskedUpTo afcosts afroots : Nat) (f_dry : Nat → Int32) (f_askedUpTo : Nat → Int32) (f_costs : Nat → Int32) (f_roots : Nat → Int32) (f_size : Int32) (p1 : Int32) (p2 : Int32) (q : (Nat → Int32) × (Nat → Int32)) (hf : pX3_chooseRoot f_askedUpTo f_costs f_roots p1 p2 = some q) : CWv l yX3_chooseRoot wsX3_chooseRoot ({ frames := 1, cells := 0, slots := 0, locals := 21 } : Room) D cI cR [.ref af, .int p1, .int p2] [(af, .inr (3, [.ref afdry, .ref afaskedUpTo, .ref afcosts, .ref afroots, .int f_size])), (afdry, .inl (cI, 7, .inl f_dry)), (afaskedUpTo, .inl (cI, 8, .inl f_askedUpTo)), (afcosts, .inl (cI, 64, .inl f_costs)), (afroots, .inl (cI, 64, .inl f_roots))] [(af, .inr (3, [.ref afdry, .ref afaskedUpTo, .ref afcosts, .ref afroots, .int f_size])), (afdry, .inl (cI, 7, .inl f_dry)), (afaskedUpTo, .inl (cI, 8, .inl f_askedUpTo)), (afcosts, .inl (cI, 64, .inl q.1)), (afroots, .inl (cI, 64, .inl q.2))] := by
  refine CWv.intro (cc := cX3_chooseRoot) (maxL := 7) (by decide) rfl (Nat.le_of_ble_eq_true rfl) ?_
  intro p e s m args below meth c hx hb hml hts hown hP hK hN A hA hD hS QQ hRet ls hl
  have hown : s.vm.findClass RX3 = some m.cls := hown
  have hl : lv_has ls 7 [(0, .ref af), (1, .int p1), (2, .int p2)] := hl
  have iX3 : ∀ w ∈ u_ws RX3 TX3 5, w ∈ wsX3_chooseRoot := by decide +kernel
  have hC46 := hts (.constant RX3 46 (2147483647)) (by decide +kernel)
  have hF15 := hts (.fieldLink RX3 15 "WorldIndex$SearchTree" "askedUpTo" "[I") (by decide +kernel)
  have hF18 := hts (.fieldLink RX3 18 "WorldIndex$SearchTree" "costs" "[I") (by decide +kernel)
  have hF21 := hts (.fieldLink RX3 21 "WorldIndex$SearchTree" "roots" "[I") (by decide +kernel)
  unfold pX3_chooseRoot at hf
  refine lv_iload_n hx hb dX3_chooseRoot_0 rfl (lv_at hl 1 rfl) ?_
  refine lv_istore_n (lv' := [(3, .int p1), (0, .ref af), (1, .int p1), (2, .int p2)]) hx hb dX3_chooseRoot_1 rfl hl (by decide) rfl (fun ls hl => ?_)
  refine lv_ldc (v := 2147483647) hx hb hown hC46 dX3_chooseRoot_2 ?_
  refine lv_istore (lv' := [(4, .int ((2147483647 : Int32))), (3, .int p1), (0, .ref af), (1, .int p1), (2, .int p2)]) hx hb dX3_chooseRoot_4 hl (by decide) rfl (fun ls hl => ?_)
  refine lv_iload_n hx hb dX3_chooseRoot_6 rfl (lv_at hl 3 rfl) ?_
  refine lv_istore (lv' := [(5, .int p1), (4, .int ((2147483647 : Int32))), (3, .int p1), (0, .ref af), (1, .int p1), (2, .int p2)]) hx hb dX3_chooseRoot_7 hl (by decide) rfl (fun ls hl => ?_)
  have hL9 : ∀ (K : Int32 → Int32 → Int32 → Option ((Nat → Int32) × (Nat → Int32))) (hKK : ∀ (k4_v3 : Int32) (k4_v4 : Int32) (k4_v5 : Int32) (H : Heap) (locs : List Loc) (ls : Array Slot), K k4_v3 k4_v4 k4_v5 = some q → va_P D vwCl [(af, .inr (3, [.ref afdry, .ref afaskedUpTo, .ref afcosts, .ref afroots, .int f_size])), (afdry, .inl (cI, 7, .inl f_dry)), (afaskedUpTo, .inl (cI, 8, .inl f_askedUpTo)), (afcosts, .inl (cI, 64, .inl f_costs)), (afroots, .inl (cI, 64, .inl f_roots))] H → va_D A [(af, .inr (3, [.ref afdry, .ref afaskedUpTo, .ref afcosts, .ref afroots, .int f_size])), (afdry, .inl (cI, 7, .inl f_dry)), (afaskedUpTo, .inl (cI, 8, .inl f_askedUpTo)), (afcosts, .inl (cI, 64, .inl f_costs)), (afroots, .inl (cI, 64, .inl f_roots))] → va_S A s.heap H locs → lv_has ls 7 [(0, .ref af), (1, .int p1), (2, .int p2), (3, .int k4_v3), (4, .int k4_v4), (5, .int k4_v5)] → W p l e ({ frames := 1, cells := 0, slots := 0, locals := 21 } : Room) s m args below meth c H locs 0 0 QQ (F0 m 62 ls [])) (n : Nat), ∀ (b9_v3 : Int32) (b9_v4 : Int32) (b9_v5 : Int32) (H : Heap) (locs : List Loc) (ls : Array Slot), pX3_chooseRoot_L9 p1 p2 f_costs K n b9_v3 b9_v4 b9_v5 = some q → va_P D vwCl [(af, .inr (3, [.ref afdry, .ref afaskedUpTo, .ref afcosts, .ref afroots, .int f_size])), (afdry, .inl (cI, 7, .inl f_dry)), (afaskedUpTo, .inl (cI, 8, .inl f_askedUpTo)), (afcosts, .inl (cI, 64, .inl f_costs)), (afroots, .inl (cI, 64, .inl f_roots))] H → va_D A [(af, .inr (3, [.ref afdry, .ref afaskedUpTo, .ref afcosts, .ref afroots, .int f_size])), (afdry, .inl (cI, 7, .inl f_dry)), (afaskedUpTo, .inl (cI, 8, .inl f_askedUpTo)), (afcosts, .inl (cI, 64, .inl f_costs)), (afroots, .inl (cI, 64, .inl f_roots))] → va_S A s.heap H locs → lv_has ls 7 [(0, .ref af), (1, .int p1), (2, .int p2), (3, .int b9_v3), (4, .int b9_v4), (5, .int b9_v5)] → W p l e ({ frames := 1, cells := 0, slots := 0, locals := 21 } : Room) s m args below meth c H locs 0 0 QQ (F0 m 9 ls []) := by
    intro K hKK n
    induction n with
    | zero =>
      intro b9_v3 b9_v4 b9_v5 H locs ls hf hP hD hS hl
      rw [pX3_chooseRoot_L9_z] at hf
      cases hf
    | succ n ih =>
      intro b9_v3 b9_v4 b9_v5 H locs ls hf hP hD hS hl
      rw [pX3_chooseRoot_L9_s] at hf
      refine lv_iload hx hb dX3_chooseRoot_9 (lv_at hl 5 rfl) ?_
      refine lv_iload_n hx hb dX3_chooseRoot_11 rfl (lv_at hl 2 rfl) ?_
      refine q_icmp_ge hx hb hf 62 dX3_chooseRoot_12 (by decide) (fun hf => ?_) (fun hf => ?_)
      · exact hKK _ _ _ _ _ _ hf hP hD hS (lv_sub hl [0, 1, 2, 3, 4, 5] rfl)
      · refine lv_aload_n hx hb dX3_chooseRoot_15 rfl (lv_at hl 0 rfl) ?_
        refine va_get (D := D) (ci := 3) (v := .ref afcosts) (C := RX3) (T := TX3) (N := 5) hx hb hts iX3 hown hK hP 0 rfl rfl 2 (by decide) hF18 (fun _ h9 => h9) rfl dX3_chooseRoot_16 ?_
        refine lv_iload_n hx hb dX3_chooseRoot_19 rfl (lv_at hl 1 rfl) ?_
        refine lv_iload hx hb dX3_chooseRoot_20 (lv_at hl 5 rfl) ?_
        refine q_rS (rest := [.ref afcosts]) ⟨hx, hb, hml, hown, hts⟩ (kX3_partOf l D cI cR p1 b9_v5 _ rfl) (va_cwS 2 hts gX3_chooseRoot_X3_partOf rfl rfl rfl (by decide +kernel) ⟨Nat.le_of_ble_eq_true rfl, Nat.le_of_ble_eq_true rfl⟩) (hP.sub [] rfl) hK hN rfl hl.1 rfl (Nat.le_of_ble_eq_true rfl) dX3_chooseRoot_22 ⟨Nat.le_of_ble_eq_true rfl, Nat.le_of_ble_eq_true rfl⟩ ?_
        refine q_iald hx hb hK hP 3 0 rfl rfl hf dX3_chooseRoot_25 (fun x10 hf => ?_)
        refine lv_aload_n hx hb dX3_chooseRoot_26 rfl (lv_at hl 0 rfl) ?_
        refine va_get (D := D) (ci := 3) (v := .ref afcosts) (C := RX3) (T := TX3) (N := 5) hx hb hts iX3 hown hK hP 0 rfl rfl 2 (by decide) hF18 (fun _ h9 => h9) rfl dX3_chooseRoot_27 ?_
        refine lv_iload hx hb dX3_chooseRoot_30 (lv_at hl 5 rfl) ?_
        refine lv_iconst (v := 1) hx hb dX3_chooseRoot_32 (by decide) ?_
        refine lv_iadd hx hb dX3_chooseRoot_33 ?_
        refine lv_iload_n hx hb dX3_chooseRoot_34 rfl (lv_at hl 2 rfl) ?_
        refine q_rS (rest := [.ref afcosts, .int x10]) ⟨hx, hb, hml, hown, hts⟩ (kX3_partOf l D cI cR (b9_v5 + ((1 : Int32))) p2 _ rfl) (va_cwS 2 hts gX3_chooseRoot_X3_partOf rfl rfl rfl (by decide +kernel) ⟨Nat.le_of_ble_eq_true rfl, Nat.le_of_ble_eq_true rfl⟩) (hP.sub [] rfl) hK hN rfl hl.1 rfl (Nat.le_of_ble_eq_true rfl) dX3_chooseRoot_35 ⟨Nat.le_of_ble_eq_true rfl, Nat.le_of_ble_eq_true rfl⟩ ?_
        refine q_iald hx hb hK hP 3 0 rfl rfl hf dX3_chooseRoot_38 (fun x11 hf => ?_)
        refine lv_iadd hx hb dX3_chooseRoot_39 ?_
        refine lv_istore (lv' := [(6, .int (x10 + x11)), (0, .ref af), (1, .int p1), (2, .int p2), (3, .int b9_v3), (4, .int b9_v4), (5, .int b9_v5)]) hx hb dX3_chooseRoot_40 hl (by decide) rfl (fun ls hl => ?_)
        refine lv_iload hx hb dX3_chooseRoot_42 (lv_at hl 0 rfl) ?_
        refine lv_iload hx hb dX3_chooseRoot_44 (lv_at hl 5 rfl) ?_
        obtain ⟨J56_12, eJ56_12, hf⟩ := q_jn hf
        have hJ56_12 : ∀ (u12_0 : Int32) (u12_1 : Int32) (H : Heap) (locs : List Loc) (ls : Array Slot), J56_12 u12_0 u12_1 = some q → va_P D vwCl [(af, .inr (3, [.ref afdry, .ref afaskedUpTo, .ref afcosts, .ref afroots, .int f_size])), (afdry, .inl (cI, 7, .inl f_dry)), (afaskedUpTo, .inl (cI, 8, .inl f_askedUpTo)), (afcosts, .inl (cI, 64, .inl f_costs)), (afroots, .inl (cI, 64, .inl f_roots))] H → va_D A [(af, .inr (3, [.ref afdry, .ref afaskedUpTo, .ref afcosts, .ref afroots, .int f_size])), (afdry, .inl (cI, 7, .inl f_dry)), (afaskedUpTo, .inl (cI, 8, .inl f_askedUpTo)), (afcosts, .inl (cI, 64, .inl f_costs)), (afroots, .inl (cI, 64, .inl f_roots))] → va_S A s.heap H locs → lv_has ls 7 [(0, .ref af), (1, .int p1), (2, .int p2), (3, .int u12_0), (4, .int u12_1), (5, .int b9_v5), (6, .int (x10 + x11))] → W p l e ({ frames := 1, cells := 0, slots := 0, locals := 21 } : Room) s m args below meth c H locs 0 0 QQ (F0 m 56 ls []) := by
          intro u12_0 u12_1 H locs ls hf hP hD hS hl
          rw [eJ56_12] at hf
          refine lv_iinc (v := b9_v5 + (1 : Int32)) (lv' := [(5, .int (b9_v5 + (1 : Int32))), (0, .ref af), (1, .int p1), (2, .int p2), (3, .int u12_0), (4, .int u12_1), (6, .int (x10 + x11))]) hx hb dX3_chooseRoot_56 hl (k := 5) rfl rfl (by decide) rfl (fun ls hl => ?_)
          refine lv_goto (tgt := 9) hx hb dX3_chooseRoot_59 (by decide) ?_
          exact ih _ _ _ _ _ _ hf hP hD hS (lv_sub hl [1, 2, 3, 4, 5, 0] rfl)
        refine q_icmp_ge hx hb hf 56 dX3_chooseRoot_46 (by decide) (fun hf => ?_) (fun hf => ?_)
        · exact hJ56_12 _ _ _ _ _ hf hP hD hS (lv_sub hl [1, 2, 3, 4, 5, 6, 0] rfl)
        · refine lv_iload hx hb dX3_chooseRoot_49 (lv_at hl 0 rfl) ?_
          refine lv_istore (lv' := [(4, .int (x10 + x11)), (6, .int (x10 + x11)), (0, .ref af), (1, .int p1), (2, .int p2), (3, .int b9_v3), (5, .int b9_v5)]) hx hb dX3_chooseRoot_51 hl (by decide) rfl (fun ls hl => ?_)
          refine lv_iload hx hb dX3_chooseRoot_53 (lv_at hl 6 rfl) ?_
          refine lv_istore_n (lv' := [(3, .int b9_v5), (4, .int (x10 + x11)), (6, .int (x10 + x11)), (0, .ref af), (1, .int p1), (2, .int p2), (5, .int b9_v5)]) hx hb dX3_chooseRoot_55 rfl hl (by decide) rfl (fun ls hl => ?_)
          exact hJ56_12 _ _ _ _ _ hf hP hD hS (lv_sub hl [3, 4, 5, 0, 1, 6, 2] rfl)
  refine hL9 _ (fun k4_v3 k4_v4 k4_v5 H locs ls hf hP hD hS hl => ?_) fu _ _ _ _ _ _ hf hP hD hS (lv_sub hl [3, 4, 5, 2, 1, 0] rfl)
  refine lv_aload_n hx hb dX3_chooseRoot_62 rfl (lv_at hl 0 rfl) ?_
  refine va_get (D := D) (ci := 3) (v := .ref afroots) (C := RX3) (T := TX3) (N := 5) hx hb hts iX3 hown hK hP 0 rfl rfl 3 (by decide) hF21 (fun _ h9 => h9) rfl dX3_chooseRoot_63 ?_
  refine lv_iload_n hx hb dX3_chooseRoot_66 rfl (lv_at hl 1 rfl) ?_
  refine lv_iload_n hx hb dX3_chooseRoot_67 rfl (lv_at hl 2 rfl) ?_
  refine q_rS (rest := [.ref afroots]) ⟨hx, hb, hml, hown, hts⟩ (kX3_partOf l D cI cR p1 p2 _ rfl) (va_cwS 2 hts gX3_chooseRoot_X3_partOf rfl rfl rfl (by decide +kernel) ⟨Nat.le_of_ble_eq_true rfl, Nat.le_of_ble_eq_true rfl⟩) (hP.sub [] rfl) hK hN rfl hl.1 rfl (Nat.le_of_ble_eq_true rfl) dX3_chooseRoot_68 ⟨Nat.le_of_ble_eq_true rfl, Nat.le_of_ble_eq_true rfl⟩ ?_
  refine lv_iload_n hx hb dX3_chooseRoot_71 rfl (lv_at hl 3 rfl) ?_
  refine q_iast hx hb hK hP hD hS 4 0 rfl rfl hf dX3_chooseRoot_72 (fun g5 H locs hf hP hD hS => ?_)
  have hP : va_P D vwCl [(af, .inr (3, [.ref afdry, .ref afaskedUpTo, .ref afcosts, .ref afroots, .int f_size])), (afdry, .inl (cI, 7, .inl f_dry)), (afaskedUpTo, .inl (cI, 8, .inl f_askedUpTo)), (afcosts, .inl (cI, 64, .inl f_costs)), (afroots, .inl (cI, 64, .inl g5))] H := hP
  have hD : va_D A [(af, .inr (3, [.ref afdry, .ref afaskedUpTo, .ref afcosts, .ref afroots, .int f_size])), (afdry, .inl (cI, 7, .inl f_dry)), (afaskedUpTo, .inl (cI, 8, .inl f_askedUpTo)), (afcosts, .inl (cI, 64, .inl f_costs)), (afroots, .inl (cI, 64, .inl g5))] := hD
  refine lv_aload_n hx hb dX3_chooseRoot_73 rfl (lv_at hl 0 rfl) ?_
  refine va_get (D := D) (ci := 3) (v := .ref afcosts) (C := RX3) (T := TX3) (N := 5) hx hb hts iX3 hown hK hP 0 rfl rfl 2 (by decide) hF18 (fun _ h9 => h9) rfl dX3_chooseRoot_74 ?_
  refine lv_iload_n hx hb dX3_chooseRoot_77 rfl (lv_at hl 1 rfl) ?_
  refine lv_iload_n hx hb dX3_chooseRoot_78 rfl (lv_at hl 2 rfl) ?_
  refine q_rS (rest := [.ref afcosts]) ⟨hx, hb, hml, hown, hts⟩ (kX3_partOf l D cI cR p1 p2 _ rfl) (va_cwS 2 hts gX3_chooseRoot_X3_partOf rfl rfl rfl (by decide +kernel) ⟨Nat.le_of_ble_eq_true rfl, Nat.le_of_ble_eq_true rfl⟩) (hP.sub [] rfl) hK hN rfl hl.1 rfl (Nat.le_of_ble_eq_true rfl) dX3_chooseRoot_79 ⟨Nat.le_of_ble_eq_true rfl, Nat.le_of_ble_eq_true rfl⟩ ?_
  refine lv_iload hx hb dX3_chooseRoot_82 (lv_at hl 4 rfl) ?_
  refine lv_aload_n hx hb dX3_chooseRoot_84 rfl (lv_at hl 0 rfl) ?_
  refine va_get (D := D) (ci := 3) (v := .ref afaskedUpTo) (C := RX3) (T := TX3) (N := 5) hx hb hts iX3 hown hK hP 0 rfl rfl 1 (by decide) hF15 (fun _ h9 => h9) rfl dX3_chooseRoot_85 ?_
  refine lv_iload_n hx hb dX3_chooseRoot_88 rfl (lv_at hl 2 rfl) ?_
  refine q_iald hx hb hK hP 2 0 rfl rfl hf dX3_chooseRoot_89 (fun x6 hf => ?_)
  refine lv_iadd hx hb dX3_chooseRoot_90 ?_
  refine lv_aload_n hx hb dX3_chooseRoot_91 rfl (lv_at hl 0 rfl) ?_
  refine va_get (D := D) (ci := 3) (v := .ref afaskedUpTo) (C := RX3) (T := TX3) (N := 5) hx hb hts iX3 hown hK hP 0 rfl rfl 1 (by decide) hF15 (fun _ h9 => h9) rfl dX3_chooseRoot_92 ?_
  refine lv_iload_n hx hb dX3_chooseRoot_95 rfl (lv_at hl 1 rfl) ?_
  refine q_iald hx hb hK hP 2 0 rfl rfl hf dX3_chooseRoot_96 (fun x7 hf => ?_)
  refine lv_isub hx hb dX3_chooseRoot_97 ?_
  refine q_iast hx hb hK hP hD hS 3 0 rfl rfl hf dX3_chooseRoot_98 (fun g8 H locs hf hP hD hS => ?_)
  have hP : va_P D vwCl [(af, .inr (3, [.ref afdry, .ref afaskedUpTo, .ref afcosts, .ref afroots, .int f_size])), (afdry, .inl (cI, 7, .inl f_dry)), (afaskedUpTo, .inl (cI, 8, .inl f_askedUpTo)), (afcosts, .inl (cI, 64, .inl g8)), (afroots, .inl (cI, 64, .inl g5))] H := hP
  have hD : va_D A [(af, .inr (3, [.ref afdry, .ref afaskedUpTo, .ref afcosts, .ref afroots, .int f_size])), (afdry, .inl (cI, 7, .inl f_dry)), (afaskedUpTo, .inl (cI, 8, .inl f_askedUpTo)), (afcosts, .inl (cI, 64, .inl g8)), (afroots, .inl (cI, 64, .inl g5))] := hD
  have hq9 := Option.some.inj hf
  subst hq9
  exact hRet _ _ _ _ hP hD hS dX3_chooseRoot_99
set_option maxHeartbeats 4000000 in
set_option maxRecDepth 100000 in
theorem kX3_depthOf (l : Launch) (D : va_G) (cI cR : ClassId) (af afdry afaskedUpTo afcosts afroots : Nat) (f_dry : Nat → Int32) (f_askedUpTo : Nat → Int32) (f_costs : Nat → Int32) (f_roots : Nat → Int32) (f_size : Int32) (p1 : Int32) (q : Int32) (hf : pX3_depthOf f_dry f_roots f_size p1 = some q) : CR l yX3_depthOf wsX3_depthOf ({ frames := 1, cells := 0, slots := 0, locals := 21 } : Room) D cI cR [.ref af, .int p1] [(af, .inr (3, [.ref afdry, .ref afaskedUpTo, .ref afcosts, .ref afroots, .int f_size])), (afdry, .inl (cI, 7, .inl f_dry)), (afaskedUpTo, .inl (cI, 8, .inl f_askedUpTo)), (afcosts, .inl (cI, 64, .inl f_costs)), (afroots, .inl (cI, 64, .inl f_roots))] (.int q) := by
  refine CRi.intro (cc := cX3_depthOf) (maxL := 6) (ty := .int) (by decide) rfl (Nat.le_of_ble_eq_true rfl) ?_
  intro p e s m args below meth c hx hb hml hts hown hP hK hN QQ hRet ls hl
  have hown : s.vm.findClass RX3 = some m.cls := hown
  have hl : lv_has ls 6 [(0, .ref af), (1, .int p1)] := hl
  have iX3 : ∀ w ∈ u_ws RX3 TX3 5, w ∈ wsX3_depthOf := by decide +kernel
  have hF21 := hts (.fieldLink RX3 21 "WorldIndex$SearchTree" "roots" "[I") (by decide +kernel)
  have hF24 := hts (.fieldLink RX3 24 "WorldIndex$SearchTree" "size" "I") (by decide +kernel)
  have hF9 := hts (.fieldLink RX3 9 "WorldIndex$SearchTree" "dry" "[I") (by decide +kernel)
  unfold pX3_depthOf at hf
  refine lv_iconst (v := 0) hx hb dX3_depthOf_0 (by decide) ?_
  refine lv_istore_n (lv' := [(2, .int ((0 : Int32))), (0, .ref af), (1, .int p1)]) hx hb dX3_depthOf_1 rfl hl (by decide) rfl (fun ls hl => ?_)
  refine lv_aload_n hx hb dX3_depthOf_2 rfl (lv_at hl 1 rfl) ?_
  refine va_get (D := D) (ci := 3) (v := .int f_size) (C := RX3) (T := TX3) (N := 5) hx hb hts iX3 hown hK hP 0 rfl rfl 4 (by decide) hF24 (fun _ h9 => h9) rfl dX3_depthOf_3 ?_
  refine lv_istore_n (lv' := [(3, .int f_size), (2, .int ((0 : Int32))), (0, .ref af), (1, .int p1)]) hx hb dX3_depthOf_6 rfl hl (by decide) rfl (fun ls hl => ?_)
  refine lv_iconst (v := 1) hx hb dX3_depthOf_7 (by decide) ?_
  refine lv_istore (lv' := [(4, .int ((1 : Int32))), (3, .int f_size), (2, .int ((0 : Int32))), (0, .ref af), (1, .int p1)]) hx hb dX3_depthOf_8 hl (by decide) rfl (fun ls hl => ?_)
  have hL10 : ∀ (K : Int32 → Int32 → Int32 → Option (Int32)) (hKK : ∀ (k5_v2 : Int32) (k5_v3 : Int32) (k5_v4 : Int32) (ls : Array Slot), K k5_v2 k5_v3 k5_v4 = some q → lv_has ls 6 [(0, .ref af), (1, .int p1), (2, .int k5_v2), (3, .int k5_v3), (4, .int k5_v4)] → W p l e ({ frames := 1, cells := 0, slots := 0, locals := 21 } : Room) s m args below meth c s.heap [] 0 0 QQ (F0 m 78 ls [])) (n : Nat), ∀ (b6_v2 : Int32) (b6_v3 : Int32) (b6_v4 : Int32) (ls : Array Slot), pX3_depthOf_L10 p1 f_dry f_roots f_size K n b6_v2 b6_v3 b6_v4 = some q → lv_has ls 6 [(0, .ref af), (1, .int p1), (2, .int b6_v2), (3, .int b6_v3), (4, .int b6_v4)] → W p l e ({ frames := 1, cells := 0, slots := 0, locals := 21 } : Room) s m args below meth c s.heap [] 0 0 QQ (F0 m 10 ls []) := by
    intro K hKK n
    induction n with
    | zero =>
      intro b6_v2 b6_v3 b6_v4 ls hf hl
      rw [pX3_depthOf_L10_z] at hf
      cases hf
    | succ n ih =>
      intro b6_v2 b6_v3 b6_v4 ls hf hl
      rw [pX3_depthOf_L10_s] at hf
      refine lv_iload hx hb dX3_depthOf_10 (lv_at hl 4 rfl) ?_
      refine lv_aload_n hx hb dX3_depthOf_12 rfl (lv_at hl 0 rfl) ?_
      refine va_get (D := D) (ci := 3) (v := .int f_size) (C := RX3) (T := TX3) (N := 5) hx hb hts iX3 hown hK hP 0 rfl rfl 4 (by decide) hF24 (fun _ h9 => h9) rfl dX3_depthOf_13 ?_
      refine q_icmp_gt hx hb hf 78 dX3_depthOf_16 (by decide) (fun hf => ?_) (fun hf => ?_)
      · exact hKK _ _ _ _ hf (lv_sub hl [0, 1, 2, 3, 4] rfl)
      · refine lv_iload_n hx hb dX3_depthOf_19 rfl (lv_at hl 2 rfl) ?_
        refine lv_iload_n hx hb dX3_depthOf_20 rfl (lv_at hl 3 rfl) ?_
        refine q_icmp_ge hx hb hf 78 dX3_depthOf_21 (by decide) (fun hf => ?_) (fun hf => ?_)
        · exact hKK _ _ _ _ hf (lv_sub hl [0, 1, 2, 3, 4] rfl)
        · refine lv_aload_n hx hb dX3_depthOf_24 rfl (lv_at hl 0 rfl) ?_
          refine va_get (D := D) (ci := 3) (v := .ref afroots) (C := RX3) (T := TX3) (N := 5) hx hb hts iX3 hown hK hP 0 rfl rfl 3 (by decide) hF21 (fun _ h9 => h9) rfl dX3_depthOf_25 ?_
          refine lv_iload_n hx hb dX3_depthOf_28 rfl (lv_at hl 2 rfl) ?_
          refine lv_iload_n hx hb dX3_depthOf_29 rfl (lv_at hl 3 rfl) ?_
          refine q_rS (rest := [.ref afroots]) ⟨hx, hb, hml, hown, hts⟩ (kX3_partOf l D cI cR b6_v2 b6_v3 _ rfl) (va_cwS 2 hts gX3_depthOf_X3_partOf rfl rfl rfl (by decide +kernel) ⟨Nat.le_of_ble_eq_true rfl, Nat.le_of_ble_eq_true rfl⟩) (hP.sub [] rfl) hK hN rfl hl.1 rfl (Nat.le_of_ble_eq_true rfl) dX3_depthOf_30 ⟨Nat.le_of_ble_eq_true rfl, Nat.le_of_ble_eq_true rfl⟩ ?_
          refine q_iald hx hb hK hP 4 0 rfl rfl hf dX3_depthOf_33 (fun x7 hf => ?_)
          refine lv_istore (lv' := [(5, .int x7), (0, .ref af), (1, .int p1), (2, .int b6_v2), (3, .int b6_v3), (4, .int b6_v4)]) hx hb dX3_depthOf_34 hl (by decide) rfl (fun ls hl => ?_)
          refine lv_aload_n hx hb dX3_depthOf_36 rfl (lv_at hl 1 rfl) ?_
          refine va_get (D := D) (ci := 3) (v := .ref afdry) (C := RX3) (T := TX3) (N := 5) hx hb hts iX3 hown hK hP 0 rfl rfl 0 (by decide) hF9 (fun _ h9 => h9) rfl dX3_depthOf_37 ?_
          refine lv_iload hx hb dX3_depthOf_40 (lv_at hl 0 rfl) ?_
          refine q_iald hx hb hK hP 1 0 rfl rfl hf dX3_depthOf_42 (fun x8 hf => ?_)
          refine lv_iload_n hx hb dX3_depthOf_43 rfl (lv_at hl 2 rfl) ?_
          refine q_icmp_ne hx hb hf 50 dX3_depthOf_44 (by decide) (fun hf => ?_) (fun hf => ?_)
          · refine lv_iload_n hx hb dX3_depthOf_50 rfl (lv_at hl 2 rfl) ?_
            refine lv_aload_n hx hb dX3_depthOf_51 rfl (lv_at hl 1 rfl) ?_
            refine va_get (D := D) (ci := 3) (v := .ref afdry) (C := RX3) (T := TX3) (N := 5) hx hb hts iX3 hown hK hP 0 rfl rfl 0 (by decide) hF9 (fun _ h9 => h9) rfl dX3_depthOf_52 ?_
            refine lv_iload hx hb dX3_depthOf_55 (lv_at hl 0 rfl) ?_
            refine q_iald hx hb hK hP 1 0 rfl rfl hf dX3_depthOf_57 (fun x9 hf => ?_)
            obtain ⟨J72_10, eJ72_10, hf⟩ := q_jn hf
            have hJ72_10 : ∀ (u10_0 : Int32) (u10_1 : Int32) (ls : Array Slot), J72_10 u10_0 u10_1 = some q → lv_has ls 6 [(0, .ref af), (1, .int p1), (2, .int u10_0), (3, .int u10_1), (4, .int b6_v4), (5, .int x7)] → W p l e ({ frames := 1, cells := 0, slots := 0, locals := 21 } : Room) s m args below meth c s.heap [] 0 0 QQ (F0 m 72 ls []) := by
              intro u10_0 u10_1 ls hf hl
              rw [eJ72_10] at hf
              refine lv_iinc (v := b6_v4 + (1 : Int32)) (lv' := [(4, .int (b6_v4 + (1 : Int32))), (0, .ref af), (1, .int p1), (2, .int u10_0), (3, .int u10_1), (5, .int x7)]) hx hb dX3_depthOf_72 hl (k := 4) rfl rfl (by decide) rfl (fun ls hl => ?_)
              refine lv_goto (tgt := 10) hx hb dX3_depthOf_75 (by decide) ?_
              exact ih _ _ _ _ hf (lv_sub hl [1, 2, 3, 4, 0] rfl)
            refine q_icmp_ge hx hb hf 67 dX3_depthOf_58 (by decide) (fun hf => ?_) (fun hf => ?_)
            · refine lv_iload hx hb dX3_depthOf_67 (lv_at hl 0 rfl) ?_
              refine lv_iconst (v := 1) hx hb dX3_depthOf_69 (by decide) ?_
              refine lv_iadd hx hb dX3_depthOf_70 ?_
              refine lv_istore_n (lv' := [(2, .int (x7 + ((1 : Int32)))), (5, .int x7), (0, .ref af), (1, .int p1), (3, .int b6_v3), (4, .int b6_v4)]) hx hb dX3_depthOf_71 rfl hl (by decide) rfl (fun ls hl => ?_)
              exact hJ72_10 _ _ _ hf (lv_sub hl [2, 3, 0, 4, 5, 1] rfl)
            · refine lv_iload hx hb dX3_depthOf_61 (lv_at hl 0 rfl) ?_
              refine lv_istore_n (lv' := [(3, .int x7), (5, .int x7), (0, .ref af), (1, .int p1), (2, .int b6_v2), (4, .int b6_v4)]) hx hb dX3_depthOf_63 rfl hl (by decide) rfl (fun ls hl => ?_)
              refine lv_goto (tgt := 72) hx hb dX3_depthOf_64 (by decide) ?_
              exact hJ72_10 _ _ _ hf (lv_sub hl [2, 3, 4, 0, 5, 1] rfl)
          · refine lv_iload hx hb dX3_depthOf_47 (lv_at hl 5 rfl) ?_
            exact hRet _ _ _ rfl (Option.some.inj hf) dX3_depthOf_49
  refine hL10 _ (fun k5_v2 k5_v3 k5_v4 ls hf hl => ?_) fu _ _ _ _ hf (lv_sub hl [3, 4, 2, 1, 0] rfl)
  refine lv_bipush (v := -9) hx hb dX3_depthOf_78 (by decide) ?_
  exact hRet _ _ _ rfl (Option.some.inj hf) dX3_depthOf_80
set_option maxHeartbeats 4000000 in
set_option maxRecDepth 100000 in
theorem kX3_grow (l : Launch) (D : va_G) (cI cR : ClassId) (af afdry afaskedUpTo afcosts afroots an ankind anpage anasked ansent : Nat) (f_dry : Nat → Int32) (f_askedUpTo : Nat → Int32) (f_costs : Nat → Int32) (f_roots : Nat → Int32) (f_size : Int32) (n_kind : Nat → Int32) (n_page : Nat → Int32) (n_asked : Nat → Int32) (n_sent : Nat → Int32) (n_count : Int32) (n_wetSet : Int32) (q : (Nat → Int32) × (Nat → Int32) × (Nat → Int32) × (Nat → Int32) × Int32) (hf : pX3_grow f_dry f_askedUpTo f_costs f_roots f_size n_asked n_count n_wetSet = some q) : CWv l yX3_grow wsX3_grow ({ frames := 2, cells := 0, slots := 0, locals := 47 } : Room) D cI cR [.ref af, .ref an] [(af, .inr (3, [.ref afdry, .ref afaskedUpTo, .ref afcosts, .ref afroots, .int f_size])), (afdry, .inl (cI, 7, .inl f_dry)), (afaskedUpTo, .inl (cI, 8, .inl f_askedUpTo)), (afcosts, .inl (cI, 64, .inl f_costs)), (afroots, .inl (cI, 64, .inl f_roots)), (an, .inr (4, [.ref ankind, .ref anpage, .ref anasked, .ref ansent, .int n_count, .int n_wetSet])), (ankind, .inl (cI, 7, .inl n_kind)), (anpage, .inl (cI, 7, .inl n_page)), (anasked, .inl (cI, 7, .inl n_asked)), (ansent, .inl (cI, 7, .inl n_sent))] [(af, .inr (3, [.ref afdry, .ref afaskedUpTo, .ref afcosts, .ref afroots, .int q.2.2.2.2])), (afdry, .inl (cI, 7, .inl q.1)), (afaskedUpTo, .inl (cI, 8, .inl q.2.1)), (afcosts, .inl (cI, 64, .inl q.2.2.1)), (afroots, .inl (cI, 64, .inl q.2.2.2.1)), (an, .inr (4, [.ref ankind, .ref anpage, .ref anasked, .ref ansent, .int n_count, .int n_wetSet])), (ankind, .inl (cI, 7, .inl n_kind)), (anpage, .inl (cI, 7, .inl n_page)), (anasked, .inl (cI, 7, .inl n_asked)), (ansent, .inl (cI, 7, .inl n_sent))] := by
  refine CWv.intro (cc := cX3_grow) (maxL := 4) (by decide) rfl (Nat.le_of_ble_eq_true rfl) ?_
  intro p e s m args below meth c hx hb hml hts hown hP hK hN A hA hD hS QQ hRet ls hl
  have hown : s.vm.findClass RX3 = some m.cls := hown
  have hl : lv_has ls 4 [(0, .ref af), (1, .ref an)] := hl
  have iX3 : ∀ w ∈ u_ws RX3 TX3 5, w ∈ wsX3_grow := by decide +kernel
  have iX4 : ∀ w ∈ u_ws RX4 TX4 6, w ∈ wsX3_grow := by decide +kernel
  have hF15 := hts (.fieldLink RX3 15 "WorldIndex$SearchTree" "askedUpTo" "[I") (by decide +kernel)
  have hF24 := hts (.fieldLink RX3 24 "WorldIndex$SearchTree" "size" "I") (by decide +kernel)
  have hF9 := hts (.fieldLink RX3 9 "WorldIndex$SearchTree" "dry" "[I") (by decide +kernel)
  have hG28 := NN.f (args := args) hN "WorldIndex$SearchTree" 28 "WorldIndex$Slips" "count" "I" "WorldIndex" (by decide +kernel)
  have hG37 := NN.f (args := args) hN "WorldIndex$SearchTree" 37 "WorldIndex$Slips" "asked" "[I" "WorldIndex" (by decide +kernel)
  unfold pX3_grow at hf
  refine lv_aload_n hx hb dX3_grow_0 rfl (lv_at hl 0 rfl) ?_
  refine lv_iconst (v := 0) hx hb dX3_grow_1 (by decide) ?_
  refine va_put (D := D) (ci := 3) (v := .int ((0 : Int32))) (ty := .int) (C := RX3) (T := TX3) (N := 5) hx hb hts iX3 tyX3 tyX3_ok nmX3 hown hK hP hD hS 0 rfl rfl 4 (by decide) hF24 (fun _ h9 => h9) rfl (tyX3_ok 4 (by decide)) rfl rfl (Nat.le_of_ble_eq_true rfl) dX3_grow_2 (fun H locs hP hD hS => ?_)
  have hP : va_P D vwCl [(af, .inr (3, [.ref afdry, .ref afaskedUpTo, .ref afcosts, .ref afroots, .int ((0 : Int32))])), (afdry, .inl (cI, 7, .inl f_dry)), (afaskedUpTo, .inl (cI, 8, .inl f_askedUpTo)), (afcosts, .inl (cI, 64, .inl f_costs)), (afroots, .inl (cI, 64, .inl f_roots)), (an, .inr (4, [.ref ankind, .ref anpage, .ref anasked, .ref ansent, .int n_count, .int n_wetSet])), (ankind, .inl (cI, 7, .inl n_kind)), (anpage, .inl (cI, 7, .inl n_page)), (anasked, .inl (cI, 7, .inl n_asked)), (ansent, .inl (cI, 7, .inl n_sent))] H := hP
  have hD : va_D A [(af, .inr (3, [.ref afdry, .ref afaskedUpTo, .ref afcosts, .ref afroots, .int ((0 : Int32))])), (afdry, .inl (cI, 7, .inl f_dry)), (afaskedUpTo, .inl (cI, 8, .inl f_askedUpTo)), (afcosts, .inl (cI, 64, .inl f_costs)), (afroots, .inl (cI, 64, .inl f_roots)), (an, .inr (4, [.ref ankind, .ref anpage, .ref anasked, .ref ansent, .int n_count, .int n_wetSet])), (ankind, .inl (cI, 7, .inl n_kind)), (anpage, .inl (cI, 7, .inl n_page)), (anasked, .inl (cI, 7, .inl n_asked)), (ansent, .inl (cI, 7, .inl n_sent))] := hD
  refine lv_iconst (v := 0) hx hb dX3_grow_5 (by decide) ?_
  refine lv_istore_n (lv' := [(2, .int ((0 : Int32))), (0, .ref af), (1, .ref an)]) hx hb dX3_grow_6 rfl hl (by decide) rfl (fun ls hl => ?_)
  have hL7 : ∀ (K : Int32 → (Nat → Int32) → (Nat → Int32) → Int32 → Option ((Nat → Int32) × (Nat → Int32) × (Nat → Int32) × (Nat → Int32) × Int32)) (hKK : ∀ (k6_v2 : Int32) (k6_w_f_dry : Nat → Int32) (k6_w_f_askedUpTo : Nat → Int32) (k6_w_f_size : Int32) (H : Heap) (locs : List Loc) (ls : Array Slot), K k6_v2 k6_w_f_dry k6_w_f_askedUpTo k6_w_f_size = some q → va_P D vwCl [(af, .inr (3, [.ref afdry, .ref afaskedUpTo, .ref afcosts, .ref afroots, .int k6_w_f_size])), (afdry, .inl (cI, 7, .inl k6_w_f_dry)), (afaskedUpTo, .inl (cI, 8, .inl k6_w_f_askedUpTo)), (afcosts, .inl (cI, 64, .inl f_costs)), (afroots, .inl (cI, 64, .inl f_roots)), (an, .inr (4, [.ref ankind, .ref anpage, .ref anasked, .ref ansent, .int n_count, .int n_wetSet])), (ankind, .inl (cI, 7, .inl n_kind)), (anpage, .inl (cI, 7, .inl n_page)), (anasked, .inl (cI, 7, .inl n_asked)), (ansent, .inl (cI, 7, .inl n_sent))] H → va_D A [(af, .inr (3, [.ref afdry, .ref afaskedUpTo, .ref afcosts, .ref afroots, .int k6_w_f_size])), (afdry, .inl (cI, 7, .inl k6_w_f_dry)), (afaskedUpTo, .inl (cI, 8, .inl k6_w_f_askedUpTo)), (afcosts, .inl (cI, 64, .inl f_costs)), (afroots, .inl (cI, 64, .inl f_roots)), (an, .inr (4, [.ref ankind, .ref anpage, .ref anasked, .ref ansent, .int n_count, .int n_wetSet])), (ankind, .inl (cI, 7, .inl n_kind)), (anpage, .inl (cI, 7, .inl n_page)), (anasked, .inl (cI, 7, .inl n_asked)), (ansent, .inl (cI, 7, .inl n_sent))] → va_S A s.heap H locs → lv_has ls 4 [(0, .ref af), (1, .ref an), (2, .int k6_v2)] → W p l e ({ frames := 2, cells := 0, slots := 0, locals := 47 } : Room) s m args below meth c H locs 0 0 QQ (F0 m 76 ls [])) (n : Nat), ∀ (b17_v2 : Int32) (b17_w_f_dry : Nat → Int32) (b17_w_f_askedUpTo : Nat → Int32) (b17_w_f_size : Int32) (H : Heap) (locs : List Loc) (ls : Array Slot), pX3_grow_L7 n_asked n_count n_wetSet K n b17_v2 b17_w_f_dry b17_w_f_askedUpTo b17_w_f_size = some q → va_P D vwCl [(af, .inr (3, [.ref afdry, .ref afaskedUpTo, .ref afcosts, .ref afroots, .int b17_w_f_size])), (afdry, .inl (cI, 7, .inl b17_w_f_dry)), (afaskedUpTo, .inl (cI, 8, .inl b17_w_f_askedUpTo)), (afcosts, .inl (cI, 64, .inl f_costs)), (afroots, .inl (cI, 64, .inl f_roots)), (an, .inr (4, [.ref ankind, .ref anpage, .ref anasked, .ref ansent, .int n_count, .int n_wetSet])), (ankind, .inl (cI, 7, .inl n_kind)), (anpage, .inl (cI, 7, .inl n_page)), (anasked, .inl (cI, 7, .inl n_asked)), (ansent, .inl (cI, 7, .inl n_sent))] H → va_D A [(af, .inr (3, [.ref afdry, .ref afaskedUpTo, .ref afcosts, .ref afroots, .int b17_w_f_size])), (afdry, .inl (cI, 7, .inl b17_w_f_dry)), (afaskedUpTo, .inl (cI, 8, .inl b17_w_f_askedUpTo)), (afcosts, .inl (cI, 64, .inl f_costs)), (afroots, .inl (cI, 64, .inl f_roots)), (an, .inr (4, [.ref ankind, .ref anpage, .ref anasked, .ref ansent, .int n_count, .int n_wetSet])), (ankind, .inl (cI, 7, .inl n_kind)), (anpage, .inl (cI, 7, .inl n_page)), (anasked, .inl (cI, 7, .inl n_asked)), (ansent, .inl (cI, 7, .inl n_sent))] → va_S A s.heap H locs → lv_has ls 4 [(0, .ref af), (1, .ref an), (2, .int b17_v2)] → W p l e ({ frames := 2, cells := 0, slots := 0, locals := 47 } : Room) s m args below meth c H locs 0 0 QQ (F0 m 7 ls []) := by
    intro K hKK n
    induction n with
    | zero =>
      intro b17_v2 b17_w_f_dry b17_w_f_askedUpTo b17_w_f_size H locs ls hf hP hD hS hl
      rw [pX3_grow_L7_z] at hf
      cases hf
    | succ n ih =>
      intro b17_v2 b17_w_f_dry b17_w_f_askedUpTo b17_w_f_size H locs ls hf hP hD hS hl
      rw [pX3_grow_L7_s] at hf
      refine lv_iload_n hx hb dX3_grow_7 rfl (lv_at hl 2 rfl) ?_
      refine lv_aload_n hx hb dX3_grow_8 rfl (lv_at hl 1 rfl) ?_
      refine va_getN (D := D) (ci := 4) (v := .int n_count) (C := RX4) (T := TX4) (N := 6) hx hb hts iX4 hown hK hP 5 rfl rfl 4 (by decide) hG28 (fun _ h9 => h9) rfl dX3_grow_9 ?_
      refine q_icmp_ge hx hb hf 76 dX3_grow_12 (by decide) (fun hf => ?_) (fun hf => ?_)
      · exact hKK _ _ _ _ _ _ _ hf hP hD hS (lv_sub hl [0, 1, 2] rfl)
      · refine lv_aload_n hx hb dX3_grow_15 rfl (lv_at hl 1 rfl) ?_
        refine lv_iload_n hx hb dX3_grow_16 rfl (lv_at hl 2 rfl) ?_
        refine q_rV (rest := []) ⟨hx, hb, hml, hown, hts⟩ (kX4_isWet l D cI cR an ankind anpage anasked ansent n_kind n_page n_asked n_sent n_count n_wetSet b17_v2 _ rfl) (cwV 1 hts gX3_grow_X4_isWet rfl rfl rfl (by decide +kernel) ⟨Nat.le_of_ble_eq_true rfl, Nat.le_of_ble_eq_true rfl⟩) (hP.sub [5, 6, 7, 8, 9] rfl) hK hN (va_recv hK hP (ci := 4) (q0 := 5) rfl rfl) rfl hl.1 rfl (Nat.le_of_ble_eq_true rfl) dX3_grow_17 ⟨Nat.le_of_ble_eq_true rfl, Nat.le_of_ble_eq_true rfl⟩ ?_
        obtain ⟨J70_18, eJ70_18, hf⟩ := q_jn hf
        have hJ70_18 : ∀ (u18_0 : Nat → Int32) (u18_1 : Nat → Int32) (u18_2 : Int32) (H : Heap) (locs : List Loc) (ls : Array Slot), J70_18 u18_0 u18_1 u18_2 = some q → va_P D vwCl [(af, .inr (3, [.ref afdry, .ref afaskedUpTo, .ref afcosts, .ref afroots, .int u18_2])), (afdry, .inl (cI, 7, .inl u18_0)), (afaskedUpTo, .inl (cI, 8, .inl u18_1)), (afcosts, .inl (cI, 64, .inl f_costs)), (afroots, .inl (cI, 64, .inl f_roots)), (an, .inr (4, [.ref ankind, .ref anpage, .ref anasked, .ref ansent, .int n_count, .int n_wetSet])), (ankind, .inl (cI, 7, .inl n_kind)), (anpage, .inl (cI, 7, .inl n_page)), (anasked, .inl (cI, 7, .inl n_asked)), (ansent, .inl (cI, 7, .inl n_sent))] H → va_D A [(af, .inr (3, [.ref afdry, .ref afaskedUpTo, .ref afcosts, .ref afroots, .int u18_2])), (afdry, .inl (cI, 7, .inl u18_0)), (afaskedUpTo, .inl (cI, 8, .inl u18_1)), (afcosts, .inl (cI, 64, .inl f_costs)), (afroots, .inl (cI, 64, .inl f_roots)), (an, .inr (4, [.ref ankind, .ref anpage, .ref anasked, .ref ansent, .int n_count, .int n_wetSet])), (ankind, .inl (cI, 7, .inl n_kind)), (anpage, .inl (cI, 7, .inl n_page)), (anasked, .inl (cI, 7, .inl n_asked)), (ansent, .inl (cI, 7, .inl n_sent))] → va_S A s.heap H locs → lv_has ls 4 [(0, .ref af), (1, .ref an), (2, .int b17_v2)] → W p l e ({ frames := 2, cells := 0, slots := 0, locals := 47 } : Room) s m args below meth c H locs 0 0 QQ (F0 m 70 ls []) := by
          intro u18_0 u18_1 u18_2 H locs ls hf hP hD hS hl
          rw [eJ70_18] at hf
          refine lv_iinc (v := b17_v2 + (1 : Int32)) (lv' := [(2, .int (b17_v2 + (1 : Int32))), (0, .ref af), (1, .ref an)]) hx hb dX3_grow_70 hl (k := 2) rfl rfl (by decide) rfl (fun ls hl => ?_)
          refine lv_goto (tgt := 7) hx hb dX3_grow_73 (by decide) ?_
          exact ih _ _ _ _ _ _ _ hf hP hD hS (lv_sub hl [1, 2, 0] rfl)
        refine q_if_ne hx hb hf 70 dX3_grow_20 (by decide) (fun hf => ?_) (fun hf => ?_)
        · exact hJ70_18 _ _ _ _ _ _ hf hP hD hS (lv_sub hl [0, 1, 2] rfl)
        · refine lv_aload_n hx hb dX3_grow_23 rfl (lv_at hl 0 rfl) ?_
          refine va_get (D := D) (ci := 3) (v := .ref afdry) (C := RX3) (T := TX3) (N := 5) hx hb hts iX3 hown hK hP 0 rfl rfl 0 (by decide) hF9 (fun _ h9 => h9) rfl dX3_grow_24 ?_
          refine lv_aload_n hx hb dX3_grow_27 rfl (lv_at hl 0 rfl) ?_
          refine va_get (D := D) (ci := 3) (v := .int b17_w_f_size) (C := RX3) (T := TX3) (N := 5) hx hb hts iX3 hown hK hP 0 rfl rfl 4 (by decide) hF24 (fun _ h9 => h9) rfl dX3_grow_28 ?_
          refine lv_iload_n hx hb dX3_grow_31 rfl (lv_at hl 2 rfl) ?_
          refine q_iast hx hb hK hP hD hS 1 0 rfl rfl hf dX3_grow_32 (fun g19 H locs hf hP hD hS => ?_)
          have hP : va_P D vwCl [(af, .inr (3, [.ref afdry, .ref afaskedUpTo, .ref afcosts, .ref afroots, .int b17_w_f_size])), (afdry, .inl (cI, 7, .inl g19)), (afaskedUpTo, .inl (cI, 8, .inl b17_w_f_askedUpTo)), (afcosts, .inl (cI, 64, .inl f_costs)), (afroots, .inl (cI, 64, .inl f_roots)), (an, .inr (4, [.ref ankind, .ref anpage, .ref anasked, .ref ansent, .int n_count, .int n_wetSet])), (ankind, .inl (cI, 7, .inl n_kind)), (anpage, .inl (cI, 7, .inl n_page)), (anasked, .inl (cI, 7, .inl n_asked)), (ansent, .inl (cI, 7, .inl n_sent))] H := hP
          have hD : va_D A [(af, .inr (3, [.ref afdry, .ref afaskedUpTo, .ref afcosts, .ref afroots, .int b17_w_f_size])), (afdry, .inl (cI, 7, .inl g19)), (afaskedUpTo, .inl (cI, 8, .inl b17_w_f_askedUpTo)), (afcosts, .inl (cI, 64, .inl f_costs)), (afroots, .inl (cI, 64, .inl f_roots)), (an, .inr (4, [.ref ankind, .ref anpage, .ref anasked, .ref ansent, .int n_count, .int n_wetSet])), (ankind, .inl (cI, 7, .inl n_kind)), (anpage, .inl (cI, 7, .inl n_page)), (anasked, .inl (cI, 7, .inl n_asked)), (ansent, .inl (cI, 7, .inl n_sent))] := hD
          refine lv_aload_n hx hb dX3_grow_33 rfl (lv_at hl 0 rfl) ?_
          refine va_get (D := D) (ci := 3) (v := .ref afaskedUpTo) (C := RX3) (T := TX3) (N := 5) hx hb hts iX3 hown hK hP 0 rfl rfl 1 (by decide) hF15 (fun _ h9 => h9) rfl dX3_grow_34 ?_
          refine lv_aload_n hx hb dX3_grow_37 rfl (lv_at hl 0 rfl) ?_
          refine va_get (D := D) (ci := 3) (v := .int b17_w_f_size) (C := RX3) (T := TX3) (N := 5) hx hb hts iX3 hown hK hP 0 rfl rfl 4 (by decide) hF24 (fun _ h9 => h9) rfl dX3_grow_38 ?_
          refine lv_iconst (v := 1) hx hb dX3_grow_41 (by decide) ?_
          refine lv_iadd hx hb dX3_grow_42 ?_
          refine lv_aload_n hx hb dX3_grow_43 rfl (lv_at hl 0 rfl) ?_
          refine va_get (D := D) (ci := 3) (v := .ref afaskedUpTo) (C := RX3) (T := TX3) (N := 5) hx hb hts iX3 hown hK hP 0 rfl rfl 1 (by decide) hF15 (fun _ h9 => h9) rfl dX3_grow_44 ?_
          refine lv_aload_n hx hb dX3_grow_47 rfl (lv_at hl 0 rfl) ?_
          refine va_get (D := D) (ci := 3) (v := .int b17_w_f_size) (C := RX3) (T := TX3) (N := 5) hx hb hts iX3 hown hK hP 0 rfl rfl 4 (by decide) hF24 (fun _ h9 => h9) rfl dX3_grow_48 ?_
          refine q_iald hx hb hK hP 2 0 rfl rfl hf dX3_grow_51 (fun x20 hf => ?_)
          refine lv_aload_n hx hb dX3_grow_52 rfl (lv_at hl 1 rfl) ?_
          refine va_getN (D := D) (ci := 4) (v := .ref anasked) (C := RX4) (T := TX4) (N := 6) hx hb hts iX4 hown hK hP 5 rfl rfl 2 (by decide) hG37 (fun _ h9 => h9) rfl dX3_grow_53 ?_
          refine lv_iload_n hx hb dX3_grow_56 rfl (lv_at hl 2 rfl) ?_
          refine q_iald hx hb hK hP 8 0 rfl rfl hf dX3_grow_57 (fun x21 hf => ?_)
          refine lv_iadd hx hb dX3_grow_58 ?_
          refine q_iast hx hb hK hP hD hS 2 0 rfl rfl hf dX3_grow_59 (fun g22 H locs hf hP hD hS => ?_)
          have hP : va_P D vwCl [(af, .inr (3, [.ref afdry, .ref afaskedUpTo, .ref afcosts, .ref afroots, .int b17_w_f_size])), (afdry, .inl (cI, 7, .inl g19)), (afaskedUpTo, .inl (cI, 8, .inl g22)), (afcosts, .inl (cI, 64, .inl f_costs)), (afroots, .inl (cI, 64, .inl f_roots)), (an, .inr (4, [.ref ankind, .ref anpage, .ref anasked, .ref ansent, .int n_count, .int n_wetSet])), (ankind, .inl (cI, 7, .inl n_kind)), (anpage, .inl (cI, 7, .inl n_page)), (anasked, .inl (cI, 7, .inl n_asked)), (ansent, .inl (cI, 7, .inl n_sent))] H := hP
          have hD : va_D A [(af, .inr (3, [.ref afdry, .ref afaskedUpTo, .ref afcosts, .ref afroots, .int b17_w_f_size])), (afdry, .inl (cI, 7, .inl g19)), (afaskedUpTo, .inl (cI, 8, .inl g22)), (afcosts, .inl (cI, 64, .inl f_costs)), (afroots, .inl (cI, 64, .inl f_roots)), (an, .inr (4, [.ref ankind, .ref anpage, .ref anasked, .ref ansent, .int n_count, .int n_wetSet])), (ankind, .inl (cI, 7, .inl n_kind)), (anpage, .inl (cI, 7, .inl n_page)), (anasked, .inl (cI, 7, .inl n_asked)), (ansent, .inl (cI, 7, .inl n_sent))] := hD
          refine lv_aload_n hx hb dX3_grow_60 rfl (lv_at hl 0 rfl) ?_
          refine lv_dup hx hb dX3_grow_61 rfl ?_
          refine va_get (D := D) (ci := 3) (v := .int b17_w_f_size) (C := RX3) (T := TX3) (N := 5) hx hb hts iX3 hown hK hP 0 rfl rfl 4 (by decide) hF24 (fun _ h9 => h9) rfl dX3_grow_62 ?_
          refine lv_iconst (v := 1) hx hb dX3_grow_65 (by decide) ?_
          refine lv_iadd hx hb dX3_grow_66 ?_
          refine va_put (D := D) (ci := 3) (v := .int (b17_w_f_size + ((1 : Int32)))) (ty := .int) (C := RX3) (T := TX3) (N := 5) hx hb hts iX3 tyX3 tyX3_ok nmX3 hown hK hP hD hS 0 rfl rfl 4 (by decide) hF24 (fun _ h9 => h9) rfl (tyX3_ok 4 (by decide)) rfl rfl (Nat.le_of_ble_eq_true rfl) dX3_grow_67 (fun H locs hP hD hS => ?_)
          have hP : va_P D vwCl [(af, .inr (3, [.ref afdry, .ref afaskedUpTo, .ref afcosts, .ref afroots, .int (b17_w_f_size + ((1 : Int32)))])), (afdry, .inl (cI, 7, .inl g19)), (afaskedUpTo, .inl (cI, 8, .inl g22)), (afcosts, .inl (cI, 64, .inl f_costs)), (afroots, .inl (cI, 64, .inl f_roots)), (an, .inr (4, [.ref ankind, .ref anpage, .ref anasked, .ref ansent, .int n_count, .int n_wetSet])), (ankind, .inl (cI, 7, .inl n_kind)), (anpage, .inl (cI, 7, .inl n_page)), (anasked, .inl (cI, 7, .inl n_asked)), (ansent, .inl (cI, 7, .inl n_sent))] H := hP
          have hD : va_D A [(af, .inr (3, [.ref afdry, .ref afaskedUpTo, .ref afcosts, .ref afroots, .int (b17_w_f_size + ((1 : Int32)))])), (afdry, .inl (cI, 7, .inl g19)), (afaskedUpTo, .inl (cI, 8, .inl g22)), (afcosts, .inl (cI, 64, .inl f_costs)), (afroots, .inl (cI, 64, .inl f_roots)), (an, .inr (4, [.ref ankind, .ref anpage, .ref anasked, .ref ansent, .int n_count, .int n_wetSet])), (ankind, .inl (cI, 7, .inl n_kind)), (anpage, .inl (cI, 7, .inl n_page)), (anasked, .inl (cI, 7, .inl n_asked)), (ansent, .inl (cI, 7, .inl n_sent))] := hD
          exact hJ70_18 _ _ _ _ _ _ hf hP hD hS (lv_sub hl [0, 1, 2] rfl)
  refine hL7 _ (fun k6_v2 k6_w_f_dry k6_w_f_askedUpTo k6_w_f_size H locs ls hf hP hD hS hl => ?_) fu _ _ _ _ _ _ _ hf hP hD hS (lv_sub hl [1, 2, 0] rfl)
  refine lv_iconst (v := 1) hx hb dX3_grow_76 (by decide) ?_
  refine lv_istore_n (lv' := [(2, .int ((1 : Int32))), (0, .ref af), (1, .ref an)]) hx hb dX3_grow_77 rfl hl (by decide) rfl (fun ls hl => ?_)
  have hL78 : ∀ (K : Int32 → (Nat → Int32) → (Nat → Int32) → Option ((Nat → Int32) × (Nat → Int32) × (Nat → Int32) × (Nat → Int32) × Int32)) (hKK : ∀ (k11_v2 : Int32) (k11_w_f_costs : Nat → Int32) (k11_w_f_roots : Nat → Int32) (H : Heap) (locs : List Loc) (ls : Array Slot), K k11_v2 k11_w_f_costs k11_w_f_roots = some q → va_P D vwCl [(af, .inr (3, [.ref afdry, .ref afaskedUpTo, .ref afcosts, .ref afroots, .int k6_w_f_size])), (afdry, .inl (cI, 7, .inl k6_w_f_dry)), (afaskedUpTo, .inl (cI, 8, .inl k6_w_f_askedUpTo)), (afcosts, .inl (cI, 64, .inl k11_w_f_costs)), (afroots, .inl (cI, 64, .inl k11_w_f_roots)), (an, .inr (4, [.ref ankind, .ref anpage, .ref anasked, .ref ansent, .int n_count, .int n_wetSet])), (ankind, .inl (cI, 7, .inl n_kind)), (anpage, .inl (cI, 7, .inl n_page)), (anasked, .inl (cI, 7, .inl n_asked)), (ansent, .inl (cI, 7, .inl n_sent))] H → va_D A [(af, .inr (3, [.ref afdry, .ref afaskedUpTo, .ref afcosts, .ref afroots, .int k6_w_f_size])), (afdry, .inl (cI, 7, .inl k6_w_f_dry)), (afaskedUpTo, .inl (cI, 8, .inl k6_w_f_askedUpTo)), (afcosts, .inl (cI, 64, .inl k11_w_f_costs)), (afroots, .inl (cI, 64, .inl k11_w_f_roots)), (an, .inr (4, [.ref ankind, .ref anpage, .ref anasked, .ref ansent, .int n_count, .int n_wetSet])), (ankind, .inl (cI, 7, .inl n_kind)), (anpage, .inl (cI, 7, .inl n_page)), (anasked, .inl (cI, 7, .inl n_asked)), (ansent, .inl (cI, 7, .inl n_sent))] → va_S A s.heap H locs → lv_has ls 4 [(0, .ref af), (1, .ref an), (2, .int k11_v2)] → W p l e ({ frames := 2, cells := 0, slots := 0, locals := 47 } : Room) s m args below meth c H locs 0 0 QQ (F0 m 118 ls [])) (n : Nat), ∀ (b12_v2 : Int32) (b12_w_f_costs : Nat → Int32) (b12_w_f_roots : Nat → Int32) (H : Heap) (locs : List Loc) (ls : Array Slot), pX3_grow_L78 k6_w_f_askedUpTo k6_w_f_size K n b12_v2 b12_w_f_costs b12_w_f_roots = some q → va_P D vwCl [(af, .inr (3, [.ref afdry, .ref afaskedUpTo, .ref afcosts, .ref afroots, .int k6_w_f_size])), (afdry, .inl (cI, 7, .inl k6_w_f_dry)), (afaskedUpTo, .inl (cI, 8, .inl k6_w_f_askedUpTo)), (afcosts, .inl (cI, 64, .inl b12_w_f_costs)), (afroots, .inl (cI, 64, .inl b12_w_f_roots)), (an, .inr (4, [.ref ankind, .ref anpage, .ref anasked, .ref ansent, .int n_count, .int n_wetSet])), (ankind, .inl (cI, 7, .inl n_kind)), (anpage, .inl (cI, 7, .inl n_page)), (anasked, .inl (cI, 7, .inl n_asked)), (ansent, .inl (cI, 7, .inl n_sent))] H → va_D A [(af, .inr (3, [.ref afdry, .ref afaskedUpTo, .ref afcosts, .ref afroots, .int k6_w_f_size])), (afdry, .inl (cI, 7, .inl k6_w_f_dry)), (afaskedUpTo, .inl (cI, 8, .inl k6_w_f_askedUpTo)), (afcosts, .inl (cI, 64, .inl b12_w_f_costs)), (afroots, .inl (cI, 64, .inl b12_w_f_roots)), (an, .inr (4, [.ref ankind, .ref anpage, .ref anasked, .ref ansent, .int n_count, .int n_wetSet])), (ankind, .inl (cI, 7, .inl n_kind)), (anpage, .inl (cI, 7, .inl n_page)), (anasked, .inl (cI, 7, .inl n_asked)), (ansent, .inl (cI, 7, .inl n_sent))] → va_S A s.heap H locs → lv_has ls 4 [(0, .ref af), (1, .ref an), (2, .int b12_v2)] → W p l e ({ frames := 2, cells := 0, slots := 0, locals := 47 } : Room) s m args below meth c H locs 0 0 QQ (F0 m 78 ls []) := by
    intro K hKK n
    induction n with
    | zero =>
      intro b12_v2 b12_w_f_costs b12_w_f_roots H locs ls hf hP hD hS hl
      rw [pX3_grow_L78_z] at hf
      cases hf
    | succ n ih =>
      intro b12_v2 b12_w_f_costs b12_w_f_roots H locs ls hf hP hD hS hl
      rw [pX3_grow_L78_s] at hf
      refine lv_iload_n hx hb dX3_grow_78 rfl (lv_at hl 2 rfl) ?_
      refine lv_aload_n hx hb dX3_grow_79 rfl (lv_at hl 0 rfl) ?_
      refine va_get (D := D) (ci := 3) (v := .int k6_w_f_size) (C := RX3) (T := TX3) (N := 5) hx hb hts iX3 hown hK hP 0 rfl rfl 4 (by decide) hF24 (fun _ h9 => h9) rfl dX3_grow_80 ?_
      refine q_icmp_gt hx hb hf 118 dX3_grow_83 (by decide) (fun hf => ?_) (fun hf => ?_)
      · exact hKK _ _ _ _ _ _ hf hP hD hS (lv_sub hl [0, 1, 2] rfl)
      · refine lv_iconst (v := 0) hx hb dX3_grow_86 (by decide) ?_
        refine lv_istore_n (lv' := [(3, .int ((0 : Int32))), (0, .ref af), (1, .ref an), (2, .int b12_v2)]) hx hb dX3_grow_87 rfl hl (by decide) rfl (fun ls hl => ?_)
        have hL88 : ∀ (K : Int32 → (Nat → Int32) → (Nat → Int32) → Option ((Nat → Int32) × (Nat → Int32) × (Nat → Int32) × (Nat → Int32) × Int32)) (hKK : ∀ (k14_v3 : Int32) (k14_w_f_costs : Nat → Int32) (k14_w_f_roots : Nat → Int32) (H : Heap) (locs : List Loc) (ls : Array Slot), K k14_v3 k14_w_f_costs k14_w_f_roots = some q → va_P D vwCl [(af, .inr (3, [.ref afdry, .ref afaskedUpTo, .ref afcosts, .ref afroots, .int k6_w_f_size])), (afdry, .inl (cI, 7, .inl k6_w_f_dry)), (afaskedUpTo, .inl (cI, 8, .inl k6_w_f_askedUpTo)), (afcosts, .inl (cI, 64, .inl k14_w_f_costs)), (afroots, .inl (cI, 64, .inl k14_w_f_roots)), (an, .inr (4, [.ref ankind, .ref anpage, .ref anasked, .ref ansent, .int n_count, .int n_wetSet])), (ankind, .inl (cI, 7, .inl n_kind)), (anpage, .inl (cI, 7, .inl n_page)), (anasked, .inl (cI, 7, .inl n_asked)), (ansent, .inl (cI, 7, .inl n_sent))] H → va_D A [(af, .inr (3, [.ref afdry, .ref afaskedUpTo, .ref afcosts, .ref afroots, .int k6_w_f_size])), (afdry, .inl (cI, 7, .inl k6_w_f_dry)), (afaskedUpTo, .inl (cI, 8, .inl k6_w_f_askedUpTo)), (afcosts, .inl (cI, 64, .inl k14_w_f_costs)), (afroots, .inl (cI, 64, .inl k14_w_f_roots)), (an, .inr (4, [.ref ankind, .ref anpage, .ref anasked, .ref ansent, .int n_count, .int n_wetSet])), (ankind, .inl (cI, 7, .inl n_kind)), (anpage, .inl (cI, 7, .inl n_page)), (anasked, .inl (cI, 7, .inl n_asked)), (ansent, .inl (cI, 7, .inl n_sent))] → va_S A s.heap H locs → lv_has ls 4 [(0, .ref af), (1, .ref an), (2, .int b12_v2), (3, .int k14_v3)] → W p l e ({ frames := 2, cells := 0, slots := 0, locals := 47 } : Room) s m args below meth c H locs 0 0 QQ (F0 m 112 ls [])) (n : Nat), ∀ (b15_v3 : Int32) (b15_w_f_costs : Nat → Int32) (b15_w_f_roots : Nat → Int32) (H : Heap) (locs : List Loc) (ls : Array Slot), pX3_grow_L88 b12_v2 k6_w_f_askedUpTo k6_w_f_size K n b15_v3 b15_w_f_costs b15_w_f_roots = some q → va_P D vwCl [(af, .inr (3, [.ref afdry, .ref afaskedUpTo, .ref afcosts, .ref afroots, .int k6_w_f_size])), (afdry, .inl (cI, 7, .inl k6_w_f_dry)), (afaskedUpTo, .inl (cI, 8, .inl k6_w_f_askedUpTo)), (afcosts, .inl (cI, 64, .inl b15_w_f_costs)), (afroots, .inl (cI, 64, .inl b15_w_f_roots)), (an, .inr (4, [.ref ankind, .ref anpage, .ref anasked, .ref ansent, .int n_count, .int n_wetSet])), (ankind, .inl (cI, 7, .inl n_kind)), (anpage, .inl (cI, 7, .inl n_page)), (anasked, .inl (cI, 7, .inl n_asked)), (ansent, .inl (cI, 7, .inl n_sent))] H → va_D A [(af, .inr (3, [.ref afdry, .ref afaskedUpTo, .ref afcosts, .ref afroots, .int k6_w_f_size])), (afdry, .inl (cI, 7, .inl k6_w_f_dry)), (afaskedUpTo, .inl (cI, 8, .inl k6_w_f_askedUpTo)), (afcosts, .inl (cI, 64, .inl b15_w_f_costs)), (afroots, .inl (cI, 64, .inl b15_w_f_roots)), (an, .inr (4, [.ref ankind, .ref anpage, .ref anasked, .ref ansent, .int n_count, .int n_wetSet])), (ankind, .inl (cI, 7, .inl n_kind)), (anpage, .inl (cI, 7, .inl n_page)), (anasked, .inl (cI, 7, .inl n_asked)), (ansent, .inl (cI, 7, .inl n_sent))] → va_S A s.heap H locs → lv_has ls 4 [(0, .ref af), (1, .ref an), (2, .int b12_v2), (3, .int b15_v3)] → W p l e ({ frames := 2, cells := 0, slots := 0, locals := 47 } : Room) s m args below meth c H locs 0 0 QQ (F0 m 88 ls []) := by
          intro K hKK n
          induction n with
          | zero =>
            intro b15_v3 b15_w_f_costs b15_w_f_roots H locs ls hf hP hD hS hl
            rw [pX3_grow_L88_z] at hf
            cases hf
          | succ n ih =>
            intro b15_v3 b15_w_f_costs b15_w_f_roots H locs ls hf hP hD hS hl
            rw [pX3_grow_L88_s] at hf
            refine lv_iload_n hx hb dX3_grow_88 rfl (lv_at hl 3 rfl) ?_
            refine lv_iload_n hx hb dX3_grow_89 rfl (lv_at hl 2 rfl) ?_
            refine lv_iadd hx hb dX3_grow_90 ?_
            refine lv_aload_n hx hb dX3_grow_91 rfl (lv_at hl 0 rfl) ?_
            refine va_get (D := D) (ci := 3) (v := .int k6_w_f_size) (C := RX3) (T := TX3) (N := 5) hx hb hts iX3 hown hK hP 0 rfl rfl 4 (by decide) hF24 (fun _ h9 => h9) rfl dX3_grow_92 ?_
            refine q_icmp_gt hx hb hf 112 dX3_grow_95 (by decide) (fun hf => ?_) (fun hf => ?_)
            · exact hKK _ _ _ _ _ _ hf hP hD hS (lv_sub hl [0, 1, 2, 3] rfl)
            · refine lv_aload_n hx hb dX3_grow_98 rfl (lv_at hl 0 rfl) ?_
              refine lv_iload_n hx hb dX3_grow_99 rfl (lv_at hl 3 rfl) ?_
              refine lv_iload_n hx hb dX3_grow_100 rfl (lv_at hl 3 rfl) ?_
              refine lv_iload_n hx hb dX3_grow_101 rfl (lv_at hl 2 rfl) ?_
              refine lv_iadd hx hb dX3_grow_102 ?_
              obtain ⟨z16, hz16, hf⟩ := bnd hf
              refine q_wVv (wr := [(an, .inr (4, [.ref ankind, .ref anpage, .ref anasked, .ref ansent, .int n_count, .int n_wetSet])), (ankind, .inl (cI, 7, .inl n_kind)), (anpage, .inl (cI, 7, .inl n_page)), (anasked, .inl (cI, 7, .inl n_asked)), (ansent, .inl (cI, 7, .inl n_sent))]) (rest := []) ⟨hx, hb, hml, hown, hts⟩ (kX3_chooseRoot l D cI cR af afdry afaskedUpTo afcosts afroots k6_w_f_dry k6_w_f_askedUpTo b15_w_f_costs b15_w_f_roots k6_w_f_size b15_v3 (b15_v3 + b12_v2) z16 hz16) (cwV 2 hts gX3_grow_X3_chooseRoot rfl rfl rfl (by decide +kernel) ⟨Nat.le_of_ble_eq_true rfl, Nat.le_of_ble_eq_true rfl⟩) hP hD hS hA hK hN [0, 1, 2, 3, 4] [5, 6, 7, 8, 9] rfl rfl (by decide) (by decide) (by decide) (va_recv hK hP (ci := 3) (q0 := 0) rfl rfl) rfl hl.1 rfl (Nat.le_of_ble_eq_true rfl) dX3_grow_103 ⟨Nat.le_of_ble_eq_true rfl, Nat.le_of_ble_eq_true rfl⟩ (fun H locs hP hD hS => ?_)
              have hP := hP.sub (ws' := [(af, .inr (3, [.ref afdry, .ref afaskedUpTo, .ref afcosts, .ref afroots, .int k6_w_f_size])), (afdry, .inl (cI, 7, .inl k6_w_f_dry)), (afaskedUpTo, .inl (cI, 8, .inl k6_w_f_askedUpTo)), (afcosts, .inl (cI, 64, .inl z16.1)), (afroots, .inl (cI, 64, .inl z16.2)), (an, .inr (4, [.ref ankind, .ref anpage, .ref anasked, .ref ansent, .int n_count, .int n_wetSet])), (ankind, .inl (cI, 7, .inl n_kind)), (anpage, .inl (cI, 7, .inl n_page)), (anasked, .inl (cI, 7, .inl n_asked)), (ansent, .inl (cI, 7, .inl n_sent))]) [5, 6, 7, 8, 9, 0, 1, 2, 3, 4] rfl
              have hD := hD.sub (ws' := [(af, .inr (3, [.ref afdry, .ref afaskedUpTo, .ref afcosts, .ref afroots, .int k6_w_f_size])), (afdry, .inl (cI, 7, .inl k6_w_f_dry)), (afaskedUpTo, .inl (cI, 8, .inl k6_w_f_askedUpTo)), (afcosts, .inl (cI, 64, .inl z16.1)), (afroots, .inl (cI, 64, .inl z16.2)), (an, .inr (4, [.ref ankind, .ref anpage, .ref anasked, .ref ansent, .int n_count, .int n_wetSet])), (ankind, .inl (cI, 7, .inl n_kind)), (anpage, .inl (cI, 7, .inl n_page)), (anasked, .inl (cI, 7, .inl n_asked)), (ansent, .inl (cI, 7, .inl n_sent))]) [5, 6, 7, 8, 9, 0, 1, 2, 3, 4] (by decide) rfl
              refine lv_iinc (v := b15_v3 + (1 : Int32)) (lv' := [(3, .int (b15_v3 + (1 : Int32))), (0, .ref af), (1, .ref an), (2, .int b12_v2)]) hx hb dX3_grow_106 hl (k := 3) rfl rfl (by decide) rfl (fun ls hl => ?_)
              refine lv_goto (tgt := 88) hx hb dX3_grow_109 (by decide) ?_
              exact ih _ _ _ _ _ _ hf hP hD hS (lv_sub hl [1, 2, 3, 0] rfl)
        refine hL88 _ (fun k14_v3 k14_w_f_costs k14_w_f_roots H locs ls hf hP hD hS hl => ?_) fu _ _ _ _ _ _ hf hP hD hS (lv_sub hl [1, 2, 3, 0] rfl)
        refine lv_iinc (v := b12_v2 + (1 : Int32)) (lv' := [(2, .int (b12_v2 + (1 : Int32))), (0, .ref af), (1, .ref an), (3, .int k14_v3)]) hx hb dX3_grow_112 hl (k := 2) rfl rfl (by decide) rfl (fun ls hl => ?_)
        refine lv_goto (tgt := 78) hx hb dX3_grow_115 (by decide) ?_
        exact ih _ _ _ _ _ _ hf hP hD hS (lv_sub hl [1, 2, 0] rfl)
  refine hL78 _ (fun k11_v2 k11_w_f_costs k11_w_f_roots H locs ls hf hP hD hS hl => ?_) fu _ _ _ _ _ _ hf hP hD hS (lv_sub hl [1, 2, 0] rfl)
  have hq9 := Option.some.inj hf
  subst hq9
  exact hRet _ _ _ _ hP hD hS dX3_grow_118
set_option maxHeartbeats 4000000 in
set_option maxRecDepth 100000 in
theorem kX3_leastCost (l : Launch) (D : va_G) (cI cR : ClassId) (af afdry afaskedUpTo afcosts afroots : Nat) (f_dry : Nat → Int32) (f_askedUpTo : Nat → Int32) (f_costs : Nat → Int32) (f_roots : Nat → Int32) (f_size : Int32) (q : Int32) (hf : pX3_leastCost f_costs f_size = some q) : CR l yX3_leastCost wsX3_leastCost ({ frames := 1, cells := 0, slots := 0, locals := 21 } : Room) D cI cR [.ref af] [(af, .inr (3, [.ref afdry, .ref afaskedUpTo, .ref afcosts, .ref afroots, .int f_size])), (afdry, .inl (cI, 7, .inl f_dry)), (afaskedUpTo, .inl (cI, 8, .inl f_askedUpTo)), (afcosts, .inl (cI, 64, .inl f_costs)), (afroots, .inl (cI, 64, .inl f_roots))] (.int q) := by
  refine CRi.intro (cc := cX3_leastCost) (maxL := 1) (ty := .int) (by decide) rfl (Nat.le_of_ble_eq_true rfl) ?_
  intro p e s m args below meth c hx hb hml hts hown hP hK hN QQ hRet ls hl
  have hown : s.vm.findClass RX3 = some m.cls := hown
  have hl : lv_has ls 1 [(0, .ref af)] := hl
  have iX3 : ∀ w ∈ u_ws RX3 TX3 5, w ∈ wsX3_leastCost := by decide +kernel
  have hF18 := hts (.fieldLink RX3 18 "WorldIndex$SearchTree" "costs" "[I") (by decide +kernel)
  have hF24 := hts (.fieldLink RX3 24 "WorldIndex$SearchTree" "size" "I") (by decide +kernel)
  unfold pX3_leastCost at hf
  refine lv_aload_n hx hb dX3_leastCost_0 rfl (lv_at hl 0 rfl) ?_
  refine va_get (D := D) (ci := 3) (v := .ref afcosts) (C := RX3) (T := TX3) (N := 5) hx hb hts iX3 hown hK hP 0 rfl rfl 2 (by decide) hF18 (fun _ h9 => h9) rfl dX3_leastCost_1 ?_
  refine lv_iconst (v := 0) hx hb dX3_leastCost_4 (by decide) ?_
  refine lv_aload_n hx hb dX3_leastCost_5 rfl (lv_at hl 0 rfl) ?_
  refine va_get (D := D) (ci := 3) (v := .int f_size) (C := RX3) (T := TX3) (N := 5) hx hb hts iX3 hown hK hP 0 rfl rfl 4 (by decide) hF24 (fun _ h9 => h9) rfl dX3_leastCost_6 ?_
  refine q_rS (rest := [.ref afcosts]) ⟨hx, hb, hml, hown, hts⟩ (kX3_partOf l D cI cR ((0 : Int32)) f_size _ rfl) (va_cwS 2 hts gX3_leastCost_X3_partOf rfl rfl rfl (by decide +kernel) ⟨Nat.le_of_ble_eq_true rfl, Nat.le_of_ble_eq_true rfl⟩) (hP.sub [] rfl) hK hN rfl hl.1 rfl (Nat.le_of_ble_eq_true rfl) dX3_leastCost_9 ⟨Nat.le_of_ble_eq_true rfl, Nat.le_of_ble_eq_true rfl⟩ ?_
  refine q_iald hx hb hK hP 3 0 rfl rfl hf dX3_leastCost_12 (fun x1 hf => ?_)
  exact hRet _ _ _ rfl (Option.some.inj hf) dX3_leastCost_13
set_option maxHeartbeats 4000000 in
set_option maxRecDepth 100000 in
theorem kX4_air (l : Launch) (D : va_G) (cI cR : ClassId) (as askind aspage asasked assent : Nat) (s_kind : Nat → Int32) (s_page : Nat → Int32) (s_asked : Nat → Int32) (s_sent : Nat → Int32) (s_count : Int32) (s_wetSet : Int32) (p1 : Int32) (q : Int32 × Int32) (hf : pX4_air s_wetSet p1 = some q) : CWi l yX4_air wsX4_air ({ frames := 1, cells := 0, slots := 0, locals := 21 } : Room) D cI cR [.ref as, .int p1] [(as, .inr (4, [.ref askind, .ref aspage, .ref asasked, .ref assent, .int s_count, .int s_wetSet])), (askind, .inl (cI, 7, .inl s_kind)), (aspage, .inl (cI, 7, .inl s_page)), (asasked, .inl (cI, 7, .inl s_asked)), (assent, .inl (cI, 7, .inl s_sent))] [(as, .inr (4, [.ref askind, .ref aspage, .ref asasked, .ref assent, .int s_count, .int q.2])), (askind, .inl (cI, 7, .inl s_kind)), (aspage, .inl (cI, 7, .inl s_page)), (asasked, .inl (cI, 7, .inl s_asked)), (assent, .inl (cI, 7, .inl s_sent))] q.1 := by
  refine CWi.intro (cc := cX4_air) (maxL := 2) (ty := .boolean) (by decide) rfl (Nat.le_of_ble_eq_true rfl) ?_
  intro p e s m args below meth c hx hb hml hts hown hP hK hN A hA hD hS QQ hRet ls hl
  have hown : s.vm.findClass RX4 = some m.cls := hown
  have hl : lv_has ls 2 [(0, .ref as), (1, .int p1)] := hl
  have iX4 : ∀ w ∈ u_ws RX4 TX4 6, w ∈ wsX4_air := by decide +kernel
  have hF34 := hts (.fieldLink RX4 34 "WorldIndex$Slips" "wetSet" "I") (by decide +kernel)
  unfold pX4_air at hf
  refine lv_aload_n hx hb dX4_air_0 rfl (lv_at hl 0 rfl) ?_
  refine lv_iload_n hx hb dX4_air_1 rfl (lv_at hl 1 rfl) ?_
  refine q_rV (rest := []) ⟨hx, hb, hml, hown, hts⟩ (kX4_isWet l D cI cR as askind aspage asasked assent s_kind s_page s_asked s_sent s_count s_wetSet p1 _ rfl) (cwV 1 hts gX4_air_X4_isWet rfl rfl rfl (by decide +kernel) ⟨Nat.le_of_ble_eq_true rfl, Nat.le_of_ble_eq_true rfl⟩) hP hK hN (va_recv hK hP (ci := 4) (q0 := 0) rfl rfl) rfl hl.1 rfl (Nat.le_of_ble_eq_true rfl) dX4_air_2 ⟨Nat.le_of_ble_eq_true rfl, Nat.le_of_ble_eq_true rfl⟩ ?_
  refine q_if_ne hx hb hf 10 dX4_air_5 (by decide) (fun hf => ?_) (fun hf => ?_)
  · refine lv_aload_n hx hb dX4_air_10 rfl (lv_at hl 0 rfl) ?_
    refine lv_dup hx hb dX4_air_11 rfl ?_
    refine va_get (D := D) (ci := 4) (v := .int s_wetSet) (C := RX4) (T := TX4) (N := 6) hx hb hts iX4 hown hK hP 0 rfl rfl 5 (by decide) hF34 (fun _ h9 => h9) rfl dX4_air_12 ?_
    refine lv_iconst (v := 1) hx hb dX4_air_15 (by decide) ?_
    refine lv_iload_n hx hb dX4_air_16 rfl (lv_at hl 1 rfl) ?_
    refine lv_ishl hx hb dX4_air_17 ?_
    refine lv_iconst (v := -1) hx hb dX4_air_18 (by decide) ?_
    refine lv_ixor hx hb dX4_air_19 ?_
    refine lv_iand hx hb dX4_air_20 ?_
    refine va_put (D := D) (ci := 4) (v := .int (s_wetSet &&& ((((1 : Int32)) <<< (p1 &&& 31)) ^^^ ((-1 : Int32))))) (ty := .int) (C := RX4) (T := TX4) (N := 6) hx hb hts iX4 tyX4 tyX4_ok nmX4 hown hK hP hD hS 0 rfl rfl 5 (by decide) hF34 (fun _ h9 => h9) rfl (tyX4_ok 5 (by decide)) rfl rfl (Nat.le_of_ble_eq_true rfl) dX4_air_21 (fun H locs hP hD hS => ?_)
    have hP : va_P D vwCl [(as, .inr (4, [.ref askind, .ref aspage, .ref asasked, .ref assent, .int s_count, .int (s_wetSet &&& ((((1 : Int32)) <<< (p1 &&& 31)) ^^^ ((-1 : Int32))))])), (askind, .inl (cI, 7, .inl s_kind)), (aspage, .inl (cI, 7, .inl s_page)), (asasked, .inl (cI, 7, .inl s_asked)), (assent, .inl (cI, 7, .inl s_sent))] H := hP
    have hD : va_D A [(as, .inr (4, [.ref askind, .ref aspage, .ref asasked, .ref assent, .int s_count, .int (s_wetSet &&& ((((1 : Int32)) <<< (p1 &&& 31)) ^^^ ((-1 : Int32))))])), (askind, .inl (cI, 7, .inl s_kind)), (aspage, .inl (cI, 7, .inl s_page)), (asasked, .inl (cI, 7, .inl s_asked)), (assent, .inl (cI, 7, .inl s_sent))] := hD
    refine lv_iconst (v := 1) hx hb dX4_air_24 (by decide) ?_
    have hq9 := Option.some.inj hf
    subst hq9
    exact hRet _ _ _ _ _ (by decide) rfl hP hD hS dX4_air_25
  · refine lv_iconst (v := 0) hx hb dX4_air_8 (by decide) ?_
    have hq9 := Option.some.inj hf
    subst hq9
    exact hRet _ _ _ _ _ (by decide) rfl hP hD hS dX4_air_9
set_option maxHeartbeats 4000000 in
set_option maxRecDepth 100000 in
theorem kX5_slipsIn (l : Launch) (D : va_G) (cI cR : ClassId) (p0 : Int32) (q : Int32) (hf : pX5_slipsIn p0 = some q) : CR l yX5_slipsIn wsX5_slipsIn ({ frames := 0, cells := 0, slots := 0, locals := 0 } : Room) D cI cR [.int p0] [] (.int q) := by
  refine CRi.intro (cc := cX5_slipsIn) (maxL := 1) (ty := .int) (by decide) rfl (Nat.le_of_ble_eq_true rfl) ?_
  intro p e s m args below meth c hx hb hml hts hown hP hK hN QQ hRet ls hl
  have hown : s.vm.findClass RX5 = some m.cls := hown
  have hl : lv_has ls 1 [(0, .int p0)] := hl
  unfold pX5_slipsIn at hf
  refine lv_iload_n hx hb dX5_slipsIn_0 rfl (lv_at hl 0 rfl) ?_
  refine lv_iconst (v := 1) hx hb dX5_slipsIn_1 (by decide) ?_
  refine lv_isub hx hb dX5_slipsIn_2 ?_
  refine lv_bipush (v := 6) hx hb dX5_slipsIn_3 (by decide) ?_
  refine q_idiv hx hb hf dX5_slipsIn_5 (fun z1 hf => ?_)
  exact hRet _ _ _ rfl (Option.some.inj hf) dX5_slipsIn_6
set_option maxHeartbeats 4000000 in
set_option maxRecDepth 100000 in
theorem kX5_kindOf (l : Launch) (D : va_G) (cI cR : ClassId) (p0 : Int32) (q : Int32) (hf : pX5_kindOf p0 = q) : CR l yX5_kindOf wsX5_kindOf ({ frames := 0, cells := 0, slots := 0, locals := 0 } : Room) D cI cR [.int p0] [] (.int q) := by
  refine CRi.intro (cc := cX5_kindOf) (maxL := 1) (ty := .int) (by decide) rfl (Nat.le_of_ble_eq_true rfl) ?_
  intro p e s m args below meth c hx hb hml hts hown hP hK hN QQ hRet ls hl
  have hown : s.vm.findClass RX5 = some m.cls := hown
  have hl : lv_has ls 1 [(0, .int p0)] := hl
  unfold pX5_kindOf at hf
  refine lv_iload_n hx hb dX5_kindOf_0 rfl (lv_at hl 0 rfl) ?_
  refine lv_bipush (v := 98) hx hb dX5_kindOf_1 (by decide) ?_
  refine q_icmp_ne hx hb hf 8 dX5_kindOf_3 (by decide) (fun hf => ?_) (fun hf => ?_)
  · refine lv_iload_n hx hb dX5_kindOf_8 rfl (lv_at hl 0 rfl) ?_
    refine lv_bipush (v := 100) hx hb dX5_kindOf_9 (by decide) ?_
    refine q_icmp_ne hx hb hf 18 dX5_kindOf_11 (by decide) (fun hf => ?_) (fun hf => ?_)
    · refine lv_iconst (v := 0) hx hb dX5_kindOf_18 (by decide) ?_
      exact hRet _ _ _ rfl hf dX5_kindOf_19
    · refine lv_iconst (v := 1) hx hb dX5_kindOf_14 (by decide) ?_
      refine lv_goto (tgt := 19) hx hb dX5_kindOf_15 (by decide) ?_
      exact hRet _ _ _ rfl hf dX5_kindOf_19
  · refine lv_iconst (v := 2) hx hb dX5_kindOf_6 (by decide) ?_
    exact hRet _ _ _ rfl hf dX5_kindOf_7
set_option maxHeartbeats 4000000 in
set_option maxRecDepth 100000 in
theorem kX4_has (l : Launch) (D : va_G) (cI cR : ClassId) (as askind aspage asasked assent : Nat) (s_kind : Nat → Int32) (s_page : Nat → Int32) (s_asked : Nat → Int32) (s_sent : Nat → Int32) (s_count : Int32) (s_wetSet : Int32) (p1 : Int32) (q : Int32) (hf : pX4_has s_count p1 = q) : CR l yX4_has wsX4_has ({ frames := 0, cells := 0, slots := 0, locals := 0 } : Room) D cI cR [.ref as, .int p1] [(as, .inr (4, [.ref askind, .ref aspage, .ref asasked, .ref assent, .int s_count, .int s_wetSet])), (askind, .inl (cI, 7, .inl s_kind)), (aspage, .inl (cI, 7, .inl s_page)), (asasked, .inl (cI, 7, .inl s_asked)), (assent, .inl (cI, 7, .inl s_sent))] (.int q) := by
  refine CRi.intro (cc := cX4_has) (maxL := 2) (ty := .boolean) (by decide) rfl (Nat.le_of_ble_eq_true rfl) ?_
  intro p e s m args below meth c hx hb hml hts hown hP hK hN QQ hRet ls hl
  have hown : s.vm.findClass RX4 = some m.cls := hown
  have hl : lv_has ls 2 [(0, .ref as), (1, .int p1)] := hl
  have iX4 : ∀ w ∈ u_ws RX4 TX4 6, w ∈ wsX4_has := by decide +kernel
  have hF24 := hts (.fieldLink RX4 24 "WorldIndex$Slips" "count" "I") (by decide +kernel)
  unfold pX4_has at hf
  refine lv_iload_n hx hb dX4_has_0 rfl (lv_at hl 1 rfl) ?_
  refine q_if_lt hx hb hf 16 dX4_has_1 (by decide) (fun hf => ?_) (fun hf => ?_)
  · refine lv_iconst (v := 0) hx hb dX4_has_16 (by decide) ?_
    exact hRet _ _ _ (by decide) hf dX4_has_17
  · refine lv_iload_n hx hb dX4_has_4 rfl (lv_at hl 1 rfl) ?_
    refine lv_aload_n hx hb dX4_has_5 rfl (lv_at hl 0 rfl) ?_
    refine va_get (D := D) (ci := 4) (v := .int s_count) (C := RX4) (T := TX4) (N := 6) hx hb hts iX4 hown hK hP 0 rfl rfl 4 (by decide) hF24 (fun _ h9 => h9) rfl dX4_has_6 ?_
    refine q_icmp_ge hx hb hf 16 dX4_has_9 (by decide) (fun hf => ?_) (fun hf => ?_)
    · refine lv_iconst (v := 0) hx hb dX4_has_16 (by decide) ?_
      exact hRet _ _ _ (by decide) hf dX4_has_17
    · refine lv_iconst (v := 1) hx hb dX4_has_12 (by decide) ?_
      refine lv_goto (tgt := 17) hx hb dX4_has_13 (by decide) ?_
      exact hRet _ _ _ (by decide) hf dX4_has_17
set_option maxHeartbeats 4000000 in
set_option maxRecDepth 100000 in
theorem kX4_send (l : Launch) (D : va_G) (cI cR : ClassId) (as askind aspage asasked assent : Nat) (s_kind : Nat → Int32) (s_page : Nat → Int32) (s_asked : Nat → Int32) (s_sent : Nat → Int32) (s_count : Int32) (s_wetSet : Int32) (p1 : Int32) (p2 : Int32) (q : (Nat → Int32)) (hf : pX4_send s_sent s_count p1 p2 = some q) : CWv l yX4_send wsX4_send ({ frames := 1, cells := 0, slots := 0, locals := 21 } : Room) D cI cR [.ref as, .int p1, .int p2] [(as, .inr (4, [.ref askind, .ref aspage, .ref asasked, .ref assent, .int s_count, .int s_wetSet])), (askind, .inl (cI, 7, .inl s_kind)), (aspage, .inl (cI, 7, .inl s_page)), (asasked, .inl (cI, 7, .inl s_asked)), (assent, .inl (cI, 7, .inl s_sent))] [(as, .inr (4, [.ref askind, .ref aspage, .ref asasked, .ref assent, .int s_count, .int s_wetSet])), (askind, .inl (cI, 7, .inl s_kind)), (aspage, .inl (cI, 7, .inl s_page)), (asasked, .inl (cI, 7, .inl s_asked)), (assent, .inl (cI, 7, .inl q))] := by
  refine CWv.intro (cc := cX4_send) (maxL := 3) (by decide) rfl (Nat.le_of_ble_eq_true rfl) ?_
  intro p e s m args below meth c hx hb hml hts hown hP hK hN A hA hD hS QQ hRet ls hl
  have hown : s.vm.findClass RX4 = some m.cls := hown
  have hl : lv_has ls 3 [(0, .ref as), (1, .int p1), (2, .int p2)] := hl
  have iX4 : ∀ w ∈ u_ws RX4 TX4 6, w ∈ wsX4_send := by decide +kernel
  have hF21 := hts (.fieldLink RX4 21 "WorldIndex$Slips" "sent" "[I") (by decide +kernel)
  unfold pX4_send at hf
  refine lv_aload_n hx hb dX4_send_0 rfl (lv_at hl 0 rfl) ?_
  refine va_get (D := D) (ci := 4) (v := .ref assent) (C := RX4) (T := TX4) (N := 6) hx hb hts iX4 hown hK hP 0 rfl rfl 3 (by decide) hF21 (fun _ h9 => h9) rfl dX4_send_1 ?_
  refine lv_iload_n hx hb dX4_send_4 rfl (lv_at hl 1 rfl) ?_
  refine lv_aload_n hx hb dX4_send_5 rfl (lv_at hl 0 rfl) ?_
  refine lv_iload_n hx hb dX4_send_6 rfl (lv_at hl 2 rfl) ?_
  refine q_rV (rest := [.int p1, .ref assent]) ⟨hx, hb, hml, hown, hts⟩ (kX4_has l D cI cR as askind aspage asasked assent s_kind s_page s_asked s_sent s_count s_wetSet p2 _ rfl) (cwV 1 hts gX4_send_X4_has rfl rfl rfl (by decide +kernel) ⟨Nat.le_of_ble_eq_true rfl, Nat.le_of_ble_eq_true rfl⟩) hP hK hN (va_recv hK hP (ci := 4) (q0 := 0) rfl rfl) rfl hl.1 rfl (Nat.le_of_ble_eq_true rfl) dX4_send_7 ⟨Nat.le_of_ble_eq_true rfl, Nat.le_of_ble_eq_true rfl⟩ ?_
  refine q_if_eq hx hb hf 17 dX4_send_10 (by decide) (fun hf => ?_) (fun hf => ?_)
  · refine lv_bipush (v := -9) hx hb dX4_send_17 (by decide) ?_
    refine q_iast hx hb hK hP hD hS 4 0 rfl rfl hf dX4_send_19 (fun g1 H locs hf hP hD hS => ?_)
    have hP : va_P D vwCl [(as, .inr (4, [.ref askind, .ref aspage, .ref asasked, .ref assent, .int s_count, .int s_wetSet])), (askind, .inl (cI, 7, .inl s_kind)), (aspage, .inl (cI, 7, .inl s_page)), (asasked, .inl (cI, 7, .inl s_asked)), (assent, .inl (cI, 7, .inl g1))] H := hP
    have hD : va_D A [(as, .inr (4, [.ref askind, .ref aspage, .ref asasked, .ref assent, .int s_count, .int s_wetSet])), (askind, .inl (cI, 7, .inl s_kind)), (aspage, .inl (cI, 7, .inl s_page)), (asasked, .inl (cI, 7, .inl s_asked)), (assent, .inl (cI, 7, .inl g1))] := hD
    have hq9 := Option.some.inj hf
    subst hq9
    exact hRet _ _ _ _ hP hD hS dX4_send_20
  · refine lv_iload_n hx hb dX4_send_13 rfl (lv_at hl 2 rfl) ?_
    refine lv_goto (tgt := 19) hx hb dX4_send_14 (by decide) ?_
    refine q_iast hx hb hK hP hD hS 4 0 rfl rfl hf dX4_send_19 (fun g2 H locs hf hP hD hS => ?_)
    have hP : va_P D vwCl [(as, .inr (4, [.ref askind, .ref aspage, .ref asasked, .ref assent, .int s_count, .int s_wetSet])), (askind, .inl (cI, 7, .inl s_kind)), (aspage, .inl (cI, 7, .inl s_page)), (asasked, .inl (cI, 7, .inl s_asked)), (assent, .inl (cI, 7, .inl g2))] H := hP
    have hD : va_D A [(as, .inr (4, [.ref askind, .ref aspage, .ref asasked, .ref assent, .int s_count, .int s_wetSet])), (askind, .inl (cI, 7, .inl s_kind)), (aspage, .inl (cI, 7, .inl s_page)), (asasked, .inl (cI, 7, .inl s_asked)), (assent, .inl (cI, 7, .inl g2))] := hD
    have hq9 := Option.some.inj hf
    subst hq9
    exact hRet _ _ _ _ hP hD hS dX4_send_20
set_option maxHeartbeats 4000000 in
set_option maxRecDepth 100000 in
theorem kX4_fill (l : Launch) (D : va_G) (cI cR : ClassId) (as askind aspage asasked assent ar arcells : Nat) (s_kind : Nat → Int32) (s_page : Nat → Int32) (s_asked : Nat → Int32) (s_sent : Nat → Int32) (s_count : Int32) (s_wetSet : Int32) (r_cells : Nat → Int32) (r_there : Int32) (r_lane : Int32) (r_length : Int32) (p2 : Int32) (p3 : Int32) (q : (Nat → Int32) × (Nat → Int32) × (Nat → Int32) × (Nat → Int32) × Int32 × Int32) (hf : pX4_fill s_kind s_page s_asked s_sent s_count s_wetSet r_cells p2 p3 = some q) : CWv l yX4_fill wsX4_fill ({ frames := 2, cells := 0, slots := 0, locals := 43 } : Room) D cI cR [.ref as, .ref ar, .int p2, .int p3] [(as, .inr (4, [.ref askind, .ref aspage, .ref asasked, .ref assent, .int s_count, .int s_wetSet])), (askind, .inl (cI, 7, .inl s_kind)), (aspage, .inl (cI, 7, .inl s_page)), (asasked, .inl (cI, 7, .inl s_asked)), (assent, .inl (cI, 7, .inl s_sent)), (ar, .inr (2, [.ref arcells, .int r_there, .int r_lane, .int r_length])), (arcells, .inl (cI, 60, .inl r_cells))] [(as, .inr (4, [.ref askind, .ref aspage, .ref asasked, .ref assent, .int q.2.2.2.2.1, .int q.2.2.2.2.2])), (askind, .inl (cI, 7, .inl q.1)), (aspage, .inl (cI, 7, .inl q.2.1)), (asasked, .inl (cI, 7, .inl q.2.2.1)), (assent, .inl (cI, 7, .inl q.2.2.2.1)), (ar, .inr (2, [.ref arcells, .int r_there, .int r_lane, .int r_length])), (arcells, .inl (cI, 60, .inl r_cells))] := by
  refine CWv.intro (cc := cX4_fill) (maxL := 6) (by decide) rfl (Nat.le_of_ble_eq_true rfl) ?_
  intro p e s m args below meth c hx hb hml hts hown hP hK hN A hA hD hS QQ hRet ls hl
  have hown : s.vm.findClass RX4 = some m.cls := hown
  have hl : lv_has ls 6 [(0, .ref as), (1, .ref ar), (2, .int p2), (3, .int p3)] := hl
  have iX2 : ∀ w ∈ u_ws RX2 TX2 4, w ∈ wsX4_fill := by decide +kernel
  have iX4 : ∀ w ∈ u_ws RX4 TX4 6, w ∈ wsX4_fill := by decide +kernel
  have hF15 := hts (.fieldLink RX4 15 "WorldIndex$Slips" "page" "[I") (by decide +kernel)
  have hF18 := hts (.fieldLink RX4 18 "WorldIndex$Slips" "asked" "[I") (by decide +kernel)
  have hF24 := hts (.fieldLink RX4 24 "WorldIndex$Slips" "count" "I") (by decide +kernel)
  have hF34 := hts (.fieldLink RX4 34 "WorldIndex$Slips" "wetSet" "I") (by decide +kernel)
  have hF9 := hts (.fieldLink RX4 9 "WorldIndex$Slips" "kind" "[I") (by decide +kernel)
  have hG37 := NN.f (args := args) hN "WorldIndex$Slips" 37 "WorldIndex$Row" "cells" "[I" "WorldIndex" (by decide +kernel)
  unfold pX4_fill at hf
  refine lv_aload_n hx hb dX4_fill_0 rfl (lv_at hl 0 rfl) ?_
  refine lv_iload_n hx hb dX4_fill_1 rfl (lv_at hl 3 rfl) ?_
  obtain ⟨z1, hz1, hf⟩ := bnd hf
  refine q_rS (rest := [.ref as]) ⟨hx, hb, hml, hown, hts⟩ (kX5_slipsIn l D cI cR p3 z1 hz1) (va_cwS 1 hts gX4_fill_X5_slipsIn rfl rfl rfl (by decide +kernel) ⟨Nat.le_of_ble_eq_true rfl, Nat.le_of_ble_eq_true rfl⟩) (hP.sub [] rfl) hK hN rfl hl.1 rfl (Nat.le_of_ble_eq_true rfl) dX4_fill_2 ⟨Nat.le_of_ble_eq_true rfl, Nat.le_of_ble_eq_true rfl⟩ ?_
  refine va_put (D := D) (ci := 4) (v := .int z1) (ty := .int) (C := RX4) (T := TX4) (N := 6) hx hb hts iX4 tyX4 tyX4_ok nmX4 hown hK hP hD hS 0 rfl rfl 4 (by decide) hF24 (fun _ h9 => h9) rfl (tyX4_ok 4 (by decide)) rfl rfl (Nat.le_of_ble_eq_true rfl) dX4_fill_5 (fun H locs hP hD hS => ?_)
  have hP : va_P D vwCl [(as, .inr (4, [.ref askind, .ref aspage, .ref asasked, .ref assent, .int z1, .int s_wetSet])), (askind, .inl (cI, 7, .inl s_kind)), (aspage, .inl (cI, 7, .inl s_page)), (asasked, .inl (cI, 7, .inl s_asked)), (assent, .inl (cI, 7, .inl s_sent)), (ar, .inr (2, [.ref arcells, .int r_there, .int r_lane, .int r_length])), (arcells, .inl (cI, 60, .inl r_cells))] H := hP
  have hD : va_D A [(as, .inr (4, [.ref askind, .ref aspage, .ref asasked, .ref assent, .int z1, .int s_wetSet])), (askind, .inl (cI, 7, .inl s_kind)), (aspage, .inl (cI, 7, .inl s_page)), (asasked, .inl (cI, 7, .inl s_asked)), (assent, .inl (cI, 7, .inl s_sent)), (ar, .inr (2, [.ref arcells, .int r_there, .int r_lane, .int r_length])), (arcells, .inl (cI, 60, .inl r_cells))] := hD
  refine lv_aload_n hx hb dX4_fill_8 rfl (lv_at hl 0 rfl) ?_
  refine lv_iconst (v := 0) hx hb dX4_fill_9 (by decide) ?_
  refine va_put (D := D) (ci := 4) (v := .int ((0 : Int32))) (ty := .int) (C := RX4) (T := TX4) (N := 6) hx hb hts iX4 tyX4 tyX4_ok nmX4 hown hK hP hD hS 0 rfl rfl 5 (by decide) hF34 (fun _ h9 => h9) rfl (tyX4_ok 5 (by decide)) rfl rfl (Nat.le_of_ble_eq_true rfl) dX4_fill_10 (fun H locs hP hD hS => ?_)
  have hP : va_P D vwCl [(as, .inr (4, [.ref askind, .ref aspage, .ref asasked, .ref assent, .int z1, .int ((0 : Int32))])), (askind, .inl (cI, 7, .inl s_kind)), (aspage, .inl (cI, 7, .inl s_page)), (asasked, .inl (cI, 7, .inl s_asked)), (assent, .inl (cI, 7, .inl s_sent)), (ar, .inr (2, [.ref arcells, .int r_there, .int r_lane, .int r_length])), (arcells, .inl (cI, 60, .inl r_cells))] H := hP
  have hD : va_D A [(as, .inr (4, [.ref askind, .ref aspage, .ref asasked, .ref assent, .int z1, .int ((0 : Int32))])), (askind, .inl (cI, 7, .inl s_kind)), (aspage, .inl (cI, 7, .inl s_page)), (asasked, .inl (cI, 7, .inl s_asked)), (assent, .inl (cI, 7, .inl s_sent)), (ar, .inr (2, [.ref arcells, .int r_there, .int r_lane, .int r_length])), (arcells, .inl (cI, 60, .inl r_cells))] := hD
  refine lv_iconst (v := 0) hx hb dX4_fill_13 (by decide) ?_
  refine lv_istore (lv' := [(4, .int ((0 : Int32))), (0, .ref as), (1, .ref ar), (2, .int p2), (3, .int p3)]) hx hb dX4_fill_14 hl (by decide) rfl (fun ls hl => ?_)
  have hL16 : ∀ (K : Int32 → (Nat → Int32) → (Nat → Int32) → (Nat → Int32) → (Nat → Int32) → Option ((Nat → Int32) × (Nat → Int32) × (Nat → Int32) × (Nat → Int32) × Int32 × Int32)) (hKK : ∀ (k11_v4 : Int32) (k11_w_s_kind : Nat → Int32) (k11_w_s_page : Nat → Int32) (k11_w_s_asked : Nat → Int32) (k11_w_s_sent : Nat → Int32) (H : Heap) (locs : List Loc) (ls : Array Slot), K k11_v4 k11_w_s_kind k11_w_s_page k11_w_s_asked k11_w_s_sent = some q → va_P D vwCl [(as, .inr (4, [.ref askind, .ref aspage, .ref asasked, .ref assent, .int z1, .int ((0 : Int32))])), (askind, .inl (cI, 7, .inl k11_w_s_kind)), (aspage, .inl (cI, 7, .inl k11_w_s_page)), (asasked, .inl (cI, 7, .inl k11_w_s_asked)), (assent, .inl (cI, 7, .inl k11_w_s_sent)), (ar, .inr (2, [.ref arcells, .int r_there, .int r_lane, .int r_length])), (arcells, .inl (cI, 60, .inl r_cells))] H → va_D A [(as, .inr (4, [.ref askind, .ref aspage, .ref asasked, .ref assent, .int z1, .int ((0 : Int32))])), (askind, .inl (cI, 7, .inl k11_w_s_kind)), (aspage, .inl (cI, 7, .inl k11_w_s_page)), (asasked, .inl (cI, 7, .inl k11_w_s_asked)), (assent, .inl (cI, 7, .inl k11_w_s_sent)), (ar, .inr (2, [.ref arcells, .int r_there, .int r_lane, .int r_length])), (arcells, .inl (cI, 60, .inl r_cells))] → va_S A s.heap H locs → lv_has ls 6 [(0, .ref as), (1, .ref ar), (2, .int p2), (3, .int p3), (4, .int k11_v4)] → W p l e ({ frames := 2, cells := 0, slots := 0, locals := 43 } : Room) s m args below meth c H locs 0 0 QQ (F0 m 131 ls [])) (n : Nat), ∀ (b12_v4 : Int32) (b12_w_s_kind : Nat → Int32) (b12_w_s_page : Nat → Int32) (b12_w_s_asked : Nat → Int32) (b12_w_s_sent : Nat → Int32) (H : Heap) (locs : List Loc) (ls : Array Slot), pX4_fill_L16 p2 z1 r_cells K n b12_v4 b12_w_s_kind b12_w_s_page b12_w_s_asked b12_w_s_sent = some q → va_P D vwCl [(as, .inr (4, [.ref askind, .ref aspage, .ref asasked, .ref assent, .int z1, .int ((0 : Int32))])), (askind, .inl (cI, 7, .inl b12_w_s_kind)), (aspage, .inl (cI, 7, .inl b12_w_s_page)), (asasked, .inl (cI, 7, .inl b12_w_s_asked)), (assent, .inl (cI, 7, .inl b12_w_s_sent)), (ar, .inr (2, [.ref arcells, .int r_there, .int r_lane, .int r_length])), (arcells, .inl (cI, 60, .inl r_cells))] H → va_D A [(as, .inr (4, [.ref askind, .ref aspage, .ref asasked, .ref assent, .int z1, .int ((0 : Int32))])), (askind, .inl (cI, 7, .inl b12_w_s_kind)), (aspage, .inl (cI, 7, .inl b12_w_s_page)), (asasked, .inl (cI, 7, .inl b12_w_s_asked)), (assent, .inl (cI, 7, .inl b12_w_s_sent)), (ar, .inr (2, [.ref arcells, .int r_there, .int r_lane, .int r_length])), (arcells, .inl (cI, 60, .inl r_cells))] → va_S A s.heap H locs → lv_has ls 6 [(0, .ref as), (1, .ref ar), (2, .int p2), (3, .int p3), (4, .int b12_v4)] → W p l e ({ frames := 2, cells := 0, slots := 0, locals := 43 } : Room) s m args below meth c H locs 0 0 QQ (F0 m 16 ls []) := by
    intro K hKK n
    induction n with
    | zero =>
      intro b12_v4 b12_w_s_kind b12_w_s_page b12_w_s_asked b12_w_s_sent H locs ls hf hP hD hS hl
      rw [pX4_fill_L16_z] at hf
      cases hf
    | succ n ih =>
      intro b12_v4 b12_w_s_kind b12_w_s_page b12_w_s_asked b12_w_s_sent H locs ls hf hP hD hS hl
      rw [pX4_fill_L16_s] at hf
      refine lv_iload hx hb dX4_fill_16 (lv_at hl 4 rfl) ?_
      refine lv_aload_n hx hb dX4_fill_18 rfl (lv_at hl 0 rfl) ?_
      refine va_get (D := D) (ci := 4) (v := .int z1) (C := RX4) (T := TX4) (N := 6) hx hb hts iX4 hown hK hP 0 rfl rfl 4 (by decide) hF24 (fun _ h9 => h9) rfl dX4_fill_19 ?_
      refine q_icmp_ge hx hb hf 131 dX4_fill_22 (by decide) (fun hf => ?_) (fun hf => ?_)
      · exact hKK _ _ _ _ _ _ _ _ hf hP hD hS (lv_sub hl [0, 1, 2, 3, 4] rfl)
      · refine lv_iload_n hx hb dX4_fill_25 rfl (lv_at hl 2 rfl) ?_
        refine lv_iconst (v := 2) hx hb dX4_fill_26 (by decide) ?_
        refine lv_iadd hx hb dX4_fill_27 ?_
        refine lv_iload hx hb dX4_fill_28 (lv_at hl 4 rfl) ?_
        refine lv_bipush (v := 6) hx hb dX4_fill_30 (by decide) ?_
        refine lv_imul hx hb dX4_fill_32 ?_
        refine lv_iadd hx hb dX4_fill_33 ?_
        refine lv_istore (lv' := [(5, .int ((p2 + ((2 : Int32))) + (b12_v4 * ((6 : Int32))))), (0, .ref as), (1, .ref ar), (2, .int p2), (3, .int p3), (4, .int b12_v4)]) hx hb dX4_fill_34 hl (by decide) rfl (fun ls hl => ?_)
        refine lv_aload_n hx hb dX4_fill_36 rfl (lv_at hl 1 rfl) ?_
        refine va_get (D := D) (ci := 4) (v := .ref askind) (C := RX4) (T := TX4) (N := 6) hx hb hts iX4 hown hK hP 0 rfl rfl 0 (by decide) hF9 (fun _ h9 => h9) rfl dX4_fill_37 ?_
        refine lv_iload hx hb dX4_fill_40 (lv_at hl 5 rfl) ?_
        refine lv_aload_n hx hb dX4_fill_42 rfl (lv_at hl 2 rfl) ?_
        refine va_getN (D := D) (ci := 2) (v := .ref arcells) (C := RX2) (T := TX2) (N := 4) hx hb hts iX2 hown hK hP 5 rfl rfl 0 (by decide) hG37 (fun _ h9 => h9) rfl dX4_fill_43 ?_
        refine lv_iload hx hb dX4_fill_46 (lv_at hl 0 rfl) ?_
        refine q_iald hx hb hK hP 6 0 rfl rfl hf dX4_fill_48 (fun x13 hf => ?_)
        refine q_rS (rest := [.int b12_v4, .ref askind]) ⟨hx, hb, hml, hown, hts⟩ (kX5_kindOf l D cI cR x13 _ rfl) (va_cwS 1 hts gX4_fill_X5_kindOf rfl rfl rfl (by decide +kernel) ⟨Nat.le_of_ble_eq_true rfl, Nat.le_of_ble_eq_true rfl⟩) (hP.sub [] rfl) hK hN rfl hl.1 rfl (Nat.le_of_ble_eq_true rfl) dX4_fill_49 ⟨Nat.le_of_ble_eq_true rfl, Nat.le_of_ble_eq_true rfl⟩ ?_
        refine q_iast hx hb hK hP hD hS 1 0 rfl rfl hf dX4_fill_52 (fun g14 H locs hf hP hD hS => ?_)
        have hP : va_P D vwCl [(as, .inr (4, [.ref askind, .ref aspage, .ref asasked, .ref assent, .int z1, .int ((0 : Int32))])), (askind, .inl (cI, 7, .inl g14)), (aspage, .inl (cI, 7, .inl b12_w_s_page)), (asasked, .inl (cI, 7, .inl b12_w_s_asked)), (assent, .inl (cI, 7, .inl b12_w_s_sent)), (ar, .inr (2, [.ref arcells, .int r_there, .int r_lane, .int r_length])), (arcells, .inl (cI, 60, .inl r_cells))] H := hP
        have hD : va_D A [(as, .inr (4, [.ref askind, .ref aspage, .ref asasked, .ref assent, .int z1, .int ((0 : Int32))])), (askind, .inl (cI, 7, .inl g14)), (aspage, .inl (cI, 7, .inl b12_w_s_page)), (asasked, .inl (cI, 7, .inl b12_w_s_asked)), (assent, .inl (cI, 7, .inl b12_w_s_sent)), (ar, .inr (2, [.ref arcells, .int r_there, .int r_lane, .int r_length])), (arcells, .inl (cI, 60, .inl r_cells))] := hD
        refine lv_aload_n hx hb dX4_fill_53 rfl (lv_at hl 1 rfl) ?_
        refine va_get (D := D) (ci := 4) (v := .ref aspage) (C := RX4) (T := TX4) (N := 6) hx hb hts iX4 hown hK hP 0 rfl rfl 1 (by decide) hF15 (fun _ h9 => h9) rfl dX4_fill_54 ?_
        refine lv_iload hx hb dX4_fill_57 (lv_at hl 5 rfl) ?_
        refine lv_bipush (v := 10) hx hb dX4_fill_59 (by decide) ?_
        refine lv_aload_n hx hb dX4_fill_61 rfl (lv_at hl 2 rfl) ?_
        refine va_getN (D := D) (ci := 2) (v := .ref arcells) (C := RX2) (T := TX2) (N := 4) hx hb hts iX2 hown hK hP 5 rfl rfl 0 (by decide) hG37 (fun _ h9 => h9) rfl dX4_fill_62 ?_
        refine lv_iload hx hb dX4_fill_65 (lv_at hl 0 rfl) ?_
        refine lv_iconst (v := 1) hx hb dX4_fill_67 (by decide) ?_
        refine lv_iadd hx hb dX4_fill_68 ?_
        refine q_iald hx hb hK hP 6 0 rfl rfl hf dX4_fill_69 (fun x15 hf => ?_)
        refine lv_bipush (v := 48) hx hb dX4_fill_70 (by decide) ?_
        refine lv_isub hx hb dX4_fill_72 ?_
        refine lv_imul hx hb dX4_fill_73 ?_
        refine lv_aload_n hx hb dX4_fill_74 rfl (lv_at hl 2 rfl) ?_
        refine va_getN (D := D) (ci := 2) (v := .ref arcells) (C := RX2) (T := TX2) (N := 4) hx hb hts iX2 hown hK hP 5 rfl rfl 0 (by decide) hG37 (fun _ h9 => h9) rfl dX4_fill_75 ?_
        refine lv_iload hx hb dX4_fill_78 (lv_at hl 0 rfl) ?_
        refine lv_iconst (v := 2) hx hb dX4_fill_80 (by decide) ?_
        refine lv_iadd hx hb dX4_fill_81 ?_
        refine q_iald hx hb hK hP 6 0 rfl rfl hf dX4_fill_82 (fun x16 hf => ?_)
        refine lv_iadd hx hb dX4_fill_83 ?_
        refine lv_bipush (v := 48) hx hb dX4_fill_84 (by decide) ?_
        refine lv_isub hx hb dX4_fill_86 ?_
        refine q_iast hx hb hK hP hD hS 2 0 rfl rfl hf dX4_fill_87 (fun g17 H locs hf hP hD hS => ?_)
        have hP : va_P D vwCl [(as, .inr (4, [.ref askind, .ref aspage, .ref asasked, .ref assent, .int z1, .int ((0 : Int32))])), (askind, .inl (cI, 7, .inl g14)), (aspage, .inl (cI, 7, .inl g17)), (asasked, .inl (cI, 7, .inl b12_w_s_asked)), (assent, .inl (cI, 7, .inl b12_w_s_sent)), (ar, .inr (2, [.ref arcells, .int r_there, .int r_lane, .int r_length])), (arcells, .inl (cI, 60, .inl r_cells))] H := hP
        have hD : va_D A [(as, .inr (4, [.ref askind, .ref aspage, .ref asasked, .ref assent, .int z1, .int ((0 : Int32))])), (askind, .inl (cI, 7, .inl g14)), (aspage, .inl (cI, 7, .inl g17)), (asasked, .inl (cI, 7, .inl b12_w_s_asked)), (assent, .inl (cI, 7, .inl b12_w_s_sent)), (ar, .inr (2, [.ref arcells, .int r_there, .int r_lane, .int r_length])), (arcells, .inl (cI, 60, .inl r_cells))] := hD
        refine lv_aload_n hx hb dX4_fill_88 rfl (lv_at hl 1 rfl) ?_
        refine va_get (D := D) (ci := 4) (v := .ref asasked) (C := RX4) (T := TX4) (N := 6) hx hb hts iX4 hown hK hP 0 rfl rfl 2 (by decide) hF18 (fun _ h9 => h9) rfl dX4_fill_89 ?_
        refine lv_iload hx hb dX4_fill_92 (lv_at hl 5 rfl) ?_
        refine lv_aload_n hx hb dX4_fill_94 rfl (lv_at hl 2 rfl) ?_
        refine va_getN (D := D) (ci := 2) (v := .ref arcells) (C := RX2) (T := TX2) (N := 4) hx hb hts iX2 hown hK hP 5 rfl rfl 0 (by decide) hG37 (fun _ h9 => h9) rfl dX4_fill_95 ?_
        refine lv_iload hx hb dX4_fill_98 (lv_at hl 0 rfl) ?_
        refine lv_iconst (v := 3) hx hb dX4_fill_100 (by decide) ?_
        refine lv_iadd hx hb dX4_fill_101 ?_
        refine q_iald hx hb hK hP 6 0 rfl rfl hf dX4_fill_102 (fun x18 hf => ?_)
        refine lv_bipush (v := 48) hx hb dX4_fill_103 (by decide) ?_
        refine lv_isub hx hb dX4_fill_105 ?_
        refine q_iast hx hb hK hP hD hS 3 0 rfl rfl hf dX4_fill_106 (fun g19 H locs hf hP hD hS => ?_)
        have hP : va_P D vwCl [(as, .inr (4, [.ref askind, .ref aspage, .ref asasked, .ref assent, .int z1, .int ((0 : Int32))])), (askind, .inl (cI, 7, .inl g14)), (aspage, .inl (cI, 7, .inl g17)), (asasked, .inl (cI, 7, .inl g19)), (assent, .inl (cI, 7, .inl b12_w_s_sent)), (ar, .inr (2, [.ref arcells, .int r_there, .int r_lane, .int r_length])), (arcells, .inl (cI, 60, .inl r_cells))] H := hP
        have hD : va_D A [(as, .inr (4, [.ref askind, .ref aspage, .ref asasked, .ref assent, .int z1, .int ((0 : Int32))])), (askind, .inl (cI, 7, .inl g14)), (aspage, .inl (cI, 7, .inl g17)), (asasked, .inl (cI, 7, .inl g19)), (assent, .inl (cI, 7, .inl b12_w_s_sent)), (ar, .inr (2, [.ref arcells, .int r_there, .int r_lane, .int r_length])), (arcells, .inl (cI, 60, .inl r_cells))] := hD
        refine lv_aload_n hx hb dX4_fill_107 rfl (lv_at hl 1 rfl) ?_
        refine lv_iload hx hb dX4_fill_108 (lv_at hl 5 rfl) ?_
        refine lv_aload_n hx hb dX4_fill_110 rfl (lv_at hl 2 rfl) ?_
        refine va_getN (D := D) (ci := 2) (v := .ref arcells) (C := RX2) (T := TX2) (N := 4) hx hb hts iX2 hown hK hP 5 rfl rfl 0 (by decide) hG37 (fun _ h9 => h9) rfl dX4_fill_111 ?_
        refine lv_iload hx hb dX4_fill_114 (lv_at hl 0 rfl) ?_
        refine lv_iconst (v := 4) hx hb dX4_fill_116 (by decide) ?_
        refine lv_iadd hx hb dX4_fill_117 ?_
        refine q_iald hx hb hK hP 6 0 rfl rfl hf dX4_fill_118 (fun x20 hf => ?_)
        refine lv_bipush (v := 48) hx hb dX4_fill_119 (by decide) ?_
        refine lv_isub hx hb dX4_fill_121 ?_
        obtain ⟨z21, hz21, hf⟩ := bnd hf
        refine q_wVv (wr := [(ar, .inr (2, [.ref arcells, .int r_there, .int r_lane, .int r_length])), (arcells, .inl (cI, 60, .inl r_cells))]) (rest := []) ⟨hx, hb, hml, hown, hts⟩ (kX4_send l D cI cR as askind aspage asasked assent g14 g17 g19 b12_w_s_sent z1 ((0 : Int32)) b12_v4 (x20 - ((48 : Int32))) z21 hz21) (cwV 2 hts gX4_fill_X4_send rfl rfl rfl (by decide +kernel) ⟨Nat.le_of_ble_eq_true rfl, Nat.le_of_ble_eq_true rfl⟩) hP hD hS hA hK hN [0, 1, 2, 3, 4] [5, 6] rfl rfl (by decide) (by decide) (by decide) (va_recv hK hP (ci := 4) (q0 := 0) rfl rfl) rfl hl.1 rfl (Nat.le_of_ble_eq_true rfl) dX4_fill_122 ⟨Nat.le_of_ble_eq_true rfl, Nat.le_of_ble_eq_true rfl⟩ (fun H locs hP hD hS => ?_)
        have hP := hP.sub (ws' := [(as, .inr (4, [.ref askind, .ref aspage, .ref asasked, .ref assent, .int z1, .int ((0 : Int32))])), (askind, .inl (cI, 7, .inl g14)), (aspage, .inl (cI, 7, .inl g17)), (asasked, .inl (cI, 7, .inl g19)), (assent, .inl (cI, 7, .inl z21)), (ar, .inr (2, [.ref arcells, .int r_there, .int r_lane, .int r_length])), (arcells, .inl (cI, 60, .inl r_cells))]) [2, 3, 4, 5, 6, 0, 1] rfl
        have hD := hD.sub (ws' := [(as, .inr (4, [.ref askind, .ref aspage, .ref asasked, .ref assent, .int z1, .int ((0 : Int32))])), (askind, .inl (cI, 7, .inl g14)), (aspage, .inl (cI, 7, .inl g17)), (asasked, .inl (cI, 7, .inl g19)), (assent, .inl (cI, 7, .inl z21)), (ar, .inr (2, [.ref arcells, .int r_there, .int r_lane, .int r_length])), (arcells, .inl (cI, 60, .inl r_cells))]) [2, 3, 4, 5, 6, 0, 1] (by decide) rfl
        refine lv_iinc (v := b12_v4 + (1 : Int32)) (lv' := [(4, .int (b12_v4 + (1 : Int32))), (5, .int ((p2 + ((2 : Int32))) + (b12_v4 * ((6 : Int32))))), (0, .ref as), (1, .ref ar), (2, .int p2), (3, .int p3)]) hx hb dX4_fill_125 hl (k := 5) rfl rfl (by decide) rfl (fun ls hl => ?_)
        refine lv_goto (tgt := 16) hx hb dX4_fill_128 (by decide) ?_
        exact ih _ _ _ _ _ _ _ _ hf hP hD hS (lv_sub hl [2, 3, 4, 5, 0] rfl)
  refine hL16 _ (fun k11_v4 k11_w_s_kind k11_w_s_page k11_w_s_asked k11_w_s_sent H locs ls hf hP hD hS hl => ?_) fu _ _ _ _ _ _ _ _ hf hP hD hS (lv_sub hl [1, 2, 3, 4, 0] rfl)
  have hq9 := Option.some.inj hf
  subst hq9
  exact hRet _ _ _ _ hP hD hS dX4_fill_131
set_option maxHeartbeats 4000000 in
set_option maxRecDepth 100000 in
theorem kX4_howManyWet (l : Launch) (D : va_G) (cI cR : ClassId) (as askind aspage asasked assent : Nat) (s_kind : Nat → Int32) (s_page : Nat → Int32) (s_asked : Nat → Int32) (s_sent : Nat → Int32) (s_count : Int32) (s_wetSet : Int32) (q : Int32) (hf : pX4_howManyWet s_wetSet = q) : CR l yX4_howManyWet wsX4_howManyWet ({ frames := 1, cells := 0, slots := 0, locals := 20 } : Room) D cI cR [.ref as] [(as, .inr (4, [.ref askind, .ref aspage, .ref asasked, .ref assent, .int s_count, .int s_wetSet])), (askind, .inl (cI, 7, .inl s_kind)), (aspage, .inl (cI, 7, .inl s_page)), (asasked, .inl (cI, 7, .inl s_asked)), (assent, .inl (cI, 7, .inl s_sent))] (.int q) := by
  refine CRi.intro (cc := cX4_howManyWet) (maxL := 1) (ty := .int) (by decide) rfl (Nat.le_of_ble_eq_true rfl) ?_
  intro p e s m args below meth c hx hb hml hts hown hP hK hN QQ hRet ls hl
  have hown : s.vm.findClass RX4 = some m.cls := hown
  have hl : lv_has ls 1 [(0, .ref as)] := hl
  have iX4 : ∀ w ∈ u_ws RX4 TX4 6, w ∈ wsX4_howManyWet := by decide +kernel
  have hF34 := hts (.fieldLink RX4 34 "WorldIndex$Slips" "wetSet" "I") (by decide +kernel)
  unfold pX4_howManyWet at hf
  refine lv_aload_n hx hb dX4_howManyWet_0 rfl (lv_at hl 0 rfl) ?_
  refine va_get (D := D) (ci := 4) (v := .int s_wetSet) (C := RX4) (T := TX4) (N := 6) hx hb hts iX4 hown hK hP 0 rfl rfl 5 (by decide) hF34 (fun _ h9 => h9) rfl dX4_howManyWet_1 ?_
  refine q_rS (rest := []) ⟨hx, hb, hml, hown, hts⟩ (kJ6_bitCount_0f7a4 l D cI cR s_wetSet _ rfl) (va_cwS 1 hts gX4_howManyWet_J6_bitCount_0f7a4 rfl rfl rfl (by decide +kernel) ⟨Nat.le_of_ble_eq_true rfl, Nat.le_of_ble_eq_true rfl⟩) (hP.sub [] rfl) hK hN rfl hl.1 rfl (Nat.le_of_ble_eq_true rfl) dX4_howManyWet_4 ⟨Nat.le_of_ble_eq_true rfl, Nat.le_of_ble_eq_true rfl⟩ ?_
  exact hRet _ _ _ rfl hf dX4_howManyWet_7
set_option maxHeartbeats 4000000 in
set_option maxRecDepth 100000 in
theorem kX4_leastRoundFrom (l : Launch) (D : va_G) (cI cR : ClassId) (as askind aspage asasked assent : Nat) (s_kind : Nat → Int32) (s_page : Nat → Int32) (s_asked : Nat → Int32) (s_sent : Nat → Int32) (s_count : Int32) (s_wetSet : Int32) (p1 : Int32) (q : Int32) (hf : pX4_leastRoundFrom s_sent s_count p1 = some q) : CR l yX4_leastRoundFrom wsX4_leastRoundFrom ({ frames := 1, cells := 0, slots := 0, locals := 21 } : Room) D cI cR [.ref as, .int p1] [(as, .inr (4, [.ref askind, .ref aspage, .ref asasked, .ref assent, .int s_count, .int s_wetSet])), (askind, .inl (cI, 7, .inl s_kind)), (aspage, .inl (cI, 7, .inl s_page)), (asasked, .inl (cI, 7, .inl s_asked)), (assent, .inl (cI, 7, .inl s_sent))] (.int q) := by
  refine CRi.intro (cc := cX4_leastRoundFrom) (maxL := 5) (ty := .int) (by decide) rfl (Nat.le_of_ble_eq_true rfl) ?_
  intro p e s m args below meth c hx hb hml hts hown hP hK hN QQ hRet ls hl
  have hown : s.vm.findClass RX4 = some m.cls := hown
  have hl : lv_has ls 5 [(0, .ref as), (1, .int p1)] := hl
  have iX4 : ∀ w ∈ u_ws RX4 TX4 6, w ∈ wsX4_leastRoundFrom := by decide +kernel
  have hF21 := hts (.fieldLink RX4 21 "WorldIndex$Slips" "sent" "[I") (by decide +kernel)
  have hF24 := hts (.fieldLink RX4 24 "WorldIndex$Slips" "count" "I") (by decide +kernel)
  have hm70 := hts (.methodLink RX4 70 Lib.Math.min.name) (by decide +kernel)
  have hmc := hts (.code Lib.Math.min.name Lib.Math.min.code 2 (some .int)) (by decide +kernel)
  have hmi := hts (.initialized "java/lang/Math") (by decide +kernel)
  have hms := hts (.static Lib.Math.min.name) (by decide +kernel)
  unfold pX4_leastRoundFrom at hf
  refine lv_iload_n hx hb dX4_leastRoundFrom_0 rfl (lv_at hl 1 rfl) ?_
  refine lv_istore_n (lv' := [(2, .int p1), (0, .ref as), (1, .int p1)]) hx hb dX4_leastRoundFrom_1 rfl hl (by decide) rfl (fun ls hl => ?_)
  refine lv_aload_n hx hb dX4_leastRoundFrom_2 rfl (lv_at hl 1 rfl) ?_
  refine va_get (D := D) (ci := 4) (v := .ref assent) (C := RX4) (T := TX4) (N := 6) hx hb hts iX4 hown hK hP 0 rfl rfl 3 (by decide) hF21 (fun _ h9 => h9) rfl dX4_leastRoundFrom_3 ?_
  refine lv_iload_n hx hb dX4_leastRoundFrom_6 rfl (lv_at hl 2 rfl) ?_
  refine q_iald hx hb hK hP 4 0 rfl rfl hf dX4_leastRoundFrom_7 (fun x1 hf => ?_)
  refine lv_istore_n (lv' := [(3, .int x1), (2, .int p1), (0, .ref as), (1, .int p1)]) hx hb dX4_leastRoundFrom_8 rfl hl (by decide) rfl (fun ls hl => ?_)
  refine lv_iconst (v := 0) hx hb dX4_leastRoundFrom_9 (by decide) ?_
  refine lv_istore (lv' := [(4, .int ((0 : Int32))), (3, .int x1), (2, .int p1), (0, .ref as), (1, .int p1)]) hx hb dX4_leastRoundFrom_10 hl (by decide) rfl (fun ls hl => ?_)
  have hL12 : ∀ (K : Int32 → Int32 → Int32 → Option (Int32)) (hKK : ∀ (k3_v2 : Int32) (k3_v3 : Int32) (k3_v4 : Int32) (ls : Array Slot), K k3_v2 k3_v3 k3_v4 = some q → lv_has ls 5 [(0, .ref as), (1, .int p1), (2, .int k3_v2), (3, .int k3_v3), (4, .int k3_v4)] → W p l e ({ frames := 1, cells := 0, slots := 0, locals := 21 } : Room) s m args below meth c s.heap [] 0 0 QQ (F0 m 53 ls [])) (n : Nat), ∀ (b4_v2 : Int32) (b4_v3 : Int32) (b4_v4 : Int32) (ls : Array Slot), pX4_leastRoundFrom_L12 p1 s_sent s_count K n b4_v2 b4_v3 b4_v4 = some q → lv_has ls 5 [(0, .ref as), (1, .int p1), (2, .int b4_v2), (3, .int b4_v3), (4, .int b4_v4)] → W p l e ({ frames := 1, cells := 0, slots := 0, locals := 21 } : Room) s m args below meth c s.heap [] 0 0 QQ (F0 m 12 ls []) := by
    intro K hKK n
    induction n with
    | zero =>
      intro b4_v2 b4_v3 b4_v4 ls hf hl
      rw [pX4_leastRoundFrom_L12_z] at hf
      cases hf
    | succ n ih =>
      intro b4_v2 b4_v3 b4_v4 ls hf hl
      rw [pX4_leastRoundFrom_L12_s] at hf
      refine lv_iload hx hb dX4_leastRoundFrom_12 (lv_at hl 4 rfl) ?_
      refine lv_aload_n hx hb dX4_leastRoundFrom_14 rfl (lv_at hl 0 rfl) ?_
      refine va_get (D := D) (ci := 4) (v := .int s_count) (C := RX4) (T := TX4) (N := 6) hx hb hts iX4 hown hK hP 0 rfl rfl 4 (by decide) hF24 (fun _ h9 => h9) rfl dX4_leastRoundFrom_15 ?_
      refine q_icmp_ge hx hb hf 53 dX4_leastRoundFrom_18 (by decide) (fun hf => ?_) (fun hf => ?_)
      · exact hKK _ _ _ _ hf (lv_sub hl [0, 1, 2, 3, 4] rfl)
      · refine lv_iload_n hx hb dX4_leastRoundFrom_21 rfl (lv_at hl 3 rfl) ?_
        refine lv_bipush (v := -9) hx hb dX4_leastRoundFrom_22 (by decide) ?_
        refine q_icmp_eq hx hb hf 53 dX4_leastRoundFrom_24 (by decide) (fun hf => ?_) (fun hf => ?_)
        · exact hKK _ _ _ _ hf (lv_sub hl [0, 1, 2, 3, 4] rfl)
        · refine lv_iload_n hx hb dX4_leastRoundFrom_27 rfl (lv_at hl 3 rfl) ?_
          refine lv_iload_n hx hb dX4_leastRoundFrom_28 rfl (lv_at hl 1 rfl) ?_
          refine q_icmp_ne hx hb hf 34 dX4_leastRoundFrom_29 (by decide) (fun hf => ?_) (fun hf => ?_)
          · refine lv_iload_n hx hb dX4_leastRoundFrom_34 rfl (lv_at hl 2 rfl) ?_
            refine lv_iload_n hx hb dX4_leastRoundFrom_35 rfl (lv_at hl 3 rfl) ?_
            refine va_mmin hx hb (hml.trans hl.1.symm) hown hm70 hms hmi hmc (Nat.le_of_ble_eq_true rfl) (Nat.le_of_ble_eq_true rfl) (Nat.le_of_ble_eq_true rfl) (Nat.le_of_ble_eq_true rfl) dX4_leastRoundFrom_36 ?_
            refine lv_istore_n (lv' := [(2, .int (if b4_v3 < b4_v2 then b4_v3 else b4_v2)), (0, .ref as), (1, .int p1), (3, .int b4_v3), (4, .int b4_v4)]) hx hb dX4_leastRoundFrom_39 rfl hl (by decide) rfl (fun ls hl => ?_)
            refine lv_aload_n hx hb dX4_leastRoundFrom_40 rfl (lv_at hl 1 rfl) ?_
            refine va_get (D := D) (ci := 4) (v := .ref assent) (C := RX4) (T := TX4) (N := 6) hx hb hts iX4 hown hK hP 0 rfl rfl 3 (by decide) hF21 (fun _ h9 => h9) rfl dX4_leastRoundFrom_41 ?_
            refine lv_iload_n hx hb dX4_leastRoundFrom_44 rfl (lv_at hl 3 rfl) ?_
            refine q_iald hx hb hK hP 4 0 rfl rfl hf dX4_leastRoundFrom_45 (fun x5 hf => ?_)
            refine lv_istore_n (lv' := [(3, .int x5), (2, .int (if b4_v3 < b4_v2 then b4_v3 else b4_v2)), (0, .ref as), (1, .int p1), (4, .int b4_v4)]) hx hb dX4_leastRoundFrom_46 rfl hl (by decide) rfl (fun ls hl => ?_)
            refine lv_iinc (v := b4_v4 + (1 : Int32)) (lv' := [(4, .int (b4_v4 + (1 : Int32))), (3, .int x5), (2, .int (if b4_v3 < b4_v2 then b4_v3 else b4_v2)), (0, .ref as), (1, .int p1)]) hx hb dX4_leastRoundFrom_47 hl (k := 4) rfl rfl (by decide) rfl (fun ls hl => ?_)
            refine lv_goto (tgt := 12) hx hb dX4_leastRoundFrom_50 (by decide) ?_
            exact ih _ _ _ _ hf (lv_sub hl [3, 4, 2, 1, 0] rfl)
          · refine lv_iload_n hx hb dX4_leastRoundFrom_32 rfl (lv_at hl 2 rfl) ?_
            exact hRet _ _ _ rfl (Option.some.inj hf) dX4_leastRoundFrom_33
  refine hL12 _ (fun k3_v2 k3_v3 k3_v4 ls hf hl => ?_) fu _ _ _ _ hf (lv_sub hl [3, 4, 2, 1, 0] rfl)
  refine lv_bipush (v := -9) hx hb dX4_leastRoundFrom_53 (by decide) ?_
  exact hRet _ _ _ rfl (Option.some.inj hf) dX4_leastRoundFrom_55
set_option maxHeartbeats 4000000 in
set_option maxRecDepth 100000 in
theorem kX4_inRings (l : Launch) (D : va_G) (cI cR : ClassId) (as askind aspage asasked assent : Nat) (s_kind : Nat → Int32) (s_page : Nat → Int32) (s_asked : Nat → Int32) (s_sent : Nat → Int32) (s_count : Int32) (s_wetSet : Int32) (q : Int32) (hf : pX4_inRings s_sent s_count = some q) : CR l yX4_inRings wsX4_inRings ({ frames := 2, cells := 0, slots := 0, locals := 45 } : Room) D cI cR [.ref as] [(as, .inr (4, [.ref askind, .ref aspage, .ref asasked, .ref assent, .int s_count, .int s_wetSet])), (askind, .inl (cI, 7, .inl s_kind)), (aspage, .inl (cI, 7, .inl s_page)), (asasked, .inl (cI, 7, .inl s_asked)), (assent, .inl (cI, 7, .inl s_sent))] (.int q) := by
  refine CRi.intro (cc := cX4_inRings) (maxL := 3) (ty := .int) (by decide) rfl (Nat.le_of_ble_eq_true rfl) ?_
  intro p e s m args below meth c hx hb hml hts hown hP hK hN QQ hRet ls hl
  have hown : s.vm.findClass RX4 = some m.cls := hown
  have hl : lv_has ls 3 [(0, .ref as)] := hl
  have iX4 : ∀ w ∈ u_ws RX4 TX4 6, w ∈ wsX4_inRings := by decide +kernel
  have hF24 := hts (.fieldLink RX4 24 "WorldIndex$Slips" "count" "I") (by decide +kernel)
  unfold pX4_inRings at hf
  refine lv_iconst (v := 0) hx hb dX4_inRings_0 (by decide) ?_
  refine lv_istore_n (lv' := [(1, .int ((0 : Int32))), (0, .ref as)]) hx hb dX4_inRings_1 rfl hl (by decide) rfl (fun ls hl => ?_)
  refine lv_iconst (v := 0) hx hb dX4_inRings_2 (by decide) ?_
  refine lv_istore_n (lv' := [(2, .int ((0 : Int32))), (1, .int ((0 : Int32))), (0, .ref as)]) hx hb dX4_inRings_3 rfl hl (by decide) rfl (fun ls hl => ?_)
  have hL4 : ∀ (K : Int32 → Int32 → Option (Int32)) (hKK : ∀ (k3_v1 : Int32) (k3_v2 : Int32) (ls : Array Slot), K k3_v1 k3_v2 = some q → lv_has ls 3 [(0, .ref as), (1, .int k3_v1), (2, .int k3_v2)] → W p l e ({ frames := 2, cells := 0, slots := 0, locals := 45 } : Room) s m args below meth c s.heap [] 0 0 QQ (F0 m 34 ls [])) (n : Nat), ∀ (b4_v1 : Int32) (b4_v2 : Int32) (ls : Array Slot), pX4_inRings_L4 s_sent s_count K n b4_v1 b4_v2 = some q → lv_has ls 3 [(0, .ref as), (1, .int b4_v1), (2, .int b4_v2)] → W p l e ({ frames := 2, cells := 0, slots := 0, locals := 45 } : Room) s m args below meth c s.heap [] 0 0 QQ (F0 m 4 ls []) := by
    intro K hKK n
    induction n with
    | zero =>
      intro b4_v1 b4_v2 ls hf hl
      rw [pX4_inRings_L4_z] at hf
      cases hf
    | succ n ih =>
      intro b4_v1 b4_v2 ls hf hl
      rw [pX4_inRings_L4_s] at hf
      refine lv_iload_n hx hb dX4_inRings_4 rfl (lv_at hl 2 rfl) ?_
      refine lv_aload_n hx hb dX4_inRings_5 rfl (lv_at hl 0 rfl) ?_
      refine va_get (D := D) (ci := 4) (v := .int s_count) (C := RX4) (T := TX4) (N := 6) hx hb hts iX4 hown hK hP 0 rfl rfl 4 (by decide) hF24 (fun _ h9 => h9) rfl dX4_inRings_6 ?_
      refine q_icmp_ge hx hb hf 34 dX4_inRings_9 (by decide) (fun hf => ?_) (fun hf => ?_)
      · exact hKK _ _ _ hf (lv_sub hl [0, 1, 2] rfl)
      · refine lv_aload_n hx hb dX4_inRings_12 rfl (lv_at hl 0 rfl) ?_
        refine lv_iload_n hx hb dX4_inRings_13 rfl (lv_at hl 2 rfl) ?_
        obtain ⟨z5, hz5, hf⟩ := bnd hf
        refine q_rV (rest := []) ⟨hx, hb, hml, hown, hts⟩ (kX4_leastRoundFrom l D cI cR as askind aspage asasked assent s_kind s_page s_asked s_sent s_count s_wetSet b4_v2 z5 hz5) (cwV 1 hts gX4_inRings_X4_leastRoundFrom rfl rfl rfl (by decide +kernel) ⟨Nat.le_of_ble_eq_true rfl, Nat.le_of_ble_eq_true rfl⟩) hP hK hN (va_recv hK hP (ci := 4) (q0 := 0) rfl rfl) rfl hl.1 rfl (Nat.le_of_ble_eq_true rfl) dX4_inRings_14 ⟨Nat.le_of_ble_eq_true rfl, Nat.le_of_ble_eq_true rfl⟩ ?_
        refine lv_bipush (v := -9) hx hb dX4_inRings_17 (by decide) ?_
        obtain ⟨J28_6, eJ28_6, hf⟩ := q_jn hf
        have hJ28_6 : ∀ (u6_0 : Int32) (ls : Array Slot), J28_6 u6_0 = some q → lv_has ls 3 [(0, .ref as), (1, .int u6_0), (2, .int b4_v2)] → W p l e ({ frames := 2, cells := 0, slots := 0, locals := 45 } : Room) s m args below meth c s.heap [] 0 0 QQ (F0 m 28 ls []) := by
          intro u6_0 ls hf hl
          rw [eJ28_6] at hf
          refine lv_iinc (v := b4_v2 + (1 : Int32)) (lv' := [(2, .int (b4_v2 + (1 : Int32))), (0, .ref as), (1, .int u6_0)]) hx hb dX4_inRings_28 hl (k := 2) rfl rfl (by decide) rfl (fun ls hl => ?_)
          refine lv_goto (tgt := 4) hx hb dX4_inRings_31 (by decide) ?_
          exact ih _ _ _ hf (lv_sub hl [1, 2, 0] rfl)
        refine q_icmp_eq hx hb hf 28 dX4_inRings_19 (by decide) (fun hf => ?_) (fun hf => ?_)
        · exact hJ28_6 _ _ hf (lv_sub hl [0, 1, 2] rfl)
        · refine lv_iload_n hx hb dX4_inRings_22 rfl (lv_at hl 1 rfl) ?_
          refine lv_iconst (v := 1) hx hb dX4_inRings_23 (by decide) ?_
          refine lv_iload_n hx hb dX4_inRings_24 rfl (lv_at hl 2 rfl) ?_
          refine lv_ishl hx hb dX4_inRings_25 ?_
          refine lv_ior hx hb dX4_inRings_26 ?_
          refine lv_istore_n (lv' := [(1, .int (b4_v1 ||| (((1 : Int32)) <<< (b4_v2 &&& 31)))), (0, .ref as), (2, .int b4_v2)]) hx hb dX4_inRings_27 rfl hl (by decide) rfl (fun ls hl => ?_)
          exact hJ28_6 _ _ hf (lv_sub hl [1, 0, 2] rfl)
  refine hL4 _ (fun k3_v1 k3_v2 ls hf hl => ?_) fu _ _ _ hf (lv_sub hl [2, 1, 0] rfl)
  refine lv_iload_n hx hb dX4_inRings_34 rfl (lv_at hl 1 rfl) ?_
  exact hRet _ _ _ rfl (Option.some.inj hf) dX4_inRings_35
set_option maxHeartbeats 4000000 in
set_option maxRecDepth 100000 in
theorem kX4_leastOfRings (l : Launch) (D : va_G) (cI cR : ClassId) (as askind aspage asasked assent : Nat) (s_kind : Nat → Int32) (s_page : Nat → Int32) (s_asked : Nat → Int32) (s_sent : Nat → Int32) (s_count : Int32) (s_wetSet : Int32) (q : Int32) (hf : pX4_leastOfRings s_sent s_count = some q) : CR l yX4_leastOfRings wsX4_leastOfRings ({ frames := 2, cells := 0, slots := 0, locals := 45 } : Room) D cI cR [.ref as] [(as, .inr (4, [.ref askind, .ref aspage, .ref asasked, .ref assent, .int s_count, .int s_wetSet])), (askind, .inl (cI, 7, .inl s_kind)), (aspage, .inl (cI, 7, .inl s_page)), (asasked, .inl (cI, 7, .inl s_asked)), (assent, .inl (cI, 7, .inl s_sent))] (.int q) := by
  refine CRi.intro (cc := cX4_leastOfRings) (maxL := 3) (ty := .int) (by decide) rfl (Nat.le_of_ble_eq_true rfl) ?_
  intro p e s m args below meth c hx hb hml hts hown hP hK hN QQ hRet ls hl
  have hown : s.vm.findClass RX4 = some m.cls := hown
  have hl : lv_has ls 3 [(0, .ref as)] := hl
  have iX4 : ∀ w ∈ u_ws RX4 TX4 6, w ∈ wsX4_leastOfRings := by decide +kernel
  have hF24 := hts (.fieldLink RX4 24 "WorldIndex$Slips" "count" "I") (by decide +kernel)
  unfold pX4_leastOfRings at hf
  refine lv_iconst (v := 0) hx hb dX4_leastOfRings_0 (by decide) ?_
  refine lv_istore_n (lv' := [(1, .int ((0 : Int32))), (0, .ref as)]) hx hb dX4_leastOfRings_1 rfl hl (by decide) rfl (fun ls hl => ?_)
  refine lv_iconst (v := 0) hx hb dX4_leastOfRings_2 (by decide) ?_
  refine lv_istore_n (lv' := [(2, .int ((0 : Int32))), (1, .int ((0 : Int32))), (0, .ref as)]) hx hb dX4_leastOfRings_3 rfl hl (by decide) rfl (fun ls hl => ?_)
  have hL4 : ∀ (K : Int32 → Int32 → Option (Int32)) (hKK : ∀ (k3_v1 : Int32) (k3_v2 : Int32) (ls : Array Slot), K k3_v1 k3_v2 = some q → lv_has ls 3 [(0, .ref as), (1, .int k3_v1), (2, .int k3_v2)] → W p l e ({ frames := 2, cells := 0, slots := 0, locals := 45 } : Room) s m args below meth c s.heap [] 0 0 QQ (F0 m 33 ls [])) (n : Nat), ∀ (b4_v1 : Int32) (b4_v2 : Int32) (ls : Array Slot), pX4_leastOfRings_L4 s_sent s_count K n b4_v1 b4_v2 = some q → lv_has ls 3 [(0, .ref as), (1, .int b4_v1), (2, .int b4_v2)] → W p l e ({ frames := 2, cells := 0, slots := 0, locals := 45 } : Room) s m args below meth c s.heap [] 0 0 QQ (F0 m 4 ls []) := by
    intro K hKK n
    induction n with
    | zero =>
      intro b4_v1 b4_v2 ls hf hl
      rw [pX4_leastOfRings_L4_z] at hf
      cases hf
    | succ n ih =>
      intro b4_v1 b4_v2 ls hf hl
      rw [pX4_leastOfRings_L4_s] at hf
      refine lv_iload_n hx hb dX4_leastOfRings_4 rfl (lv_at hl 2 rfl) ?_
      refine lv_aload_n hx hb dX4_leastOfRings_5 rfl (lv_at hl 0 rfl) ?_
      refine va_get (D := D) (ci := 4) (v := .int s_count) (C := RX4) (T := TX4) (N := 6) hx hb hts iX4 hown hK hP 0 rfl rfl 4 (by decide) hF24 (fun _ h9 => h9) rfl dX4_leastOfRings_6 ?_
      refine q_icmp_ge hx hb hf 33 dX4_leastOfRings_9 (by decide) (fun hf => ?_) (fun hf => ?_)
      · exact hKK _ _ _ hf (lv_sub hl [0, 1, 2] rfl)
      · refine lv_aload_n hx hb dX4_leastOfRings_12 rfl (lv_at hl 0 rfl) ?_
        refine lv_iload_n hx hb dX4_leastOfRings_13 rfl (lv_at hl 2 rfl) ?_
        obtain ⟨z5, hz5, hf⟩ := bnd hf
        refine q_rV (rest := []) ⟨hx, hb, hml, hown, hts⟩ (kX4_leastRoundFrom l D cI cR as askind aspage asasked assent s_kind s_page s_asked s_sent s_count s_wetSet b4_v2 z5 hz5) (cwV 1 hts gX4_leastOfRings_X4_leastRoundFrom rfl rfl rfl (by decide +kernel) ⟨Nat.le_of_ble_eq_true rfl, Nat.le_of_ble_eq_true rfl⟩) hP hK hN (va_recv hK hP (ci := 4) (q0 := 0) rfl rfl) rfl hl.1 rfl (Nat.le_of_ble_eq_true rfl) dX4_leastOfRings_14 ⟨Nat.le_of_ble_eq_true rfl, Nat.le_of_ble_eq_true rfl⟩ ?_
        refine lv_iload_n hx hb dX4_leastOfRings_17 rfl (lv_at hl 2 rfl) ?_
        obtain ⟨J27_6, eJ27_6, hf⟩ := q_jn hf
        have hJ27_6 : ∀ (u6_0 : Int32) (ls : Array Slot), J27_6 u6_0 = some q → lv_has ls 3 [(0, .ref as), (1, .int u6_0), (2, .int b4_v2)] → W p l e ({ frames := 2, cells := 0, slots := 0, locals := 45 } : Room) s m args below meth c s.heap [] 0 0 QQ (F0 m 27 ls []) := by
          intro u6_0 ls hf hl
          rw [eJ27_6] at hf
          refine lv_iinc (v := b4_v2 + (1 : Int32)) (lv' := [(2, .int (b4_v2 + (1 : Int32))), (0, .ref as), (1, .int u6_0)]) hx hb dX4_leastOfRings_27 hl (k := 2) rfl rfl (by decide) rfl (fun ls hl => ?_)
          refine lv_goto (tgt := 4) hx hb dX4_leastOfRings_30 (by decide) ?_
          exact ih _ _ _ hf (lv_sub hl [1, 2, 0] rfl)
        refine q_icmp_ne hx hb hf 27 dX4_leastOfRings_18 (by decide) (fun hf => ?_) (fun hf => ?_)
        · exact hJ27_6 _ _ hf (lv_sub hl [0, 1, 2] rfl)
        · refine lv_iload_n hx hb dX4_leastOfRings_21 rfl (lv_at hl 1 rfl) ?_
          refine lv_iconst (v := 1) hx hb dX4_leastOfRings_22 (by decide) ?_
          refine lv_iload_n hx hb dX4_leastOfRings_23 rfl (lv_at hl 2 rfl) ?_
          refine lv_ishl hx hb dX4_leastOfRings_24 ?_
          refine lv_ior hx hb dX4_leastOfRings_25 ?_
          refine lv_istore_n (lv' := [(1, .int (b4_v1 ||| (((1 : Int32)) <<< (b4_v2 &&& 31)))), (0, .ref as), (2, .int b4_v2)]) hx hb dX4_leastOfRings_26 rfl hl (by decide) rfl (fun ls hl => ?_)
          exact hJ27_6 _ _ hf (lv_sub hl [1, 0, 2] rfl)
  refine hL4 _ (fun k3_v1 k3_v2 ls hf hl => ?_) fu _ _ _ hf (lv_sub hl [2, 1, 0] rfl)
  refine lv_iload_n hx hb dX4_leastOfRings_33 rfl (lv_at hl 1 rfl) ?_
  exact hRet _ _ _ rfl (Option.some.inj hf) dX4_leastOfRings_34
set_option maxHeartbeats 4000000 in
set_option maxRecDepth 100000 in
theorem kX4_soak (l : Launch) (D : va_G) (cI cR : ClassId) (as askind aspage asasked assent : Nat) (s_kind : Nat → Int32) (s_page : Nat → Int32) (s_asked : Nat → Int32) (s_sent : Nat → Int32) (s_count : Int32) (s_wetSet : Int32) (p1 : Int32) (q : Int32 × Int32) (hf : pX4_soak s_wetSet p1 = some q) : CWi l yX4_soak wsX4_soak ({ frames := 1, cells := 0, slots := 0, locals := 21 } : Room) D cI cR [.ref as, .int p1] [(as, .inr (4, [.ref askind, .ref aspage, .ref asasked, .ref assent, .int s_count, .int s_wetSet])), (askind, .inl (cI, 7, .inl s_kind)), (aspage, .inl (cI, 7, .inl s_page)), (asasked, .inl (cI, 7, .inl s_asked)), (assent, .inl (cI, 7, .inl s_sent))] [(as, .inr (4, [.ref askind, .ref aspage, .ref asasked, .ref assent, .int s_count, .int q.2])), (askind, .inl (cI, 7, .inl s_kind)), (aspage, .inl (cI, 7, .inl s_page)), (asasked, .inl (cI, 7, .inl s_asked)), (assent, .inl (cI, 7, .inl s_sent))] q.1 := by
  refine CWi.intro (cc := cX4_soak) (maxL := 2) (ty := .boolean) (by decide) rfl (Nat.le_of_ble_eq_true rfl) ?_
  intro p e s m args below meth c hx hb hml hts hown hP hK hN A hA hD hS QQ hRet ls hl
  have hown : s.vm.findClass RX4 = some m.cls := hown
  have hl : lv_has ls 2 [(0, .ref as), (1, .int p1)] := hl
  have iX4 : ∀ w ∈ u_ws RX4 TX4 6, w ∈ wsX4_soak := by decide +kernel
  have hF34 := hts (.fieldLink RX4 34 "WorldIndex$Slips" "wetSet" "I") (by decide +kernel)
  unfold pX4_soak at hf
  refine lv_aload_n hx hb dX4_soak_0 rfl (lv_at hl 0 rfl) ?_
  refine lv_iload_n hx hb dX4_soak_1 rfl (lv_at hl 1 rfl) ?_
  refine q_rV (rest := []) ⟨hx, hb, hml, hown, hts⟩ (kX4_isWet l D cI cR as askind aspage asasked assent s_kind s_page s_asked s_sent s_count s_wetSet p1 _ rfl) (cwV 1 hts gX4_soak_X4_isWet rfl rfl rfl (by decide +kernel) ⟨Nat.le_of_ble_eq_true rfl, Nat.le_of_ble_eq_true rfl⟩) hP hK hN (va_recv hK hP (ci := 4) (q0 := 0) rfl rfl) rfl hl.1 rfl (Nat.le_of_ble_eq_true rfl) dX4_soak_2 ⟨Nat.le_of_ble_eq_true rfl, Nat.le_of_ble_eq_true rfl⟩ ?_
  refine q_if_eq hx hb hf 10 dX4_soak_5 (by decide) (fun hf => ?_) (fun hf => ?_)
  · refine lv_aload_n hx hb dX4_soak_10 rfl (lv_at hl 0 rfl) ?_
    refine lv_dup hx hb dX4_soak_11 rfl ?_
    refine va_get (D := D) (ci := 4) (v := .int s_wetSet) (C := RX4) (T := TX4) (N := 6) hx hb hts iX4 hown hK hP 0 rfl rfl 5 (by decide) hF34 (fun _ h9 => h9) rfl dX4_soak_12 ?_
    refine lv_iconst (v := 1) hx hb dX4_soak_15 (by decide) ?_
    refine lv_iload_n hx hb dX4_soak_16 rfl (lv_at hl 1 rfl) ?_
    refine lv_ishl hx hb dX4_soak_17 ?_
    refine lv_ior hx hb dX4_soak_18 ?_
    refine va_put (D := D) (ci := 4) (v := .int (s_wetSet ||| (((1 : Int32)) <<< (p1 &&& 31)))) (ty := .int) (C := RX4) (T := TX4) (N := 6) hx hb hts iX4 tyX4 tyX4_ok nmX4 hown hK hP hD hS 0 rfl rfl 5 (by decide) hF34 (fun _ h9 => h9) rfl (tyX4_ok 5 (by decide)) rfl rfl (Nat.le_of_ble_eq_true rfl) dX4_soak_19 (fun H locs hP hD hS => ?_)
    have hP : va_P D vwCl [(as, .inr (4, [.ref askind, .ref aspage, .ref asasked, .ref assent, .int s_count, .int (s_wetSet ||| (((1 : Int32)) <<< (p1 &&& 31)))])), (askind, .inl (cI, 7, .inl s_kind)), (aspage, .inl (cI, 7, .inl s_page)), (asasked, .inl (cI, 7, .inl s_asked)), (assent, .inl (cI, 7, .inl s_sent))] H := hP
    have hD : va_D A [(as, .inr (4, [.ref askind, .ref aspage, .ref asasked, .ref assent, .int s_count, .int (s_wetSet ||| (((1 : Int32)) <<< (p1 &&& 31)))])), (askind, .inl (cI, 7, .inl s_kind)), (aspage, .inl (cI, 7, .inl s_page)), (asasked, .inl (cI, 7, .inl s_asked)), (assent, .inl (cI, 7, .inl s_sent))] := hD
    refine lv_iconst (v := 1) hx hb dX4_soak_22 (by decide) ?_
    have hq9 := Option.some.inj hf
    subst hq9
    exact hRet _ _ _ _ _ (by decide) rfl hP hD hS dX4_soak_23
  · refine lv_iconst (v := 0) hx hb dX4_soak_8 (by decide) ?_
    have hq9 := Option.some.inj hf
    subst hq9
    exact hRet _ _ _ _ _ (by decide) rfl hP hD hS dX4_soak_9
set_option maxHeartbeats 4000000 in
set_option maxRecDepth 100000 in
theorem kX5_goesOn (l : Launch) (D : va_G) (cI cR : ClassId) (p0 : Int32) (p1 : Int32) (q : Int32) (hf : pX5_goesOn p0 p1 = some q) : CR l yX5_goesOn wsX5_goesOn ({ frames := 0, cells := 0, slots := 0, locals := 0 } : Room) D cI cR [.int p0, .int p1] [] (.int q) := by
  refine CRi.intro (cc := cX5_goesOn) (maxL := 2) (ty := .boolean) (by decide) rfl (Nat.le_of_ble_eq_true rfl) ?_
  intro p e s m args below meth c hx hb hml hts hown hP hK hN QQ hRet ls hl
  have hown : s.vm.findClass RX5 = some m.cls := hown
  have hl : lv_has ls 2 [(0, .int p0), (1, .int p1)] := hl
  unfold pX5_goesOn at hf
  refine lv_iload_n hx hb dX5_goesOn_0 rfl (lv_at hl 1 rfl) ?_
  refine q_if_ne hx hb hf 16 dX5_goesOn_1 (by decide) (fun hf => ?_) (fun hf => ?_)
  · refine lv_iload_n hx hb dX5_goesOn_16 rfl (lv_at hl 1 rfl) ?_
    refine lv_bipush (v := 42) hx hb dX5_goesOn_17 (by decide) ?_
    refine q_icmp_le hx hb hf 24 dX5_goesOn_19 (by decide) (fun hf => ?_) (fun hf => ?_)
    · refine lv_iload_n hx hb dX5_goesOn_24 rfl (lv_at hl 1 rfl) ?_
      refine lv_iconst (v := 1) hx hb dX5_goesOn_25 (by decide) ?_
      refine lv_isub hx hb dX5_goesOn_26 ?_
      refine lv_bipush (v := 6) hx hb dX5_goesOn_27 (by decide) ?_
      refine q_irem hx hb hf dX5_goesOn_29 (fun z1 hf => ?_)
      rcases q_sw hf with ⟨hs30_0, hf⟩ | ⟨hs30_0, hf⟩
      · refine lv_tableIn (off := 26) (tgt := 56) hx hb dX5_goesOn_30 (by rw [hs30_0]; decide) (by rw [hs30_0]; decide) (by rw [hs30_0]; rfl) (by decide) ?_
        refine lv_iload_n hx hb dX5_goesOn_56 rfl (lv_at hl 0 rfl) ?_
        refine lv_bipush (v := 59) hx hb dX5_goesOn_57 (by decide) ?_
        refine q_icmp_ne hx hb hf 66 dX5_goesOn_59 (by decide) (fun hf => ?_) (fun hf => ?_)
        · refine lv_iconst (v := 0) hx hb dX5_goesOn_66 (by decide) ?_
          exact hRet _ _ _ (by decide) (Option.some.inj hf) dX5_goesOn_67
        · refine lv_iconst (v := 1) hx hb dX5_goesOn_62 (by decide) ?_
          refine lv_goto (tgt := 67) hx hb dX5_goesOn_63 (by decide) ?_
          exact hRet _ _ _ (by decide) (Option.some.inj hf) dX5_goesOn_67
      · skip
        rcases q_sw hf with ⟨hs30_1, hf⟩ | ⟨hs30_1, hf⟩
        · refine lv_tableIn (off := 38) (tgt := 68) hx hb dX5_goesOn_30 (by rw [hs30_1]; decide) (by rw [hs30_1]; decide) (by rw [hs30_1]; rfl) (by decide) ?_
          refine lv_iload_n hx hb dX5_goesOn_68 rfl (lv_at hl 0 rfl) ?_
          refine lv_bipush (v := 108) hx hb dX5_goesOn_69 (by decide) ?_
          refine q_icmp_eq hx hb hf 86 dX5_goesOn_71 (by decide) (fun hf => ?_) (fun hf => ?_)
          · refine lv_iconst (v := 1) hx hb dX5_goesOn_86 (by decide) ?_
            refine lv_goto (tgt := 91) hx hb dX5_goesOn_87 (by decide) ?_
            exact hRet _ _ _ (by decide) (Option.some.inj hf) dX5_goesOn_91
          · refine lv_iload_n hx hb dX5_goesOn_74 rfl (lv_at hl 0 rfl) ?_
            refine lv_bipush (v := 100) hx hb dX5_goesOn_75 (by decide) ?_
            refine q_icmp_eq hx hb hf 86 dX5_goesOn_77 (by decide) (fun hf => ?_) (fun hf => ?_)
            · refine lv_iconst (v := 1) hx hb dX5_goesOn_86 (by decide) ?_
              refine lv_goto (tgt := 91) hx hb dX5_goesOn_87 (by decide) ?_
              exact hRet _ _ _ (by decide) (Option.some.inj hf) dX5_goesOn_91
            · refine lv_iload_n hx hb dX5_goesOn_80 rfl (lv_at hl 0 rfl) ?_
              refine lv_bipush (v := 98) hx hb dX5_goesOn_81 (by decide) ?_
              refine q_icmp_ne hx hb hf 90 dX5_goesOn_83 (by decide) (fun hf => ?_) (fun hf => ?_)
              · refine lv_iconst (v := 0) hx hb dX5_goesOn_90 (by decide) ?_
                exact hRet _ _ _ (by decide) (Option.some.inj hf) dX5_goesOn_91
              · refine lv_iconst (v := 1) hx hb dX5_goesOn_86 (by decide) ?_
                refine lv_goto (tgt := 91) hx hb dX5_goesOn_87 (by decide) ?_
                exact hRet _ _ _ (by decide) (Option.some.inj hf) dX5_goesOn_91
        · skip
          rcases q_sw hf with ⟨hs30_2, hf⟩ | ⟨hs30_2, hf⟩
          · refine lv_tableIn (off := 62) (tgt := 92) hx hb dX5_goesOn_30 (by rw [hs30_2]; decide) (by rw [hs30_2]; decide) (by rw [hs30_2]; rfl) (by decide) ?_
            refine lv_iload_n hx hb dX5_goesOn_92 rfl (lv_at hl 0 rfl) ?_
            refine lv_bipush (v := 48) hx hb dX5_goesOn_93 (by decide) ?_
            refine q_icmp_lt hx hb hf 108 dX5_goesOn_95 (by decide) (fun hf => ?_) (fun hf => ?_)
            · refine lv_iconst (v := 0) hx hb dX5_goesOn_108 (by decide) ?_
              exact hRet _ _ _ (by decide) (Option.some.inj hf) dX5_goesOn_109
            · refine lv_iload_n hx hb dX5_goesOn_98 rfl (lv_at hl 0 rfl) ?_
              refine lv_bipush (v := 52) hx hb dX5_goesOn_99 (by decide) ?_
              refine q_icmp_gt hx hb hf 108 dX5_goesOn_101 (by decide) (fun hf => ?_) (fun hf => ?_)
              · refine lv_iconst (v := 0) hx hb dX5_goesOn_108 (by decide) ?_
                exact hRet _ _ _ (by decide) (Option.some.inj hf) dX5_goesOn_109
              · refine lv_iconst (v := 1) hx hb dX5_goesOn_104 (by decide) ?_
                refine lv_goto (tgt := 109) hx hb dX5_goesOn_105 (by decide) ?_
                exact hRet _ _ _ (by decide) (Option.some.inj hf) dX5_goesOn_109
          · skip
            have ehs30_0 := nt_i hs30_0 (show ((0 : Int32)).toInt = (0 : Int) by decide)
            have ehs30_1 := nt_i hs30_1 (show ((1 : Int32)).toInt = (1 : Int) by decide)
            have ehs30_2 := nt_i hs30_2 (show ((2 : Int32)).toInt = (2 : Int) by decide)
            refine lv_tableOut (tgt := 110) hx hb dX5_goesOn_30 (by omega) (by decide) ?_
            refine lv_iload_n hx hb dX5_goesOn_110 rfl (lv_at hl 0 rfl) ?_
            refine lv_bipush (v := 48) hx hb dX5_goesOn_111 (by decide) ?_
            refine q_icmp_lt hx hb hf 126 dX5_goesOn_113 (by decide) (fun hf => ?_) (fun hf => ?_)
            · refine lv_iconst (v := 0) hx hb dX5_goesOn_126 (by decide) ?_
              exact hRet _ _ _ (by decide) (Option.some.inj hf) dX5_goesOn_127
            · refine lv_iload_n hx hb dX5_goesOn_116 rfl (lv_at hl 0 rfl) ?_
              refine lv_bipush (v := 57) hx hb dX5_goesOn_117 (by decide) ?_
              refine q_icmp_gt hx hb hf 126 dX5_goesOn_119 (by decide) (fun hf => ?_) (fun hf => ?_)
              · refine lv_iconst (v := 0) hx hb dX5_goesOn_126 (by decide) ?_
                exact hRet _ _ _ (by decide) (Option.some.inj hf) dX5_goesOn_127
              · refine lv_iconst (v := 1) hx hb dX5_goesOn_122 (by decide) ?_
                refine lv_goto (tgt := 127) hx hb dX5_goesOn_123 (by decide) ?_
                exact hRet _ _ _ (by decide) (Option.some.inj hf) dX5_goesOn_127
    · refine lv_iconst (v := 0) hx hb dX5_goesOn_22 (by decide) ?_
      exact hRet _ _ _ (by decide) (Option.some.inj hf) dX5_goesOn_23
  · refine lv_iload_n hx hb dX5_goesOn_4 rfl (lv_at hl 0 rfl) ?_
    refine lv_bipush (v := 105) hx hb dX5_goesOn_5 (by decide) ?_
    refine q_icmp_ne hx hb hf 14 dX5_goesOn_7 (by decide) (fun hf => ?_) (fun hf => ?_)
    · refine lv_iconst (v := 0) hx hb dX5_goesOn_14 (by decide) ?_
      exact hRet _ _ _ (by decide) (Option.some.inj hf) dX5_goesOn_15
    · refine lv_iconst (v := 1) hx hb dX5_goesOn_10 (by decide) ?_
      refine lv_goto (tgt := 15) hx hb dX5_goesOn_11 (by decide) ?_
      exact hRet _ _ _ (by decide) (Option.some.inj hf) dX5_goesOn_15
set_option maxHeartbeats 4000000 in
set_option maxRecDepth 100000 in
theorem kX5_mayEnd (l : Launch) (D : va_G) (cI cR : ClassId) (p0 : Int32) (q : Int32) (hf : pX5_mayEnd p0 = some q) : CR l yX5_mayEnd wsX5_mayEnd ({ frames := 1, cells := 0, slots := 0, locals := 20 } : Room) D cI cR [.int p0] [] (.int q) := by
  refine CRi.intro (cc := cX5_mayEnd) (maxL := 1) (ty := .boolean) (by decide) rfl (Nat.le_of_ble_eq_true rfl) ?_
  intro p e s m args below meth c hx hb hml hts hown hP hK hN QQ hRet ls hl
  have hown : s.vm.findClass RX5 = some m.cls := hown
  have hl : lv_has ls 1 [(0, .int p0)] := hl
  unfold pX5_mayEnd at hf
  refine lv_iload_n hx hb dX5_mayEnd_0 rfl (lv_at hl 0 rfl) ?_
  obtain ⟨z1, hz1, hf⟩ := bnd hf
  refine q_rS (rest := []) ⟨hx, hb, hml, hown, hts⟩ (kX5_slipsIn l D cI cR p0 z1 hz1) (va_cwS 1 hts gX5_mayEnd_X5_slipsIn rfl rfl rfl (by decide +kernel) ⟨Nat.le_of_ble_eq_true rfl, Nat.le_of_ble_eq_true rfl⟩) hP hK hN rfl hl.1 rfl (Nat.le_of_ble_eq_true rfl) dX5_mayEnd_1 ⟨Nat.le_of_ble_eq_true rfl, Nat.le_of_ble_eq_true rfl⟩ ?_
  refine lv_iconst (v := 2) hx hb dX5_mayEnd_4 (by decide) ?_
  refine q_icmp_lt hx hb hf 21 dX5_mayEnd_5 (by decide) (fun hf => ?_) (fun hf => ?_)
  · refine lv_iconst (v := 0) hx hb dX5_mayEnd_21 (by decide) ?_
    exact hRet _ _ _ (by decide) (Option.some.inj hf) dX5_mayEnd_22
  · refine lv_iload_n hx hb dX5_mayEnd_8 rfl (lv_at hl 0 rfl) ?_
    refine lv_iconst (v := 1) hx hb dX5_mayEnd_9 (by decide) ?_
    refine lv_isub hx hb dX5_mayEnd_10 ?_
    refine lv_bipush (v := 6) hx hb dX5_mayEnd_11 (by decide) ?_
    refine q_irem hx hb hf dX5_mayEnd_13 (fun z2 hf => ?_)
    refine q_if_ne hx hb hf 21 dX5_mayEnd_14 (by decide) (fun hf => ?_) (fun hf => ?_)
    · refine lv_iconst (v := 0) hx hb dX5_mayEnd_21 (by decide) ?_
      exact hRet _ _ _ (by decide) (Option.some.inj hf) dX5_mayEnd_22
    · refine lv_iconst (v := 1) hx hb dX5_mayEnd_17 (by decide) ?_
      refine lv_goto (tgt := 22) hx hb dX5_mayEnd_18 (by decide) ?_
      exact hRet _ _ _ (by decide) (Option.some.inj hf) dX5_mayEnd_22
set_option maxHeartbeats 4000000 in
set_option maxRecDepth 100000 in
theorem kX5_firstFault (l : Launch) (D : va_G) (cI cR : ClassId) (ar arcells : Nat) (r_cells : Nat → Int32) (r_there : Int32) (r_lane : Int32) (r_length : Int32) (p1 : Int32) (p2 : Int32) (q : Int32) (hf : pX5_firstFault r_cells p1 p2 = some q) : CR l yX5_firstFault wsX5_firstFault ({ frames := 2, cells := 0, slots := 0, locals := 40 } : Room) D cI cR [.ref ar, .int p1, .int p2] [(ar, .inr (2, [.ref arcells, .int r_there, .int r_lane, .int r_length])), (arcells, .inl (cI, 60, .inl r_cells))] (.int q) := by
  refine CRi.intro (cc := cX5_firstFault) (maxL := 4) (ty := .int) (by decide) rfl (Nat.le_of_ble_eq_true rfl) ?_
  intro p e s m args below meth c hx hb hml hts hown hP hK hN QQ hRet ls hl
  have hown : s.vm.findClass RX5 = some m.cls := hown
  have hl : lv_has ls 4 [(0, .ref ar), (1, .int p1), (2, .int p2)] := hl
  have iX2 : ∀ w ∈ u_ws RX2 TX2 4, w ∈ wsX5_firstFault := by decide +kernel
  have hG9 := NN.f (args := args) hN "WorldIndex$Text" 9 "WorldIndex$Row" "cells" "[I" "WorldIndex" (by decide +kernel)
  unfold pX5_firstFault at hf
  refine lv_iconst (v := 0) hx hb dX5_firstFault_0 (by decide) ?_
  refine lv_istore_n (lv' := [(3, .int ((0 : Int32))), (0, .ref ar), (1, .int p1), (2, .int p2)]) hx hb dX5_firstFault_1 rfl hl (by decide) rfl (fun ls hl => ?_)
  have hL2 : ∀ (K : Int32 → Option (Int32)) (hKK : ∀ (k3_v3 : Int32) (ls : Array Slot), K k3_v3 = some q → lv_has ls 4 [(0, .ref ar), (1, .int p1), (2, .int p2), (3, .int k3_v3)] → W p l e ({ frames := 2, cells := 0, slots := 0, locals := 40 } : Room) s m args below meth c s.heap [] 0 0 QQ (F0 m 30 ls [])) (n : Nat), ∀ (b5_v3 : Int32) (ls : Array Slot), pX5_firstFault_L2 p1 p2 r_cells K n b5_v3 = some q → lv_has ls 4 [(0, .ref ar), (1, .int p1), (2, .int p2), (3, .int b5_v3)] → W p l e ({ frames := 2, cells := 0, slots := 0, locals := 40 } : Room) s m args below meth c s.heap [] 0 0 QQ (F0 m 2 ls []) := by
    intro K hKK n
    induction n with
    | zero =>
      intro b5_v3 ls hf hl
      rw [pX5_firstFault_L2_z] at hf
      cases hf
    | succ n ih =>
      intro b5_v3 ls hf hl
      rw [pX5_firstFault_L2_s] at hf
      refine lv_iload_n hx hb dX5_firstFault_2 rfl (lv_at hl 3 rfl) ?_
      refine lv_iload_n hx hb dX5_firstFault_3 rfl (lv_at hl 2 rfl) ?_
      refine q_icmp_ge hx hb hf 30 dX5_firstFault_4 (by decide) (fun hf => ?_) (fun hf => ?_)
      · exact hKK _ _ hf (lv_sub hl [0, 1, 2, 3] rfl)
      · refine lv_aload_n hx hb dX5_firstFault_7 rfl (lv_at hl 0 rfl) ?_
        refine va_getN (D := D) (ci := 2) (v := .ref arcells) (C := RX2) (T := TX2) (N := 4) hx hb hts iX2 hown hK hP 0 rfl rfl 0 (by decide) hG9 (fun _ h9 => h9) rfl dX5_firstFault_8 ?_
        refine lv_iload_n hx hb dX5_firstFault_11 rfl (lv_at hl 1 rfl) ?_
        refine lv_iload_n hx hb dX5_firstFault_12 rfl (lv_at hl 3 rfl) ?_
        refine lv_iadd hx hb dX5_firstFault_13 ?_
        refine q_iald hx hb hK hP 1 0 rfl rfl hf dX5_firstFault_14 (fun x6 hf => ?_)
        refine lv_iload_n hx hb dX5_firstFault_15 rfl (lv_at hl 3 rfl) ?_
        obtain ⟨z7, hz7, hf⟩ := bnd hf
        refine q_rS (rest := []) ⟨hx, hb, hml, hown, hts⟩ (kX5_goesOn l D cI cR x6 b5_v3 z7 hz7) (va_cwS 2 hts gX5_firstFault_X5_goesOn rfl rfl rfl (by decide +kernel) ⟨Nat.le_of_ble_eq_true rfl, Nat.le_of_ble_eq_true rfl⟩) (hP.sub [] rfl) hK hN rfl hl.1 rfl (Nat.le_of_ble_eq_true rfl) dX5_firstFault_16 ⟨Nat.le_of_ble_eq_true rfl, Nat.le_of_ble_eq_true rfl⟩ ?_
        refine q_if_ne hx hb hf 24 dX5_firstFault_19 (by decide) (fun hf => ?_) (fun hf => ?_)
        · refine lv_iinc (v := b5_v3 + (1 : Int32)) (lv' := [(3, .int (b5_v3 + (1 : Int32))), (0, .ref ar), (1, .int p1), (2, .int p2)]) hx hb dX5_firstFault_24 hl (k := 3) rfl rfl (by decide) rfl (fun ls hl => ?_)
          refine lv_goto (tgt := 2) hx hb dX5_firstFault_27 (by decide) ?_
          exact ih _ _ hf (lv_sub hl [1, 2, 3, 0] rfl)
        · refine lv_iload_n hx hb dX5_firstFault_22 rfl (lv_at hl 3 rfl) ?_
          exact hRet _ _ _ rfl (Option.some.inj hf) dX5_firstFault_23
  refine hL2 _ (fun k3_v3 ls hf hl => ?_) fu _ _ hf (lv_sub hl [1, 2, 3, 0] rfl)
  refine lv_iload_n hx hb dX5_firstFault_30 rfl (lv_at hl 2 rfl) ?_
  obtain ⟨z4, hz4, hf⟩ := bnd hf
  refine q_rS (rest := []) ⟨hx, hb, hml, hown, hts⟩ (kX5_mayEnd l D cI cR p2 z4 hz4) (va_cwS 1 hts gX5_firstFault_X5_mayEnd rfl rfl rfl (by decide +kernel) ⟨Nat.le_of_ble_eq_true rfl, Nat.le_of_ble_eq_true rfl⟩) (hP.sub [] rfl) hK hN rfl hl.1 rfl (Nat.le_of_ble_eq_true rfl) dX5_firstFault_31 ⟨Nat.le_of_ble_eq_true rfl, Nat.le_of_ble_eq_true rfl⟩ ?_
  refine q_if_eq hx hb hf 42 dX5_firstFault_34 (by decide) (fun hf => ?_) (fun hf => ?_)
  · refine lv_iload_n hx hb dX5_firstFault_42 rfl (lv_at hl 2 rfl) ?_
    exact hRet _ _ _ rfl (Option.some.inj hf) dX5_firstFault_43
  · refine lv_bipush (v := -9) hx hb dX5_firstFault_37 (by decide) ?_
    refine lv_goto (tgt := 43) hx hb dX5_firstFault_39 (by decide) ?_
    exact hRet _ _ _ rfl (Option.some.inj hf) dX5_firstFault_43
set_option maxHeartbeats 4000000 in
set_option maxRecDepth 100000 in
theorem kX6_answer (l : Launch) (D : va_G) (cI cR : ClassId) (ay ah ahkind ahpage ahasked ahsent : Nat) (y_leaves : Int32) (y_led : Int32) (y_firstWrong : Int32) (h_kind : Nat → Int32) (h_page : Nat → Int32) (h_asked : Nat → Int32) (h_sent : Nat → Int32) (h_count : Int32) (h_wetSet : Int32) (p1 : Int32) (q : Int32) (hf : pX6_answer y_leaves y_led y_firstWrong h_kind h_page h_sent h_count h_wetSet p1 = some q) : CR l yX6_answer wsX6_answer ({ frames := 3, cells := 0, slots := 0, locals := 68 } : Room) D cI cR [.ref ay, .int p1] [(ay, .inr (5, [.ref ah, .int y_leaves, .int y_led, .int y_firstWrong])), (ah, .inr (4, [.ref ahkind, .ref ahpage, .ref ahasked, .ref ahsent, .int h_count, .int h_wetSet])), (ahkind, .inl (cI, 7, .inl h_kind)), (ahpage, .inl (cI, 7, .inl h_page)), (ahasked, .inl (cI, 7, .inl h_asked)), (ahsent, .inl (cI, 7, .inl h_sent))] (.int q) := by
  refine CRi.intro (cc := cX6_answer) (maxL := 2) (ty := .int) (by decide) rfl (Nat.le_of_ble_eq_true rfl) ?_
  intro p e s m args below meth c hx hb hml hts hown hP hK hN QQ hRet ls hl
  have hown : s.vm.findClass RX6 = some m.cls := hown
  have hl : lv_has ls 2 [(0, .ref ay), (1, .int p1)] := hl
  have iX4 : ∀ w ∈ u_ws RX4 TX4 6, w ∈ wsX6_answer := by decide +kernel
  have iX6 : ∀ w ∈ u_ws RX6 TX6 4, w ∈ wsX6_answer := by decide +kernel
  have hF12 := hts (.fieldLink RX6 12 "WorldIndex$Years" "then" "LWorldIndex$Slips;") (by decide +kernel)
  have hF22 := hts (.fieldLink RX6 22 "WorldIndex$Years" "leaves" "I") (by decide +kernel)
  have hF26 := hts (.fieldLink RX6 26 "WorldIndex$Years" "led" "I") (by decide +kernel)
  have hF29 := hts (.fieldLink RX6 29 "WorldIndex$Years" "firstWrong" "I") (by decide +kernel)
  have hG60 := NN.f (args := args) hN "WorldIndex$Years" 60 "WorldIndex$Slips" "wetSet" "I" "WorldIndex" (by decide +kernel)
  unfold pX6_answer at hf
  refine lv_iload_n hx hb dX6_answer_0 rfl (lv_at hl 1 rfl) ?_
  rcases q_sw hf with ⟨hs1_0, hf⟩ | ⟨hs1_0, hf⟩
  · refine lv_tableIn (off := 31) (tgt := 32) hx hb dX6_answer_1 (by rw [hs1_0]; decide) (by rw [hs1_0]; decide) (by rw [hs1_0]; rfl) (by decide) ?_
    refine lv_aload_n hx hb dX6_answer_32 rfl (lv_at hl 0 rfl) ?_
    refine va_get (D := D) (ci := 5) (v := .int y_leaves) (C := RX6) (T := TX6) (N := 4) hx hb hts iX6 hown hK hP 0 rfl rfl 1 (by decide) hF22 (fun _ h9 => h9) rfl dX6_answer_33 ?_
    exact hRet _ _ _ rfl (Option.some.inj hf) dX6_answer_36
  · skip
    rcases q_sw hf with ⟨hs1_1, hf⟩ | ⟨hs1_1, hf⟩
    · refine lv_tableIn (off := 36) (tgt := 37) hx hb dX6_answer_1 (by rw [hs1_1]; decide) (by rw [hs1_1]; decide) (by rw [hs1_1]; rfl) (by decide) ?_
      refine lv_aload_n hx hb dX6_answer_37 rfl (lv_at hl 0 rfl) ?_
      refine va_get (D := D) (ci := 5) (v := .int y_firstWrong) (C := RX6) (T := TX6) (N := 4) hx hb hts iX6 hown hK hP 0 rfl rfl 3 (by decide) hF29 (fun _ h9 => h9) rfl dX6_answer_38 ?_
      exact hRet _ _ _ rfl (Option.some.inj hf) dX6_answer_41
    · skip
      rcases q_sw hf with ⟨hs1_2, hf⟩ | ⟨hs1_2, hf⟩
      · refine lv_tableIn (off := 41) (tgt := 42) hx hb dX6_answer_1 (by rw [hs1_2]; decide) (by rw [hs1_2]; decide) (by rw [hs1_2]; rfl) (by decide) ?_
        refine lv_aload_n hx hb dX6_answer_42 rfl (lv_at hl 0 rfl) ?_
        refine va_get (D := D) (ci := 5) (v := .int y_led) (C := RX6) (T := TX6) (N := 4) hx hb hts iX6 hown hK hP 0 rfl rfl 2 (by decide) hF26 (fun _ h9 => h9) rfl dX6_answer_43 ?_
        exact hRet _ _ _ rfl (Option.some.inj hf) dX6_answer_46
      · skip
        rcases q_sw hf with ⟨hs1_3, hf⟩ | ⟨hs1_3, hf⟩
        · refine lv_tableIn (off := 46) (tgt := 47) hx hb dX6_answer_1 (by rw [hs1_3]; decide) (by rw [hs1_3]; decide) (by rw [hs1_3]; rfl) (by decide) ?_
          refine lv_aload_n hx hb dX6_answer_47 rfl (lv_at hl 0 rfl) ?_
          refine va_get (D := D) (ci := 5) (v := .ref ah) (C := RX6) (T := TX6) (N := 4) hx hb hts iX6 hown hK hP 0 rfl rfl 0 (by decide) hF12 (fun _ h9 => h9) rfl dX6_answer_48 ?_
          refine va_getN (D := D) (ci := 4) (v := .int h_wetSet) (C := RX4) (T := TX4) (N := 6) hx hb hts iX4 hown hK hP 1 rfl rfl 5 (by decide) hG60 (fun _ h9 => h9) rfl dX6_answer_51 ?_
          exact hRet _ _ _ rfl (Option.some.inj hf) dX6_answer_54
        · skip
          have ehs1_0 := nt_i hs1_0 (show ((0 : Int32)).toInt = (0 : Int) by decide)
          have ehs1_1 := nt_i hs1_1 (show ((1 : Int32)).toInt = (1 : Int) by decide)
          have ehs1_2 := nt_i hs1_2 (show ((2 : Int32)).toInt = (2 : Int) by decide)
          have ehs1_3 := nt_i hs1_3 (show ((3 : Int32)).toInt = (3 : Int) by decide)
          refine lv_tableOut (tgt := 55) hx hb dX6_answer_1 (by omega) (by decide) ?_
          refine lv_aload_n hx hb dX6_answer_55 rfl (lv_at hl 0 rfl) ?_
          refine va_get (D := D) (ci := 5) (v := .ref ah) (C := RX6) (T := TX6) (N := 4) hx hb hts iX6 hown hK hP 0 rfl rfl 0 (by decide) hF12 (fun _ h9 => h9) rfl dX6_answer_56 ?_
          refine lv_iload_n hx hb dX6_answer_59 rfl (lv_at hl 1 rfl) ?_
          refine lv_bipush (v := 10) hx hb dX6_answer_60 (by decide) ?_
          refine lv_isub hx hb dX6_answer_62 ?_
          refine q_rV (rest := []) ⟨hx, hb, hml, hown, hts⟩ (kX4_has l D cI cR ah ahkind ahpage ahasked ahsent h_kind h_page h_asked h_sent h_count h_wetSet (p1 - ((10 : Int32))) _ rfl) (cwV 1 hts gX6_answer_X4_has rfl rfl rfl (by decide +kernel) ⟨Nat.le_of_ble_eq_true rfl, Nat.le_of_ble_eq_true rfl⟩) (hP.sub [1, 2, 3, 4, 5] rfl) hK hN (va_recv hK hP (ci := 4) (q0 := 1) rfl rfl) rfl hl.1 rfl (Nat.le_of_ble_eq_true rfl) dX6_answer_63 ⟨Nat.le_of_ble_eq_true rfl, Nat.le_of_ble_eq_true rfl⟩ ?_
          refine q_if_eq hx hb hf 83 dX6_answer_66 (by decide) (fun hf => ?_) (fun hf => ?_)
          · refine lv_bipush (v := -9) hx hb dX6_answer_83 (by decide) ?_
            exact hRet _ _ _ rfl (Option.some.inj hf) dX6_answer_85
          · refine lv_aload_n hx hb dX6_answer_69 rfl (lv_at hl 0 rfl) ?_
            refine va_get (D := D) (ci := 5) (v := .ref ah) (C := RX6) (T := TX6) (N := 4) hx hb hts iX6 hown hK hP 0 rfl rfl 0 (by decide) hF12 (fun _ h9 => h9) rfl dX6_answer_70 ?_
            refine lv_iload_n hx hb dX6_answer_73 rfl (lv_at hl 1 rfl) ?_
            refine lv_bipush (v := 10) hx hb dX6_answer_74 (by decide) ?_
            refine lv_isub hx hb dX6_answer_76 ?_
            obtain ⟨z1, hz1, hf⟩ := bnd hf
            refine q_rV (rest := []) ⟨hx, hb, hml, hown, hts⟩ (kX4_leafOf l D cI cR ah ahkind ahpage ahasked ahsent h_kind h_page h_asked h_sent h_count h_wetSet (p1 - ((10 : Int32))) z1 hz1) (cwV 1 hts gX6_answer_X4_leafOf rfl rfl rfl (by decide +kernel) ⟨Nat.le_of_ble_eq_true rfl, Nat.le_of_ble_eq_true rfl⟩) (hP.sub [1, 2, 3, 4, 5] rfl) hK hN (va_recv hK hP (ci := 4) (q0 := 1) rfl rfl) rfl hl.1 rfl (Nat.le_of_ble_eq_true rfl) dX6_answer_77 ⟨Nat.le_of_ble_eq_true rfl, Nat.le_of_ble_eq_true rfl⟩ ?_
            refine lv_goto (tgt := 85) hx hb dX6_answer_80 (by decide) ?_
            exact hRet _ _ _ rfl (Option.some.inj hf) dX6_answer_85
set_option maxHeartbeats 4000000 in
set_option maxRecDepth 100000 in
theorem kX6_answers (l : Launch) (D : va_G) (cI cR : ClassId) (p0 : Int32) (q : Int32) (hf : pX6_answers p0 = q) : CR l yX6_answers wsX6_answers ({ frames := 0, cells := 0, slots := 0, locals := 0 } : Room) D cI cR [.int p0] [] (.int q) := by
  refine CRi.intro (cc := cX6_answers) (maxL := 1) (ty := .boolean) (by decide) rfl (Nat.le_of_ble_eq_true rfl) ?_
  intro p e s m args below meth c hx hb hml hts hown hP hK hN QQ hRet ls hl
  have hown : s.vm.findClass RX6 = some m.cls := hown
  have hl : lv_has ls 1 [(0, .int p0)] := hl
  unfold pX6_answers at hf
  refine lv_iload_n hx hb dX6_answers_0 rfl (lv_at hl 0 rfl) ?_
  obtain ⟨J9_1, eJ9_1, hf⟩ := q_jn hf
  have hJ9_1 : ∀ (ls : Array Slot), J9_1 = q → lv_has ls 1 [(0, .int p0)] → W p l e ({ frames := 0, cells := 0, slots := 0, locals := 0 } : Room) s m args below meth c s.heap [] 0 0 QQ (F0 m 9 ls []) := by
    intro ls hf hl
    rw [eJ9_1] at hf
    refine lv_iload_n hx hb dX6_answers_9 rfl (lv_at hl 0 rfl) ?_
    refine lv_bipush (v := 10) hx hb dX6_answers_10 (by decide) ?_
    refine q_icmp_lt hx hb hf 25 dX6_answers_12 (by decide) (fun hf => ?_) (fun hf => ?_)
    · refine lv_iconst (v := 0) hx hb dX6_answers_25 (by decide) ?_
      exact hRet _ _ _ (by decide) hf dX6_answers_26
    · refine lv_iload_n hx hb dX6_answers_15 rfl (lv_at hl 0 rfl) ?_
      refine lv_bipush (v := 17) hx hb dX6_answers_16 (by decide) ?_
      refine q_icmp_ge hx hb hf 25 dX6_answers_18 (by decide) (fun hf => ?_) (fun hf => ?_)
      · refine lv_iconst (v := 0) hx hb dX6_answers_25 (by decide) ?_
        exact hRet _ _ _ (by decide) hf dX6_answers_26
      · refine lv_iconst (v := 1) hx hb dX6_answers_21 (by decide) ?_
        refine lv_goto (tgt := 26) hx hb dX6_answers_22 (by decide) ?_
        exact hRet _ _ _ (by decide) hf dX6_answers_26
  refine q_if_lt hx hb hf 9 dX6_answers_1 (by decide) (fun hf => ?_) (fun hf => ?_)
  · exact hJ9_1 _ hf (lv_sub hl [0] rfl)
  · refine lv_iload_n hx hb dX6_answers_4 rfl (lv_at hl 0 rfl) ?_
    refine lv_iconst (v := 3) hx hb dX6_answers_5 (by decide) ?_
    refine q_icmp_le hx hb hf 21 dX6_answers_6 (by decide) (fun hf => ?_) (fun hf => ?_)
    · refine lv_iconst (v := 1) hx hb dX6_answers_21 (by decide) ?_
      refine lv_goto (tgt := 26) hx hb dX6_answers_22 (by decide) ?_
      exact hRet _ _ _ (by decide) hf dX6_answers_26
    · exact hJ9_1 _ hf (lv_sub hl [0] rfl)
set_option maxHeartbeats 4000000 in
set_option maxRecDepth 100000 in
theorem kX6_leadsSomewhere (l : Launch) (D : va_G) (cI cR : ClassId) (ay ah ahkind ahpage ahasked ahsent : Nat) (y_leaves : Int32) (y_led : Int32) (y_firstWrong : Int32) (h_kind : Nat → Int32) (h_page : Nat → Int32) (h_asked : Nat → Int32) (h_sent : Nat → Int32) (h_count : Int32) (h_wetSet : Int32) (p1 : Int32) (q : Int32 × Int32 × Int32) (hf : pX6_leadsSomewhere y_leaves y_led h_kind h_page h_sent h_count h_wetSet p1 = some q) : CWi l yX6_leadsSomewhere wsX6_leadsSomewhere ({ frames := 3, cells := 0, slots := 0, locals := 68 } : Room) D cI cR [.ref ay, .int p1] [(ay, .inr (5, [.ref ah, .int y_leaves, .int y_led, .int y_firstWrong])), (ah, .inr (4, [.ref ahkind, .ref ahpage, .ref ahasked, .ref ahsent, .int h_count, .int h_wetSet])), (ahkind, .inl (cI, 7, .inl h_kind)), (ahpage, .inl (cI, 7, .inl h_page)), (ahasked, .inl (cI, 7, .inl h_asked)), (ahsent, .inl (cI, 7, .inl h_sent))] [(ay, .inr (5, [.ref ah, .int q.2.1, .int q.2.2, .int y_firstWrong])), (ah, .inr (4, [.ref ahkind, .ref ahpage, .ref ahasked, .ref ahsent, .int h_count, .int h_wetSet])), (ahkind, .inl (cI, 7, .inl h_kind)), (ahpage, .inl (cI, 7, .inl h_page)), (ahasked, .inl (cI, 7, .inl h_asked)), (ahsent, .inl (cI, 7, .inl h_sent))] q.1 := by
  refine CWi.intro (cc := cX6_leadsSomewhere) (maxL := 3) (ty := .boolean) (by decide) rfl (Nat.le_of_ble_eq_true rfl) ?_
  intro p e s m args below meth c hx hb hml hts hown hP hK hN A hA hD hS QQ hRet ls hl
  have hown : s.vm.findClass RX6 = some m.cls := hown
  have hl : lv_has ls 3 [(0, .ref ay), (1, .int p1)] := hl
  have iX6 : ∀ w ∈ u_ws RX6 TX6 4, w ∈ wsX6_leadsSomewhere := by decide +kernel
  have hF12 := hts (.fieldLink RX6 12 "WorldIndex$Years" "then" "LWorldIndex$Slips;") (by decide +kernel)
  have hF22 := hts (.fieldLink RX6 22 "WorldIndex$Years" "leaves" "I") (by decide +kernel)
  have hF26 := hts (.fieldLink RX6 26 "WorldIndex$Years" "led" "I") (by decide +kernel)
  unfold pX6_leadsSomewhere at hf
  refine lv_aload_n hx hb dX6_leadsSomewhere_0 rfl (lv_at hl 0 rfl) ?_
  refine va_get (D := D) (ci := 5) (v := .ref ah) (C := RX6) (T := TX6) (N := 4) hx hb hts iX6 hown hK hP 0 rfl rfl 0 (by decide) hF12 (fun _ h9 => h9) rfl dX6_leadsSomewhere_1 ?_
  refine lv_iload_n hx hb dX6_leadsSomewhere_4 rfl (lv_at hl 1 rfl) ?_
  obtain ⟨z1, hz1, hf⟩ := bnd hf
  refine q_rV (rest := []) ⟨hx, hb, hml, hown, hts⟩ (kX4_leafOf l D cI cR ah ahkind ahpage ahasked ahsent h_kind h_page h_asked h_sent h_count h_wetSet p1 z1 hz1) (cwV 1 hts gX6_leadsSomewhere_X4_leafOf rfl rfl rfl (by decide +kernel) ⟨Nat.le_of_ble_eq_true rfl, Nat.le_of_ble_eq_true rfl⟩) (hP.sub [1, 2, 3, 4, 5] rfl) hK hN (va_recv hK hP (ci := 4) (q0 := 1) rfl rfl) rfl hl.1 rfl (Nat.le_of_ble_eq_true rfl) dX6_leadsSomewhere_5 ⟨Nat.le_of_ble_eq_true rfl, Nat.le_of_ble_eq_true rfl⟩ ?_
  refine lv_istore_n (lv' := [(2, .int z1), (0, .ref ay), (1, .int p1)]) hx hb dX6_leadsSomewhere_8 rfl hl (by decide) rfl (fun ls hl => ?_)
  refine lv_iload_n hx hb dX6_leadsSomewhere_9 rfl (lv_at hl 0 rfl) ?_
  refine lv_bipush (v := -9) hx hb dX6_leadsSomewhere_10 (by decide) ?_
  refine q_icmp_ne hx hb hf 17 dX6_leadsSomewhere_12 (by decide) (fun hf => ?_) (fun hf => ?_)
  · refine lv_aload_n hx hb dX6_leadsSomewhere_17 rfl (lv_at hl 1 rfl) ?_
    refine lv_dup hx hb dX6_leadsSomewhere_18 rfl ?_
    refine va_get (D := D) (ci := 5) (v := .int y_leaves) (C := RX6) (T := TX6) (N := 4) hx hb hts iX6 hown hK hP 0 rfl rfl 1 (by decide) hF22 (fun _ h9 => h9) rfl dX6_leadsSomewhere_19 ?_
    refine lv_iload_n hx hb dX6_leadsSomewhere_22 rfl (lv_at hl 0 rfl) ?_
    refine lv_iadd hx hb dX6_leadsSomewhere_23 ?_
    refine va_put (D := D) (ci := 5) (v := .int (y_leaves + z1)) (ty := .int) (C := RX6) (T := TX6) (N := 4) hx hb hts iX6 tyX6 tyX6_ok nmX6 hown hK hP hD hS 0 rfl rfl 1 (by decide) hF22 (fun _ h9 => h9) rfl (tyX6_ok 1 (by decide)) rfl rfl (Nat.le_of_ble_eq_true rfl) dX6_leadsSomewhere_24 (fun H locs hP hD hS => ?_)
    have hP : va_P D vwCl [(ay, .inr (5, [.ref ah, .int (y_leaves + z1), .int y_led, .int y_firstWrong])), (ah, .inr (4, [.ref ahkind, .ref ahpage, .ref ahasked, .ref ahsent, .int h_count, .int h_wetSet])), (ahkind, .inl (cI, 7, .inl h_kind)), (ahpage, .inl (cI, 7, .inl h_page)), (ahasked, .inl (cI, 7, .inl h_asked)), (ahsent, .inl (cI, 7, .inl h_sent))] H := hP
    have hD : va_D A [(ay, .inr (5, [.ref ah, .int (y_leaves + z1), .int y_led, .int y_firstWrong])), (ah, .inr (4, [.ref ahkind, .ref ahpage, .ref ahasked, .ref ahsent, .int h_count, .int h_wetSet])), (ahkind, .inl (cI, 7, .inl h_kind)), (ahpage, .inl (cI, 7, .inl h_page)), (ahasked, .inl (cI, 7, .inl h_asked)), (ahsent, .inl (cI, 7, .inl h_sent))] := hD
    refine lv_aload_n hx hb dX6_leadsSomewhere_27 rfl (lv_at hl 1 rfl) ?_
    refine lv_dup hx hb dX6_leadsSomewhere_28 rfl ?_
    refine va_get (D := D) (ci := 5) (v := .int y_led) (C := RX6) (T := TX6) (N := 4) hx hb hts iX6 hown hK hP 0 rfl rfl 2 (by decide) hF26 (fun _ h9 => h9) rfl dX6_leadsSomewhere_29 ?_
    refine lv_iconst (v := 1) hx hb dX6_leadsSomewhere_32 (by decide) ?_
    refine lv_iadd hx hb dX6_leadsSomewhere_33 ?_
    refine va_put (D := D) (ci := 5) (v := .int (y_led + ((1 : Int32)))) (ty := .int) (C := RX6) (T := TX6) (N := 4) hx hb hts iX6 tyX6 tyX6_ok nmX6 hown hK hP hD hS 0 rfl rfl 2 (by decide) hF26 (fun _ h9 => h9) rfl (tyX6_ok 2 (by decide)) rfl rfl (Nat.le_of_ble_eq_true rfl) dX6_leadsSomewhere_34 (fun H locs hP hD hS => ?_)
    have hP : va_P D vwCl [(ay, .inr (5, [.ref ah, .int (y_leaves + z1), .int (y_led + ((1 : Int32))), .int y_firstWrong])), (ah, .inr (4, [.ref ahkind, .ref ahpage, .ref ahasked, .ref ahsent, .int h_count, .int h_wetSet])), (ahkind, .inl (cI, 7, .inl h_kind)), (ahpage, .inl (cI, 7, .inl h_page)), (ahasked, .inl (cI, 7, .inl h_asked)), (ahsent, .inl (cI, 7, .inl h_sent))] H := hP
    have hD : va_D A [(ay, .inr (5, [.ref ah, .int (y_leaves + z1), .int (y_led + ((1 : Int32))), .int y_firstWrong])), (ah, .inr (4, [.ref ahkind, .ref ahpage, .ref ahasked, .ref ahsent, .int h_count, .int h_wetSet])), (ahkind, .inl (cI, 7, .inl h_kind)), (ahpage, .inl (cI, 7, .inl h_page)), (ahasked, .inl (cI, 7, .inl h_asked)), (ahsent, .inl (cI, 7, .inl h_sent))] := hD
    refine lv_iconst (v := 1) hx hb dX6_leadsSomewhere_37 (by decide) ?_
    have hq9 := Option.some.inj hf
    subst hq9
    exact hRet _ _ _ _ _ (by decide) rfl hP hD hS dX6_leadsSomewhere_38
  · refine lv_iconst (v := 0) hx hb dX6_leadsSomewhere_15 (by decide) ?_
    have hq9 := Option.some.inj hf
    subst hq9
    exact hRet _ _ _ _ _ (by decide) rfl hP hD hS dX6_leadsSomewhere_16
set_option maxHeartbeats 4000000 in
set_option maxRecDepth 100000 in
theorem kX6_happens (l : Launch) (D : va_G) (cI cR : ClassId) (ay ah ahkind ahpage ahasked ahsent : Nat) (y_leaves : Int32) (y_led : Int32) (y_firstWrong : Int32) (h_kind : Nat → Int32) (h_page : Nat → Int32) (h_asked : Nat → Int32) (h_sent : Nat → Int32) (h_count : Int32) (h_wetSet : Int32) (p1 : Int32) (p2 : Int32) (q : Int32 × Int32 × Int32 × (Nat → Int32) × Int32) (hf : pX6_happens y_leaves y_led h_kind h_page h_sent h_count h_wetSet p1 p2 = some q) : CWi l yX6_happens wsX6_happens ({ frames := 4, cells := 0, slots := 0, locals := 90 } : Room) D cI cR [.ref ay, .int p1, .int p2] [(ay, .inr (5, [.ref ah, .int y_leaves, .int y_led, .int y_firstWrong])), (ah, .inr (4, [.ref ahkind, .ref ahpage, .ref ahasked, .ref ahsent, .int h_count, .int h_wetSet])), (ahkind, .inl (cI, 7, .inl h_kind)), (ahpage, .inl (cI, 7, .inl h_page)), (ahasked, .inl (cI, 7, .inl h_asked)), (ahsent, .inl (cI, 7, .inl h_sent))] [(ay, .inr (5, [.ref ah, .int q.2.1, .int q.2.2.1, .int y_firstWrong])), (ah, .inr (4, [.ref ahkind, .ref ahpage, .ref ahasked, .ref ahsent, .int h_count, .int q.2.2.2.2])), (ahkind, .inl (cI, 7, .inl h_kind)), (ahpage, .inl (cI, 7, .inl h_page)), (ahasked, .inl (cI, 7, .inl h_asked)), (ahsent, .inl (cI, 7, .inl q.2.2.2.1))] q.1 := by
  refine CWi.intro (cc := cX6_happens) (maxL := 3) (ty := .boolean) (by decide) rfl (Nat.le_of_ble_eq_true rfl) ?_
  intro p e s m args below meth c hx hb hml hts hown hP hK hN A hA hD hS QQ hRet ls hl
  have hown : s.vm.findClass RX6 = some m.cls := hown
  have hl : lv_has ls 3 [(0, .ref ay), (1, .int p1), (2, .int p2)] := hl
  have iX6 : ∀ w ∈ u_ws RX6 TX6 4, w ∈ wsX6_happens := by decide +kernel
  have hF12 := hts (.fieldLink RX6 12 "WorldIndex$Years" "then" "LWorldIndex$Slips;") (by decide +kernel)
  unfold pX6_happens at hf
  refine lv_iload_n hx hb dX6_happens_0 rfl (lv_at hl 2 rfl) ?_
  rcases q_sw hf with ⟨hs1_0, hf⟩ | ⟨hs1_0, hf⟩
  · refine lv_tableIn (off := 27) (tgt := 28) hx hb dX6_happens_1 (by rw [hs1_0]; decide) (by rw [hs1_0]; decide) (by rw [hs1_0]; rfl) (by decide) ?_
    refine lv_aload_n hx hb dX6_happens_28 rfl (lv_at hl 0 rfl) ?_
    refine lv_iload_n hx hb dX6_happens_29 rfl (lv_at hl 1 rfl) ?_
    obtain ⟨z1, hz1, hf⟩ := bnd hf
    refine q_wVi (wr := []) (rest := []) ⟨hx, hb, hml, hown, hts⟩ (kX6_leadsSomewhere l D cI cR ay ah ahkind ahpage ahasked ahsent y_leaves y_led y_firstWrong h_kind h_page h_asked h_sent h_count h_wetSet p1 z1 hz1) (cwV 1 hts gX6_happens_X6_leadsSomewhere rfl rfl rfl (by decide +kernel) ⟨Nat.le_of_ble_eq_true rfl, Nat.le_of_ble_eq_true rfl⟩) hP hD hS hA hK hN [0, 1, 2, 3, 4, 5] [] rfl rfl (by decide) (by decide) (by decide) (va_recv hK hP (ci := 5) (q0 := 0) rfl rfl) rfl hl.1 rfl (Nat.le_of_ble_eq_true rfl) dX6_happens_30 ⟨Nat.le_of_ble_eq_true rfl, Nat.le_of_ble_eq_true rfl⟩ (fun H locs hP hD hS => ?_)
    have hP : va_P D vwCl [(ay, .inr (5, [.ref ah, .int z1.2.1, .int z1.2.2, .int y_firstWrong])), (ah, .inr (4, [.ref ahkind, .ref ahpage, .ref ahasked, .ref ahsent, .int h_count, .int h_wetSet])), (ahkind, .inl (cI, 7, .inl h_kind)), (ahpage, .inl (cI, 7, .inl h_page)), (ahasked, .inl (cI, 7, .inl h_asked)), (ahsent, .inl (cI, 7, .inl h_sent))] H := hP
    have hD : va_D A [(ay, .inr (5, [.ref ah, .int z1.2.1, .int z1.2.2, .int y_firstWrong])), (ah, .inr (4, [.ref ahkind, .ref ahpage, .ref ahasked, .ref ahsent, .int h_count, .int h_wetSet])), (ahkind, .inl (cI, 7, .inl h_kind)), (ahpage, .inl (cI, 7, .inl h_page)), (ahasked, .inl (cI, 7, .inl h_asked)), (ahsent, .inl (cI, 7, .inl h_sent))] := hD
    obtain ⟨hbz2, hf⟩ := bq_s hf
    have hq9 := Option.some.inj hf
    subst hq9
    exact hRet _ _ _ _ _ hbz2 rfl hP hD hS dX6_happens_33
  · skip
    rcases q_sw hf with ⟨hs1_1, hf⟩ | ⟨hs1_1, hf⟩
    · refine lv_tableIn (off := 33) (tgt := 34) hx hb dX6_happens_1 (by rw [hs1_1]; decide) (by rw [hs1_1]; decide) (by rw [hs1_1]; rfl) (by decide) ?_
      refine lv_aload_n hx hb dX6_happens_34 rfl (lv_at hl 0 rfl) ?_
      refine va_get (D := D) (ci := 5) (v := .ref ah) (C := RX6) (T := TX6) (N := 4) hx hb hts iX6 hown hK hP 0 rfl rfl 0 (by decide) hF12 (fun _ h9 => h9) rfl dX6_happens_35 ?_
      refine lv_iload_n hx hb dX6_happens_38 rfl (lv_at hl 1 rfl) ?_
      obtain ⟨z3, hz3, hf⟩ := bnd hf
      refine q_wVi (wr := [(ay, .inr (5, [.ref ah, .int y_leaves, .int y_led, .int y_firstWrong]))]) (rest := []) ⟨hx, hb, hml, hown, hts⟩ (kX4_soak l D cI cR ah ahkind ahpage ahasked ahsent h_kind h_page h_asked h_sent h_count h_wetSet p1 z3 hz3) (cwV 1 hts gX6_happens_X4_soak rfl rfl rfl (by decide +kernel) ⟨Nat.le_of_ble_eq_true rfl, Nat.le_of_ble_eq_true rfl⟩) hP hD hS hA hK hN [1, 2, 3, 4, 5] [0] rfl rfl (by decide) (by decide) (by decide) (va_recv hK hP (ci := 4) (q0 := 1) rfl rfl) rfl hl.1 rfl (Nat.le_of_ble_eq_true rfl) dX6_happens_39 ⟨Nat.le_of_ble_eq_true rfl, Nat.le_of_ble_eq_true rfl⟩ (fun H locs hP hD hS => ?_)
      have hP := hP.sub (ws' := [(ay, .inr (5, [.ref ah, .int y_leaves, .int y_led, .int y_firstWrong])), (ah, .inr (4, [.ref ahkind, .ref ahpage, .ref ahasked, .ref ahsent, .int h_count, .int z3.2])), (ahkind, .inl (cI, 7, .inl h_kind)), (ahpage, .inl (cI, 7, .inl h_page)), (ahasked, .inl (cI, 7, .inl h_asked)), (ahsent, .inl (cI, 7, .inl h_sent))]) [0, 1, 2, 3, 4, 5] rfl
      have hD := hD.sub (ws' := [(ay, .inr (5, [.ref ah, .int y_leaves, .int y_led, .int y_firstWrong])), (ah, .inr (4, [.ref ahkind, .ref ahpage, .ref ahasked, .ref ahsent, .int h_count, .int z3.2])), (ahkind, .inl (cI, 7, .inl h_kind)), (ahpage, .inl (cI, 7, .inl h_page)), (ahasked, .inl (cI, 7, .inl h_asked)), (ahsent, .inl (cI, 7, .inl h_sent))]) [0, 1, 2, 3, 4, 5] (by decide) rfl
      obtain ⟨hbz4, hf⟩ := bq_s hf
      have hq9 := Option.some.inj hf
      subst hq9
      exact hRet _ _ _ _ _ hbz4 rfl hP hD hS dX6_happens_42
    · skip
      rcases q_sw hf with ⟨hs1_2, hf⟩ | ⟨hs1_2, hf⟩
      · refine lv_tableIn (off := 42) (tgt := 43) hx hb dX6_happens_1 (by rw [hs1_2]; decide) (by rw [hs1_2]; decide) (by rw [hs1_2]; rfl) (by decide) ?_
        refine lv_aload_n hx hb dX6_happens_43 rfl (lv_at hl 0 rfl) ?_
        refine va_get (D := D) (ci := 5) (v := .ref ah) (C := RX6) (T := TX6) (N := 4) hx hb hts iX6 hown hK hP 0 rfl rfl 0 (by decide) hF12 (fun _ h9 => h9) rfl dX6_happens_44 ?_
        refine lv_iload_n hx hb dX6_happens_47 rfl (lv_at hl 1 rfl) ?_
        obtain ⟨z5, hz5, hf⟩ := bnd hf
        refine q_wVi (wr := [(ay, .inr (5, [.ref ah, .int y_leaves, .int y_led, .int y_firstWrong]))]) (rest := []) ⟨hx, hb, hml, hown, hts⟩ (kX4_air l D cI cR ah ahkind ahpage ahasked ahsent h_kind h_page h_asked h_sent h_count h_wetSet p1 z5 hz5) (cwV 1 hts gX6_happens_X4_air rfl rfl rfl (by decide +kernel) ⟨Nat.le_of_ble_eq_true rfl, Nat.le_of_ble_eq_true rfl⟩) hP hD hS hA hK hN [1, 2, 3, 4, 5] [0] rfl rfl (by decide) (by decide) (by decide) (va_recv hK hP (ci := 4) (q0 := 1) rfl rfl) rfl hl.1 rfl (Nat.le_of_ble_eq_true rfl) dX6_happens_48 ⟨Nat.le_of_ble_eq_true rfl, Nat.le_of_ble_eq_true rfl⟩ (fun H locs hP hD hS => ?_)
        have hP := hP.sub (ws' := [(ay, .inr (5, [.ref ah, .int y_leaves, .int y_led, .int y_firstWrong])), (ah, .inr (4, [.ref ahkind, .ref ahpage, .ref ahasked, .ref ahsent, .int h_count, .int z5.2])), (ahkind, .inl (cI, 7, .inl h_kind)), (ahpage, .inl (cI, 7, .inl h_page)), (ahasked, .inl (cI, 7, .inl h_asked)), (ahsent, .inl (cI, 7, .inl h_sent))]) [0, 1, 2, 3, 4, 5] rfl
        have hD := hD.sub (ws' := [(ay, .inr (5, [.ref ah, .int y_leaves, .int y_led, .int y_firstWrong])), (ah, .inr (4, [.ref ahkind, .ref ahpage, .ref ahasked, .ref ahsent, .int h_count, .int z5.2])), (ahkind, .inl (cI, 7, .inl h_kind)), (ahpage, .inl (cI, 7, .inl h_page)), (ahasked, .inl (cI, 7, .inl h_asked)), (ahsent, .inl (cI, 7, .inl h_sent))]) [0, 1, 2, 3, 4, 5] (by decide) rfl
        obtain ⟨hbz6, hf⟩ := bq_s hf
        have hq9 := Option.some.inj hf
        subst hq9
        exact hRet _ _ _ _ _ hbz6 rfl hP hD hS dX6_happens_51
      · skip
        have ehs1_0 := nt_i hs1_0 (show ((0 : Int32)).toInt = (0 : Int) by decide)
        have ehs1_1 := nt_i hs1_1 (show ((1 : Int32)).toInt = (1 : Int) by decide)
        have ehs1_2 := nt_i hs1_2 (show ((2 : Int32)).toInt = (2 : Int) by decide)
        refine lv_tableOut (tgt := 52) hx hb dX6_happens_1 (by omega) (by decide) ?_
        refine lv_aload_n hx hb dX6_happens_52 rfl (lv_at hl 0 rfl) ?_
        refine va_get (D := D) (ci := 5) (v := .ref ah) (C := RX6) (T := TX6) (N := 4) hx hb hts iX6 hown hK hP 0 rfl rfl 0 (by decide) hF12 (fun _ h9 => h9) rfl dX6_happens_53 ?_
        refine lv_iload_n hx hb dX6_happens_56 rfl (lv_at hl 1 rfl) ?_
        refine lv_iload_n hx hb dX6_happens_57 rfl (lv_at hl 2 rfl) ?_
        refine lv_bipush (v := 10) hx hb dX6_happens_58 (by decide) ?_
        refine lv_isub hx hb dX6_happens_60 ?_
        obtain ⟨z7, hz7, hf⟩ := bnd hf
        refine q_wVv (wr := [(ay, .inr (5, [.ref ah, .int y_leaves, .int y_led, .int y_firstWrong]))]) (rest := []) ⟨hx, hb, hml, hown, hts⟩ (kX4_send l D cI cR ah ahkind ahpage ahasked ahsent h_kind h_page h_asked h_sent h_count h_wetSet p1 (p2 - ((10 : Int32))) z7 hz7) (cwV 2 hts gX6_happens_X4_send rfl rfl rfl (by decide +kernel) ⟨Nat.le_of_ble_eq_true rfl, Nat.le_of_ble_eq_true rfl⟩) hP hD hS hA hK hN [1, 2, 3, 4, 5] [0] rfl rfl (by decide) (by decide) (by decide) (va_recv hK hP (ci := 4) (q0 := 1) rfl rfl) rfl hl.1 rfl (Nat.le_of_ble_eq_true rfl) dX6_happens_61 ⟨Nat.le_of_ble_eq_true rfl, Nat.le_of_ble_eq_true rfl⟩ (fun H locs hP hD hS => ?_)
        have hP := hP.sub (ws' := [(ay, .inr (5, [.ref ah, .int y_leaves, .int y_led, .int y_firstWrong])), (ah, .inr (4, [.ref ahkind, .ref ahpage, .ref ahasked, .ref ahsent, .int h_count, .int h_wetSet])), (ahkind, .inl (cI, 7, .inl h_kind)), (ahpage, .inl (cI, 7, .inl h_page)), (ahasked, .inl (cI, 7, .inl h_asked)), (ahsent, .inl (cI, 7, .inl z7))]) [0, 1, 2, 3, 4, 5] rfl
        have hD := hD.sub (ws' := [(ay, .inr (5, [.ref ah, .int y_leaves, .int y_led, .int y_firstWrong])), (ah, .inr (4, [.ref ahkind, .ref ahpage, .ref ahasked, .ref ahsent, .int h_count, .int h_wetSet])), (ahkind, .inl (cI, 7, .inl h_kind)), (ahpage, .inl (cI, 7, .inl h_page)), (ahasked, .inl (cI, 7, .inl h_asked)), (ahsent, .inl (cI, 7, .inl z7))]) [0, 1, 2, 3, 4, 5] (by decide) rfl
        refine lv_iconst (v := 1) hx hb dX6_happens_64 (by decide) ?_
        have hq9 := Option.some.inj hf
        subst hq9
        exact hRet _ _ _ _ _ (by decide) rfl hP hD hS dX6_happens_65
