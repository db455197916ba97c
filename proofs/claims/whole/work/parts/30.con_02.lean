set_option maxHeartbeats 4000000 in
set_option maxRecDepth 100000 in
theorem kX6_goThrough (l : Launch) (D : va_G) (cI cR : ClassId) (ay ah ahkind ahpage ahasked ahsent an ankind anpage anasked ansent ar arcells : Nat) (y_leaves : Int32) (y_led : Int32) (y_firstWrong : Int32) (h_kind : Nat → Int32) (h_page : Nat → Int32) (h_asked : Nat → Int32) (h_sent : Nat → Int32) (h_count : Int32) (h_wetSet : Int32) (n_kind : Nat → Int32) (n_page : Nat → Int32) (n_asked : Nat → Int32) (n_sent : Nat → Int32) (n_count : Int32) (n_wetSet : Int32) (r_cells : Nat → Int32) (r_there : Int32) (r_lane : Int32) (r_length : Int32) (p3 : Int32) (p4 : Int32) (q : Int32 × Int32 × Int32 × (Nat → Int32) × (Nat → Int32) × (Nat → Int32) × (Nat → Int32) × Int32 × Int32) (hf : pX6_goThrough y_leaves y_led y_firstWrong h_kind h_page h_asked h_sent h_count h_wetSet n_kind n_page n_asked n_sent n_count n_wetSet r_cells p3 p4 = some q) : CWv l yX6_goThrough wsX6_goThrough ({ frames := 5, cells := 0, slots := 0, locals := 112 } : Room) D cI cR [.ref ay, .ref an, .ref ar, .int p3, .int p4] [(ay, .inr (5, [.ref ah, .int y_leaves, .int y_led, .int y_firstWrong])), (ah, .inr (4, [.ref ahkind, .ref ahpage, .ref ahasked, .ref ahsent, .int h_count, .int h_wetSet])), (ahkind, .inl (cI, 7, .inl h_kind)), (ahpage, .inl (cI, 7, .inl h_page)), (ahasked, .inl (cI, 7, .inl h_asked)), (ahsent, .inl (cI, 7, .inl h_sent)), (an, .inr (4, [.ref ankind, .ref anpage, .ref anasked, .ref ansent, .int n_count, .int n_wetSet])), (ankind, .inl (cI, 7, .inl n_kind)), (anpage, .inl (cI, 7, .inl n_page)), (anasked, .inl (cI, 7, .inl n_asked)), (ansent, .inl (cI, 7, .inl n_sent)), (ar, .inr (2, [.ref arcells, .int r_there, .int r_lane, .int r_length])), (arcells, .inl (cI, 60, .inl r_cells))] [(ay, .inr (5, [.ref ah, .int q.1, .int q.2.1, .int q.2.2.1])), (ah, .inr (4, [.ref ahkind, .ref ahpage, .ref ahasked, .ref ahsent, .int q.2.2.2.2.2.2.2.1, .int q.2.2.2.2.2.2.2.2])), (ahkind, .inl (cI, 7, .inl q.2.2.2.1)), (ahpage, .inl (cI, 7, .inl q.2.2.2.2.1)), (ahasked, .inl (cI, 7, .inl q.2.2.2.2.2.1)), (ahsent, .inl (cI, 7, .inl q.2.2.2.2.2.2.1)), (an, .inr (4, [.ref ankind, .ref anpage, .ref anasked, .ref ansent, .int n_count, .int n_wetSet])), (ankind, .inl (cI, 7, .inl n_kind)), (anpage, .inl (cI, 7, .inl n_page)), (anasked, .inl (cI, 7, .inl n_asked)), (ansent, .inl (cI, 7, .inl n_sent)), (ar, .inr (2, [.ref arcells, .int r_there, .int r_lane, .int r_length])), (arcells, .inl (cI, 60, .inl r_cells))] := by
  refine CWv.intro (cc := cX6_goThrough) (maxL := 7) (by decide) rfl (Nat.le_of_ble_eq_true rfl) ?_
  intro p e s m args below meth c hx hb hml hts hown hP hK hN A hA hD hS QQ hRet ls hl
  have hown : s.vm.findClass RX6 = some m.cls := hown
  have hl : lv_has ls 7 [(0, .ref ay), (1, .ref an), (2, .ref ar), (3, .int p3), (4, .int p4)] := hl
  have iX2 : ∀ w ∈ u_ws RX2 TX2 4, w ∈ wsX6_goThrough := by decide +kernel
  have iX6 : ∀ w ∈ u_ws RX6 TX6 4, w ∈ wsX6_goThrough := by decide +kernel
  have hF12 := hts (.fieldLink RX6 12 "WorldIndex$Years" "then" "LWorldIndex$Slips;") (by decide +kernel)
  have hF22 := hts (.fieldLink RX6 22 "WorldIndex$Years" "leaves" "I") (by decide +kernel)
  have hF26 := hts (.fieldLink RX6 26 "WorldIndex$Years" "led" "I") (by decide +kernel)
  have hF29 := hts (.fieldLink RX6 29 "WorldIndex$Years" "firstWrong" "I") (by decide +kernel)
  have hG32 := NN.f (args := args) hN "WorldIndex$Years" 32 "WorldIndex$Row" "cells" "[I" "WorldIndex" (by decide +kernel)
  unfold pX6_goThrough at hf
  refine lv_aload_n hx hb dX6_goThrough_0 rfl (lv_at hl 0 rfl) ?_
  refine va_get (D := D) (ci := 5) (v := .ref ah) (C := RX6) (T := TX6) (N := 4) hx hb hts iX6 hown hK hP 0 rfl rfl 0 (by decide) hF12 (fun _ h9 => h9) rfl dX6_goThrough_1 ?_
  refine lv_aload_n hx hb dX6_goThrough_4 rfl (lv_at hl 1 rfl) ?_
  obtain ⟨z1, hz1, hf⟩ := bnd hf
  refine q_wVv (wr := [(ay, .inr (5, [.ref ah, .int y_leaves, .int y_led, .int y_firstWrong])), (ar, .inr (2, [.ref arcells, .int r_there, .int r_lane, .int r_length])), (arcells, .inl (cI, 60, .inl r_cells))]) (rest := []) ⟨hx, hb, hml, hown, hts⟩ (kX4_becomeLike l D cI cR ah ahkind ahpage ahasked ahsent an ankind anpage anasked ansent h_kind h_page h_asked h_sent h_count h_wetSet n_kind n_page n_asked n_sent n_count n_wetSet z1 hz1) (cwV 1 hts gX6_goThrough_X4_becomeLike rfl rfl rfl (by decide +kernel) ⟨Nat.le_of_ble_eq_true rfl, Nat.le_of_ble_eq_true rfl⟩) hP hD hS hA hK hN [1, 2, 3, 4, 5, 6, 7, 8, 9, 10] [0, 11, 12] rfl rfl (by decide) (by decide) (by decide) (va_recv hK hP (ci := 4) (q0 := 1) rfl rfl) rfl hl.1 rfl (Nat.le_of_ble_eq_true rfl) dX6_goThrough_5 ⟨Nat.le_of_ble_eq_true rfl, Nat.le_of_ble_eq_true rfl⟩ (fun H locs hP hD hS => ?_)
  have hP := hP.sub (ws' := [(ay, .inr (5, [.ref ah, .int y_leaves, .int y_led, .int y_firstWrong])), (ah, .inr (4, [.ref ahkind, .ref ahpage, .ref ahasked, .ref ahsent, .int z1.2.2.2.2.1, .int z1.2.2.2.2.2])), (ahkind, .inl (cI, 7, .inl z1.1)), (ahpage, .inl (cI, 7, .inl z1.2.1)), (ahasked, .inl (cI, 7, .inl z1.2.2.1)), (ahsent, .inl (cI, 7, .inl z1.2.2.2.1)), (an, .inr (4, [.ref ankind, .ref anpage, .ref anasked, .ref ansent, .int n_count, .int n_wetSet])), (ankind, .inl (cI, 7, .inl n_kind)), (anpage, .inl (cI, 7, .inl n_page)), (anasked, .inl (cI, 7, .inl n_asked)), (ansent, .inl (cI, 7, .inl n_sent)), (ar, .inr (2, [.ref arcells, .int r_there, .int r_lane, .int r_length])), (arcells, .inl (cI, 60, .inl r_cells))]) [0, 3, 4, 5, 6, 7, 8, 9, 10, 11, 12, 1, 2] rfl
  have hD := hD.sub (ws' := [(ay, .inr (5, [.ref ah, .int y_leaves, .int y_led, .int y_firstWrong])), (ah, .inr (4, [.ref ahkind, .ref ahpage, .ref ahasked, .ref ahsent, .int z1.2.2.2.2.1, .int z1.2.2.2.2.2])), (ahkind, .inl (cI, 7, .inl z1.1)), (ahpage, .inl (cI, 7, .inl z1.2.1)), (ahasked, .inl (cI, 7, .inl z1.2.2.1)), (ahsent, .inl (cI, 7, .inl z1.2.2.2.1)), (an, .inr (4, [.ref ankind, .ref anpage, .ref anasked, .ref ansent, .int n_count, .int n_wetSet])), (ankind, .inl (cI, 7, .inl n_kind)), (anpage, .inl (cI, 7, .inl n_page)), (anasked, .inl (cI, 7, .inl n_asked)), (ansent, .inl (cI, 7, .inl n_sent)), (ar, .inr (2, [.ref arcells, .int r_there, .int r_lane, .int r_length])), (arcells, .inl (cI, 60, .inl r_cells))]) [0, 3, 4, 5, 6, 7, 8, 9, 10, 11, 12, 1, 2] (by decide) rfl
  refine lv_aload_n hx hb dX6_goThrough_8 rfl (lv_at hl 0 rfl) ?_
  refine lv_iconst (v := 0) hx hb dX6_goThrough_9 (by decide) ?_
  refine va_put (D := D) (ci := 5) (v := .int ((0 : Int32))) (ty := .int) (C := RX6) (T := TX6) (N := 4) hx hb hts iX6 tyX6 tyX6_ok nmX6 hown hK hP hD hS 0 rfl rfl 1 (by decide) hF22 (fun _ h9 => h9) rfl (tyX6_ok 1 (by decide)) rfl rfl (Nat.le_of_ble_eq_true rfl) dX6_goThrough_10 (fun H locs hP hD hS => ?_)
  have hP : va_P D vwCl [(ay, .inr (5, [.ref ah, .int ((0 : Int32)), .int y_led, .int y_firstWrong])), (ah, .inr (4, [.ref ahkind, .ref ahpage, .ref ahasked, .ref ahsent, .int z1.2.2.2.2.1, .int z1.2.2.2.2.2])), (ahkind, .inl (cI, 7, .inl z1.1)), (ahpage, .inl (cI, 7, .inl z1.2.1)), (ahasked, .inl (cI, 7, .inl z1.2.2.1)), (ahsent, .inl (cI, 7, .inl z1.2.2.2.1)), (an, .inr (4, [.ref ankind, .ref anpage, .ref anasked, .ref ansent, .int n_count, .int n_wetSet])), (ankind, .inl (cI, 7, .inl n_kind)), (anpage, .inl (cI, 7, .inl n_page)), (anasked, .inl (cI, 7, .inl n_asked)), (ansent, .inl (cI, 7, .inl n_sent)), (ar, .inr (2, [.ref arcells, .int r_there, .int r_lane, .int r_length])), (arcells, .inl (cI, 60, .inl r_cells))] H := hP
  have hD : va_D A [(ay, .inr (5, [.ref ah, .int ((0 : Int32)), .int y_led, .int y_firstWrong])), (ah, .inr (4, [.ref ahkind, .ref ahpage, .ref ahasked, .ref ahsent, .int z1.2.2.2.2.1, .int z1.2.2.2.2.2])), (ahkind, .inl (cI, 7, .inl z1.1)), (ahpage, .inl (cI, 7, .inl z1.2.1)), (ahasked, .inl (cI, 7, .inl z1.2.2.1)), (ahsent, .inl (cI, 7, .inl z1.2.2.2.1)), (an, .inr (4, [.ref ankind, .ref anpage, .ref anasked, .ref ansent, .int n_count, .int n_wetSet])), (ankind, .inl (cI, 7, .inl n_kind)), (anpage, .inl (cI, 7, .inl n_page)), (anasked, .inl (cI, 7, .inl n_asked)), (ansent, .inl (cI, 7, .inl n_sent)), (ar, .inr (2, [.ref arcells, .int r_there, .int r_lane, .int r_length])), (arcells, .inl (cI, 60, .inl r_cells))] := hD
  refine lv_aload_n hx hb dX6_goThrough_13 rfl (lv_at hl 0 rfl) ?_
  refine lv_iconst (v := 0) hx hb dX6_goThrough_14 (by decide) ?_
  refine va_put (D := D) (ci := 5) (v := .int ((0 : Int32))) (ty := .int) (C := RX6) (T := TX6) (N := 4) hx hb hts iX6 tyX6 tyX6_ok nmX6 hown hK hP hD hS 0 rfl rfl 2 (by decide) hF26 (fun _ h9 => h9) rfl (tyX6_ok 2 (by decide)) rfl rfl (Nat.le_of_ble_eq_true rfl) dX6_goThrough_15 (fun H locs hP hD hS => ?_)
  have hP : va_P D vwCl [(ay, .inr (5, [.ref ah, .int ((0 : Int32)), .int ((0 : Int32)), .int y_firstWrong])), (ah, .inr (4, [.ref ahkind, .ref ahpage, .ref ahasked, .ref ahsent, .int z1.2.2.2.2.1, .int z1.2.2.2.2.2])), (ahkind, .inl (cI, 7, .inl z1.1)), (ahpage, .inl (cI, 7, .inl z1.2.1)), (ahasked, .inl (cI, 7, .inl z1.2.2.1)), (ahsent, .inl (cI, 7, .inl z1.2.2.2.1)), (an, .inr (4, [.ref ankind, .ref anpage, .ref anasked, .ref ansent, .int n_count, .int n_wetSet])), (ankind, .inl (cI, 7, .inl n_kind)), (anpage, .inl (cI, 7, .inl n_page)), (anasked, .inl (cI, 7, .inl n_asked)), (ansent, .inl (cI, 7, .inl n_sent)), (ar, .inr (2, [.ref arcells, .int r_there, .int r_lane, .int r_length])), (arcells, .inl (cI, 60, .inl r_cells))] H := hP
  have hD : va_D A [(ay, .inr (5, [.ref ah, .int ((0 : Int32)), .int ((0 : Int32)), .int y_firstWrong])), (ah, .inr (4, [.ref ahkind, .ref ahpage, .ref ahasked, .ref ahsent, .int z1.2.2.2.2.1, .int z1.2.2.2.2.2])), (ahkind, .inl (cI, 7, .inl z1.1)), (ahpage, .inl (cI, 7, .inl z1.2.1)), (ahasked, .inl (cI, 7, .inl z1.2.2.1)), (ahsent, .inl (cI, 7, .inl z1.2.2.2.1)), (an, .inr (4, [.ref ankind, .ref anpage, .ref anasked, .ref ansent, .int n_count, .int n_wetSet])), (ankind, .inl (cI, 7, .inl n_kind)), (anpage, .inl (cI, 7, .inl n_page)), (anasked, .inl (cI, 7, .inl n_asked)), (ansent, .inl (cI, 7, .inl n_sent)), (ar, .inr (2, [.ref arcells, .int r_there, .int r_lane, .int r_length])), (arcells, .inl (cI, 60, .inl r_cells))] := hD
  refine lv_aload_n hx hb dX6_goThrough_18 rfl (lv_at hl 0 rfl) ?_
  refine lv_bipush (v := -9) hx hb dX6_goThrough_19 (by decide) ?_
  refine va_put (D := D) (ci := 5) (v := .int ((-9 : Int32))) (ty := .int) (C := RX6) (T := TX6) (N := 4) hx hb hts iX6 tyX6 tyX6_ok nmX6 hown hK hP hD hS 0 rfl rfl 3 (by decide) hF29 (fun _ h9 => h9) rfl (tyX6_ok 3 (by decide)) rfl rfl (Nat.le_of_ble_eq_true rfl) dX6_goThrough_21 (fun H locs hP hD hS => ?_)
  have hP : va_P D vwCl [(ay, .inr (5, [.ref ah, .int ((0 : Int32)), .int ((0 : Int32)), .int ((-9 : Int32))])), (ah, .inr (4, [.ref ahkind, .ref ahpage, .ref ahasked, .ref ahsent, .int z1.2.2.2.2.1, .int z1.2.2.2.2.2])), (ahkind, .inl (cI, 7, .inl z1.1)), (ahpage, .inl (cI, 7, .inl z1.2.1)), (ahasked, .inl (cI, 7, .inl z1.2.2.1)), (ahsent, .inl (cI, 7, .inl z1.2.2.2.1)), (an, .inr (4, [.ref ankind, .ref anpage, .ref anasked, .ref ansent, .int n_count, .int n_wetSet])), (ankind, .inl (cI, 7, .inl n_kind)), (anpage, .inl (cI, 7, .inl n_page)), (anasked, .inl (cI, 7, .inl n_asked)), (ansent, .inl (cI, 7, .inl n_sent)), (ar, .inr (2, [.ref arcells, .int r_there, .int r_lane, .int r_length])), (arcells, .inl (cI, 60, .inl r_cells))] H := hP
  have hD : va_D A [(ay, .inr (5, [.ref ah, .int ((0 : Int32)), .int ((0 : Int32)), .int ((-9 : Int32))])), (ah, .inr (4, [.ref ahkind, .ref ahpage, .ref ahasked, .ref ahsent, .int z1.2.2.2.2.1, .int z1.2.2.2.2.2])), (ahkind, .inl (cI, 7, .inl z1.1)), (ahpage, .inl (cI, 7, .inl z1.2.1)), (ahasked, .inl (cI, 7, .inl z1.2.2.1)), (ahsent, .inl (cI, 7, .inl z1.2.2.2.1)), (an, .inr (4, [.ref ankind, .ref anpage, .ref anasked, .ref ansent, .int n_count, .int n_wetSet])), (ankind, .inl (cI, 7, .inl n_kind)), (anpage, .inl (cI, 7, .inl n_page)), (anasked, .inl (cI, 7, .inl n_asked)), (ansent, .inl (cI, 7, .inl n_sent)), (ar, .inr (2, [.ref arcells, .int r_there, .int r_lane, .int r_length])), (arcells, .inl (cI, 60, .inl r_cells))] := hD
  refine lv_iconst (v := 0) hx hb dX6_goThrough_24 (by decide) ?_
  refine lv_istore (lv' := [(5, .int ((0 : Int32))), (0, .ref ay), (1, .ref an), (2, .ref ar), (3, .int p3), (4, .int p4)]) hx hb dX6_goThrough_25 hl (by decide) rfl (fun ls hl => ?_)
  have hL27 : ∀ (K : Int32 → Int32 → Int32 → Int32 → (Nat → Int32) → Int32 → Option (Int32 × Int32 × Int32 × (Nat → Int32) × (Nat → Int32) × (Nat → Int32) × (Nat → Int32) × Int32 × Int32)) (hKK : ∀ (k6_v5 : Int32) (k6_w_y_leaves : Int32) (k6_w_y_led : Int32) (k6_w_y_firstWrong : Int32) (k6_w_h_sent : Nat → Int32) (k6_w_h_wetSet : Int32) (H : Heap) (locs : List Loc) (ls : Array Slot), K k6_v5 k6_w_y_leaves k6_w_y_led k6_w_y_firstWrong k6_w_h_sent k6_w_h_wetSet = some q → va_P D vwCl [(ay, .inr (5, [.ref ah, .int k6_w_y_leaves, .int k6_w_y_led, .int k6_w_y_firstWrong])), (ah, .inr (4, [.ref ahkind, .ref ahpage, .ref ahasked, .ref ahsent, .int z1.2.2.2.2.1, .int k6_w_h_wetSet])), (ahkind, .inl (cI, 7, .inl z1.1)), (ahpage, .inl (cI, 7, .inl z1.2.1)), (ahasked, .inl (cI, 7, .inl z1.2.2.1)), (ahsent, .inl (cI, 7, .inl k6_w_h_sent)), (an, .inr (4, [.ref ankind, .ref anpage, .ref anasked, .ref ansent, .int n_count, .int n_wetSet])), (ankind, .inl (cI, 7, .inl n_kind)), (anpage, .inl (cI, 7, .inl n_page)), (anasked, .inl (cI, 7, .inl n_asked)), (ansent, .inl (cI, 7, .inl n_sent)), (ar, .inr (2, [.ref arcells, .int r_there, .int r_lane, .int r_length])), (arcells, .inl (cI, 60, .inl r_cells))] H → va_D A [(ay, .inr (5, [.ref ah, .int k6_w_y_leaves, .int k6_w_y_led, .int k6_w_y_firstWrong])), (ah, .inr (4, [.ref ahkind, .ref ahpage, .ref ahasked, .ref ahsent, .int z1.2.2.2.2.1, .int k6_w_h_wetSet])), (ahkind, .inl (cI, 7, .inl z1.1)), (ahpage, .inl (cI, 7, .inl z1.2.1)), (ahasked, .inl (cI, 7, .inl z1.2.2.1)), (ahsent, .inl (cI, 7, .inl k6_w_h_sent)), (an, .inr (4, [.ref ankind, .ref anpage, .ref anasked, .ref ansent, .int n_count, .int n_wetSet])), (ankind, .inl (cI, 7, .inl n_kind)), (anpage, .inl (cI, 7, .inl n_page)), (anasked, .inl (cI, 7, .inl n_asked)), (ansent, .inl (cI, 7, .inl n_sent)), (ar, .inr (2, [.ref arcells, .int r_there, .int r_lane, .int r_length])), (arcells, .inl (cI, 60, .inl r_cells))] → va_S A s.heap H locs → lv_has ls 7 [(0, .ref ay), (1, .ref an), (2, .ref ar), (3, .int p3), (4, .int p4), (5, .int k6_v5)] → W p l e ({ frames := 5, cells := 0, slots := 0, locals := 112 } : Room) s m args below meth c H locs 0 0 QQ (F0 m 90 ls [])) (n : Nat), ∀ (b7_v5 : Int32) (b7_w_y_leaves : Int32) (b7_w_y_led : Int32) (b7_w_y_firstWrong : Int32) (b7_w_h_sent : Nat → Int32) (b7_w_h_wetSet : Int32) (H : Heap) (locs : List Loc) (ls : Array Slot), pX6_goThrough_L27 p3 p4 z1.1 z1.2.1 z1.2.2.2.2.1 r_cells K n b7_v5 b7_w_y_leaves b7_w_y_led b7_w_y_firstWrong b7_w_h_sent b7_w_h_wetSet = some q → va_P D vwCl [(ay, .inr (5, [.ref ah, .int b7_w_y_leaves, .int b7_w_y_led, .int b7_w_y_firstWrong])), (ah, .inr (4, [.ref ahkind, .ref ahpage, .ref ahasked, .ref ahsent, .int z1.2.2.2.2.1, .int b7_w_h_wetSet])), (ahkind, .inl (cI, 7, .inl z1.1)), (ahpage, .inl (cI, 7, .inl z1.2.1)), (ahasked, .inl (cI, 7, .inl z1.2.2.1)), (ahsent, .inl (cI, 7, .inl b7_w_h_sent)), (an, .inr (4, [.ref ankind, .ref anpage, .ref anasked, .ref ansent, .int n_count, .int n_wetSet])), (ankind, .inl (cI, 7, .inl n_kind)), (anpage, .inl (cI, 7, .inl n_page)), (anasked, .inl (cI, 7, .inl n_asked)), (ansent, .inl (cI, 7, .inl n_sent)), (ar, .inr (2, [.ref arcells, .int r_there, .int r_lane, .int r_length])), (arcells, .inl (cI, 60, .inl r_cells))] H → va_D A [(ay, .inr (5, [.ref ah, .int b7_w_y_leaves, .int b7_w_y_led, .int b7_w_y_firstWrong])), (ah, .inr (4, [.ref ahkind, .ref ahpage, .ref ahasked, .ref ahsent, .int z1.2.2.2.2.1, .int b7_w_h_wetSet])), (ahkind, .inl (cI, 7, .inl z1.1)), (ahpage, .inl (cI, 7, .inl z1.2.1)), (ahasked, .inl (cI, 7, .inl z1.2.2.1)), (ahsent, .inl (cI, 7, .inl b7_w_h_sent)), (an, .inr (4, [.ref ankind, .ref anpage, .ref anasked, .ref ansent, .int n_count, .int n_wetSet])), (ankind, .inl (cI, 7, .inl n_kind)), (anpage, .inl (cI, 7, .inl n_page)), (anasked, .inl (cI, 7, .inl n_asked)), (ansent, .inl (cI, 7, .inl n_sent)), (ar, .inr (2, [.ref arcells, .int r_there, .int r_lane, .int r_length])), (arcells, .inl (cI, 60, .inl r_cells))] → va_S A s.heap H locs → lv_has ls 7 [(0, .ref ay), (1, .ref an), (2, .ref ar), (3, .int p3), (4, .int p4), (5, .int b7_v5)] → W p l e ({ frames := 5, cells := 0, slots := 0, locals := 112 } : Room) s m args below meth c H locs 0 0 QQ (F0 m 27 ls []) := by
    intro K hKK n
    induction n with
    | zero =>
      intro b7_v5 b7_w_y_leaves b7_w_y_led b7_w_y_firstWrong b7_w_h_sent b7_w_h_wetSet H locs ls hf hP hD hS hl
      rw [pX6_goThrough_L27_z] at hf
      cases hf
    | succ n ih =>
      intro b7_v5 b7_w_y_leaves b7_w_y_led b7_w_y_firstWrong b7_w_h_sent b7_w_h_wetSet H locs ls hf hP hD hS hl
      rw [pX6_goThrough_L27_s] at hf
      refine lv_iload hx hb dX6_goThrough_27 (lv_at hl 5 rfl) ?_
      refine lv_iload hx hb dX6_goThrough_29 (lv_at hl 4 rfl) ?_
      refine q_icmp_ge hx hb hf 90 dX6_goThrough_31 (by decide) (fun hf => ?_) (fun hf => ?_)
      · exact hKK _ _ _ _ _ _ _ _ _ hf hP hD hS (lv_sub hl [0, 1, 2, 3, 4, 5] rfl)
      · refine lv_aload_n hx hb dX6_goThrough_34 rfl (lv_at hl 0 rfl) ?_
        refine lv_aload_n hx hb dX6_goThrough_35 rfl (lv_at hl 2 rfl) ?_
        refine va_getN (D := D) (ci := 2) (v := .ref arcells) (C := RX2) (T := TX2) (N := 4) hx hb hts iX2 hown hK hP 11 rfl rfl 0 (by decide) hG32 (fun _ h9 => h9) rfl dX6_goThrough_36 ?_
        refine lv_iload_n hx hb dX6_goThrough_39 rfl (lv_at hl 3 rfl) ?_
        refine lv_iconst (v := 2) hx hb dX6_goThrough_40 (by decide) ?_
        refine lv_iload hx hb dX6_goThrough_41 (lv_at hl 5 rfl) ?_
        refine lv_imul hx hb dX6_goThrough_43 ?_
        refine lv_iadd hx hb dX6_goThrough_44 ?_
        refine q_iald hx hb hK hP 12 0 rfl rfl hf dX6_goThrough_45 (fun x8 hf => ?_)
        refine lv_aload_n hx hb dX6_goThrough_46 rfl (lv_at hl 2 rfl) ?_
        refine va_getN (D := D) (ci := 2) (v := .ref arcells) (C := RX2) (T := TX2) (N := 4) hx hb hts iX2 hown hK hP 11 rfl rfl 0 (by decide) hG32 (fun _ h9 => h9) rfl dX6_goThrough_47 ?_
        refine lv_iload_n hx hb dX6_goThrough_50 rfl (lv_at hl 3 rfl) ?_
        refine lv_iconst (v := 2) hx hb dX6_goThrough_51 (by decide) ?_
        refine lv_iload hx hb dX6_goThrough_52 (lv_at hl 5 rfl) ?_
        refine lv_imul hx hb dX6_goThrough_54 ?_
        refine lv_iadd hx hb dX6_goThrough_55 ?_
        refine lv_iconst (v := 1) hx hb dX6_goThrough_56 (by decide) ?_
        refine lv_iadd hx hb dX6_goThrough_57 ?_
        refine q_iald hx hb hK hP 12 0 rfl rfl hf dX6_goThrough_58 (fun x9 hf => ?_)
        obtain ⟨z10, hz10, hf⟩ := bnd hf
        refine q_wVi (wr := [(an, .inr (4, [.ref ankind, .ref anpage, .ref anasked, .ref ansent, .int n_count, .int n_wetSet])), (ankind, .inl (cI, 7, .inl n_kind)), (anpage, .inl (cI, 7, .inl n_page)), (anasked, .inl (cI, 7, .inl n_asked)), (ansent, .inl (cI, 7, .inl n_sent)), (ar, .inr (2, [.ref arcells, .int r_there, .int r_lane, .int r_length])), (arcells, .inl (cI, 60, .inl r_cells))]) (rest := []) ⟨hx, hb, hml, hown, hts⟩ (kX6_happens l D cI cR ay ah ahkind ahpage ahasked ahsent b7_w_y_leaves b7_w_y_led b7_w_y_firstWrong z1.1 z1.2.1 z1.2.2.1 b7_w_h_sent z1.2.2.2.2.1 b7_w_h_wetSet x8 x9 z10 hz10) (cwV 2 hts gX6_goThrough_X6_happens rfl rfl rfl (by decide +kernel) ⟨Nat.le_of_ble_eq_true rfl, Nat.le_of_ble_eq_true rfl⟩) hP hD hS hA hK hN [0, 1, 2, 3, 4, 5] [6, 7, 8, 9, 10, 11, 12] rfl rfl (by decide) (by decide) (by decide) (va_recv hK hP (ci := 5) (q0 := 0) rfl rfl) rfl hl.1 rfl (Nat.le_of_ble_eq_true rfl) dX6_goThrough_59 ⟨Nat.le_of_ble_eq_true rfl, Nat.le_of_ble_eq_true rfl⟩ (fun H locs hP hD hS => ?_)
        have hP := hP.sub (ws' := [(ay, .inr (5, [.ref ah, .int z10.2.1, .int z10.2.2.1, .int b7_w_y_firstWrong])), (ah, .inr (4, [.ref ahkind, .ref ahpage, .ref ahasked, .ref ahsent, .int z1.2.2.2.2.1, .int z10.2.2.2.2])), (ahkind, .inl (cI, 7, .inl z1.1)), (ahpage, .inl (cI, 7, .inl z1.2.1)), (ahasked, .inl (cI, 7, .inl z1.2.2.1)), (ahsent, .inl (cI, 7, .inl z10.2.2.2.1)), (an, .inr (4, [.ref ankind, .ref anpage, .ref anasked, .ref ansent, .int n_count, .int n_wetSet])), (ankind, .inl (cI, 7, .inl n_kind)), (anpage, .inl (cI, 7, .inl n_page)), (anasked, .inl (cI, 7, .inl n_asked)), (ansent, .inl (cI, 7, .inl n_sent)), (ar, .inr (2, [.ref arcells, .int r_there, .int r_lane, .int r_length])), (arcells, .inl (cI, 60, .inl r_cells))]) [7, 8, 9, 10, 11, 12, 0, 1, 2, 3, 4, 5, 6] rfl
        have hD := hD.sub (ws' := [(ay, .inr (5, [.ref ah, .int z10.2.1, .int z10.2.2.1, .int b7_w_y_firstWrong])), (ah, .inr (4, [.ref ahkind, .ref ahpage, .ref ahasked, .ref ahsent, .int z1.2.2.2.2.1, .int z10.2.2.2.2])), (ahkind, .inl (cI, 7, .inl z1.1)), (ahpage, .inl (cI, 7, .inl z1.2.1)), (ahasked, .inl (cI, 7, .inl z1.2.2.1)), (ahsent, .inl (cI, 7, .inl z10.2.2.2.1)), (an, .inr (4, [.ref ankind, .ref anpage, .ref anasked, .ref ansent, .int n_count, .int n_wetSet])), (ankind, .inl (cI, 7, .inl n_kind)), (anpage, .inl (cI, 7, .inl n_page)), (anasked, .inl (cI, 7, .inl n_asked)), (ansent, .inl (cI, 7, .inl n_sent)), (ar, .inr (2, [.ref arcells, .int r_there, .int r_lane, .int r_length])), (arcells, .inl (cI, 60, .inl r_cells))]) [7, 8, 9, 10, 11, 12, 0, 1, 2, 3, 4, 5, 6] (by decide) rfl
        refine lv_istore (lv' := [(6, .int z10.1), (0, .ref ay), (1, .ref an), (2, .ref ar), (3, .int p3), (4, .int p4), (5, .int b7_v5)]) hx hb dX6_goThrough_62 hl (by decide) rfl (fun ls hl => ?_)
        refine lv_iload hx hb dX6_goThrough_64 (lv_at hl 0 rfl) ?_
        obtain ⟨J84_11, eJ84_11, hf⟩ := q_jn hf
        have hJ84_11 : ∀ (u11_0 : Int32) (H : Heap) (locs : List Loc) (ls : Array Slot), J84_11 u11_0 = some q → va_P D vwCl [(ay, .inr (5, [.ref ah, .int z10.2.1, .int z10.2.2.1, .int u11_0])), (ah, .inr (4, [.ref ahkind, .ref ahpage, .ref ahasked, .ref ahsent, .int z1.2.2.2.2.1, .int z10.2.2.2.2])), (ahkind, .inl (cI, 7, .inl z1.1)), (ahpage, .inl (cI, 7, .inl z1.2.1)), (ahasked, .inl (cI, 7, .inl z1.2.2.1)), (ahsent, .inl (cI, 7, .inl z10.2.2.2.1)), (an, .inr (4, [.ref ankind, .ref anpage, .ref anasked, .ref ansent, .int n_count, .int n_wetSet])), (ankind, .inl (cI, 7, .inl n_kind)), (anpage, .inl (cI, 7, .inl n_page)), (anasked, .inl (cI, 7, .inl n_asked)), (ansent, .inl (cI, 7, .inl n_sent)), (ar, .inr (2, [.ref arcells, .int r_there, .int r_lane, .int r_length])), (arcells, .inl (cI, 60, .inl r_cells))] H → va_D A [(ay, .inr (5, [.ref ah, .int z10.2.1, .int z10.2.2.1, .int u11_0])), (ah, .inr (4, [.ref ahkind, .ref ahpage, .ref ahasked, .ref ahsent, .int z1.2.2.2.2.1, .int z10.2.2.2.2])), (ahkind, .inl (cI, 7, .inl z1.1)), (ahpage, .inl (cI, 7, .inl z1.2.1)), (ahasked, .inl (cI, 7, .inl z1.2.2.1)), (ahsent, .inl (cI, 7, .inl z10.2.2.2.1)), (an, .inr (4, [.ref ankind, .ref anpage, .ref anasked, .ref ansent, .int n_count, .int n_wetSet])), (ankind, .inl (cI, 7, .inl n_kind)), (anpage, .inl (cI, 7, .inl n_page)), (anasked, .inl (cI, 7, .inl n_asked)), (ansent, .inl (cI, 7, .inl n_sent)), (ar, .inr (2, [.ref arcells, .int r_there, .int r_lane, .int r_length])), (arcells, .inl (cI, 60, .inl r_cells))] → va_S A s.heap H locs → lv_has ls 7 [(0, .ref ay), (1, .ref an), (2, .ref ar), (3, .int p3), (4, .int p4), (5, .int b7_v5), (6, .int z10.1)] → W p l e ({ frames := 5, cells := 0, slots := 0, locals := 112 } : Room) s m args below meth c H locs 0 0 QQ (F0 m 84 ls []) := by
          intro u11_0 H locs ls hf hP hD hS hl
          rw [eJ84_11] at hf
          refine lv_iinc (v := b7_v5 + (1 : Int32)) (lv' := [(5, .int (b7_v5 + (1 : Int32))), (0, .ref ay), (1, .ref an), (2, .ref ar), (3, .int p3), (4, .int p4), (6, .int z10.1)]) hx hb dX6_goThrough_84 hl (k := 5) rfl rfl (by decide) rfl (fun ls hl => ?_)
          refine lv_goto (tgt := 27) hx hb dX6_goThrough_87 (by decide) ?_
          exact ih _ _ _ _ _ _ _ _ _ hf hP hD hS (lv_sub hl [1, 2, 3, 4, 5, 0] rfl)
        refine q_if_ne hx hb hf 84 dX6_goThrough_66 (by decide) (fun hf => ?_) (fun hf => ?_)
        · exact hJ84_11 _ _ _ _ hf hP hD hS (lv_sub hl [1, 2, 3, 4, 5, 6, 0] rfl)
        · refine lv_aload_n hx hb dX6_goThrough_69 rfl (lv_at hl 1 rfl) ?_
          refine va_get (D := D) (ci := 5) (v := .int b7_w_y_firstWrong) (C := RX6) (T := TX6) (N := 4) hx hb hts iX6 hown hK hP 0 rfl rfl 3 (by decide) hF29 (fun _ h9 => h9) rfl dX6_goThrough_70 ?_
          refine lv_bipush (v := -9) hx hb dX6_goThrough_73 (by decide) ?_
          refine q_icmp_ne hx hb hf 84 dX6_goThrough_75 (by decide) (fun hf => ?_) (fun hf => ?_)
          · exact hJ84_11 _ _ _ _ hf hP hD hS (lv_sub hl [1, 2, 3, 4, 5, 6, 0] rfl)
          · refine lv_aload_n hx hb dX6_goThrough_78 rfl (lv_at hl 1 rfl) ?_
            refine lv_iload hx hb dX6_goThrough_79 (lv_at hl 6 rfl) ?_
            refine va_put (D := D) (ci := 5) (v := .int b7_v5) (ty := .int) (C := RX6) (T := TX6) (N := 4) hx hb hts iX6 tyX6 tyX6_ok nmX6 hown hK hP hD hS 0 rfl rfl 3 (by decide) hF29 (fun _ h9 => h9) rfl (tyX6_ok 3 (by decide)) rfl rfl (Nat.le_of_ble_eq_true rfl) dX6_goThrough_81 (fun H locs hP hD hS => ?_)
            have hP : va_P D vwCl [(ay, .inr (5, [.ref ah, .int z10.2.1, .int z10.2.2.1, .int b7_v5])), (ah, .inr (4, [.ref ahkind, .ref ahpage, .ref ahasked, .ref ahsent, .int z1.2.2.2.2.1, .int z10.2.2.2.2])), (ahkind, .inl (cI, 7, .inl z1.1)), (ahpage, .inl (cI, 7, .inl z1.2.1)), (ahasked, .inl (cI, 7, .inl z1.2.2.1)), (ahsent, .inl (cI, 7, .inl z10.2.2.2.1)), (an, .inr (4, [.ref ankind, .ref anpage, .ref anasked, .ref ansent, .int n_count, .int n_wetSet])), (ankind, .inl (cI, 7, .inl n_kind)), (anpage, .inl (cI, 7, .inl n_page)), (anasked, .inl (cI, 7, .inl n_asked)), (ansent, .inl (cI, 7, .inl n_sent)), (ar, .inr (2, [.ref arcells, .int r_there, .int r_lane, .int r_length])), (arcells, .inl (cI, 60, .inl r_cells))] H := hP
            have hD : va_D A [(ay, .inr (5, [.ref ah, .int z10.2.1, .int z10.2.2.1, .int b7_v5])), (ah, .inr (4, [.ref ahkind, .ref ahpage, .ref ahasked, .ref ahsent, .int z1.2.2.2.2.1, .int z10.2.2.2.2])), (ahkind, .inl (cI, 7, .inl z1.1)), (ahpage, .inl (cI, 7, .inl z1.2.1)), (ahasked, .inl (cI, 7, .inl z1.2.2.1)), (ahsent, .inl (cI, 7, .inl z10.2.2.2.1)), (an, .inr (4, [.ref ankind, .ref anpage, .ref anasked, .ref ansent, .int n_count, .int n_wetSet])), (ankind, .inl (cI, 7, .inl n_kind)), (anpage, .inl (cI, 7, .inl n_page)), (anasked, .inl (cI, 7, .inl n_asked)), (ansent, .inl (cI, 7, .inl n_sent)), (ar, .inr (2, [.ref arcells, .int r_there, .int r_lane, .int r_length])), (arcells, .inl (cI, 60, .inl r_cells))] := hD
            exact hJ84_11 _ _ _ _ hf hP hD hS (lv_sub hl [1, 2, 3, 4, 5, 6, 0] rfl)
  refine hL27 _ (fun k6_v5 k6_w_y_leaves k6_w_y_led k6_w_y_firstWrong k6_w_h_sent k6_w_h_wetSet H locs ls hf hP hD hS hl => ?_) fu _ _ _ _ _ _ _ _ _ hf hP hD hS (lv_sub hl [1, 2, 3, 4, 5, 0] rfl)
  have hq9 := Option.some.inj hf
  subst hq9
  exact hRet _ _ _ _ hP hD hS dX6_goThrough_90
set_option maxHeartbeats 4000000 in
set_option maxRecDepth 100000 in
theorem kX6_isDeed (l : Launch) (D : va_G) (cI cR : ClassId) (p0 : Int32) (q : Int32) (hf : pX6_isDeed p0 = q) : CR l yX6_isDeed wsX6_isDeed ({ frames := 0, cells := 0, slots := 0, locals := 0 } : Room) D cI cR [.int p0] [] (.int q) := by
  refine CRi.intro (cc := cX6_isDeed) (maxL := 1) (ty := .boolean) (by decide) rfl (Nat.le_of_ble_eq_true rfl) ?_
  intro p e s m args below meth c hx hb hml hts hown hP hK hN QQ hRet ls hl
  have hown : s.vm.findClass RX6 = some m.cls := hown
  have hl : lv_has ls 1 [(0, .int p0)] := hl
  unfold pX6_isDeed at hf
  refine lv_iload_n hx hb dX6_isDeed_0 rfl (lv_at hl 0 rfl) ?_
  obtain ⟨J9_1, eJ9_1, hf⟩ := q_jn hf
  have hJ9_1 : ∀ (ls : Array Slot), J9_1 = q → lv_has ls 1 [(0, .int p0)] → W p l e ({ frames := 0, cells := 0, slots := 0, locals := 0 } : Room) s m args below meth c s.heap [] 0 0 QQ (F0 m 9 ls []) := by
    intro ls hf hl
    rw [eJ9_1] at hf
    refine lv_iload_n hx hb dX6_isDeed_9 rfl (lv_at hl 0 rfl) ?_
    refine lv_bipush (v := 10) hx hb dX6_isDeed_10 (by decide) ?_
    refine q_icmp_lt hx hb hf 25 dX6_isDeed_12 (by decide) (fun hf => ?_) (fun hf => ?_)
    · refine lv_iconst (v := 0) hx hb dX6_isDeed_25 (by decide) ?_
      exact hRet _ _ _ (by decide) hf dX6_isDeed_26
    · refine lv_iload_n hx hb dX6_isDeed_15 rfl (lv_at hl 0 rfl) ?_
      refine lv_bipush (v := 19) hx hb dX6_isDeed_16 (by decide) ?_
      refine q_icmp_gt hx hb hf 25 dX6_isDeed_18 (by decide) (fun hf => ?_) (fun hf => ?_)
      · refine lv_iconst (v := 0) hx hb dX6_isDeed_25 (by decide) ?_
        exact hRet _ _ _ (by decide) hf dX6_isDeed_26
      · refine lv_iconst (v := 1) hx hb dX6_isDeed_21 (by decide) ?_
        refine lv_goto (tgt := 26) hx hb dX6_isDeed_22 (by decide) ?_
        exact hRet _ _ _ (by decide) hf dX6_isDeed_26
  refine q_if_lt hx hb hf 9 dX6_isDeed_1 (by decide) (fun hf => ?_) (fun hf => ?_)
  · exact hJ9_1 _ hf (lv_sub hl [0] rfl)
  · refine lv_iload_n hx hb dX6_isDeed_4 rfl (lv_at hl 0 rfl) ?_
    refine lv_iconst (v := 2) hx hb dX6_isDeed_5 (by decide) ?_
    refine q_icmp_le hx hb hf 21 dX6_isDeed_6 (by decide) (fun hf => ?_) (fun hf => ?_)
    · refine lv_iconst (v := 1) hx hb dX6_isDeed_21 (by decide) ?_
      refine lv_goto (tgt := 26) hx hb dX6_isDeed_22 (by decide) ?_
      exact hRet _ _ _ (by decide) hf dX6_isDeed_26
    · exact hJ9_1 _ hf (lv_sub hl [0] rfl)
set_option maxHeartbeats 4000000 in
set_option maxRecDepth 100000 in
theorem kX7_isKind (l : Launch) (D : va_G) (cI cR : ClassId) (p0 : Int32) (q : Int32) (hf : pX7_isKind p0 = q) : CR l yX7_isKind wsX7_isKind ({ frames := 0, cells := 0, slots := 0, locals := 0 } : Room) D cI cR [.int p0] [] (.int q) := by
  refine CRi.intro (cc := cX7_isKind) (maxL := 1) (ty := .boolean) (by decide) rfl (Nat.le_of_ble_eq_true rfl) ?_
  intro p e s m args below meth c hx hb hml hts hown hP hK hN QQ hRet ls hl
  have hown : s.vm.findClass RX7 = some m.cls := hown
  have hl : lv_has ls 1 [(0, .int p0)] := hl
  unfold pX7_isKind at hf
  refine lv_iload_n hx hb dX7_isKind_0 rfl (lv_at hl 0 rfl) ?_
  refine q_if_lt hx hb hf 13 dX7_isKind_1 (by decide) (fun hf => ?_) (fun hf => ?_)
  · refine lv_iconst (v := 0) hx hb dX7_isKind_13 (by decide) ?_
    exact hRet _ _ _ (by decide) hf dX7_isKind_14
  · refine lv_iload_n hx hb dX7_isKind_4 rfl (lv_at hl 0 rfl) ?_
    refine lv_iconst (v := 2) hx hb dX7_isKind_5 (by decide) ?_
    refine q_icmp_gt hx hb hf 13 dX7_isKind_6 (by decide) (fun hf => ?_) (fun hf => ?_)
    · refine lv_iconst (v := 0) hx hb dX7_isKind_13 (by decide) ?_
      exact hRet _ _ _ (by decide) hf dX7_isKind_14
    · refine lv_iconst (v := 1) hx hb dX7_isKind_9 (by decide) ?_
      refine lv_goto (tgt := 14) hx hb dX7_isKind_10 (by decide) ?_
      exact hRet _ _ _ (by decide) hf dX7_isKind_14
set_option maxHeartbeats 4000000 in
set_option maxRecDepth 100000 in
theorem kX7_faulted (l : Launch) (D : va_G) (cI cR : ClassId) (ax axrows as ad ay af ao : Nat) (x_questions : Int32) (x_traced : Int32) (x_latestFault : Int32) (p1 : Int32) (q : Int32 × Int32) (hf : pX7_faulted x_latestFault p1 = some q) : CWi l yX7_faulted wsX7_faulted ({ frames := 0, cells := 0, slots := 0, locals := 0 } : Room) D cI cR [.ref ax, .int p1] [(ax, .inr (6, [.ref axrows, .ref as, .ref ad, .ref ay, .ref af, .ref ao, .int x_questions, .int x_traced, .int x_latestFault]))] [(ax, .inr (6, [.ref axrows, .ref as, .ref ad, .ref ay, .ref af, .ref ao, .int x_questions, .int x_traced, .int q.2]))] q.1 := by
  refine CWi.intro (cc := cX7_faulted) (maxL := 2) (ty := .int) (by decide) rfl (Nat.le_of_ble_eq_true rfl) ?_
  intro p e s m args below meth c hx hb hml hts hown hP hK hN A hA hD hS QQ hRet ls hl
  have hown : s.vm.findClass RX7 = some m.cls := hown
  have hl : lv_has ls 2 [(0, .ref ax), (1, .int p1)] := hl
  have iX7 : ∀ w ∈ u_ws RX7 TX7 9, w ∈ wsX7_faulted := by decide +kernel
  have hF53 := hts (.fieldLink RX7 53 "WorldIndex" "latestFault" "I") (by decide +kernel)
  unfold pX7_faulted at hf
  refine lv_aload_n hx hb dX7_faulted_0 rfl (lv_at hl 0 rfl) ?_
  refine lv_iload_n hx hb dX7_faulted_1 rfl (lv_at hl 1 rfl) ?_
  refine va_put (D := D) (ci := 6) (v := .int p1) (ty := .int) (C := RX7) (T := TX7) (N := 9) hx hb hts iX7 tyX7 tyX7_ok nmX7 hown hK hP hD hS 0 rfl rfl 8 (by decide) hF53 (fun _ h9 => h9) rfl (tyX7_ok 8 (by decide)) rfl rfl (Nat.le_of_ble_eq_true rfl) dX7_faulted_2 (fun H locs hP hD hS => ?_)
  have hP : va_P D vwCl [(ax, .inr (6, [.ref axrows, .ref as, .ref ad, .ref ay, .ref af, .ref ao, .int x_questions, .int x_traced, .int p1]))] H := hP
  have hD : va_D A [(ax, .inr (6, [.ref axrows, .ref as, .ref ad, .ref ay, .ref af, .ref ao, .int x_questions, .int x_traced, .int p1]))] := hD
  refine lv_bipush (v := -10) hx hb dX7_faulted_5 (by decide) ?_
  refine lv_iload_n hx hb dX7_faulted_7 rfl (lv_at hl 1 rfl) ?_
  refine lv_isub hx hb dX7_faulted_8 ?_
  have hq9 := Option.some.inj hf
  subst hq9
  exact hRet _ _ _ _ _ rfl rfl hP hD hS dX7_faulted_9
set_option maxHeartbeats 4000000 in
set_option maxRecDepth 100000 in
theorem kX7_as (l : Launch) (D : va_G) (cI cR : ClassId) (ax axrows as ad ay af ao askind aspage asasked assent : Nat) (x_questions : Int32) (x_traced : Int32) (x_latestFault : Int32) (s_kind : Nat → Int32) (s_page : Nat → Int32) (s_asked : Nat → Int32) (s_sent : Nat → Int32) (s_count : Int32) (s_wetSet : Int32) (p1 : Int32) (p2 : Int32) (q : Int32 × Int32) (hf : pX7_as x_latestFault s_kind s_count p1 p2 = some q) : CWi l yX7_as wsX7_as ({ frames := 1, cells := 0, slots := 0, locals := 21 } : Room) D cI cR [.ref ax, .int p1, .int p2] [(ax, .inr (6, [.ref axrows, .ref as, .ref ad, .ref ay, .ref af, .ref ao, .int x_questions, .int x_traced, .int x_latestFault])), (as, .inr (4, [.ref askind, .ref aspage, .ref asasked, .ref assent, .int s_count, .int s_wetSet])), (askind, .inl (cI, 7, .inl s_kind)), (aspage, .inl (cI, 7, .inl s_page)), (asasked, .inl (cI, 7, .inl s_asked)), (assent, .inl (cI, 7, .inl s_sent))] [(ax, .inr (6, [.ref axrows, .ref as, .ref ad, .ref ay, .ref af, .ref ao, .int x_questions, .int x_traced, .int q.2])), (as, .inr (4, [.ref askind, .ref aspage, .ref asasked, .ref assent, .int s_count, .int s_wetSet])), (askind, .inl (cI, 7, .inl s_kind)), (aspage, .inl (cI, 7, .inl s_page)), (asasked, .inl (cI, 7, .inl s_asked)), (assent, .inl (cI, 7, .inl s_sent))] q.1 := by
  refine CWi.intro (cc := cX7_as) (maxL := 3) (ty := .int) (by decide) rfl (Nat.le_of_ble_eq_true rfl) ?_
  intro p e s m args below meth c hx hb hml hts hown hP hK hN A hA hD hS QQ hRet ls hl
  have hown : s.vm.findClass RX7 = some m.cls := hown
  have hl : lv_has ls 3 [(0, .ref ax), (1, .int p1), (2, .int p2)] := hl
  have iX4 : ∀ w ∈ u_ws RX4 TX4 6, w ∈ wsX7_as := by decide +kernel
  have iX7 : ∀ w ∈ u_ws RX7 TX7 9, w ∈ wsX7_as := by decide +kernel
  have hF21 := hts (.fieldLink RX7 21 "WorldIndex" "slips" "LWorldIndex$Slips;") (by decide +kernel)
  have hF53 := hts (.fieldLink RX7 53 "WorldIndex" "latestFault" "I") (by decide +kernel)
  have hG92 := NN.f (args := args) hN "WorldIndex" 92 "WorldIndex$Slips" "kind" "[I" "WorldIndex" (by decide +kernel)
  unfold pX7_as at hf
  refine lv_aload_n hx hb dX7_as_0 rfl (lv_at hl 0 rfl) ?_
  refine lv_iconst (v := 0) hx hb dX7_as_1 (by decide) ?_
  refine va_put (D := D) (ci := 6) (v := .int ((0 : Int32))) (ty := .int) (C := RX7) (T := TX7) (N := 9) hx hb hts iX7 tyX7 tyX7_ok nmX7 hown hK hP hD hS 0 rfl rfl 8 (by decide) hF53 (fun _ h9 => h9) rfl (tyX7_ok 8 (by decide)) rfl rfl (Nat.le_of_ble_eq_true rfl) dX7_as_2 (fun H locs hP hD hS => ?_)
  have hP : va_P D vwCl [(ax, .inr (6, [.ref axrows, .ref as, .ref ad, .ref ay, .ref af, .ref ao, .int x_questions, .int x_traced, .int ((0 : Int32))])), (as, .inr (4, [.ref askind, .ref aspage, .ref asasked, .ref assent, .int s_count, .int s_wetSet])), (askind, .inl (cI, 7, .inl s_kind)), (aspage, .inl (cI, 7, .inl s_page)), (asasked, .inl (cI, 7, .inl s_asked)), (assent, .inl (cI, 7, .inl s_sent))] H := hP
  have hD : va_D A [(ax, .inr (6, [.ref axrows, .ref as, .ref ad, .ref ay, .ref af, .ref ao, .int x_questions, .int x_traced, .int ((0 : Int32))])), (as, .inr (4, [.ref askind, .ref aspage, .ref asasked, .ref assent, .int s_count, .int s_wetSet])), (askind, .inl (cI, 7, .inl s_kind)), (aspage, .inl (cI, 7, .inl s_page)), (asasked, .inl (cI, 7, .inl s_asked)), (assent, .inl (cI, 7, .inl s_sent))] := hD
  refine lv_aload_n hx hb dX7_as_5 rfl (lv_at hl 0 rfl) ?_
  refine va_get (D := D) (ci := 6) (v := .ref as) (C := RX7) (T := TX7) (N := 9) hx hb hts iX7 hown hK hP 0 rfl rfl 1 (by decide) hF21 (fun _ h9 => h9) rfl dX7_as_6 ?_
  refine lv_iload_n hx hb dX7_as_9 rfl (lv_at hl 1 rfl) ?_
  refine q_rV (rest := []) ⟨hx, hb, hml, hown, hts⟩ (kX4_has l D cI cR as askind aspage asasked assent s_kind s_page s_asked s_sent s_count s_wetSet p1 _ rfl) (cwV 1 hts gX7_as_X4_has rfl rfl rfl (by decide +kernel) ⟨Nat.le_of_ble_eq_true rfl, Nat.le_of_ble_eq_true rfl⟩) (hP.sub [1, 2, 3, 4, 5] rfl) hK hN (va_recv hK hP (ci := 4) (q0 := 1) rfl rfl) rfl hl.1 rfl (Nat.le_of_ble_eq_true rfl) dX7_as_10 ⟨Nat.le_of_ble_eq_true rfl, Nat.le_of_ble_eq_true rfl⟩ ?_
  refine q_if_ne hx hb hf 18 dX7_as_13 (by decide) (fun hf => ?_) (fun hf => ?_)
  · refine lv_iload_n hx hb dX7_as_18 rfl (lv_at hl 2 rfl) ?_
    refine q_rS (rest := []) ⟨hx, hb, hml, hown, hts⟩ (kX7_isKind l D cI cR p2 _ rfl) (va_cwS 1 hts gX7_as_X7_isKind rfl rfl rfl (by decide +kernel) ⟨Nat.le_of_ble_eq_true rfl, Nat.le_of_ble_eq_true rfl⟩) (hP.sub [] rfl) hK hN rfl hl.1 rfl (Nat.le_of_ble_eq_true rfl) dX7_as_19 ⟨Nat.le_of_ble_eq_true rfl, Nat.le_of_ble_eq_true rfl⟩ ?_
    refine q_if_ne hx hb hf 28 dX7_as_22 (by decide) (fun hf => ?_) (fun hf => ?_)
    · refine lv_aload_n hx hb dX7_as_28 rfl (lv_at hl 0 rfl) ?_
      refine va_get (D := D) (ci := 6) (v := .ref as) (C := RX7) (T := TX7) (N := 9) hx hb hts iX7 hown hK hP 0 rfl rfl 1 (by decide) hF21 (fun _ h9 => h9) rfl dX7_as_29 ?_
      refine va_getN (D := D) (ci := 4) (v := .ref askind) (C := RX4) (T := TX4) (N := 6) hx hb hts iX4 hown hK hP 1 rfl rfl 0 (by decide) hG92 (fun _ h9 => h9) rfl dX7_as_32 ?_
      refine lv_iload_n hx hb dX7_as_35 rfl (lv_at hl 1 rfl) ?_
      refine q_iald hx hb hK hP 2 0 rfl rfl hf dX7_as_36 (fun x1 hf => ?_)
      refine lv_iload_n hx hb dX7_as_37 rfl (lv_at hl 2 rfl) ?_
      refine q_icmp_ge hx hb hf 47 dX7_as_38 (by decide) (fun hf => ?_) (fun hf => ?_)
      · refine lv_iconst (v := 1) hx hb dX7_as_47 (by decide) ?_
        have hq9 := Option.some.inj hf
        subst hq9
        exact hRet _ _ _ _ _ rfl rfl hP hD hS dX7_as_48
      · refine lv_aload_n hx hb dX7_as_41 rfl (lv_at hl 0 rfl) ?_
        refine lv_iconst (v := 2) hx hb dX7_as_42 (by decide) ?_
        obtain ⟨z2, hz2, hf⟩ := bnd hf
        refine q_wVi (wr := [(as, .inr (4, [.ref askind, .ref aspage, .ref asasked, .ref assent, .int s_count, .int s_wetSet])), (askind, .inl (cI, 7, .inl s_kind)), (aspage, .inl (cI, 7, .inl s_page)), (asasked, .inl (cI, 7, .inl s_asked)), (assent, .inl (cI, 7, .inl s_sent))]) (rest := []) ⟨hx, hb, hml, hown, hts⟩ (kX7_faulted l D cI cR ax axrows as ad ay af ao x_questions x_traced ((0 : Int32)) ((2 : Int32)) z2 hz2) (cwV 1 hts gX7_as_X7_faulted rfl rfl rfl (by decide +kernel) ⟨Nat.le_of_ble_eq_true rfl, Nat.le_of_ble_eq_true rfl⟩) hP hD hS hA hK hN [0] [1, 2, 3, 4, 5] rfl rfl (by decide) (by decide) (by decide) (va_recv hK hP (ci := 6) (q0 := 0) rfl rfl) rfl hl.1 rfl (Nat.le_of_ble_eq_true rfl) dX7_as_43 ⟨Nat.le_of_ble_eq_true rfl, Nat.le_of_ble_eq_true rfl⟩ (fun H locs hP hD hS => ?_)
        have hP := hP.sub (ws' := [(ax, .inr (6, [.ref axrows, .ref as, .ref ad, .ref ay, .ref af, .ref ao, .int x_questions, .int x_traced, .int z2.2])), (as, .inr (4, [.ref askind, .ref aspage, .ref asasked, .ref assent, .int s_count, .int s_wetSet])), (askind, .inl (cI, 7, .inl s_kind)), (aspage, .inl (cI, 7, .inl s_page)), (asasked, .inl (cI, 7, .inl s_asked)), (assent, .inl (cI, 7, .inl s_sent))]) [5, 0, 1, 2, 3, 4] rfl
        have hD := hD.sub (ws' := [(ax, .inr (6, [.ref axrows, .ref as, .ref ad, .ref ay, .ref af, .ref ao, .int x_questions, .int x_traced, .int z2.2])), (as, .inr (4, [.ref askind, .ref aspage, .ref asasked, .ref assent, .int s_count, .int s_wetSet])), (askind, .inl (cI, 7, .inl s_kind)), (aspage, .inl (cI, 7, .inl s_page)), (asasked, .inl (cI, 7, .inl s_asked)), (assent, .inl (cI, 7, .inl s_sent))]) [5, 0, 1, 2, 3, 4] (by decide) rfl
        have hq9 := Option.some.inj hf
        subst hq9
        exact hRet _ _ _ _ _ rfl rfl hP hD hS dX7_as_46
    · refine lv_bipush (v := -2) hx hb dX7_as_25 (by decide) ?_
      have hq9 := Option.some.inj hf
      subst hq9
      exact hRet _ _ _ _ _ rfl rfl hP hD hS dX7_as_27
  · refine lv_iconst (v := -1) hx hb dX7_as_16 (by decide) ?_
    have hq9 := Option.some.inj hf
    subst hq9
    exact hRet _ _ _ _ _ rfl rfl hP hD hS dX7_as_17
set_option maxHeartbeats 4000000 in
set_option maxRecDepth 100000 in
theorem kX7_ask (l : Launch) (D : va_G) (cI cR : ClassId) (ax axrows as ad ay af ao askind aspage asasked assent : Nat) (x_questions : Int32) (x_traced : Int32) (x_latestFault : Int32) (s_kind : Nat → Int32) (s_page : Nat → Int32) (s_asked : Nat → Int32) (s_sent : Nat → Int32) (s_count : Int32) (s_wetSet : Int32) (p1 : Int32) (q : Int32 × Int32) (hf : pX7_ask x_questions s_kind s_page s_sent s_count s_wetSet p1 = some q) : CWi l yX7_ask wsX7_ask ({ frames := 3, cells := 0, slots := 0, locals := 68 } : Room) D cI cR [.ref ax, .int p1] [(ax, .inr (6, [.ref axrows, .ref as, .ref ad, .ref ay, .ref af, .ref ao, .int x_questions, .int x_traced, .int x_latestFault])), (as, .inr (4, [.ref askind, .ref aspage, .ref asasked, .ref assent, .int s_count, .int s_wetSet])), (askind, .inl (cI, 7, .inl s_kind)), (aspage, .inl (cI, 7, .inl s_page)), (asasked, .inl (cI, 7, .inl s_asked)), (assent, .inl (cI, 7, .inl s_sent))] [(ax, .inr (6, [.ref axrows, .ref as, .ref ad, .ref ay, .ref af, .ref ao, .int q.2, .int x_traced, .int x_latestFault])), (as, .inr (4, [.ref askind, .ref aspage, .ref asasked, .ref assent, .int s_count, .int s_wetSet])), (askind, .inl (cI, 7, .inl s_kind)), (aspage, .inl (cI, 7, .inl s_page)), (asasked, .inl (cI, 7, .inl s_asked)), (assent, .inl (cI, 7, .inl s_sent))] q.1 := by
  refine CWi.intro (cc := cX7_ask) (maxL := 2) (ty := .int) (by decide) rfl (Nat.le_of_ble_eq_true rfl) ?_
  intro p e s m args below meth c hx hb hml hts hown hP hK hN A hA hD hS QQ hRet ls hl
  have hown : s.vm.findClass RX7 = some m.cls := hown
  have hl : lv_has ls 2 [(0, .ref ax), (1, .int p1)] := hl
  have iX7 : ∀ w ∈ u_ws RX7 TX7 9, w ∈ wsX7_ask := by decide +kernel
  have hF21 := hts (.fieldLink RX7 21 "WorldIndex" "slips" "LWorldIndex$Slips;") (by decide +kernel)
  have hF85 := hts (.fieldLink RX7 85 "WorldIndex" "questions" "I") (by decide +kernel)
  unfold pX7_ask at hf
  refine lv_aload_n hx hb dX7_ask_0 rfl (lv_at hl 0 rfl) ?_
  refine va_get (D := D) (ci := 6) (v := .ref as) (C := RX7) (T := TX7) (N := 9) hx hb hts iX7 hown hK hP 0 rfl rfl 1 (by decide) hF21 (fun _ h9 => h9) rfl dX7_ask_1 ?_
  refine lv_iload_n hx hb dX7_ask_4 rfl (lv_at hl 1 rfl) ?_
  refine q_rV (rest := []) ⟨hx, hb, hml, hown, hts⟩ (kX4_has l D cI cR as askind aspage asasked assent s_kind s_page s_asked s_sent s_count s_wetSet p1 _ rfl) (cwV 1 hts gX7_ask_X4_has rfl rfl rfl (by decide +kernel) ⟨Nat.le_of_ble_eq_true rfl, Nat.le_of_ble_eq_true rfl⟩) (hP.sub [1, 2, 3, 4, 5] rfl) hK hN (va_recv hK hP (ci := 4) (q0 := 1) rfl rfl) rfl hl.1 rfl (Nat.le_of_ble_eq_true rfl) dX7_ask_5 ⟨Nat.le_of_ble_eq_true rfl, Nat.le_of_ble_eq_true rfl⟩ ?_
  refine q_if_ne hx hb hf 13 dX7_ask_8 (by decide) (fun hf => ?_) (fun hf => ?_)
  · refine lv_aload_n hx hb dX7_ask_13 rfl (lv_at hl 0 rfl) ?_
    refine lv_dup hx hb dX7_ask_14 rfl ?_
    refine va_get (D := D) (ci := 6) (v := .int x_questions) (C := RX7) (T := TX7) (N := 9) hx hb hts iX7 hown hK hP 0 rfl rfl 6 (by decide) hF85 (fun _ h9 => h9) rfl dX7_ask_15 ?_
    refine lv_iconst (v := 1) hx hb dX7_ask_18 (by decide) ?_
    refine lv_iadd hx hb dX7_ask_19 ?_
    refine va_put (D := D) (ci := 6) (v := .int (x_questions + ((1 : Int32)))) (ty := .int) (C := RX7) (T := TX7) (N := 9) hx hb hts iX7 tyX7 tyX7_ok nmX7 hown hK hP hD hS 0 rfl rfl 6 (by decide) hF85 (fun _ h9 => h9) rfl (tyX7_ok 6 (by decide)) rfl rfl (Nat.le_of_ble_eq_true rfl) dX7_ask_20 (fun H locs hP hD hS => ?_)
    have hP : va_P D vwCl [(ax, .inr (6, [.ref axrows, .ref as, .ref ad, .ref ay, .ref af, .ref ao, .int (x_questions + ((1 : Int32))), .int x_traced, .int x_latestFault])), (as, .inr (4, [.ref askind, .ref aspage, .ref asasked, .ref assent, .int s_count, .int s_wetSet])), (askind, .inl (cI, 7, .inl s_kind)), (aspage, .inl (cI, 7, .inl s_page)), (asasked, .inl (cI, 7, .inl s_asked)), (assent, .inl (cI, 7, .inl s_sent))] H := hP
    have hD : va_D A [(ax, .inr (6, [.ref axrows, .ref as, .ref ad, .ref ay, .ref af, .ref ao, .int (x_questions + ((1 : Int32))), .int x_traced, .int x_latestFault])), (as, .inr (4, [.ref askind, .ref aspage, .ref asasked, .ref assent, .int s_count, .int s_wetSet])), (askind, .inl (cI, 7, .inl s_kind)), (aspage, .inl (cI, 7, .inl s_page)), (asasked, .inl (cI, 7, .inl s_asked)), (assent, .inl (cI, 7, .inl s_sent))] := hD
    refine lv_aload_n hx hb dX7_ask_23 rfl (lv_at hl 0 rfl) ?_
    refine va_get (D := D) (ci := 6) (v := .ref as) (C := RX7) (T := TX7) (N := 9) hx hb hts iX7 hown hK hP 0 rfl rfl 1 (by decide) hF21 (fun _ h9 => h9) rfl dX7_ask_24 ?_
    refine lv_iload_n hx hb dX7_ask_27 rfl (lv_at hl 1 rfl) ?_
    obtain ⟨z1, hz1, hf⟩ := bnd hf
    refine q_rV (rest := []) ⟨hx, hb, hml, hown, hts⟩ (kX4_leafOf l D cI cR as askind aspage asasked assent s_kind s_page s_asked s_sent s_count s_wetSet p1 z1 hz1) (cwV 1 hts gX7_ask_X4_leafOf rfl rfl rfl (by decide +kernel) ⟨Nat.le_of_ble_eq_true rfl, Nat.le_of_ble_eq_true rfl⟩) (hP.sub [1, 2, 3, 4, 5] rfl) hK hN (va_recv hK hP (ci := 4) (q0 := 1) rfl rfl) rfl hl.1 rfl (Nat.le_of_ble_eq_true rfl) dX7_ask_28 ⟨Nat.le_of_ble_eq_true rfl, Nat.le_of_ble_eq_true rfl⟩ ?_
    have hq9 := Option.some.inj hf
    subst hq9
    exact hRet _ _ _ _ _ rfl rfl hP hD hS dX7_ask_31
  · refine lv_iconst (v := -1) hx hb dX7_ask_11 (by decide) ?_
    have hq9 := Option.some.inj hf
    subst hq9
    exact hRet _ _ _ _ _ rfl rfl hP hD hS dX7_ask_12
set_option maxHeartbeats 4000000 in
set_option maxRecDepth 100000 in
theorem kX7_back (l : Launch) (D : va_G) (cI cR : ClassId) (ax axrows as ad ay af ao adslip adleaf ae aekind aepage aeasked aesent : Nat) (x_questions : Int32) (x_traced : Int32) (x_latestFault : Int32) (d_slip : Nat → Int32) (d_leaf : Nat → Int32) (d_count : Int32) (d_fittingPages : Int32) (d_leastPage : Int32) (d_greatestPage : Int32) (e_kind : Nat → Int32) (e_page : Nat → Int32) (e_asked : Nat → Int32) (e_sent : Nat → Int32) (e_count : Int32) (e_wetSet : Int32) (p1 : Int32) (q : Int32 × Int32) (hf : pX7_back d_count p1 = some q) : CWi l yX7_back wsX7_back ({ frames := 0, cells := 0, slots := 0, locals := 0 } : Room) D cI cR [.ref ax, .int p1] [(ax, .inr (6, [.ref axrows, .ref as, .ref ad, .ref ay, .ref af, .ref ao, .int x_questions, .int x_traced, .int x_latestFault])), (ad, .inr (1, [.ref adslip, .ref adleaf, .ref ae, .int d_count, .int d_fittingPages, .int d_leastPage, .int d_greatestPage])), (adslip, .inl (cI, 8, .inl d_slip)), (adleaf, .inl (cI, 8, .inl d_leaf)), (ae, .inr (4, [.ref aekind, .ref aepage, .ref aeasked, .ref aesent, .int e_count, .int e_wetSet])), (aekind, .inl (cI, 7, .inl e_kind)), (aepage, .inl (cI, 7, .inl e_page)), (aeasked, .inl (cI, 7, .inl e_asked)), (aesent, .inl (cI, 7, .inl e_sent))] [(ax, .inr (6, [.ref axrows, .ref as, .ref ad, .ref ay, .ref af, .ref ao, .int x_questions, .int x_traced, .int x_latestFault])), (ad, .inr (1, [.ref adslip, .ref adleaf, .ref ae, .int q.2, .int d_fittingPages, .int d_leastPage, .int d_greatestPage])), (adslip, .inl (cI, 8, .inl d_slip)), (adleaf, .inl (cI, 8, .inl d_leaf)), (ae, .inr (4, [.ref aekind, .ref aepage, .ref aeasked, .ref aesent, .int e_count, .int e_wetSet])), (aekind, .inl (cI, 7, .inl e_kind)), (aepage, .inl (cI, 7, .inl e_page)), (aeasked, .inl (cI, 7, .inl e_asked)), (aesent, .inl (cI, 7, .inl e_sent))] q.1 := by
  refine CWi.intro (cc := cX7_back) (maxL := 2) (ty := .int) (by decide) rfl (Nat.le_of_ble_eq_true rfl) ?_
  intro p e s m args below meth c hx hb hml hts hown hP hK hN A hA hD hS QQ hRet ls hl
  have hown : s.vm.findClass RX7 = some m.cls := hown
  have hl : lv_has ls 2 [(0, .ref ax), (1, .int p1)] := hl
  have iX1 : ∀ w ∈ u_ws RX1 TX1 7, w ∈ wsX7_back := by decide +kernel
  have iX7 : ∀ w ∈ u_ws RX7 TX7 9, w ∈ wsX7_back := by decide +kernel
  have hF28 := hts (.fieldLink RX7 28 "WorldIndex" "readings" "LWorldIndex$Readings;") (by decide +kernel)
  have hG82 := NN.f (args := args) hN "WorldIndex" 82 "WorldIndex$Readings" "count" "I" "WorldIndex" (by decide +kernel)
  unfold pX7_back at hf
  refine lv_iload_n hx hb dX7_back_0 rfl (lv_at hl 1 rfl) ?_
  refine q_if_lt hx hb hf 15 dX7_back_1 (by decide) (fun hf => ?_) (fun hf => ?_)
  · refine lv_bipush (v := -2) hx hb dX7_back_15 (by decide) ?_
    have hq9 := Option.some.inj hf
    subst hq9
    exact hRet _ _ _ _ _ rfl rfl hP hD hS dX7_back_17
  · refine lv_iload_n hx hb dX7_back_4 rfl (lv_at hl 1 rfl) ?_
    refine lv_aload_n hx hb dX7_back_5 rfl (lv_at hl 0 rfl) ?_
    refine va_get (D := D) (ci := 6) (v := .ref ad) (C := RX7) (T := TX7) (N := 9) hx hb hts iX7 hown hK hP 0 rfl rfl 2 (by decide) hF28 (fun _ h9 => h9) rfl dX7_back_6 ?_
    refine va_getN (D := D) (ci := 1) (v := .int d_count) (C := RX1) (T := TX1) (N := 7) hx hb hts iX1 hown hK hP 1 rfl rfl 3 (by decide) hG82 (fun _ h9 => h9) rfl dX7_back_9 ?_
    refine q_icmp_le hx hb hf 18 dX7_back_12 (by decide) (fun hf => ?_) (fun hf => ?_)
    · refine lv_aload_n hx hb dX7_back_18 rfl (lv_at hl 0 rfl) ?_
      refine va_get (D := D) (ci := 6) (v := .ref ad) (C := RX7) (T := TX7) (N := 9) hx hb hts iX7 hown hK hP 0 rfl rfl 2 (by decide) hF28 (fun _ h9 => h9) rfl dX7_back_19 ?_
      refine lv_dup hx hb dX7_back_22 rfl ?_
      refine va_getN (D := D) (ci := 1) (v := .int d_count) (C := RX1) (T := TX1) (N := 7) hx hb hts iX1 hown hK hP 1 rfl rfl 3 (by decide) hG82 (fun _ h9 => h9) rfl dX7_back_23 ?_
      refine lv_iload_n hx hb dX7_back_26 rfl (lv_at hl 1 rfl) ?_
      refine lv_isub hx hb dX7_back_27 ?_
      refine va_putN (D := D) (ci := 1) (v := .int (d_count - p1)) (ty := .int) (C := RX1) (T := TX1) (N := 7) hx hb hts iX1 tyX1 tyX1_ok nmX1 hown hK hP hD hS 1 rfl rfl 3 (by decide) hG82 (fun _ h9 => h9) rfl (tyX1_ok 3 (by decide)) rfl rfl (Nat.le_of_ble_eq_true rfl) dX7_back_28 (fun H locs hP hD hS => ?_)
      have hP : va_P D vwCl [(ax, .inr (6, [.ref axrows, .ref as, .ref ad, .ref ay, .ref af, .ref ao, .int x_questions, .int x_traced, .int x_latestFault])), (ad, .inr (1, [.ref adslip, .ref adleaf, .ref ae, .int (d_count - p1), .int d_fittingPages, .int d_leastPage, .int d_greatestPage])), (adslip, .inl (cI, 8, .inl d_slip)), (adleaf, .inl (cI, 8, .inl d_leaf)), (ae, .inr (4, [.ref aekind, .ref aepage, .ref aeasked, .ref aesent, .int e_count, .int e_wetSet])), (aekind, .inl (cI, 7, .inl e_kind)), (aepage, .inl (cI, 7, .inl e_page)), (aeasked, .inl (cI, 7, .inl e_asked)), (aesent, .inl (cI, 7, .inl e_sent))] H := hP
      have hD : va_D A [(ax, .inr (6, [.ref axrows, .ref as, .ref ad, .ref ay, .ref af, .ref ao, .int x_questions, .int x_traced, .int x_latestFault])), (ad, .inr (1, [.ref adslip, .ref adleaf, .ref ae, .int (d_count - p1), .int d_fittingPages, .int d_leastPage, .int d_greatestPage])), (adslip, .inl (cI, 8, .inl d_slip)), (adleaf, .inl (cI, 8, .inl d_leaf)), (ae, .inr (4, [.ref aekind, .ref aepage, .ref aeasked, .ref aesent, .int e_count, .int e_wetSet])), (aekind, .inl (cI, 7, .inl e_kind)), (aepage, .inl (cI, 7, .inl e_page)), (aeasked, .inl (cI, 7, .inl e_asked)), (aesent, .inl (cI, 7, .inl e_sent))] := hD
      refine lv_aload_n hx hb dX7_back_31 rfl (lv_at hl 0 rfl) ?_
      refine va_get (D := D) (ci := 6) (v := .ref ad) (C := RX7) (T := TX7) (N := 9) hx hb hts iX7 hown hK hP 0 rfl rfl 2 (by decide) hF28 (fun _ h9 => h9) rfl dX7_back_32 ?_
      refine va_getN (D := D) (ci := 1) (v := .int (d_count - p1)) (C := RX1) (T := TX1) (N := 7) hx hb hts iX1 hown hK hP 1 rfl rfl 3 (by decide) hG82 (fun _ h9 => h9) rfl dX7_back_35 ?_
      have hq9 := Option.some.inj hf
      subst hq9
      exact hRet _ _ _ _ _ rfl rfl hP hD hS dX7_back_38
    · refine lv_bipush (v := -2) hx hb dX7_back_15 (by decide) ?_
      have hq9 := Option.some.inj hf
      subst hq9
      exact hRet _ _ _ _ _ rfl rfl hP hD hS dX7_back_17
set_option maxHeartbeats 4000000 in
set_option maxRecDepth 100000 in
theorem kX7_leaveInTrace (l : Launch) (D : va_G) (cI cR : ClassId) (ax axrows as ad ay af ao : Nat) (x_questions : Int32) (x_traced : Int32) (x_latestFault : Int32) (p1 : Int32) (q : Int32) (hf : pX7_leaveInTrace x_traced p1 = some q) : CWv l yX7_leaveInTrace wsX7_leaveInTrace ({ frames := 0, cells := 0, slots := 0, locals := 0 } : Room) D cI cR [.ref ax, .int p1] [(ax, .inr (6, [.ref axrows, .ref as, .ref ad, .ref ay, .ref af, .ref ao, .int x_questions, .int x_traced, .int x_latestFault]))] [(ax, .inr (6, [.ref axrows, .ref as, .ref ad, .ref ay, .ref af, .ref ao, .int x_questions, .int q, .int x_latestFault]))] := by
  refine CWv.intro (cc := cX7_leaveInTrace) (maxL := 2) (by decide) rfl (Nat.le_of_ble_eq_true rfl) ?_
  intro p e s m args below meth c hx hb hml hts hown hP hK hN A hA hD hS QQ hRet ls hl
  have hown : s.vm.findClass RX7 = some m.cls := hown
  have hl : lv_has ls 2 [(0, .ref ax), (1, .int p1)] := hl
  have iX7 : ∀ w ∈ u_ws RX7 TX7 9, w ∈ wsX7_leaveInTrace := by decide +kernel
  have hF254 := hts (.fieldLink RX7 254 "WorldIndex" "traced" "I") (by decide +kernel)
  unfold pX7_leaveInTrace at hf
  refine lv_aload_n hx hb dX7_leaveInTrace_0 rfl (lv_at hl 0 rfl) ?_
  refine lv_bipush (v := 31) hx hb dX7_leaveInTrace_1 (by decide) ?_
  refine lv_aload_n hx hb dX7_leaveInTrace_3 rfl (lv_at hl 0 rfl) ?_
  refine va_get (D := D) (ci := 6) (v := .int x_traced) (C := RX7) (T := TX7) (N := 9) hx hb hts iX7 hown hK hP 0 rfl rfl 7 (by decide) hF254 (fun _ h9 => h9) rfl dX7_leaveInTrace_4 ?_
  refine lv_imul hx hb dX7_leaveInTrace_7 ?_
  refine lv_iload_n hx hb dX7_leaveInTrace_8 rfl (lv_at hl 1 rfl) ?_
  refine lv_iadd hx hb dX7_leaveInTrace_9 ?_
  refine va_put (D := D) (ci := 6) (v := .int ((((31 : Int32)) * x_traced) + p1)) (ty := .int) (C := RX7) (T := TX7) (N := 9) hx hb hts iX7 tyX7 tyX7_ok nmX7 hown hK hP hD hS 0 rfl rfl 7 (by decide) hF254 (fun _ h9 => h9) rfl (tyX7_ok 7 (by decide)) rfl rfl (Nat.le_of_ble_eq_true rfl) dX7_leaveInTrace_10 (fun H locs hP hD hS => ?_)
  have hP : va_P D vwCl [(ax, .inr (6, [.ref axrows, .ref as, .ref ad, .ref ay, .ref af, .ref ao, .int x_questions, .int ((((31 : Int32)) * x_traced) + p1), .int x_latestFault]))] H := hP
  have hD : va_D A [(ax, .inr (6, [.ref axrows, .ref as, .ref ad, .ref ay, .ref af, .ref ao, .int x_questions, .int ((((31 : Int32)) * x_traced) + p1), .int x_latestFault]))] := hD
  have hq9 := Option.some.inj hf
  subst hq9
  exact hRet _ _ _ _ hP hD hS dX7_leaveInTrace_13
set_option maxHeartbeats 4000000 in
set_option maxRecDepth 100000 in
theorem kX7_lineBody (l : Launch) (D : va_G) (cI cR : ClassId) (ax axrows as ad ay af ao askind aspage asasked assent : Nat) (x_questions : Int32) (x_traced : Int32) (x_latestFault : Int32) (s_kind : Nat → Int32) (s_page : Nat → Int32) (s_asked : Nat → Int32) (s_sent : Nat → Int32) (s_count : Int32) (s_wetSet : Int32) (p1 : Int32) (q : Int32 × Int32) (hf : pX7_lineBody x_traced s_page p1 = some q) : CWi l yX7_lineBody wsX7_lineBody ({ frames := 1, cells := 0, slots := 0, locals := 21 } : Room) D cI cR [.ref ax, .int p1] [(ax, .inr (6, [.ref axrows, .ref as, .ref ad, .ref ay, .ref af, .ref ao, .int x_questions, .int x_traced, .int x_latestFault])), (as, .inr (4, [.ref askind, .ref aspage, .ref asasked, .ref assent, .int s_count, .int s_wetSet])), (askind, .inl (cI, 7, .inl s_kind)), (aspage, .inl (cI, 7, .inl s_page)), (asasked, .inl (cI, 7, .inl s_asked)), (assent, .inl (cI, 7, .inl s_sent))] [(ax, .inr (6, [.ref axrows, .ref as, .ref ad, .ref ay, .ref af, .ref ao, .int x_questions, .int q.2, .int x_latestFault])), (as, .inr (4, [.ref askind, .ref aspage, .ref asasked, .ref assent, .int s_count, .int s_wetSet])), (askind, .inl (cI, 7, .inl s_kind)), (aspage, .inl (cI, 7, .inl s_page)), (asasked, .inl (cI, 7, .inl s_asked)), (assent, .inl (cI, 7, .inl s_sent))] q.1 := by
  refine CWi.intro (cc := cX7_lineBody) (maxL := 2) (ty := .int) (by decide) rfl (Nat.le_of_ble_eq_true rfl) ?_
  intro p e s m args below meth c hx hb hml hts hown hP hK hN A hA hD hS QQ hRet ls hl
  have hown : s.vm.findClass RX7 = some m.cls := hown
  have hl : lv_has ls 2 [(0, .ref ax), (1, .int p1)] := hl
  have iX4 : ∀ w ∈ u_ws RX4 TX4 6, w ∈ wsX7_lineBody := by decide +kernel
  have iX7 : ∀ w ∈ u_ws RX7 TX7 9, w ∈ wsX7_lineBody := by decide +kernel
  have hF21 := hts (.fieldLink RX7 21 "WorldIndex" "slips" "LWorldIndex$Slips;") (by decide +kernel)
  have hG96 := NN.f (args := args) hN "WorldIndex" 96 "WorldIndex$Slips" "page" "[I" "WorldIndex" (by decide +kernel)
  unfold pX7_lineBody at hf
  refine lv_aload_n hx hb dX7_lineBody_0 rfl (lv_at hl 0 rfl) ?_
  refine lv_iconst (v := 1) hx hb dX7_lineBody_1 (by decide) ?_
  obtain ⟨z1, hz1, hf⟩ := bnd hf
  refine q_wVv (wr := [(as, .inr (4, [.ref askind, .ref aspage, .ref asasked, .ref assent, .int s_count, .int s_wetSet])), (askind, .inl (cI, 7, .inl s_kind)), (aspage, .inl (cI, 7, .inl s_page)), (asasked, .inl (cI, 7, .inl s_asked)), (assent, .inl (cI, 7, .inl s_sent))]) (rest := []) ⟨hx, hb, hml, hown, hts⟩ (kX7_leaveInTrace l D cI cR ax axrows as ad ay af ao x_questions x_traced x_latestFault ((1 : Int32)) z1 hz1) (cwV 1 hts gX7_lineBody_X7_leaveInTrace rfl rfl rfl (by decide +kernel) ⟨Nat.le_of_ble_eq_true rfl, Nat.le_of_ble_eq_true rfl⟩) hP hD hS hA hK hN [0] [1, 2, 3, 4, 5] rfl rfl (by decide) (by decide) (by decide) (va_recv hK hP (ci := 6) (q0 := 0) rfl rfl) rfl hl.1 rfl (Nat.le_of_ble_eq_true rfl) dX7_lineBody_2 ⟨Nat.le_of_ble_eq_true rfl, Nat.le_of_ble_eq_true rfl⟩ (fun H locs hP hD hS => ?_)
  have hP := hP.sub (ws' := [(ax, .inr (6, [.ref axrows, .ref as, .ref ad, .ref ay, .ref af, .ref ao, .int x_questions, .int z1, .int x_latestFault])), (as, .inr (4, [.ref askind, .ref aspage, .ref asasked, .ref assent, .int s_count, .int s_wetSet])), (askind, .inl (cI, 7, .inl s_kind)), (aspage, .inl (cI, 7, .inl s_page)), (asasked, .inl (cI, 7, .inl s_asked)), (assent, .inl (cI, 7, .inl s_sent))]) [5, 0, 1, 2, 3, 4] rfl
  have hD := hD.sub (ws' := [(ax, .inr (6, [.ref axrows, .ref as, .ref ad, .ref ay, .ref af, .ref ao, .int x_questions, .int z1, .int x_latestFault])), (as, .inr (4, [.ref askind, .ref aspage, .ref asasked, .ref assent, .int s_count, .int s_wetSet])), (askind, .inl (cI, 7, .inl s_kind)), (aspage, .inl (cI, 7, .inl s_page)), (asasked, .inl (cI, 7, .inl s_asked)), (assent, .inl (cI, 7, .inl s_sent))]) [5, 0, 1, 2, 3, 4] (by decide) rfl
  refine lv_aload_n hx hb dX7_lineBody_5 rfl (lv_at hl 0 rfl) ?_
  refine va_get (D := D) (ci := 6) (v := .ref as) (C := RX7) (T := TX7) (N := 9) hx hb hts iX7 hown hK hP 0 rfl rfl 1 (by decide) hF21 (fun _ h9 => h9) rfl dX7_lineBody_6 ?_
  refine va_getN (D := D) (ci := 4) (v := .ref aspage) (C := RX4) (T := TX4) (N := 6) hx hb hts iX4 hown hK hP 1 rfl rfl 1 (by decide) hG96 (fun _ h9 => h9) rfl dX7_lineBody_9 ?_
  refine lv_iload_n hx hb dX7_lineBody_12 rfl (lv_at hl 1 rfl) ?_
  refine q_iald hx hb hK hP 3 0 rfl rfl hf dX7_lineBody_13 (fun x2 hf => ?_)
  have hq9 := Option.some.inj hf
  subst hq9
  exact hRet _ _ _ _ _ rfl rfl hP hD hS dX7_lineBody_14
set_option maxHeartbeats 4000000 in
set_option maxRecDepth 100000 in
theorem kX7_dashBody (l : Launch) (D : va_G) (cI cR : ClassId) (ax axrows as ad ay af ao askind aspage asasked assent : Nat) (x_questions : Int32) (x_traced : Int32) (x_latestFault : Int32) (s_kind : Nat → Int32) (s_page : Nat → Int32) (s_asked : Nat → Int32) (s_sent : Nat → Int32) (s_count : Int32) (s_wetSet : Int32) (p1 : Int32) (q : Int32 × Int32) (hf : pX7_dashBody x_traced s_page p1 = some q) : CWi l yX7_dashBody wsX7_dashBody ({ frames := 2, cells := 0, slots := 0, locals := 42 } : Room) D cI cR [.ref ax, .int p1] [(ax, .inr (6, [.ref axrows, .ref as, .ref ad, .ref ay, .ref af, .ref ao, .int x_questions, .int x_traced, .int x_latestFault])), (as, .inr (4, [.ref askind, .ref aspage, .ref asasked, .ref assent, .int s_count, .int s_wetSet])), (askind, .inl (cI, 7, .inl s_kind)), (aspage, .inl (cI, 7, .inl s_page)), (asasked, .inl (cI, 7, .inl s_asked)), (assent, .inl (cI, 7, .inl s_sent))] [(ax, .inr (6, [.ref axrows, .ref as, .ref ad, .ref ay, .ref af, .ref ao, .int x_questions, .int q.2, .int x_latestFault])), (as, .inr (4, [.ref askind, .ref aspage, .ref asasked, .ref assent, .int s_count, .int s_wetSet])), (askind, .inl (cI, 7, .inl s_kind)), (aspage, .inl (cI, 7, .inl s_page)), (asasked, .inl (cI, 7, .inl s_asked)), (assent, .inl (cI, 7, .inl s_sent))] q.1 := by
  refine CWi.intro (cc := cX7_dashBody) (maxL := 2) (ty := .int) (by decide) rfl (Nat.le_of_ble_eq_true rfl) ?_
  intro p e s m args below meth c hx hb hml hts hown hP hK hN A hA hD hS QQ hRet ls hl
  have hown : s.vm.findClass RX7 = some m.cls := hown
  have hl : lv_has ls 2 [(0, .ref ax), (1, .int p1)] := hl
  unfold pX7_dashBody at hf
  refine lv_aload_n hx hb dX7_dashBody_0 rfl (lv_at hl 0 rfl) ?_
  refine lv_iconst (v := 2) hx hb dX7_dashBody_1 (by decide) ?_
  obtain ⟨z1, hz1, hf⟩ := bnd hf
  refine q_wVv (wr := [(as, .inr (4, [.ref askind, .ref aspage, .ref asasked, .ref assent, .int s_count, .int s_wetSet])), (askind, .inl (cI, 7, .inl s_kind)), (aspage, .inl (cI, 7, .inl s_page)), (asasked, .inl (cI, 7, .inl s_asked)), (assent, .inl (cI, 7, .inl s_sent))]) (rest := []) ⟨hx, hb, hml, hown, hts⟩ (kX7_leaveInTrace l D cI cR ax axrows as ad ay af ao x_questions x_traced x_latestFault ((2 : Int32)) z1 hz1) (cwV 1 hts gX7_dashBody_X7_leaveInTrace rfl rfl rfl (by decide +kernel) ⟨Nat.le_of_ble_eq_true rfl, Nat.le_of_ble_eq_true rfl⟩) hP hD hS hA hK hN [0] [1, 2, 3, 4, 5] rfl rfl (by decide) (by decide) (by decide) (va_recv hK hP (ci := 6) (q0 := 0) rfl rfl) rfl hl.1 rfl (Nat.le_of_ble_eq_true rfl) dX7_dashBody_2 ⟨Nat.le_of_ble_eq_true rfl, Nat.le_of_ble_eq_true rfl⟩ (fun H locs hP hD hS => ?_)
  have hP := hP.sub (ws' := [(ax, .inr (6, [.ref axrows, .ref as, .ref ad, .ref ay, .ref af, .ref ao, .int x_questions, .int z1, .int x_latestFault])), (as, .inr (4, [.ref askind, .ref aspage, .ref asasked, .ref assent, .int s_count, .int s_wetSet])), (askind, .inl (cI, 7, .inl s_kind)), (aspage, .inl (cI, 7, .inl s_page)), (asasked, .inl (cI, 7, .inl s_asked)), (assent, .inl (cI, 7, .inl s_sent))]) [5, 0, 1, 2, 3, 4] rfl
  have hD := hD.sub (ws' := [(ax, .inr (6, [.ref axrows, .ref as, .ref ad, .ref ay, .ref af, .ref ao, .int x_questions, .int z1, .int x_latestFault])), (as, .inr (4, [.ref askind, .ref aspage, .ref asasked, .ref assent, .int s_count, .int s_wetSet])), (askind, .inl (cI, 7, .inl s_kind)), (aspage, .inl (cI, 7, .inl s_page)), (asasked, .inl (cI, 7, .inl s_asked)), (assent, .inl (cI, 7, .inl s_sent))]) [5, 0, 1, 2, 3, 4] (by decide) rfl
  refine lv_aload_n hx hb dX7_dashBody_5 rfl (lv_at hl 0 rfl) ?_
  refine lv_iload_n hx hb dX7_dashBody_6 rfl (lv_at hl 1 rfl) ?_
  obtain ⟨z2, hz2, hf⟩ := bnd hf
  refine q_wVi (wr := []) (rest := []) ⟨hx, hb, hml, hown, hts⟩ (kX7_lineBody l D cI cR ax axrows as ad ay af ao askind aspage asasked assent x_questions z1 x_latestFault s_kind s_page s_asked s_sent s_count s_wetSet p1 z2 hz2) (cwV 1 hts gX7_dashBody_X7_lineBody rfl rfl rfl (by decide +kernel) ⟨Nat.le_of_ble_eq_true rfl, Nat.le_of_ble_eq_true rfl⟩) hP hD hS hA hK hN [0, 1, 2, 3, 4, 5] [] rfl rfl (by decide) (by decide) (by decide) (va_recv hK hP (ci := 6) (q0 := 0) rfl rfl) rfl hl.1 rfl (Nat.le_of_ble_eq_true rfl) dX7_dashBody_7 ⟨Nat.le_of_ble_eq_true rfl, Nat.le_of_ble_eq_true rfl⟩ (fun H locs hP hD hS => ?_)
  have hP : va_P D vwCl [(ax, .inr (6, [.ref axrows, .ref as, .ref ad, .ref ay, .ref af, .ref ao, .int x_questions, .int z2.2, .int x_latestFault])), (as, .inr (4, [.ref askind, .ref aspage, .ref asasked, .ref assent, .int s_count, .int s_wetSet])), (askind, .inl (cI, 7, .inl s_kind)), (aspage, .inl (cI, 7, .inl s_page)), (asasked, .inl (cI, 7, .inl s_asked)), (assent, .inl (cI, 7, .inl s_sent))] H := hP
  have hD : va_D A [(ax, .inr (6, [.ref axrows, .ref as, .ref ad, .ref ay, .ref af, .ref ao, .int x_questions, .int z2.2, .int x_latestFault])), (as, .inr (4, [.ref askind, .ref aspage, .ref asasked, .ref assent, .int s_count, .int s_wetSet])), (askind, .inl (cI, 7, .inl s_kind)), (aspage, .inl (cI, 7, .inl s_page)), (asasked, .inl (cI, 7, .inl s_asked)), (assent, .inl (cI, 7, .inl s_sent))] := hD
  refine lv_bipush (v := 100) hx hb dX7_dashBody_10 (by decide) ?_
  refine lv_iadd hx hb dX7_dashBody_12 ?_
  have hq9 := Option.some.inj hf
  subst hq9
  exact hRet _ _ _ _ _ rfl rfl hP hD hS dX7_dashBody_13
set_option maxHeartbeats 4000000 in
set_option maxRecDepth 100000 in
theorem kX7_boldBody (l : Launch) (D : va_G) (cI cR : ClassId) (ax axrows as ad ay af ao askind aspage asasked assent : Nat) (x_questions : Int32) (x_traced : Int32) (x_latestFault : Int32) (s_kind : Nat → Int32) (s_page : Nat → Int32) (s_asked : Nat → Int32) (s_sent : Nat → Int32) (s_count : Int32) (s_wetSet : Int32) (p1 : Int32) (q : Int32 × Int32) (hf : pX7_boldBody x_traced s_page p1 = some q) : CWi l yX7_boldBody wsX7_boldBody ({ frames := 3, cells := 0, slots := 0, locals := 63 } : Room) D cI cR [.ref ax, .int p1] [(ax, .inr (6, [.ref axrows, .ref as, .ref ad, .ref ay, .ref af, .ref ao, .int x_questions, .int x_traced, .int x_latestFault])), (as, .inr (4, [.ref askind, .ref aspage, .ref asasked, .ref assent, .int s_count, .int s_wetSet])), (askind, .inl (cI, 7, .inl s_kind)), (aspage, .inl (cI, 7, .inl s_page)), (asasked, .inl (cI, 7, .inl s_asked)), (assent, .inl (cI, 7, .inl s_sent))] [(ax, .inr (6, [.ref axrows, .ref as, .ref ad, .ref ay, .ref af, .ref ao, .int x_questions, .int q.2, .int x_latestFault])), (as, .inr (4, [.ref askind, .ref aspage, .ref asasked, .ref assent, .int s_count, .int s_wetSet])), (askind, .inl (cI, 7, .inl s_kind)), (aspage, .inl (cI, 7, .inl s_page)), (asasked, .inl (cI, 7, .inl s_asked)), (assent, .inl (cI, 7, .inl s_sent))] q.1 := by
  refine CWi.intro (cc := cX7_boldBody) (maxL := 3) (ty := .int) (by decide) rfl (Nat.le_of_ble_eq_true rfl) ?_
  intro p e s m args below meth c hx hb hml hts hown hP hK hN A hA hD hS QQ hRet ls hl
  have hown : s.vm.findClass RX7 = some m.cls := hown
  have hl : lv_has ls 3 [(0, .ref ax), (1, .int p1)] := hl
  unfold pX7_boldBody at hf
  refine lv_aload_n hx hb dX7_boldBody_0 rfl (lv_at hl 0 rfl) ?_
  refine lv_iconst (v := 3) hx hb dX7_boldBody_1 (by decide) ?_
  obtain ⟨z1, hz1, hf⟩ := bnd hf
  refine q_wVv (wr := [(as, .inr (4, [.ref askind, .ref aspage, .ref asasked, .ref assent, .int s_count, .int s_wetSet])), (askind, .inl (cI, 7, .inl s_kind)), (aspage, .inl (cI, 7, .inl s_page)), (asasked, .inl (cI, 7, .inl s_asked)), (assent, .inl (cI, 7, .inl s_sent))]) (rest := []) ⟨hx, hb, hml, hown, hts⟩ (kX7_leaveInTrace l D cI cR ax axrows as ad ay af ao x_questions x_traced x_latestFault ((3 : Int32)) z1 hz1) (cwV 1 hts gX7_boldBody_X7_leaveInTrace rfl rfl rfl (by decide +kernel) ⟨Nat.le_of_ble_eq_true rfl, Nat.le_of_ble_eq_true rfl⟩) hP hD hS hA hK hN [0] [1, 2, 3, 4, 5] rfl rfl (by decide) (by decide) (by decide) (va_recv hK hP (ci := 6) (q0 := 0) rfl rfl) rfl hl.1 rfl (Nat.le_of_ble_eq_true rfl) dX7_boldBody_2 ⟨Nat.le_of_ble_eq_true rfl, Nat.le_of_ble_eq_true rfl⟩ (fun H locs hP hD hS => ?_)
  have hP := hP.sub (ws' := [(ax, .inr (6, [.ref axrows, .ref as, .ref ad, .ref ay, .ref af, .ref ao, .int x_questions, .int z1, .int x_latestFault])), (as, .inr (4, [.ref askind, .ref aspage, .ref asasked, .ref assent, .int s_count, .int s_wetSet])), (askind, .inl (cI, 7, .inl s_kind)), (aspage, .inl (cI, 7, .inl s_page)), (asasked, .inl (cI, 7, .inl s_asked)), (assent, .inl (cI, 7, .inl s_sent))]) [5, 0, 1, 2, 3, 4] rfl
  have hD := hD.sub (ws' := [(ax, .inr (6, [.ref axrows, .ref as, .ref ad, .ref ay, .ref af, .ref ao, .int x_questions, .int z1, .int x_latestFault])), (as, .inr (4, [.ref askind, .ref aspage, .ref asasked, .ref assent, .int s_count, .int s_wetSet])), (askind, .inl (cI, 7, .inl s_kind)), (aspage, .inl (cI, 7, .inl s_page)), (asasked, .inl (cI, 7, .inl s_asked)), (assent, .inl (cI, 7, .inl s_sent))]) [5, 0, 1, 2, 3, 4] (by decide) rfl
  refine lv_aload_n hx hb dX7_boldBody_5 rfl (lv_at hl 0 rfl) ?_
  refine lv_iload_n hx hb dX7_boldBody_6 rfl (lv_at hl 1 rfl) ?_
  obtain ⟨z2, hz2, hf⟩ := bnd hf
  refine q_wVi (wr := []) (rest := []) ⟨hx, hb, hml, hown, hts⟩ (kX7_dashBody l D cI cR ax axrows as ad ay af ao askind aspage asasked assent x_questions z1 x_latestFault s_kind s_page s_asked s_sent s_count s_wetSet p1 z2 hz2) (cwV 1 hts gX7_boldBody_X7_dashBody rfl rfl rfl (by decide +kernel) ⟨Nat.le_of_ble_eq_true rfl, Nat.le_of_ble_eq_true rfl⟩) hP hD hS hA hK hN [0, 1, 2, 3, 4, 5] [] rfl rfl (by decide) (by decide) (by decide) (va_recv hK hP (ci := 6) (q0 := 0) rfl rfl) rfl hl.1 rfl (Nat.le_of_ble_eq_true rfl) dX7_boldBody_7 ⟨Nat.le_of_ble_eq_true rfl, Nat.le_of_ble_eq_true rfl⟩ (fun H locs hP hD hS => ?_)
  have hP : va_P D vwCl [(ax, .inr (6, [.ref axrows, .ref as, .ref ad, .ref ay, .ref af, .ref ao, .int x_questions, .int z2.2, .int x_latestFault])), (as, .inr (4, [.ref askind, .ref aspage, .ref asasked, .ref assent, .int s_count, .int s_wetSet])), (askind, .inl (cI, 7, .inl s_kind)), (aspage, .inl (cI, 7, .inl s_page)), (asasked, .inl (cI, 7, .inl s_asked)), (assent, .inl (cI, 7, .inl s_sent))] H := hP
  have hD : va_D A [(ax, .inr (6, [.ref axrows, .ref as, .ref ad, .ref ay, .ref af, .ref ao, .int x_questions, .int z2.2, .int x_latestFault])), (as, .inr (4, [.ref askind, .ref aspage, .ref asasked, .ref assent, .int s_count, .int s_wetSet])), (askind, .inl (cI, 7, .inl s_kind)), (aspage, .inl (cI, 7, .inl s_page)), (asasked, .inl (cI, 7, .inl s_asked)), (assent, .inl (cI, 7, .inl s_sent))] := hD
  refine lv_istore_n (lv' := [(2, .int z2.1), (0, .ref ax), (1, .int p1)]) hx hb dX7_boldBody_10 rfl hl (by decide) rfl (fun ls hl => ?_)
  refine lv_iload_n hx hb dX7_boldBody_11 rfl (lv_at hl 0 rfl) ?_
  refine lv_aload_n hx hb dX7_boldBody_12 rfl (lv_at hl 1 rfl) ?_
  refine lv_iload_n hx hb dX7_boldBody_13 rfl (lv_at hl 2 rfl) ?_
  obtain ⟨z3, hz3, hf⟩ := bnd hf
  refine q_wVi (wr := []) (rest := [.int z2.1]) ⟨hx, hb, hml, hown, hts⟩ (kX7_lineBody l D cI cR ax axrows as ad ay af ao askind aspage asasked assent x_questions z2.2 x_latestFault s_kind s_page s_asked s_sent s_count s_wetSet p1 z3 hz3) (cwV 1 hts gX7_boldBody_X7_lineBody rfl rfl rfl (by decide +kernel) ⟨Nat.le_of_ble_eq_true rfl, Nat.le_of_ble_eq_true rfl⟩) hP hD hS hA hK hN [0, 1, 2, 3, 4, 5] [] rfl rfl (by decide) (by decide) (by decide) (va_recv hK hP (ci := 6) (q0 := 0) rfl rfl) rfl hl.1 rfl (Nat.le_of_ble_eq_true rfl) dX7_boldBody_14 ⟨Nat.le_of_ble_eq_true rfl, Nat.le_of_ble_eq_true rfl⟩ (fun H locs hP hD hS => ?_)
  have hP : va_P D vwCl [(ax, .inr (6, [.ref axrows, .ref as, .ref ad, .ref ay, .ref af, .ref ao, .int x_questions, .int z3.2, .int x_latestFault])), (as, .inr (4, [.ref askind, .ref aspage, .ref asasked, .ref assent, .int s_count, .int s_wetSet])), (askind, .inl (cI, 7, .inl s_kind)), (aspage, .inl (cI, 7, .inl s_page)), (asasked, .inl (cI, 7, .inl s_asked)), (assent, .inl (cI, 7, .inl s_sent))] H := hP
  have hD : va_D A [(ax, .inr (6, [.ref axrows, .ref as, .ref ad, .ref ay, .ref af, .ref ao, .int x_questions, .int z3.2, .int x_latestFault])), (as, .inr (4, [.ref askind, .ref aspage, .ref asasked, .ref assent, .int s_count, .int s_wetSet])), (askind, .inl (cI, 7, .inl s_kind)), (aspage, .inl (cI, 7, .inl s_page)), (asasked, .inl (cI, 7, .inl s_asked)), (assent, .inl (cI, 7, .inl s_sent))] := hD
  refine lv_iadd hx hb dX7_boldBody_17 ?_
  have hq9 := Option.some.inj hf
  subst hq9
  exact hRet _ _ _ _ _ rfl rfl hP hD hS dX7_boldBody_18
set_option maxHeartbeats 4000000 in
set_option maxRecDepth 100000 in
theorem kX7_isSheet (l : Launch) (D : va_G) (cI cR : ClassId) (p0 : Int32) (q : Int32) (hf : pX7_isSheet p0 = q) : CR l yX7_isSheet wsX7_isSheet ({ frames := 0, cells := 0, slots := 0, locals := 0 } : Room) D cI cR [.int p0] [] (.int q) := by
  refine CRi.intro (cc := cX7_isSheet) (maxL := 1) (ty := .boolean) (by decide) rfl (Nat.le_of_ble_eq_true rfl) ?_
  intro p e s m args below meth c hx hb hml hts hown hP hK hN QQ hRet ls hl
  have hown : s.vm.findClass RX7 = some m.cls := hown
  have hl : lv_has ls 1 [(0, .int p0)] := hl
  unfold pX7_isSheet at hf
  refine lv_iload_n hx hb dX7_isSheet_0 rfl (lv_at hl 0 rfl) ?_
  refine q_if_lt hx hb hf 13 dX7_isSheet_1 (by decide) (fun hf => ?_) (fun hf => ?_)
  · refine lv_iconst (v := 0) hx hb dX7_isSheet_13 (by decide) ?_
    exact hRet _ _ _ (by decide) hf dX7_isSheet_14
  · refine lv_iload_n hx hb dX7_isSheet_4 rfl (lv_at hl 0 rfl) ?_
    refine lv_iconst (v := 4) hx hb dX7_isSheet_5 (by decide) ?_
    refine q_icmp_ge hx hb hf 13 dX7_isSheet_6 (by decide) (fun hf => ?_) (fun hf => ?_)
    · refine lv_iconst (v := 0) hx hb dX7_isSheet_13 (by decide) ?_
      exact hRet _ _ _ (by decide) hf dX7_isSheet_14
    · refine lv_iconst (v := 1) hx hb dX7_isSheet_9 (by decide) ?_
      refine lv_goto (tgt := 14) hx hb dX7_isSheet_10 (by decide) ?_
      exact hRet _ _ _ (by decide) hf dX7_isSheet_14
set_option maxHeartbeats 4000000 in
set_option maxRecDepth 100000 in
theorem kX7_isLane (l : Launch) (D : va_G) (cI cR : ClassId) (p0 : Int32) (q : Int32) (hf : pX7_isLane p0 = q) : CR l yX7_isLane wsX7_isLane ({ frames := 0, cells := 0, slots := 0, locals := 0 } : Room) D cI cR [.int p0] [] (.int q) := by
  refine CRi.intro (cc := cX7_isLane) (maxL := 1) (ty := .boolean) (by decide) rfl (Nat.le_of_ble_eq_true rfl) ?_
  intro p e s m args below meth c hx hb hml hts hown hP hK hN QQ hRet ls hl
  have hown : s.vm.findClass RX7 = some m.cls := hown
  have hl : lv_has ls 1 [(0, .int p0)] := hl
  unfold pX7_isLane at hf
  refine lv_iload_n hx hb dX7_isLane_0 rfl (lv_at hl 0 rfl) ?_
  refine q_if_lt hx hb hf 13 dX7_isLane_1 (by decide) (fun hf => ?_) (fun hf => ?_)
  · refine lv_iconst (v := 0) hx hb dX7_isLane_13 (by decide) ?_
    exact hRet _ _ _ (by decide) hf dX7_isLane_14
  · refine lv_iload_n hx hb dX7_isLane_4 rfl (lv_at hl 0 rfl) ?_
    refine lv_iconst (v := 2) hx hb dX7_isLane_5 (by decide) ?_
    refine q_icmp_gt hx hb hf 13 dX7_isLane_6 (by decide) (fun hf => ?_) (fun hf => ?_)
    · refine lv_iconst (v := 0) hx hb dX7_isLane_13 (by decide) ?_
      exact hRet _ _ _ (by decide) hf dX7_isLane_14
    · refine lv_iconst (v := 1) hx hb dX7_isLane_9 (by decide) ?_
      refine lv_goto (tgt := 14) hx hb dX7_isLane_10 (by decide) ?_
      exact hRet _ _ _ (by decide) hf dX7_isLane_14
set_option maxHeartbeats 4000000 in
set_option maxRecDepth 100000 in
theorem kX7_book (l : Launch) (D : va_G) (cI cR : ClassId) (ax axrows as ad ay af ao ar arcells askind aspage asasked assent adslip adleaf ae aekind aepage aeasked aesent : Nat) (x_rows : Nat → Option Nat) (x_questions : Int32) (x_traced : Int32) (x_latestFault : Int32) (r_cells : Nat → Int32) (r_there : Int32) (r_lane : Int32) (r_length : Int32) (s_kind : Nat → Int32) (s_page : Nat → Int32) (s_asked : Nat → Int32) (s_sent : Nat → Int32) (s_count : Int32) (s_wetSet : Int32) (d_slip : Nat → Int32) (d_leaf : Nat → Int32) (d_count : Int32) (d_fittingPages : Int32) (d_leastPage : Int32) (d_greatestPage : Int32) (e_kind : Nat → Int32) (e_page : Nat → Int32) (e_asked : Nat → Int32) (e_sent : Nat → Int32) (e_count : Int32) (e_wetSet : Int32) (p1 : Int32) (p2 : Int32) (p3 : Int32) (p4 : Int32) (hrow : vp_in p1 4 → x_rows p1.toNatClampNeg = some ar) (q : Int32 × Int32 × Int32 × (Nat → Int32) × (Nat → Int32) × (Nat → Int32) × (Nat → Int32) × Int32 × Int32 × Int32) (hf : pX7_book x_questions x_latestFault r_cells r_there r_lane r_length s_kind s_page s_asked s_sent s_count s_wetSet d_count p1 p2 p3 p4 = some q) : CWi l yX7_book wsX7_book ({ frames := 3, cells := 0, slots := 0, locals := 68 } : Room) D cI cR [.ref ax, .int p1, .int p2, .int p3, .int p4] [(ax, .inr (6, [.ref axrows, .ref as, .ref ad, .ref ay, .ref af, .ref ao, .int x_questions, .int x_traced, .int x_latestFault])), (axrows, .inl (cR, 4, .inr (.inr (.inr (.inr x_rows))))), (ar, .inr (2, [.ref arcells, .int r_there, .int r_lane, .int r_length])), (arcells, .inl (cI, 60, .inl r_cells)), (as, .inr (4, [.ref askind, .ref aspage, .ref asasked, .ref assent, .int s_count, .int s_wetSet])), (askind, .inl (cI, 7, .inl s_kind)), (aspage, .inl (cI, 7, .inl s_page)), (asasked, .inl (cI, 7, .inl s_asked)), (assent, .inl (cI, 7, .inl s_sent)), (ad, .inr (1, [.ref adslip, .ref adleaf, .ref ae, .int d_count, .int d_fittingPages, .int d_leastPage, .int d_greatestPage])), (adslip, .inl (cI, 8, .inl d_slip)), (adleaf, .inl (cI, 8, .inl d_leaf)), (ae, .inr (4, [.ref aekind, .ref aepage, .ref aeasked, .ref aesent, .int e_count, .int e_wetSet])), (aekind, .inl (cI, 7, .inl e_kind)), (aepage, .inl (cI, 7, .inl e_page)), (aeasked, .inl (cI, 7, .inl e_asked)), (aesent, .inl (cI, 7, .inl e_sent))] [(ax, .inr (6, [.ref axrows, .ref as, .ref ad, .ref ay, .ref af, .ref ao, .int q.2.1, .int x_traced, .int q.2.2.1])), (axrows, .inl (cR, 4, .inr (.inr (.inr (.inr x_rows))))), (ar, .inr (2, [.ref arcells, .int r_there, .int r_lane, .int r_length])), (arcells, .inl (cI, 60, .inl r_cells)), (as, .inr (4, [.ref askind, .ref aspage, .ref asasked, .ref assent, .int q.2.2.2.2.2.2.2.1, .int q.2.2.2.2.2.2.2.2.1])), (askind, .inl (cI, 7, .inl q.2.2.2.1)), (aspage, .inl (cI, 7, .inl q.2.2.2.2.1)), (asasked, .inl (cI, 7, .inl q.2.2.2.2.2.1)), (assent, .inl (cI, 7, .inl q.2.2.2.2.2.2.1)), (ad, .inr (1, [.ref adslip, .ref adleaf, .ref ae, .int q.2.2.2.2.2.2.2.2.2, .int d_fittingPages, .int d_leastPage, .int d_greatestPage])), (adslip, .inl (cI, 8, .inl d_slip)), (adleaf, .inl (cI, 8, .inl d_leaf)), (ae, .inr (4, [.ref aekind, .ref aepage, .ref aeasked, .ref aesent, .int e_count, .int e_wetSet])), (aekind, .inl (cI, 7, .inl e_kind)), (aepage, .inl (cI, 7, .inl e_page)), (aeasked, .inl (cI, 7, .inl e_asked)), (aesent, .inl (cI, 7, .inl e_sent))] q.1 := by
  refine CWi.intro (cc := cX7_book) (maxL := 8) (ty := .int) (by decide) rfl (Nat.le_of_ble_eq_true rfl) ?_
  intro p e s m args below meth c hx hb hml hts hown hP hK hN A hA hD hS QQ hRet ls hl
  have hown : s.vm.findClass RX7 = some m.cls := hown
  have hl : lv_has ls 8 [(0, .ref ax), (1, .int p1), (2, .int p2), (3, .int p3), (4, .int p4)] := hl
  have iX1 : ∀ w ∈ u_ws RX1 TX1 7, w ∈ wsX7_book := by decide +kernel
  have iX4 : ∀ w ∈ u_ws RX4 TX4 6, w ∈ wsX7_book := by decide +kernel
  have iX7 : ∀ w ∈ u_ws RX7 TX7 9, w ∈ wsX7_book := by decide +kernel
  have hF13 := hts (.fieldLink RX7 13 "WorldIndex" "rows" "[LWorldIndex$Row;") (by decide +kernel)
  have hF21 := hts (.fieldLink RX7 21 "WorldIndex" "slips" "LWorldIndex$Slips;") (by decide +kernel)
  have hF28 := hts (.fieldLink RX7 28 "WorldIndex" "readings" "LWorldIndex$Readings;") (by decide +kernel)
  have hF53 := hts (.fieldLink RX7 53 "WorldIndex" "latestFault" "I") (by decide +kernel)
  have hF85 := hts (.fieldLink RX7 85 "WorldIndex" "questions" "I") (by decide +kernel)
  have hG82 := NN.f (args := args) hN "WorldIndex" 82 "WorldIndex$Readings" "count" "I" "WorldIndex" (by decide +kernel)
  have hG88 := NN.f (args := args) hN "WorldIndex" 88 "WorldIndex$Slips" "count" "I" "WorldIndex" (by decide +kernel)
  unfold pX7_book at hf
  refine lv_aload_n hx hb dX7_book_0 rfl (lv_at hl 0 rfl) ?_
  refine lv_iconst (v := 0) hx hb dX7_book_1 (by decide) ?_
  refine va_put (D := D) (ci := 6) (v := .int ((0 : Int32))) (ty := .int) (C := RX7) (T := TX7) (N := 9) hx hb hts iX7 tyX7 tyX7_ok nmX7 hown hK hP hD hS 0 rfl rfl 8 (by decide) hF53 (fun _ h9 => h9) rfl (tyX7_ok 8 (by decide)) rfl rfl (Nat.le_of_ble_eq_true rfl) dX7_book_2 (fun H locs hP hD hS => ?_)
  have hP : va_P D vwCl [(ax, .inr (6, [.ref axrows, .ref as, .ref ad, .ref ay, .ref af, .ref ao, .int x_questions, .int x_traced, .int ((0 : Int32))])), (axrows, .inl (cR, 4, .inr (.inr (.inr (.inr x_rows))))), (ar, .inr (2, [.ref arcells, .int r_there, .int r_lane, .int r_length])), (arcells, .inl (cI, 60, .inl r_cells)), (as, .inr (4, [.ref askind, .ref aspage, .ref asasked, .ref assent, .int s_count, .int s_wetSet])), (askind, .inl (cI, 7, .inl s_kind)), (aspage, .inl (cI, 7, .inl s_page)), (asasked, .inl (cI, 7, .inl s_asked)), (assent, .inl (cI, 7, .inl s_sent)), (ad, .inr (1, [.ref adslip, .ref adleaf, .ref ae, .int d_count, .int d_fittingPages, .int d_leastPage, .int d_greatestPage])), (adslip, .inl (cI, 8, .inl d_slip)), (adleaf, .inl (cI, 8, .inl d_leaf)), (ae, .inr (4, [.ref aekind, .ref aepage, .ref aeasked, .ref aesent, .int e_count, .int e_wetSet])), (aekind, .inl (cI, 7, .inl e_kind)), (aepage, .inl (cI, 7, .inl e_page)), (aeasked, .inl (cI, 7, .inl e_asked)), (aesent, .inl (cI, 7, .inl e_sent))] H := hP
  have hD : va_D A [(ax, .inr (6, [.ref axrows, .ref as, .ref ad, .ref ay, .ref af, .ref ao, .int x_questions, .int x_traced, .int ((0 : Int32))])), (axrows, .inl (cR, 4, .inr (.inr (.inr (.inr x_rows))))), (ar, .inr (2, [.ref arcells, .int r_there, .int r_lane, .int r_length])), (arcells, .inl (cI, 60, .inl r_cells)), (as, .inr (4, [.ref askind, .ref aspage, .ref asasked, .ref assent, .int s_count, .int s_wetSet])), (askind, .inl (cI, 7, .inl s_kind)), (aspage, .inl (cI, 7, .inl s_page)), (asasked, .inl (cI, 7, .inl s_asked)), (assent, .inl (cI, 7, .inl s_sent)), (ad, .inr (1, [.ref adslip, .ref adleaf, .ref ae, .int d_count, .int d_fittingPages, .int d_leastPage, .int d_greatestPage])), (adslip, .inl (cI, 8, .inl d_slip)), (adleaf, .inl (cI, 8, .inl d_leaf)), (ae, .inr (4, [.ref aekind, .ref aepage, .ref aeasked, .ref aesent, .int e_count, .int e_wetSet])), (aekind, .inl (cI, 7, .inl e_kind)), (aepage, .inl (cI, 7, .inl e_page)), (aeasked, .inl (cI, 7, .inl e_asked)), (aesent, .inl (cI, 7, .inl e_sent))] := hD
  refine lv_iload_n hx hb dX7_book_5 rfl (lv_at hl 1 rfl) ?_
  refine q_rS (rest := []) ⟨hx, hb, hml, hown, hts⟩ (kX7_isSheet l D cI cR p1 _ rfl) (va_cwS 1 hts gX7_book_X7_isSheet rfl rfl rfl (by decide +kernel) ⟨Nat.le_of_ble_eq_true rfl, Nat.le_of_ble_eq_true rfl⟩) (hP.sub [] rfl) hK hN rfl hl.1 rfl (Nat.le_of_ble_eq_true rfl) dX7_book_6 ⟨Nat.le_of_ble_eq_true rfl, Nat.le_of_ble_eq_true rfl⟩ ?_
  refine q_if_ne hx hb hf 14 dX7_book_9 (by decide) (fun hf => ?_) (fun hf => ?_)
  · refine lv_iload_n hx hb dX7_book_14 rfl (lv_at hl 2 rfl) ?_
    refine q_rS (rest := []) ⟨hx, hb, hml, hown, hts⟩ (kX7_isLane l D cI cR p2 _ rfl) (va_cwS 1 hts gX7_book_X7_isLane rfl rfl rfl (by decide +kernel) ⟨Nat.le_of_ble_eq_true rfl, Nat.le_of_ble_eq_true rfl⟩) (hP.sub [] rfl) hK hN rfl hl.1 rfl (Nat.le_of_ble_eq_true rfl) dX7_book_15 ⟨Nat.le_of_ble_eq_true rfl, Nat.le_of_ble_eq_true rfl⟩ ?_
    refine q_if_ne hx hb hf 24 dX7_book_18 (by decide) (fun hf => ?_) (fun hf => ?_)
    · refine lv_aload_n hx hb dX7_book_24 rfl (lv_at hl 0 rfl) ?_
      refine va_get (D := D) (ci := 6) (v := .ref axrows) (C := RX7) (T := TX7) (N := 9) hx hb hts iX7 hown hK hP 0 rfl rfl 0 (by decide) hF13 (fun _ h9 => h9) rfl dX7_book_25 ?_
      refine lv_iload_n hx hb dX7_book_28 rfl (lv_at hl 1 rfl) ?_
      refine q_aald hx hb hK hP 1 1 rfl rfl hf hrow dX7_book_29 (fun hf => ?_)
      refine lv_astore (lv' := [(5, .ref ar), (0, .ref ax), (1, .int p1), (2, .int p2), (3, .int p3), (4, .int p4)]) hx hb dX7_book_30 hl (by decide) rfl (fun ls hl => ?_)
      refine lv_aload hx hb dX7_book_32 (lv_at hl 0 rfl) ?_
      refine lv_iload_n hx hb dX7_book_34 rfl (lv_at hl 3 rfl) ?_
      refine lv_iload_n hx hb dX7_book_35 rfl (lv_at hl 4 rfl) ?_
      refine lv_iload hx hb dX7_book_36 (lv_at hl 5 rfl) ?_
      refine q_rV (rest := []) ⟨hx, hb, hml, hown, hts⟩ (kX2_faultAsLane l D cI cR ar arcells r_cells r_there r_lane r_length p2 p3 p4 _ rfl) (cwV 3 hts gX7_book_X2_faultAsLane rfl rfl rfl (by decide +kernel) ⟨Nat.le_of_ble_eq_true rfl, Nat.le_of_ble_eq_true rfl⟩) (hP.sub [2, 3] rfl) hK hN (va_recv hK hP (ci := 2) (q0 := 2) rfl rfl) rfl hl.1 rfl (Nat.le_of_ble_eq_true rfl) dX7_book_38 ⟨Nat.le_of_ble_eq_true rfl, Nat.le_of_ble_eq_true rfl⟩ ?_
      refine lv_istore (lv' := [(6, .int (pX2_faultAsLane r_there r_lane r_length p2 p3 p4)), (5, .ref ar), (0, .ref ax), (1, .int p1), (2, .int p2), (3, .int p3), (4, .int p4)]) hx hb dX7_book_41 hl (by decide) rfl (fun ls hl => ?_)
      refine lv_iload hx hb dX7_book_43 (lv_at hl 0 rfl) ?_
      refine q_if_eq hx hb hf 55 dX7_book_45 (by decide) (fun hf => ?_) (fun hf => ?_)
      · refine lv_aload hx hb dX7_book_55 (lv_at hl 1 rfl) ?_
        refine lv_iload_n hx hb dX7_book_57 rfl (lv_at hl 5 rfl) ?_
        refine lv_iload hx hb dX7_book_58 (lv_at hl 6 rfl) ?_
        obtain ⟨z1, hz1, hf⟩ := bnd hf
        refine q_rS (rest := []) ⟨hx, hb, hml, hown, hts⟩ (kX5_firstFault l D cI cR ar arcells r_cells r_there r_lane r_length p3 p4 z1 hz1) (va_cwS 3 hts gX7_book_X5_firstFault rfl rfl rfl (by decide +kernel) ⟨Nat.le_of_ble_eq_true rfl, Nat.le_of_ble_eq_true rfl⟩) (hP.sub [2, 3] rfl) hK hN rfl hl.1 rfl (Nat.le_of_ble_eq_true rfl) dX7_book_60 ⟨Nat.le_of_ble_eq_true rfl, Nat.le_of_ble_eq_true rfl⟩ ?_
        refine lv_istore (lv' := [(7, .int z1), (6, .int (pX2_faultAsLane r_there r_lane r_length p2 p3 p4)), (5, .ref ar), (0, .ref ax), (1, .int p1), (2, .int p2), (3, .int p3), (4, .int p4)]) hx hb dX7_book_63 hl (by decide) rfl (fun ls hl => ?_)
        refine lv_iload hx hb dX7_book_65 (lv_at hl 0 rfl) ?_
        refine lv_bipush (v := -9) hx hb dX7_book_67 (by decide) ?_
        refine q_icmp_eq hx hb hf 78 dX7_book_69 (by decide) (fun hf => ?_) (fun hf => ?_)
        · refine lv_aload_n hx hb dX7_book_78 rfl (lv_at hl 3 rfl) ?_
          refine va_get (D := D) (ci := 6) (v := .ref as) (C := RX7) (T := TX7) (N := 9) hx hb hts iX7 hown hK hP 0 rfl rfl 1 (by decide) hF21 (fun _ h9 => h9) rfl dX7_book_79 ?_
          refine lv_aload hx hb dX7_book_82 (lv_at hl 2 rfl) ?_
          refine lv_iload_n hx hb dX7_book_84 rfl (lv_at hl 6 rfl) ?_
          refine lv_iload hx hb dX7_book_85 (lv_at hl 7 rfl) ?_
          obtain ⟨z2, hz2, hf⟩ := bnd hf
          refine q_wVv (wr := [(ax, .inr (6, [.ref axrows, .ref as, .ref ad, .ref ay, .ref af, .ref ao, .int x_questions, .int x_traced, .int ((0 : Int32))])), (axrows, .inl (cR, 4, .inr (.inr (.inr (.inr x_rows))))), (ad, .inr (1, [.ref adslip, .ref adleaf, .ref ae, .int d_count, .int d_fittingPages, .int d_leastPage, .int d_greatestPage])), (adslip, .inl (cI, 8, .inl d_slip)), (adleaf, .inl (cI, 8, .inl d_leaf)), (ae, .inr (4, [.ref aekind, .ref aepage, .ref aeasked, .ref aesent, .int e_count, .int e_wetSet])), (aekind, .inl (cI, 7, .inl e_kind)), (aepage, .inl (cI, 7, .inl e_page)), (aeasked, .inl (cI, 7, .inl e_asked)), (aesent, .inl (cI, 7, .inl e_sent))]) (rest := []) ⟨hx, hb, hml, hown, hts⟩ (kX4_fill l D cI cR as askind aspage asasked assent ar arcells s_kind s_page s_asked s_sent s_count s_wetSet r_cells r_there r_lane r_length p3 p4 z2 hz2) (cwV 3 hts gX7_book_X4_fill rfl rfl rfl (by decide +kernel) ⟨Nat.le_of_ble_eq_true rfl, Nat.le_of_ble_eq_true rfl⟩) hP hD hS hA hK hN [4, 5, 6, 7, 8, 2, 3] [0, 1, 9, 10, 11, 12, 13, 14, 15, 16] rfl rfl (by decide) (by decide) (by decide) (va_recv hK hP (ci := 4) (q0 := 4) rfl rfl) rfl hl.1 rfl (Nat.le_of_ble_eq_true rfl) dX7_book_87 ⟨Nat.le_of_ble_eq_true rfl, Nat.le_of_ble_eq_true rfl⟩ (fun H locs hP hD hS => ?_)
          have hP := hP.sub (ws' := [(ax, .inr (6, [.ref axrows, .ref as, .ref ad, .ref ay, .ref af, .ref ao, .int x_questions, .int x_traced, .int ((0 : Int32))])), (axrows, .inl (cR, 4, .inr (.inr (.inr (.inr x_rows))))), (ar, .inr (2, [.ref arcells, .int r_there, .int r_lane, .int r_length])), (arcells, .inl (cI, 60, .inl r_cells)), (as, .inr (4, [.ref askind, .ref aspage, .ref asasked, .ref assent, .int z2.2.2.2.2.1, .int z2.2.2.2.2.2])), (askind, .inl (cI, 7, .inl z2.1)), (aspage, .inl (cI, 7, .inl z2.2.1)), (asasked, .inl (cI, 7, .inl z2.2.2.1)), (assent, .inl (cI, 7, .inl z2.2.2.2.1)), (ad, .inr (1, [.ref adslip, .ref adleaf, .ref ae, .int d_count, .int d_fittingPages, .int d_leastPage, .int d_greatestPage])), (adslip, .inl (cI, 8, .inl d_slip)), (adleaf, .inl (cI, 8, .inl d_leaf)), (ae, .inr (4, [.ref aekind, .ref aepage, .ref aeasked, .ref aesent, .int e_count, .int e_wetSet])), (aekind, .inl (cI, 7, .inl e_kind)), (aepage, .inl (cI, 7, .inl e_page)), (aeasked, .inl (cI, 7, .inl e_asked)), (aesent, .inl (cI, 7, .inl e_sent))]) [0, 1, 15, 16, 10, 11, 12, 13, 14, 2, 3, 4, 5, 6, 7, 8, 9] rfl
          have hD := hD.sub (ws' := [(ax, .inr (6, [.ref axrows, .ref as, .ref ad, .ref ay, .ref af, .ref ao, .int x_questions, .int x_traced, .int ((0 : Int32))])), (axrows, .inl (cR, 4, .inr (.inr (.inr (.inr x_rows))))), (ar, .inr (2, [.ref arcells, .int r_there, .int r_lane, .int r_length])), (arcells, .inl (cI, 60, .inl r_cells)), (as, .inr (4, [.ref askind, .ref aspage, .ref asasked, .ref assent, .int z2.2.2.2.2.1, .int z2.2.2.2.2.2])), (askind, .inl (cI, 7, .inl z2.1)), (aspage, .inl (cI, 7, .inl z2.2.1)), (asasked, .inl (cI, 7, .inl z2.2.2.1)), (assent, .inl (cI, 7, .inl z2.2.2.2.1)), (ad, .inr (1, [.ref adslip, .ref adleaf, .ref ae, .int d_count, .int d_fittingPages, .int d_leastPage, .int d_greatestPage])), (adslip, .inl (cI, 8, .inl d_slip)), (adleaf, .inl (cI, 8, .inl d_leaf)), (ae, .inr (4, [.ref aekind, .ref aepage, .ref aeasked, .ref aesent, .int e_count, .int e_wetSet])), (aekind, .inl (cI, 7, .inl e_kind)), (aepage, .inl (cI, 7, .inl e_page)), (aeasked, .inl (cI, 7, .inl e_asked)), (aesent, .inl (cI, 7, .inl e_sent))]) [0, 1, 15, 16, 10, 11, 12, 13, 14, 2, 3, 4, 5, 6, 7, 8, 9] (by decide) rfl
          refine lv_aload_n hx hb dX7_book_90 rfl (lv_at hl 3 rfl) ?_
          refine va_get (D := D) (ci := 6) (v := .ref ad) (C := RX7) (T := TX7) (N := 9) hx hb hts iX7 hown hK hP 0 rfl rfl 2 (by decide) hF28 (fun _ h9 => h9) rfl dX7_book_91 ?_
          refine lv_iconst (v := 0) hx hb dX7_book_94 (by decide) ?_
          refine va_putN (D := D) (ci := 1) (v := .int ((0 : Int32))) (ty := .int) (C := RX1) (T := TX1) (N := 7) hx hb hts iX1 tyX1 tyX1_ok nmX1 hown hK hP hD hS 9 rfl rfl 3 (by decide) hG82 (fun _ h9 => h9) rfl (tyX1_ok 3 (by decide)) rfl rfl (Nat.le_of_ble_eq_true rfl) dX7_book_95 (fun H locs hP hD hS => ?_)
          have hP : va_P D vwCl [(ax, .inr (6, [.ref axrows, .ref as, .ref ad, .ref ay, .ref af, .ref ao, .int x_questions, .int x_traced, .int ((0 : Int32))])), (axrows, .inl (cR, 4, .inr (.inr (.inr (.inr x_rows))))), (ar, .inr (2, [.ref arcells, .int r_there, .int r_lane, .int r_length])), (arcells, .inl (cI, 60, .inl r_cells)), (as, .inr (4, [.ref askind, .ref aspage, .ref asasked, .ref assent, .int z2.2.2.2.2.1, .int z2.2.2.2.2.2])), (askind, .inl (cI, 7, .inl z2.1)), (aspage, .inl (cI, 7, .inl z2.2.1)), (asasked, .inl (cI, 7, .inl z2.2.2.1)), (assent, .inl (cI, 7, .inl z2.2.2.2.1)), (ad, .inr (1, [.ref adslip, .ref adleaf, .ref ae, .int ((0 : Int32)), .int d_fittingPages, .int d_leastPage, .int d_greatestPage])), (adslip, .inl (cI, 8, .inl d_slip)), (adleaf, .inl (cI, 8, .inl d_leaf)), (ae, .inr (4, [.ref aekind, .ref aepage, .ref aeasked, .ref aesent, .int e_count, .int e_wetSet])), (aekind, .inl (cI, 7, .inl e_kind)), (aepage, .inl (cI, 7, .inl e_page)), (aeasked, .inl (cI, 7, .inl e_asked)), (aesent, .inl (cI, 7, .inl e_sent))] H := hP
          have hD : va_D A [(ax, .inr (6, [.ref axrows, .ref as, .ref ad, .ref ay, .ref af, .ref ao, .int x_questions, .int x_traced, .int ((0 : Int32))])), (axrows, .inl (cR, 4, .inr (.inr (.inr (.inr x_rows))))), (ar, .inr (2, [.ref arcells, .int r_there, .int r_lane, .int r_length])), (arcells, .inl (cI, 60, .inl r_cells)), (as, .inr (4, [.ref askind, .ref aspage, .ref asasked, .ref assent, .int z2.2.2.2.2.1, .int z2.2.2.2.2.2])), (askind, .inl (cI, 7, .inl z2.1)), (aspage, .inl (cI, 7, .inl z2.2.1)), (asasked, .inl (cI, 7, .inl z2.2.2.1)), (assent, .inl (cI, 7, .inl z2.2.2.2.1)), (ad, .inr (1, [.ref adslip, .ref adleaf, .ref ae, .int ((0 : Int32)), .int d_fittingPages, .int d_leastPage, .int d_greatestPage])), (adslip, .inl (cI, 8, .inl d_slip)), (adleaf, .inl (cI, 8, .inl d_leaf)), (ae, .inr (4, [.ref aekind, .ref aepage, .ref aeasked, .ref aesent, .int e_count, .int e_wetSet])), (aekind, .inl (cI, 7, .inl e_kind)), (aepage, .inl (cI, 7, .inl e_page)), (aeasked, .inl (cI, 7, .inl e_asked)), (aesent, .inl (cI, 7, .inl e_sent))] := hD
          refine lv_aload_n hx hb dX7_book_98 rfl (lv_at hl 3 rfl) ?_
          refine lv_iconst (v := 0) hx hb dX7_book_99 (by decide) ?_
          refine va_put (D := D) (ci := 6) (v := .int ((0 : Int32))) (ty := .int) (C := RX7) (T := TX7) (N := 9) hx hb hts iX7 tyX7 tyX7_ok nmX7 hown hK hP hD hS 0 rfl rfl 6 (by decide) hF85 (fun _ h9 => h9) rfl (tyX7_ok 6 (by decide)) rfl rfl (Nat.le_of_ble_eq_true rfl) dX7_book_100 (fun H locs hP hD hS => ?_)
          have hP : va_P D vwCl [(ax, .inr (6, [.ref axrows, .ref as, .ref ad, .ref ay, .ref af, .ref ao, .int ((0 : Int32)), .int x_traced, .int ((0 : Int32))])), (axrows, .inl (cR, 4, .inr (.inr (.inr (.inr x_rows))))), (ar, .inr (2, [.ref arcells, .int r_there, .int r_lane, .int r_length])), (arcells, .inl (cI, 60, .inl r_cells)), (as, .inr (4, [.ref askind, .ref aspage, .ref asasked, .ref assent, .int z2.2.2.2.2.1, .int z2.2.2.2.2.2])), (askind, .inl (cI, 7, .inl z2.1)), (aspage, .inl (cI, 7, .inl z2.2.1)), (asasked, .inl (cI, 7, .inl z2.2.2.1)), (assent, .inl (cI, 7, .inl z2.2.2.2.1)), (ad, .inr (1, [.ref adslip, .ref adleaf, .ref ae, .int ((0 : Int32)), .int d_fittingPages, .int d_leastPage, .int d_greatestPage])), (adslip, .inl (cI, 8, .inl d_slip)), (adleaf, .inl (cI, 8, .inl d_leaf)), (ae, .inr (4, [.ref aekind, .ref aepage, .ref aeasked, .ref aesent, .int e_count, .int e_wetSet])), (aekind, .inl (cI, 7, .inl e_kind)), (aepage, .inl (cI, 7, .inl e_page)), (aeasked, .inl (cI, 7, .inl e_asked)), (aesent, .inl (cI, 7, .inl e_sent))] H := hP
          have hD : va_D A [(ax, .inr (6, [.ref axrows, .ref as, .ref ad, .ref ay, .ref af, .ref ao, .int ((0 : Int32)), .int x_traced, .int ((0 : Int32))])), (axrows, .inl (cR, 4, .inr (.inr (.inr (.inr x_rows))))), (ar, .inr (2, [.ref arcells, .int r_there, .int r_lane, .int r_length])), (arcells, .inl (cI, 60, .inl r_cells)), (as, .inr (4, [.ref askind, .ref aspage, .ref asasked, .ref assent, .int z2.2.2.2.2.1, .int z2.2.2.2.2.2])), (askind, .inl (cI, 7, .inl z2.1)), (aspage, .inl (cI, 7, .inl z2.2.1)), (asasked, .inl (cI, 7, .inl z2.2.2.1)), (assent, .inl (cI, 7, .inl z2.2.2.2.1)), (ad, .inr (1, [.ref adslip, .ref adleaf, .ref ae, .int ((0 : Int32)), .int d_fittingPages, .int d_leastPage, .int d_greatestPage])), (adslip, .inl (cI, 8, .inl d_slip)), (adleaf, .inl (cI, 8, .inl d_leaf)), (ae, .inr (4, [.ref aekind, .ref aepage, .ref aeasked, .ref aesent, .int e_count, .int e_wetSet])), (aekind, .inl (cI, 7, .inl e_kind)), (aepage, .inl (cI, 7, .inl e_page)), (aeasked, .inl (cI, 7, .inl e_asked)), (aesent, .inl (cI, 7, .inl e_sent))] := hD
          refine lv_aload_n hx hb dX7_book_103 rfl (lv_at hl 3 rfl) ?_
          refine va_get (D := D) (ci := 6) (v := .ref as) (C := RX7) (T := TX7) (N := 9) hx hb hts iX7 hown hK hP 0 rfl rfl 1 (by decide) hF21 (fun _ h9 => h9) rfl dX7_book_104 ?_
          refine va_getN (D := D) (ci := 4) (v := .int z2.2.2.2.2.1) (C := RX4) (T := TX4) (N := 6) hx hb hts iX4 hown hK hP 4 rfl rfl 4 (by decide) hG88 (fun _ h9 => h9) rfl dX7_book_107 ?_
          have hq9 := Option.some.inj hf
          subst hq9
          exact hRet _ _ _ _ _ rfl rfl hP hD hS dX7_book_110
        · refine lv_bipush (v := -100) hx hb dX7_book_72 (by decide) ?_
          refine lv_iload hx hb dX7_book_74 (lv_at hl 0 rfl) ?_
          refine lv_isub hx hb dX7_book_76 ?_
          have hq9 := Option.some.inj hf
          subst hq9
          exact hRet _ _ _ _ _ rfl rfl hP hD hS dX7_book_77
      · refine lv_aload_n hx hb dX7_book_48 rfl (lv_at hl 2 rfl) ?_
        refine lv_iload hx hb dX7_book_49 (lv_at hl 0 rfl) ?_
        obtain ⟨z3, hz3, hf⟩ := bnd hf
        refine q_wVi (wr := [(axrows, .inl (cR, 4, .inr (.inr (.inr (.inr x_rows))))), (ar, .inr (2, [.ref arcells, .int r_there, .int r_lane, .int r_length])), (arcells, .inl (cI, 60, .inl r_cells)), (as, .inr (4, [.ref askind, .ref aspage, .ref asasked, .ref assent, .int s_count, .int s_wetSet])), (askind, .inl (cI, 7, .inl s_kind)), (aspage, .inl (cI, 7, .inl s_page)), (asasked, .inl (cI, 7, .inl s_asked)), (assent, .inl (cI, 7, .inl s_sent)), (ad, .inr (1, [.ref adslip, .ref adleaf, .ref ae, .int d_count, .int d_fittingPages, .int d_leastPage, .int d_greatestPage])), (adslip, .inl (cI, 8, .inl d_slip)), (adleaf, .inl (cI, 8, .inl d_leaf)), (ae, .inr (4, [.ref aekind, .ref aepage, .ref aeasked, .ref aesent, .int e_count, .int e_wetSet])), (aekind, .inl (cI, 7, .inl e_kind)), (aepage, .inl (cI, 7, .inl e_page)), (aeasked, .inl (cI, 7, .inl e_asked)), (aesent, .inl (cI, 7, .inl e_sent))]) (rest := []) ⟨hx, hb, hml, hown, hts⟩ (kX7_faulted l D cI cR ax axrows as ad ay af ao x_questions x_traced ((0 : Int32)) (pX2_faultAsLane r_there r_lane r_length p2 p3 p4) z3 hz3) (cwV 1 hts gX7_book_X7_faulted rfl rfl rfl (by decide +kernel) ⟨Nat.le_of_ble_eq_true rfl, Nat.le_of_ble_eq_true rfl⟩) hP hD hS hA hK hN [0] [1, 2, 3, 4, 5, 6, 7, 8, 9, 10, 11, 12, 13, 14, 15, 16] rfl rfl (by decide) (by decide) (by decide) (va_recv hK hP (ci := 6) (q0 := 0) rfl rfl) rfl hl.1 rfl (Nat.le_of_ble_eq_true rfl) dX7_book_51 ⟨Nat.le_of_ble_eq_true rfl, Nat.le_of_ble_eq_true rfl⟩ (fun H locs hP hD hS => ?_)
        have hP := hP.sub (ws' := [(ax, .inr (6, [.ref axrows, .ref as, .ref ad, .ref ay, .ref af, .ref ao, .int x_questions, .int x_traced, .int z3.2])), (axrows, .inl (cR, 4, .inr (.inr (.inr (.inr x_rows))))), (ar, .inr (2, [.ref arcells, .int r_there, .int r_lane, .int r_length])), (arcells, .inl (cI, 60, .inl r_cells)), (as, .inr (4, [.ref askind, .ref aspage, .ref asasked, .ref assent, .int s_count, .int s_wetSet])), (askind, .inl (cI, 7, .inl s_kind)), (aspage, .inl (cI, 7, .inl s_page)), (asasked, .inl (cI, 7, .inl s_asked)), (assent, .inl (cI, 7, .inl s_sent)), (ad, .inr (1, [.ref adslip, .ref adleaf, .ref ae, .int d_count, .int d_fittingPages, .int d_leastPage, .int d_greatestPage])), (adslip, .inl (cI, 8, .inl d_slip)), (adleaf, .inl (cI, 8, .inl d_leaf)), (ae, .inr (4, [.ref aekind, .ref aepage, .ref aeasked, .ref aesent, .int e_count, .int e_wetSet])), (aekind, .inl (cI, 7, .inl e_kind)), (aepage, .inl (cI, 7, .inl e_page)), (aeasked, .inl (cI, 7, .inl e_asked)), (aesent, .inl (cI, 7, .inl e_sent))]) [16, 0, 1, 2, 3, 4, 5, 6, 7, 8, 9, 10, 11, 12, 13, 14, 15] rfl
        have hD := hD.sub (ws' := [(ax, .inr (6, [.ref axrows, .ref as, .ref ad, .ref ay, .ref af, .ref ao, .int x_questions, .int x_traced, .int z3.2])), (axrows, .inl (cR, 4, .inr (.inr (.inr (.inr x_rows))))), (ar, .inr (2, [.ref arcells, .int r_there, .int r_lane, .int r_length])), (arcells, .inl (cI, 60, .inl r_cells)), (as, .inr (4, [.ref askind, .ref aspage, .ref asasked, .ref assent, .int s_count, .int s_wetSet])), (askind, .inl (cI, 7, .inl s_kind)), (aspage, .inl (cI, 7, .inl s_page)), (asasked, .inl (cI, 7, .inl s_asked)), (assent, .inl (cI, 7, .inl s_sent)), (ad, .inr (1, [.ref adslip, .ref adleaf, .ref ae, .int d_count, .int d_fittingPages, .int d_leastPage, .int d_greatestPage])), (adslip, .inl (cI, 8, .inl d_slip)), (adleaf, .inl (cI, 8, .inl d_leaf)), (ae, .inr (4, [.ref aekind, .ref aepage, .ref aeasked, .ref aesent, .int e_count, .int e_wetSet])), (aekind, .inl (cI, 7, .inl e_kind)), (aepage, .inl (cI, 7, .inl e_page)), (aeasked, .inl (cI, 7, .inl e_asked)), (aesent, .inl (cI, 7, .inl e_sent))]) [16, 0, 1, 2, 3, 4, 5, 6, 7, 8, 9, 10, 11, 12, 13, 14, 15] (by decide) rfl
        have hq9 := Option.some.inj hf
        subst hq9
        exact hRet _ _ _ _ _ rfl rfl hP hD hS dX7_book_54
    · refine lv_bipush (v := -2) hx hb dX7_book_21 (by decide) ?_
      have hq9 := Option.some.inj hf
      subst hq9
      exact hRet _ _ _ _ _ rfl rfl hP hD hS dX7_book_23
  · refine lv_iconst (v := -1) hx hb dX7_book_12 (by decide) ?_
    have hq9 := Option.some.inj hf
    subst hq9
    exact hRet _ _ _ _ _ rfl rfl hP hD hS dX7_book_13
set_option maxHeartbeats 4000000 in
set_option maxRecDepth 100000 in
theorem kX7_cell (l : Launch) (D : va_G) (cI cR : ClassId) (ax axrows as ad ay af ao ar arcells : Nat) (x_rows : Nat → Option Nat) (x_questions : Int32) (x_traced : Int32) (x_latestFault : Int32) (r_cells : Nat → Int32) (r_there : Int32) (r_lane : Int32) (r_length : Int32) (p1 : Int32) (p2 : Int32) (p3 : Int32) (hrow : vp_in p1 4 → x_rows p1.toNatClampNeg = some ar) (q : Int64 × Int32) (hf : pX7_cell x_latestFault r_cells r_there r_lane r_length p1 p2 p3 = some q) : CWl l yX7_cell wsX7_cell ({ frames := 2, cells := 0, slots := 0, locals := 45 } : Room) D cI cR [.ref ax, .int p1, .int p2, .int p3] [(ax, .inr (6, [.ref axrows, .ref as, .ref ad, .ref ay, .ref af, .ref ao, .int x_questions, .int x_traced, .int x_latestFault])), (axrows, .inl (cR, 4, .inr (.inr (.inr (.inr x_rows))))), (ar, .inr (2, [.ref arcells, .int r_there, .int r_lane, .int r_length])), (arcells, .inl (cI, 60, .inl r_cells))] [(ax, .inr (6, [.ref axrows, .ref as, .ref ad, .ref ay, .ref af, .ref ao, .int x_questions, .int x_traced, .int q.2])), (axrows, .inl (cR, 4, .inr (.inr (.inr (.inr x_rows))))), (ar, .inr (2, [.ref arcells, .int r_there, .int r_lane, .int r_length])), (arcells, .inl (cI, 60, .inl r_cells))] q.1 := by
  refine CWl.intro (cc := cX7_cell) (maxL := 6) (by decide) rfl (Nat.le_of_ble_eq_true rfl) ?_
  intro p e s m args below meth c hx hb hml hts hown hP hK hN A hA hD hS QQ hRet ls hl
  have hown : s.vm.findClass RX7 = some m.cls := hown
  have hl : lv_has ls 6 [(0, .ref ax), (1, .int p1), (2, .int p2), (3, .int p3)] := hl
  have iX2 : ∀ w ∈ u_ws RX2 TX2 4, w ∈ wsX7_cell := by decide +kernel
  have iX7 : ∀ w ∈ u_ws RX7 TX7 9, w ∈ wsX7_cell := by decide +kernel
  have hC208 := hts (.constantLong RX7 208 (-9223372036854775808)) (by decide +kernel)
  have hF13 := hts (.fieldLink RX7 13 "WorldIndex" "rows" "[LWorldIndex$Row;") (by decide +kernel)
  have hF53 := hts (.fieldLink RX7 53 "WorldIndex" "latestFault" "I") (by decide +kernel)
  have hG143 := NN.f (args := args) hN "WorldIndex" 143 "WorldIndex$Row" "cells" "[I" "WorldIndex" (by decide +kernel)
  unfold pX7_cell at hf
  refine lv_aload_n hx hb dX7_cell_0 rfl (lv_at hl 0 rfl) ?_
  refine lv_iconst (v := 0) hx hb dX7_cell_1 (by decide) ?_
  refine va_put (D := D) (ci := 6) (v := .int ((0 : Int32))) (ty := .int) (C := RX7) (T := TX7) (N := 9) hx hb hts iX7 tyX7 tyX7_ok nmX7 hown hK hP hD hS 0 rfl rfl 8 (by decide) hF53 (fun _ h9 => h9) rfl (tyX7_ok 8 (by decide)) rfl rfl (Nat.le_of_ble_eq_true rfl) dX7_cell_2 (fun H locs hP hD hS => ?_)
  have hP : va_P D vwCl [(ax, .inr (6, [.ref axrows, .ref as, .ref ad, .ref ay, .ref af, .ref ao, .int x_questions, .int x_traced, .int ((0 : Int32))])), (axrows, .inl (cR, 4, .inr (.inr (.inr (.inr x_rows))))), (ar, .inr (2, [.ref arcells, .int r_there, .int r_lane, .int r_length])), (arcells, .inl (cI, 60, .inl r_cells))] H := hP
  have hD : va_D A [(ax, .inr (6, [.ref axrows, .ref as, .ref ad, .ref ay, .ref af, .ref ao, .int x_questions, .int x_traced, .int ((0 : Int32))])), (axrows, .inl (cR, 4, .inr (.inr (.inr (.inr x_rows))))), (ar, .inr (2, [.ref arcells, .int r_there, .int r_lane, .int r_length])), (arcells, .inl (cI, 60, .inl r_cells))] := hD
  refine lv_iload_n hx hb dX7_cell_5 rfl (lv_at hl 1 rfl) ?_
  refine q_rS (rest := []) ⟨hx, hb, hml, hown, hts⟩ (kX7_isSheet l D cI cR p1 _ rfl) (va_cwS 1 hts gX7_cell_X7_isSheet rfl rfl rfl (by decide +kernel) ⟨Nat.le_of_ble_eq_true rfl, Nat.le_of_ble_eq_true rfl⟩) (hP.sub [] rfl) hK hN rfl hl.1 rfl (Nat.le_of_ble_eq_true rfl) dX7_cell_6 ⟨Nat.le_of_ble_eq_true rfl, Nat.le_of_ble_eq_true rfl⟩ ?_
  refine q_if_eq hx hb hf 19 dX7_cell_9 (by decide) (fun hf => ?_) (fun hf => ?_)
  · refine q_ldc2 (v := -9223372036854775808) hx hb hown hC208 dX7_cell_19 ?_
    have hq9 := Option.some.inj hf
    subst hq9
    exact hRet _ _ _ _ _ rfl hP hD hS dX7_cell_22
  · refine lv_iload_n hx hb dX7_cell_12 rfl (lv_at hl 3 rfl) ?_
    refine q_rS (rest := []) ⟨hx, hb, hml, hown, hts⟩ (kX7_isLane l D cI cR p3 _ rfl) (va_cwS 1 hts gX7_cell_X7_isLane rfl rfl rfl (by decide +kernel) ⟨Nat.le_of_ble_eq_true rfl, Nat.le_of_ble_eq_true rfl⟩) (hP.sub [] rfl) hK hN rfl hl.1 rfl (Nat.le_of_ble_eq_true rfl) dX7_cell_13 ⟨Nat.le_of_ble_eq_true rfl, Nat.le_of_ble_eq_true rfl⟩ ?_
    refine q_if_ne hx hb hf 23 dX7_cell_16 (by decide) (fun hf => ?_) (fun hf => ?_)
    · refine lv_aload_n hx hb dX7_cell_23 rfl (lv_at hl 0 rfl) ?_
      refine va_get (D := D) (ci := 6) (v := .ref axrows) (C := RX7) (T := TX7) (N := 9) hx hb hts iX7 hown hK hP 0 rfl rfl 0 (by decide) hF13 (fun _ h9 => h9) rfl dX7_cell_24 ?_
      refine lv_iload_n hx hb dX7_cell_27 rfl (lv_at hl 1 rfl) ?_
      refine q_aald hx hb hK hP 1 1 rfl rfl hf hrow dX7_cell_28 (fun hf => ?_)
      refine lv_astore (lv' := [(4, .ref ar), (0, .ref ax), (1, .int p1), (2, .int p2), (3, .int p3)]) hx hb dX7_cell_29 hl (by decide) rfl (fun ls hl => ?_)
      refine lv_aload hx hb dX7_cell_31 (lv_at hl 0 rfl) ?_
      refine lv_iload_n hx hb dX7_cell_33 rfl (lv_at hl 4 rfl) ?_
      refine lv_iload_n hx hb dX7_cell_34 rfl (lv_at hl 3 rfl) ?_
      refine lv_iconst (v := 1) hx hb dX7_cell_35 (by decide) ?_
      refine q_rV (rest := []) ⟨hx, hb, hml, hown, hts⟩ (kX2_faultAsLane l D cI cR ar arcells r_cells r_there r_lane r_length p3 p2 ((1 : Int32)) _ rfl) (cwV 3 hts gX7_cell_X2_faultAsLane rfl rfl rfl (by decide +kernel) ⟨Nat.le_of_ble_eq_true rfl, Nat.le_of_ble_eq_true rfl⟩) (hP.sub [2, 3] rfl) hK hN (va_recv hK hP (ci := 2) (q0 := 2) rfl rfl) rfl hl.1 rfl (Nat.le_of_ble_eq_true rfl) dX7_cell_36 ⟨Nat.le_of_ble_eq_true rfl, Nat.le_of_ble_eq_true rfl⟩ ?_
      refine lv_istore (lv' := [(5, .int (pX2_faultAsLane r_there r_lane r_length p3 p2 ((1 : Int32)))), (4, .ref ar), (0, .ref ax), (1, .int p1), (2, .int p2), (3, .int p3)]) hx hb dX7_cell_39 hl (by decide) rfl (fun ls hl => ?_)
      refine lv_iload hx hb dX7_cell_41 (lv_at hl 0 rfl) ?_
      refine q_if_eq hx hb hf 56 dX7_cell_43 (by decide) (fun hf => ?_) (fun hf => ?_)
      · refine lv_aload hx hb dX7_cell_56 (lv_at hl 1 rfl) ?_
        refine va_getN (D := D) (ci := 2) (v := .ref arcells) (C := RX2) (T := TX2) (N := 4) hx hb hts iX2 hown hK hP 2 rfl rfl 0 (by decide) hG143 (fun _ h9 => h9) rfl dX7_cell_58 ?_
        refine lv_iload_n hx hb dX7_cell_61 rfl (lv_at hl 4 rfl) ?_
        refine q_iald hx hb hK hP 3 0 rfl rfl hf dX7_cell_62 (fun x1 hf => ?_)
        refine lv_i2l hx hb dX7_cell_63 rfl ?_
        have hq9 := Option.some.inj hf
        subst hq9
        exact hRet _ _ _ _ _ rfl hP hD hS dX7_cell_64
      · refine lv_aload_n hx hb dX7_cell_46 rfl (lv_at hl 2 rfl) ?_
        refine lv_iload hx hb dX7_cell_47 (lv_at hl 0 rfl) ?_
        refine va_put (D := D) (ci := 6) (v := .int (pX2_faultAsLane r_there r_lane r_length p3 p2 ((1 : Int32)))) (ty := .int) (C := RX7) (T := TX7) (N := 9) hx hb hts iX7 tyX7 tyX7_ok nmX7 hown hK hP hD hS 0 rfl rfl 8 (by decide) hF53 (fun _ h9 => h9) rfl (tyX7_ok 8 (by decide)) rfl rfl (Nat.le_of_ble_eq_true rfl) dX7_cell_49 (fun H locs hP hD hS => ?_)
        have hP : va_P D vwCl [(ax, .inr (6, [.ref axrows, .ref as, .ref ad, .ref ay, .ref af, .ref ao, .int x_questions, .int x_traced, .int (pX2_faultAsLane r_there r_lane r_length p3 p2 ((1 : Int32)))])), (axrows, .inl (cR, 4, .inr (.inr (.inr (.inr x_rows))))), (ar, .inr (2, [.ref arcells, .int r_there, .int r_lane, .int r_length])), (arcells, .inl (cI, 60, .inl r_cells))] H := hP
        have hD : va_D A [(ax, .inr (6, [.ref axrows, .ref as, .ref ad, .ref ay, .ref af, .ref ao, .int x_questions, .int x_traced, .int (pX2_faultAsLane r_there r_lane r_length p3 p2 ((1 : Int32)))])), (axrows, .inl (cR, 4, .inr (.inr (.inr (.inr x_rows))))), (ar, .inr (2, [.ref arcells, .int r_there, .int r_lane, .int r_length])), (arcells, .inl (cI, 60, .inl r_cells))] := hD
        refine q_ldc2 (v := -9223372036854775808) hx hb hown hC208 dX7_cell_52 ?_
        have hq9 := Option.some.inj hf
        subst hq9
        exact hRet _ _ _ _ _ rfl hP hD hS dX7_cell_55
    · refine q_ldc2 (v := -9223372036854775808) hx hb hown hC208 dX7_cell_19 ?_
      have hq9 := Option.some.inj hf
      subst hq9
      exact hRet _ _ _ _ _ rfl hP hD hS dX7_cell_22
set_option maxHeartbeats 4000000 in
set_option maxRecDepth 100000 in
theorem kX7_cutTo (l : Launch) (D : va_G) (cI cR : ClassId) (p0 : Int32) (p1 : Int32) (q : Int32) (hf : pX7_cutTo p0 p1 = q) : CR l yX7_cutTo wsX7_cutTo ({ frames := 0, cells := 0, slots := 0, locals := 0 } : Room) D cI cR [.int p0, .int p1] [] (.int q) := by
  refine CRi.intro (cc := cX7_cutTo) (maxL := 2) (ty := .int) (by decide) rfl (Nat.le_of_ble_eq_true rfl) ?_
  intro p e s m args below meth c hx hb hml hts hown hP hK hN QQ hRet ls hl
  have hown : s.vm.findClass RX7 = some m.cls := hown
  have hl : lv_has ls 2 [(0, .int p0), (1, .int p1)] := hl
  unfold pX7_cutTo at hf
  refine lv_iload_n hx hb dX7_cutTo_0 rfl (lv_at hl 0 rfl) ?_
  rcases q_sw hf with ⟨hs1_0, hf⟩ | ⟨hs1_0, hf⟩
  · refine lv_lookup (off := 27) (tgt := 28) hx hb dX7_cutTo_1 (by decide) (by rw [hs1_0]; rfl) (by decide) ?_
    refine lv_iload_n hx hb dX7_cutTo_28 rfl (lv_at hl 1 rfl) ?_
    refine lv_i2b hx hb dX7_cutTo_29 rfl ?_
    exact hRet _ _ _ rfl hf dX7_cutTo_30
  · skip
    rcases q_sw hf with ⟨hs1_1, hf⟩ | ⟨hs1_1, hf⟩
    · refine lv_lookup (off := 30) (tgt := 31) hx hb dX7_cutTo_1 (by decide) (by rw [hs1_1]; rfl) (by decide) ?_
      refine lv_iload_n hx hb dX7_cutTo_31 rfl (lv_at hl 1 rfl) ?_
      refine lv_i2s hx hb dX7_cutTo_32 rfl ?_
      exact hRet _ _ _ rfl hf dX7_cutTo_33
    · skip
      have ehs1_0 := nt_i hs1_0 (show ((0 : Int32)).toInt = (0 : Int) by decide)
      have ehs1_1 := nt_i hs1_1 (show ((1 : Int32)).toInt = (1 : Int) by decide)
      refine lv_lookup (off := 33) (tgt := 34) hx hb dX7_cutTo_1 (by decide) (by show Op.lookupswitch.offset [(0, 27), (1, 30)] 33 _ = _; rw [Op.lookupswitch.offset_cons, if_neg (fun z => ehs1_0 z.symm), Op.lookupswitch.offset_cons, if_neg (fun z => ehs1_1 z.symm)]; rfl) (by decide) ?_
      refine lv_iload_n hx hb dX7_cutTo_34 rfl (lv_at hl 1 rfl) ?_
      exact hRet _ _ _ rfl hf dX7_cutTo_35
set_option maxHeartbeats 4000000 in
set_option maxRecDepth 100000 in
theorem kX7_cuts (l : Launch) (D : va_G) (cI cR : ClassId) (ax axrows as ad ay af ao askind aspage asasked assent : Nat) (x_questions : Int32) (x_traced : Int32) (x_latestFault : Int32) (s_kind : Nat → Int32) (s_page : Nat → Int32) (s_asked : Nat → Int32) (s_sent : Nat → Int32) (s_count : Int32) (s_wetSet : Int32) (q : Int32) (hf : pX7_cuts s_sent s_count = some q) : CR l yX7_cuts wsX7_cuts ({ frames := 3, cells := 0, slots := 0, locals := 67 } : Room) D cI cR [.ref ax] [(ax, .inr (6, [.ref axrows, .ref as, .ref ad, .ref ay, .ref af, .ref ao, .int x_questions, .int x_traced, .int x_latestFault])), (as, .inr (4, [.ref askind, .ref aspage, .ref asasked, .ref assent, .int s_count, .int s_wetSet])), (askind, .inl (cI, 7, .inl s_kind)), (aspage, .inl (cI, 7, .inl s_page)), (asasked, .inl (cI, 7, .inl s_asked)), (assent, .inl (cI, 7, .inl s_sent))] (.int q) := by
  refine CRi.intro (cc := cX7_cuts) (maxL := 1) (ty := .int) (by decide) rfl (Nat.le_of_ble_eq_true rfl) ?_
  intro p e s m args below meth c hx hb hml hts hown hP hK hN QQ hRet ls hl
  have hown : s.vm.findClass RX7 = some m.cls := hown
  have hl : lv_has ls 1 [(0, .ref ax)] := hl
  have iX4 : ∀ w ∈ u_ws RX4 TX4 6, w ∈ wsX7_cuts := by decide +kernel
  have iX7 : ∀ w ∈ u_ws RX7 TX7 9, w ∈ wsX7_cuts := by decide +kernel
  have hF21 := hts (.fieldLink RX7 21 "WorldIndex" "slips" "LWorldIndex$Slips;") (by decide +kernel)
  have hG88 := NN.f (args := args) hN "WorldIndex" 88 "WorldIndex$Slips" "count" "I" "WorldIndex" (by decide +kernel)
  unfold pX7_cuts at hf
  refine lv_aload_n hx hb dX7_cuts_0 rfl (lv_at hl 0 rfl) ?_
  refine va_get (D := D) (ci := 6) (v := .ref as) (C := RX7) (T := TX7) (N := 9) hx hb hts iX7 hown hK hP 0 rfl rfl 1 (by decide) hF21 (fun _ h9 => h9) rfl dX7_cuts_1 ?_
  refine va_getN (D := D) (ci := 4) (v := .int s_count) (C := RX4) (T := TX4) (N := 6) hx hb hts iX4 hown hK hP 1 rfl rfl 4 (by decide) hG88 (fun _ h9 => h9) rfl dX7_cuts_4 ?_
  refine q_if_ne hx hb hf 13 dX7_cuts_7 (by decide) (fun hf => ?_) (fun hf => ?_)
  · refine lv_aload_n hx hb dX7_cuts_13 rfl (lv_at hl 0 rfl) ?_
    refine va_get (D := D) (ci := 6) (v := .ref as) (C := RX7) (T := TX7) (N := 9) hx hb hts iX7 hown hK hP 0 rfl rfl 1 (by decide) hF21 (fun _ h9 => h9) rfl dX7_cuts_14 ?_
    obtain ⟨z1, hz1, hf⟩ := bnd hf
    refine q_rV (rest := []) ⟨hx, hb, hml, hown, hts⟩ (kX4_leastOfRings l D cI cR as askind aspage asasked assent s_kind s_page s_asked s_sent s_count s_wetSet z1 hz1) (cwV 0 hts gX7_cuts_X4_leastOfRings rfl rfl rfl (by decide +kernel) ⟨Nat.le_of_ble_eq_true rfl, Nat.le_of_ble_eq_true rfl⟩) (hP.sub [1, 2, 3, 4, 5] rfl) hK hN (va_recv hK hP (ci := 4) (q0 := 1) rfl rfl) rfl hl.1 rfl (Nat.le_of_ble_eq_true rfl) dX7_cuts_17 ⟨Nat.le_of_ble_eq_true rfl, Nat.le_of_ble_eq_true rfl⟩ ?_
    exact hRet _ _ _ rfl (Option.some.inj hf) dX7_cuts_20
  · refine lv_bipush (v := -3) hx hb dX7_cuts_10 (by decide) ?_
    exact hRet _ _ _ rfl (Option.some.inj hf) dX7_cuts_12
set_option maxHeartbeats 4000000 in
set_option maxRecDepth 100000 in
theorem kX7_dry (l : Launch) (D : va_G) (cI cR : ClassId) (ax axrows as ad ay af ao askind aspage asasked assent : Nat) (x_questions : Int32) (x_traced : Int32) (x_latestFault : Int32) (s_kind : Nat → Int32) (s_page : Nat → Int32) (s_asked : Nat → Int32) (s_sent : Nat → Int32) (s_count : Int32) (s_wetSet : Int32) (p1 : Int32) (q : Int32 × Int32) (hf : pX7_dry s_count s_wetSet p1 = some q) : CWi l yX7_dry wsX7_dry ({ frames := 2, cells := 0, slots := 0, locals := 42 } : Room) D cI cR [.ref ax, .int p1] [(ax, .inr (6, [.ref axrows, .ref as, .ref ad, .ref ay, .ref af, .ref ao, .int x_questions, .int x_traced, .int x_latestFault])), (as, .inr (4, [.ref askind, .ref aspage, .ref asasked, .ref assent, .int s_count, .int s_wetSet])), (askind, .inl (cI, 7, .inl s_kind)), (aspage, .inl (cI, 7, .inl s_page)), (asasked, .inl (cI, 7, .inl s_asked)), (assent, .inl (cI, 7, .inl s_sent))] [(ax, .inr (6, [.ref axrows, .ref as, .ref ad, .ref ay, .ref af, .ref ao, .int x_questions, .int x_traced, .int x_latestFault])), (as, .inr (4, [.ref askind, .ref aspage, .ref asasked, .ref assent, .int s_count, .int q.2])), (askind, .inl (cI, 7, .inl s_kind)), (aspage, .inl (cI, 7, .inl s_page)), (asasked, .inl (cI, 7, .inl s_asked)), (assent, .inl (cI, 7, .inl s_sent))] q.1 := by
  refine CWi.intro (cc := cX7_dry) (maxL := 2) (ty := .int) (by decide) rfl (Nat.le_of_ble_eq_true rfl) ?_
  intro p e s m args below meth c hx hb hml hts hown hP hK hN A hA hD hS QQ hRet ls hl
  have hown : s.vm.findClass RX7 = some m.cls := hown
  have hl : lv_has ls 2 [(0, .ref ax), (1, .int p1)] := hl
  have iX7 : ∀ w ∈ u_ws RX7 TX7 9, w ∈ wsX7_dry := by decide +kernel
  have hF21 := hts (.fieldLink RX7 21 "WorldIndex" "slips" "LWorldIndex$Slips;") (by decide +kernel)
  unfold pX7_dry at hf
  refine lv_aload_n hx hb dX7_dry_0 rfl (lv_at hl 0 rfl) ?_
  refine va_get (D := D) (ci := 6) (v := .ref as) (C := RX7) (T := TX7) (N := 9) hx hb hts iX7 hown hK hP 0 rfl rfl 1 (by decide) hF21 (fun _ h9 => h9) rfl dX7_dry_1 ?_
  refine lv_iload_n hx hb dX7_dry_4 rfl (lv_at hl 1 rfl) ?_
  refine q_rV (rest := []) ⟨hx, hb, hml, hown, hts⟩ (kX4_has l D cI cR as askind aspage asasked assent s_kind s_page s_asked s_sent s_count s_wetSet p1 _ rfl) (cwV 1 hts gX7_dry_X4_has rfl rfl rfl (by decide +kernel) ⟨Nat.le_of_ble_eq_true rfl, Nat.le_of_ble_eq_true rfl⟩) (hP.sub [1, 2, 3, 4, 5] rfl) hK hN (va_recv hK hP (ci := 4) (q0 := 1) rfl rfl) rfl hl.1 rfl (Nat.le_of_ble_eq_true rfl) dX7_dry_5 ⟨Nat.le_of_ble_eq_true rfl, Nat.le_of_ble_eq_true rfl⟩ ?_
  refine q_if_ne hx hb hf 13 dX7_dry_8 (by decide) (fun hf => ?_) (fun hf => ?_)
  · refine lv_aload_n hx hb dX7_dry_13 rfl (lv_at hl 0 rfl) ?_
    refine va_get (D := D) (ci := 6) (v := .ref as) (C := RX7) (T := TX7) (N := 9) hx hb hts iX7 hown hK hP 0 rfl rfl 1 (by decide) hF21 (fun _ h9 => h9) rfl dX7_dry_14 ?_
    refine lv_iload_n hx hb dX7_dry_17 rfl (lv_at hl 1 rfl) ?_
    obtain ⟨z1, hz1, hf⟩ := bnd hf
    refine q_wVi (wr := [(ax, .inr (6, [.ref axrows, .ref as, .ref ad, .ref ay, .ref af, .ref ao, .int x_questions, .int x_traced, .int x_latestFault]))]) (rest := []) ⟨hx, hb, hml, hown, hts⟩ (kX4_air l D cI cR as askind aspage asasked assent s_kind s_page s_asked s_sent s_count s_wetSet p1 z1 hz1) (cwV 1 hts gX7_dry_X4_air rfl rfl rfl (by decide +kernel) ⟨Nat.le_of_ble_eq_true rfl, Nat.le_of_ble_eq_true rfl⟩) hP hD hS hA hK hN [1, 2, 3, 4, 5] [0] rfl rfl (by decide) (by decide) (by decide) (va_recv hK hP (ci := 4) (q0 := 1) rfl rfl) rfl hl.1 rfl (Nat.le_of_ble_eq_true rfl) dX7_dry_18 ⟨Nat.le_of_ble_eq_true rfl, Nat.le_of_ble_eq_true rfl⟩ (fun H locs hP hD hS => ?_)
    have hP := hP.sub (ws' := [(ax, .inr (6, [.ref axrows, .ref as, .ref ad, .ref ay, .ref af, .ref ao, .int x_questions, .int x_traced, .int x_latestFault])), (as, .inr (4, [.ref askind, .ref aspage, .ref asasked, .ref assent, .int s_count, .int z1.2])), (askind, .inl (cI, 7, .inl s_kind)), (aspage, .inl (cI, 7, .inl s_page)), (asasked, .inl (cI, 7, .inl s_asked)), (assent, .inl (cI, 7, .inl s_sent))]) [0, 1, 2, 3, 4, 5] rfl
    have hD := hD.sub (ws' := [(ax, .inr (6, [.ref axrows, .ref as, .ref ad, .ref ay, .ref af, .ref ao, .int x_questions, .int x_traced, .int x_latestFault])), (as, .inr (4, [.ref askind, .ref aspage, .ref asasked, .ref assent, .int s_count, .int z1.2])), (askind, .inl (cI, 7, .inl s_kind)), (aspage, .inl (cI, 7, .inl s_page)), (asasked, .inl (cI, 7, .inl s_asked)), (assent, .inl (cI, 7, .inl s_sent))]) [0, 1, 2, 3, 4, 5] (by decide) rfl
    refine q_if_ne hx hb hf 27 dX7_dry_21 (by decide) (fun hf => ?_) (fun hf => ?_)
    · refine lv_aload_n hx hb dX7_dry_27 rfl (lv_at hl 0 rfl) ?_
      refine va_get (D := D) (ci := 6) (v := .ref as) (C := RX7) (T := TX7) (N := 9) hx hb hts iX7 hown hK hP 0 rfl rfl 1 (by decide) hF21 (fun _ h9 => h9) rfl dX7_dry_28 ?_
      refine q_rV (rest := []) ⟨hx, hb, hml, hown, hts⟩ (kX4_howManyWet l D cI cR as askind aspage asasked assent s_kind s_page s_asked s_sent s_count z1.2 _ rfl) (cwV 0 hts gX7_dry_X4_howManyWet rfl rfl rfl (by decide +kernel) ⟨Nat.le_of_ble_eq_true rfl, Nat.le_of_ble_eq_true rfl⟩) (hP.sub [1, 2, 3, 4, 5] rfl) hK hN (va_recv hK hP (ci := 4) (q0 := 1) rfl rfl) rfl hl.1 rfl (Nat.le_of_ble_eq_true rfl) dX7_dry_31 ⟨Nat.le_of_ble_eq_true rfl, Nat.le_of_ble_eq_true rfl⟩ ?_
      have hq9 := Option.some.inj hf
      subst hq9
      exact hRet _ _ _ _ _ rfl rfl hP hD hS dX7_dry_34
    · refine lv_bipush (v := -3) hx hb dX7_dry_24 (by decide) ?_
      have hq9 := Option.some.inj hf
      subst hq9
      exact hRet _ _ _ _ _ rfl rfl hP hD hS dX7_dry_26
  · refine lv_iconst (v := -1) hx hb dX7_dry_11 (by decide) ?_
    have hq9 := Option.some.inj hf
    subst hq9
    exact hRet _ _ _ _ _ rfl rfl hP hD hS dX7_dry_12
set_option maxHeartbeats 4000000 in
set_option maxRecDepth 100000 in
theorem kX7_fault (l : Launch) (D : va_G) (cI cR : ClassId) (ax axrows as ad ay af ao : Nat) (x_questions : Int32) (x_traced : Int32) (x_latestFault : Int32) (q : Int32) (hf : pX7_fault x_latestFault = q) : CR l yX7_fault wsX7_fault ({ frames := 0, cells := 0, slots := 0, locals := 0 } : Room) D cI cR [.ref ax] [(ax, .inr (6, [.ref axrows, .ref as, .ref ad, .ref ay, .ref af, .ref ao, .int x_questions, .int x_traced, .int x_latestFault]))] (.int q) := by
  refine CRi.intro (cc := cX7_fault) (maxL := 1) (ty := .int) (by decide) rfl (Nat.le_of_ble_eq_true rfl) ?_
  intro p e s m args below meth c hx hb hml hts hown hP hK hN QQ hRet ls hl
  have hown : s.vm.findClass RX7 = some m.cls := hown
  have hl : lv_has ls 1 [(0, .ref ax)] := hl
  have iX7 : ∀ w ∈ u_ws RX7 TX7 9, w ∈ wsX7_fault := by decide +kernel
  have hF53 := hts (.fieldLink RX7 53 "WorldIndex" "latestFault" "I") (by decide +kernel)
  unfold pX7_fault at hf
  refine lv_aload_n hx hb dX7_fault_0 rfl (lv_at hl 0 rfl) ?_
  refine va_get (D := D) (ci := 6) (v := .int x_latestFault) (C := RX7) (T := TX7) (N := 9) hx hb hts iX7 hown hK hP 0 rfl rfl 8 (by decide) hF53 (fun _ h9 => h9) rfl dX7_fault_1 ?_
  exact hRet _ _ _ rfl hf dX7_fault_4
set_option maxHeartbeats 4000000 in
set_option maxRecDepth 100000 in
theorem kX7_greatestCommon (l : Launch) (D : va_G) (cI cR : ClassId) (p0 : Int32) (p1 : Int32) (q : Int32) (hf : pX7_greatestCommon p0 p1 = some q) : CR l yX7_greatestCommon wsX7_greatestCommon ({ frames := 0, cells := 0, slots := 0, locals := 0 } : Room) D cI cR [.int p0, .int p1] [] (.int q) := by
  refine CRi.intro (cc := cX7_greatestCommon) (maxL := 6) (ty := .int) (by decide) rfl (Nat.le_of_ble_eq_true rfl) ?_
  intro p e s m args below meth c hx hb hml hts hown hP hK hN QQ hRet ls hl
  have hown : s.vm.findClass RX7 = some m.cls := hown
  have hl : lv_has ls 6 [(0, .int p0), (1, .int p1)] := hl
  unfold pX7_greatestCommon at hf
  refine lv_iload_n hx hb dX7_greatestCommon_0 rfl (lv_at hl 0 rfl) ?_
  refine lv_istore_n (lv' := [(2, .int p0), (0, .int p0), (1, .int p1)]) hx hb dX7_greatestCommon_1 rfl hl (by decide) rfl (fun ls hl => ?_)
  refine lv_iload_n hx hb dX7_greatestCommon_2 rfl (lv_at hl 2 rfl) ?_
  refine lv_istore_n (lv' := [(3, .int p1), (2, .int p0), (0, .int p0), (1, .int p1)]) hx hb dX7_greatestCommon_3 rfl hl (by decide) rfl (fun ls hl => ?_)
  refine lv_iconst (v := 0) hx hb dX7_greatestCommon_4 (by decide) ?_
  refine lv_istore (lv' := [(4, .int ((0 : Int32))), (3, .int p1), (2, .int p0), (0, .int p0), (1, .int p1)]) hx hb dX7_greatestCommon_5 hl (by decide) rfl (fun ls hl => ?_)
  have hL7 : ∀ (K : Int32 → Int32 → Int32 → Option (Int32)) (hKK : ∀ (k2_v2 : Int32) (k2_v3 : Int32) (k2_v4 : Int32) (ls : Array Slot), K k2_v2 k2_v3 k2_v4 = some q → lv_has ls 6 [(0, .int p0), (1, .int p1), (2, .int k2_v2), (3, .int k2_v3), (4, .int k2_v4)] → W p l e ({ frames := 0, cells := 0, slots := 0, locals := 0 } : Room) s m args below meth c s.heap [] 0 0 QQ (F0 m 35 ls [])) (n : Nat), ∀ (b3_v2 : Int32) (b3_v3 : Int32) (b3_v4 : Int32) (ls : Array Slot), pX7_greatestCommon_L7  K n b3_v2 b3_v3 b3_v4 = some q → lv_has ls 6 [(0, .int p0), (1, .int p1), (2, .int b3_v2), (3, .int b3_v3), (4, .int b3_v4)] → W p l e ({ frames := 0, cells := 0, slots := 0, locals := 0 } : Room) s m args below meth c s.heap [] 0 0 QQ (F0 m 7 ls []) := by
    intro K hKK n
    induction n with
    | zero =>
      intro b3_v2 b3_v3 b3_v4 ls hf hl
      rw [pX7_greatestCommon_L7_z] at hf
      cases hf
    | succ n ih =>
      intro b3_v2 b3_v3 b3_v4 ls hf hl
      rw [pX7_greatestCommon_L7_s] at hf
      refine lv_iload hx hb dX7_greatestCommon_7 (lv_at hl 4 rfl) ?_
      refine lv_sipush (v := 1000) hx hb dX7_greatestCommon_9 (by decide) ?_
      refine q_icmp_ge hx hb hf 35 dX7_greatestCommon_12 (by decide) (fun hf => ?_) (fun hf => ?_)
      · exact hKK _ _ _ _ hf (lv_sub hl [0, 1, 2, 3, 4] rfl)
      · refine lv_iload_n hx hb dX7_greatestCommon_15 rfl (lv_at hl 3 rfl) ?_
        refine q_if_eq hx hb hf 35 dX7_greatestCommon_16 (by decide) (fun hf => ?_) (fun hf => ?_)
        · exact hKK _ _ _ _ hf (lv_sub hl [0, 1, 2, 3, 4] rfl)
        · refine lv_iload_n hx hb dX7_greatestCommon_19 rfl (lv_at hl 2 rfl) ?_
          refine lv_iload_n hx hb dX7_greatestCommon_20 rfl (lv_at hl 3 rfl) ?_
          refine q_irem hx hb hf dX7_greatestCommon_21 (fun z4 hf => ?_)
          refine lv_istore (lv' := [(5, .int z4), (0, .int p0), (1, .int p1), (2, .int b3_v2), (3, .int b3_v3), (4, .int b3_v4)]) hx hb dX7_greatestCommon_22 hl (by decide) rfl (fun ls hl => ?_)
          refine lv_iload_n hx hb dX7_greatestCommon_24 rfl (lv_at hl 4 rfl) ?_
          refine lv_istore_n (lv' := [(2, .int b3_v3), (5, .int z4), (0, .int p0), (1, .int p1), (3, .int b3_v3), (4, .int b3_v4)]) hx hb dX7_greatestCommon_25 rfl hl (by decide) rfl (fun ls hl => ?_)
          refine lv_iload hx hb dX7_greatestCommon_26 (lv_at hl 1 rfl) ?_
          refine lv_istore_n (lv' := [(3, .int z4), (2, .int b3_v3), (5, .int z4), (0, .int p0), (1, .int p1), (4, .int b3_v4)]) hx hb dX7_greatestCommon_28 rfl hl (by decide) rfl (fun ls hl => ?_)
          refine lv_iinc (v := b3_v4 + (1 : Int32)) (lv' := [(4, .int (b3_v4 + (1 : Int32))), (3, .int z4), (2, .int b3_v3), (5, .int z4), (0, .int p0), (1, .int p1)]) hx hb dX7_greatestCommon_29 hl (k := 5) rfl rfl (by decide) rfl (fun ls hl => ?_)
          refine lv_goto (tgt := 7) hx hb dX7_greatestCommon_32 (by decide) ?_
          exact ih _ _ _ _ hf (lv_sub hl [4, 5, 2, 1, 0] rfl)
  refine hL7 _ (fun k2_v2 k2_v3 k2_v4 ls hf hl => ?_) fu _ _ _ _ hf (lv_sub hl [3, 4, 2, 1, 0] rfl)
  refine lv_iload_n hx hb dX7_greatestCommon_35 rfl (lv_at hl 2 rfl) ?_
  exact hRet _ _ _ rfl (Option.some.inj hf) dX7_greatestCommon_36
set_option maxHeartbeats 4000000 in
set_option maxRecDepth 100000 in
theorem kX7_isLeaf (l : Launch) (D : va_G) (cI cR : ClassId) (p0 : Int32) (q : Int32) (hf : pX7_isLeaf p0 = q) : CR l yX7_isLeaf wsX7_isLeaf ({ frames := 0, cells := 0, slots := 0, locals := 0 } : Room) D cI cR [.int p0] [] (.int q) := by
  refine CRi.intro (cc := cX7_isLeaf) (maxL := 1) (ty := .boolean) (by decide) rfl (Nat.le_of_ble_eq_true rfl) ?_
  intro p e s m args below meth c hx hb hml hts hown hP hK hN QQ hRet ls hl
  have hown : s.vm.findClass RX7 = some m.cls := hown
  have hl : lv_has ls 1 [(0, .int p0)] := hl
  unfold pX7_isLeaf at hf
  refine lv_iload_n hx hb dX7_isLeaf_0 rfl (lv_at hl 0 rfl) ?_
  refine q_if_lt hx hb hf 14 dX7_isLeaf_1 (by decide) (fun hf => ?_) (fun hf => ?_)
  · refine lv_iconst (v := 0) hx hb dX7_isLeaf_14 (by decide) ?_
    exact hRet _ _ _ (by decide) hf dX7_isLeaf_15
  · refine lv_iload_n hx hb dX7_isLeaf_4 rfl (lv_at hl 0 rfl) ?_
    refine lv_bipush (v := 98) hx hb dX7_isLeaf_5 (by decide) ?_
    refine q_icmp_gt hx hb hf 14 dX7_isLeaf_7 (by decide) (fun hf => ?_) (fun hf => ?_)
    · refine lv_iconst (v := 0) hx hb dX7_isLeaf_14 (by decide) ?_
      exact hRet _ _ _ (by decide) hf dX7_isLeaf_15
    · refine lv_iconst (v := 1) hx hb dX7_isLeaf_10 (by decide) ?_
      refine lv_goto (tgt := 15) hx hb dX7_isLeaf_11 (by decide) ?_
      exact hRet _ _ _ (by decide) hf dX7_isLeaf_15
set_option maxHeartbeats 4000000 in
set_option maxRecDepth 100000 in
theorem kX7_kinds (l : Launch) (D : va_G) (cI cR : ClassId) (ax axrows as ad ay af ao askind aspage asasked assent adslip adleaf ae aekind aepage aeasked aesent : Nat) (x_questions : Int32) (x_traced : Int32) (x_latestFault : Int32) (s_kind : Nat → Int32) (s_page : Nat → Int32) (s_asked : Nat → Int32) (s_sent : Nat → Int32) (s_count : Int32) (s_wetSet : Int32) (d_slip : Nat → Int32) (d_leaf : Nat → Int32) (d_count : Int32) (d_fittingPages : Int32) (d_leastPage : Int32) (d_greatestPage : Int32) (e_kind : Nat → Int32) (e_page : Nat → Int32) (e_asked : Nat → Int32) (e_sent : Nat → Int32) (e_count : Int32) (e_wetSet : Int32) (p1 : Int32) (q : Int32 × (Nat → Int32) × (Nat → Int32) × (Nat → Int32) × (Nat → Int32) × Int32 × Int32) (hf : pX7_kinds s_kind s_page s_asked s_sent s_count s_wetSet d_slip d_leaf d_count e_kind e_page e_asked e_sent e_count e_wetSet p1 = some q) : CWi l yX7_kinds wsX7_kinds ({ frames := 5, cells := 0, slots := 0, locals := 113 } : Room) D cI cR [.ref ax, .int p1] [(ax, .inr (6, [.ref axrows, .ref as, .ref ad, .ref ay, .ref af, .ref ao, .int x_questions, .int x_traced, .int x_latestFault])), (as, .inr (4, [.ref askind, .ref aspage, .ref asasked, .ref assent, .int s_count, .int s_wetSet])), (askind, .inl (cI, 7, .inl s_kind)), (aspage, .inl (cI, 7, .inl s_page)), (asasked, .inl (cI, 7, .inl s_asked)), (assent, .inl (cI, 7, .inl s_sent)), (ad, .inr (1, [.ref adslip, .ref adleaf, .ref ae, .int d_count, .int d_fittingPages, .int d_leastPage, .int d_greatestPage])), (adslip, .inl (cI, 8, .inl d_slip)), (adleaf, .inl (cI, 8, .inl d_leaf)), (ae, .inr (4, [.ref aekind, .ref aepage, .ref aeasked, .ref aesent, .int e_count, .int e_wetSet])), (aekind, .inl (cI, 7, .inl e_kind)), (aepage, .inl (cI, 7, .inl e_page)), (aeasked, .inl (cI, 7, .inl e_asked)), (aesent, .inl (cI, 7, .inl e_sent))] [(ax, .inr (6, [.ref axrows, .ref as, .ref ad, .ref ay, .ref af, .ref ao, .int x_questions, .int x_traced, .int x_latestFault])), (as, .inr (4, [.ref askind, .ref aspage, .ref asasked, .ref assent, .int s_count, .int s_wetSet])), (askind, .inl (cI, 7, .inl s_kind)), (aspage, .inl (cI, 7, .inl s_page)), (asasked, .inl (cI, 7, .inl s_asked)), (assent, .inl (cI, 7, .inl s_sent)), (ad, .inr (1, [.ref adslip, .ref adleaf, .ref ae, .int d_count, .int d_fittingPages, .int d_leastPage, .int d_greatestPage])), (adslip, .inl (cI, 8, .inl d_slip)), (adleaf, .inl (cI, 8, .inl d_leaf)), (ae, .inr (4, [.ref aekind, .ref aepage, .ref aeasked, .ref aesent, .int q.2.2.2.2.2.1, .int q.2.2.2.2.2.2])), (aekind, .inl (cI, 7, .inl q.2.1)), (aepage, .inl (cI, 7, .inl q.2.2.1)), (aeasked, .inl (cI, 7, .inl q.2.2.2.1)), (aesent, .inl (cI, 7, .inl q.2.2.2.2.1))] q.1 := by
  refine CWi.intro (cc := cX7_kinds) (maxL := 2) (ty := .int) (by decide) rfl (Nat.le_of_ble_eq_true rfl) ?_
  intro p e s m args below meth c hx hb hml hts hown hP hK hN A hA hD hS QQ hRet ls hl
  have hown : s.vm.findClass RX7 = some m.cls := hown
  have hl : lv_has ls 2 [(0, .ref ax), (1, .int p1)] := hl
  have iX7 : ∀ w ∈ u_ws RX7 TX7 9, w ∈ wsX7_kinds := by decide +kernel
  have hF21 := hts (.fieldLink RX7 21 "WorldIndex" "slips" "LWorldIndex$Slips;") (by decide +kernel)
  have hF28 := hts (.fieldLink RX7 28 "WorldIndex" "readings" "LWorldIndex$Readings;") (by decide +kernel)
  unfold pX7_kinds at hf
  refine lv_aload_n hx hb dX7_kinds_0 rfl (lv_at hl 0 rfl) ?_
  refine va_get (D := D) (ci := 6) (v := .ref as) (C := RX7) (T := TX7) (N := 9) hx hb hts iX7 hown hK hP 0 rfl rfl 1 (by decide) hF21 (fun _ h9 => h9) rfl dX7_kinds_1 ?_
  refine lv_iload_n hx hb dX7_kinds_4 rfl (lv_at hl 1 rfl) ?_
  refine q_rV (rest := []) ⟨hx, hb, hml, hown, hts⟩ (kX4_has l D cI cR as askind aspage asasked assent s_kind s_page s_asked s_sent s_count s_wetSet p1 _ rfl) (cwV 1 hts gX7_kinds_X4_has rfl rfl rfl (by decide +kernel) ⟨Nat.le_of_ble_eq_true rfl, Nat.le_of_ble_eq_true rfl⟩) (hP.sub [1, 2, 3, 4, 5] rfl) hK hN (va_recv hK hP (ci := 4) (q0 := 1) rfl rfl) rfl hl.1 rfl (Nat.le_of_ble_eq_true rfl) dX7_kinds_5 ⟨Nat.le_of_ble_eq_true rfl, Nat.le_of_ble_eq_true rfl⟩ ?_
  refine q_if_ne hx hb hf 13 dX7_kinds_8 (by decide) (fun hf => ?_) (fun hf => ?_)
  · refine lv_aload_n hx hb dX7_kinds_13 rfl (lv_at hl 0 rfl) ?_
    refine va_get (D := D) (ci := 6) (v := .ref ad) (C := RX7) (T := TX7) (N := 9) hx hb hts iX7 hown hK hP 0 rfl rfl 2 (by decide) hF28 (fun _ h9 => h9) rfl dX7_kinds_14 ?_
    refine lv_aload_n hx hb dX7_kinds_17 rfl (lv_at hl 0 rfl) ?_
    refine va_get (D := D) (ci := 6) (v := .ref as) (C := RX7) (T := TX7) (N := 9) hx hb hts iX7 hown hK hP 0 rfl rfl 1 (by decide) hF21 (fun _ h9 => h9) rfl dX7_kinds_18 ?_
    refine lv_iload_n hx hb dX7_kinds_21 rfl (lv_at hl 1 rfl) ?_
    obtain ⟨z1, hz1, hf⟩ := bnd hf
    refine q_wVi (wr := [(ax, .inr (6, [.ref axrows, .ref as, .ref ad, .ref ay, .ref af, .ref ao, .int x_questions, .int x_traced, .int x_latestFault]))]) (rest := []) ⟨hx, hb, hml, hown, hts⟩ (kX1_kindsOf l D cI cR ad adslip adleaf ae aekind aepage aeasked aesent as askind aspage asasked assent d_slip d_leaf d_count d_fittingPages d_leastPage d_greatestPage e_kind e_page e_asked e_sent e_count e_wetSet s_kind s_page s_asked s_sent s_count s_wetSet p1 z1 hz1) (cwV 2 hts gX7_kinds_X1_kindsOf rfl rfl rfl (by decide +kernel) ⟨Nat.le_of_ble_eq_true rfl, Nat.le_of_ble_eq_true rfl⟩) hP hD hS hA hK hN [6, 7, 8, 9, 10, 11, 12, 13, 1, 2, 3, 4, 5] [0] rfl rfl (by decide) (by decide) (by decide) (va_recv hK hP (ci := 1) (q0 := 6) rfl rfl) rfl hl.1 rfl (Nat.le_of_ble_eq_true rfl) dX7_kinds_22 ⟨Nat.le_of_ble_eq_true rfl, Nat.le_of_ble_eq_true rfl⟩ (fun H locs hP hD hS => ?_)
    have hP := hP.sub (ws' := [(ax, .inr (6, [.ref axrows, .ref as, .ref ad, .ref ay, .ref af, .ref ao, .int x_questions, .int x_traced, .int x_latestFault])), (as, .inr (4, [.ref askind, .ref aspage, .ref asasked, .ref assent, .int s_count, .int s_wetSet])), (askind, .inl (cI, 7, .inl s_kind)), (aspage, .inl (cI, 7, .inl s_page)), (asasked, .inl (cI, 7, .inl s_asked)), (assent, .inl (cI, 7, .inl s_sent)), (ad, .inr (1, [.ref adslip, .ref adleaf, .ref ae, .int d_count, .int d_fittingPages, .int d_leastPage, .int d_greatestPage])), (adslip, .inl (cI, 8, .inl d_slip)), (adleaf, .inl (cI, 8, .inl d_leaf)), (ae, .inr (4, [.ref aekind, .ref aepage, .ref aeasked, .ref aesent, .int z1.2.2.2.2.2.1, .int z1.2.2.2.2.2.2])), (aekind, .inl (cI, 7, .inl z1.2.1)), (aepage, .inl (cI, 7, .inl z1.2.2.1)), (aeasked, .inl (cI, 7, .inl z1.2.2.2.1)), (aesent, .inl (cI, 7, .inl z1.2.2.2.2.1))]) [0, 9, 10, 11, 12, 13, 1, 2, 3, 4, 5, 6, 7, 8] rfl
    have hD := hD.sub (ws' := [(ax, .inr (6, [.ref axrows, .ref as, .ref ad, .ref ay, .ref af, .ref ao, .int x_questions, .int x_traced, .int x_latestFault])), (as, .inr (4, [.ref askind, .ref aspage, .ref asasked, .ref assent, .int s_count, .int s_wetSet])), (askind, .inl (cI, 7, .inl s_kind)), (aspage, .inl (cI, 7, .inl s_page)), (asasked, .inl (cI, 7, .inl s_asked)), (assent, .inl (cI, 7, .inl s_sent)), (ad, .inr (1, [.ref adslip, .ref adleaf, .ref ae, .int d_count, .int d_fittingPages, .int d_leastPage, .int d_greatestPage])), (adslip, .inl (cI, 8, .inl d_slip)), (adleaf, .inl (cI, 8, .inl d_leaf)), (ae, .inr (4, [.ref aekind, .ref aepage, .ref aeasked, .ref aesent, .int z1.2.2.2.2.2.1, .int z1.2.2.2.2.2.2])), (aekind, .inl (cI, 7, .inl z1.2.1)), (aepage, .inl (cI, 7, .inl z1.2.2.1)), (aeasked, .inl (cI, 7, .inl z1.2.2.2.1)), (aesent, .inl (cI, 7, .inl z1.2.2.2.2.1))]) [0, 9, 10, 11, 12, 13, 1, 2, 3, 4, 5, 6, 7, 8] (by decide) rfl
    have hq9 := Option.some.inj hf
    subst hq9
    exact hRet _ _ _ _ _ rfl rfl hP hD hS dX7_kinds_25
  · refine lv_iconst (v := -1) hx hb dX7_kinds_11 (by decide) ?_
    have hq9 := Option.some.inj hf
    subst hq9
    exact hRet _ _ _ _ _ rfl rfl hP hD hS dX7_kinds_12
set_option maxHeartbeats 4000000 in
set_option maxRecDepth 100000 in
theorem kX7_leads (l : Launch) (D : va_G) (cI cR : ClassId) (ax axrows as ad ay af ao askind aspage asasked assent : Nat) (x_questions : Int32) (x_traced : Int32) (x_latestFault : Int32) (s_kind : Nat → Int32) (s_page : Nat → Int32) (s_asked : Nat → Int32) (s_sent : Nat → Int32) (s_count : Int32) (s_wetSet : Int32) (p1 : Int32) (q : Int32) (hf : pX7_leads s_kind s_page s_sent s_count s_wetSet p1 = some q) : CR l yX7_leads wsX7_leads ({ frames := 3, cells := 0, slots := 0, locals := 68 } : Room) D cI cR [.ref ax, .int p1] [(ax, .inr (6, [.ref axrows, .ref as, .ref ad, .ref ay, .ref af, .ref ao, .int x_questions, .int x_traced, .int x_latestFault])), (as, .inr (4, [.ref askind, .ref aspage, .ref asasked, .ref assent, .int s_count, .int s_wetSet])), (askind, .inl (cI, 7, .inl s_kind)), (aspage, .inl (cI, 7, .inl s_page)), (asasked, .inl (cI, 7, .inl s_asked)), (assent, .inl (cI, 7, .inl s_sent))] (.int q) := by
  refine CRi.intro (cc := cX7_leads) (maxL := 4) (ty := .int) (by decide) rfl (Nat.le_of_ble_eq_true rfl) ?_
  intro p e s m args below meth c hx hb hml hts hown hP hK hN QQ hRet ls hl
  have hown : s.vm.findClass RX7 = some m.cls := hown
  have hl : lv_has ls 4 [(0, .ref ax), (1, .int p1)] := hl
  have iX4 : ∀ w ∈ u_ws RX4 TX4 6, w ∈ wsX7_leads := by decide +kernel
  have iX7 : ∀ w ∈ u_ws RX7 TX7 9, w ∈ wsX7_leads := by decide +kernel
  have hF21 := hts (.fieldLink RX7 21 "WorldIndex" "slips" "LWorldIndex$Slips;") (by decide +kernel)
  have hG88 := NN.f (args := args) hN "WorldIndex" 88 "WorldIndex$Slips" "count" "I" "WorldIndex" (by decide +kernel)
  unfold pX7_leads at hf
  refine lv_iload_n hx hb dX7_leads_0 rfl (lv_at hl 1 rfl) ?_
  refine q_rS (rest := []) ⟨hx, hb, hml, hown, hts⟩ (kX7_isLeaf l D cI cR p1 _ rfl) (va_cwS 1 hts gX7_leads_X7_isLeaf rfl rfl rfl (by decide +kernel) ⟨Nat.le_of_ble_eq_true rfl, Nat.le_of_ble_eq_true rfl⟩) (hP.sub [] rfl) hK hN rfl hl.1 rfl (Nat.le_of_ble_eq_true rfl) dX7_leads_1 ⟨Nat.le_of_ble_eq_true rfl, Nat.le_of_ble_eq_true rfl⟩ ?_
  refine q_if_ne hx hb hf 10 dX7_leads_4 (by decide) (fun hf => ?_) (fun hf => ?_)
  · refine lv_aload_n hx hb dX7_leads_10 rfl (lv_at hl 0 rfl) ?_
    refine va_get (D := D) (ci := 6) (v := .ref as) (C := RX7) (T := TX7) (N := 9) hx hb hts iX7 hown hK hP 0 rfl rfl 1 (by decide) hF21 (fun _ h9 => h9) rfl dX7_leads_11 ?_
    refine va_getN (D := D) (ci := 4) (v := .int s_count) (C := RX4) (T := TX4) (N := 6) hx hb hts iX4 hown hK hP 1 rfl rfl 4 (by decide) hG88 (fun _ h9 => h9) rfl dX7_leads_14 ?_
    refine q_if_ne hx hb hf 23 dX7_leads_17 (by decide) (fun hf => ?_) (fun hf => ?_)
    · refine lv_iconst (v := 0) hx hb dX7_leads_23 (by decide) ?_
      refine lv_istore_n (lv' := [(2, .int ((0 : Int32))), (0, .ref ax), (1, .int p1)]) hx hb dX7_leads_24 rfl hl (by decide) rfl (fun ls hl => ?_)
      refine lv_iconst (v := 0) hx hb dX7_leads_25 (by decide) ?_
      refine lv_istore_n (lv' := [(3, .int ((0 : Int32))), (2, .int ((0 : Int32))), (0, .ref ax), (1, .int p1)]) hx hb dX7_leads_26 rfl hl (by decide) rfl (fun ls hl => ?_)
      have hL27 : ∀ (K : Int32 → Int32 → Option (Int32)) (hKK : ∀ (k3_v2 : Int32) (k3_v3 : Int32) (ls : Array Slot), K k3_v2 k3_v3 = some q → lv_has ls 4 [(0, .ref ax), (1, .int p1), (2, .int k3_v2), (3, .int k3_v3)] → W p l e ({ frames := 3, cells := 0, slots := 0, locals := 68 } : Room) s m args below meth c s.heap [] 0 0 QQ (F0 m 62 ls [])) (n : Nat), ∀ (b4_v2 : Int32) (b4_v3 : Int32) (ls : Array Slot), pX7_leads_L27 p1 s_kind s_page s_sent s_count s_wetSet K n b4_v2 b4_v3 = some q → lv_has ls 4 [(0, .ref ax), (1, .int p1), (2, .int b4_v2), (3, .int b4_v3)] → W p l e ({ frames := 3, cells := 0, slots := 0, locals := 68 } : Room) s m args below meth c s.heap [] 0 0 QQ (F0 m 27 ls []) := by
        intro K hKK n
        induction n with
        | zero =>
          intro b4_v2 b4_v3 ls hf hl
          rw [pX7_leads_L27_z] at hf
          cases hf
        | succ n ih =>
          intro b4_v2 b4_v3 ls hf hl
          rw [pX7_leads_L27_s] at hf
          refine lv_iload_n hx hb dX7_leads_27 rfl (lv_at hl 3 rfl) ?_
          refine lv_aload_n hx hb dX7_leads_28 rfl (lv_at hl 0 rfl) ?_
          refine va_get (D := D) (ci := 6) (v := .ref as) (C := RX7) (T := TX7) (N := 9) hx hb hts iX7 hown hK hP 0 rfl rfl 1 (by decide) hF21 (fun _ h9 => h9) rfl dX7_leads_29 ?_
          refine va_getN (D := D) (ci := 4) (v := .int s_count) (C := RX4) (T := TX4) (N := 6) hx hb hts iX4 hown hK hP 1 rfl rfl 4 (by decide) hG88 (fun _ h9 => h9) rfl dX7_leads_32 ?_
          refine q_icmp_ge hx hb hf 62 dX7_leads_35 (by decide) (fun hf => ?_) (fun hf => ?_)
          · exact hKK _ _ _ hf (lv_sub hl [0, 1, 2, 3] rfl)
          · refine lv_aload_n hx hb dX7_leads_38 rfl (lv_at hl 0 rfl) ?_
            refine va_get (D := D) (ci := 6) (v := .ref as) (C := RX7) (T := TX7) (N := 9) hx hb hts iX7 hown hK hP 0 rfl rfl 1 (by decide) hF21 (fun _ h9 => h9) rfl dX7_leads_39 ?_
            refine lv_iload_n hx hb dX7_leads_42 rfl (lv_at hl 3 rfl) ?_
            obtain ⟨z5, hz5, hf⟩ := bnd hf
            refine q_rV (rest := []) ⟨hx, hb, hml, hown, hts⟩ (kX4_leafOf l D cI cR as askind aspage asasked assent s_kind s_page s_asked s_sent s_count s_wetSet b4_v3 z5 hz5) (cwV 1 hts gX7_leads_X4_leafOf rfl rfl rfl (by decide +kernel) ⟨Nat.le_of_ble_eq_true rfl, Nat.le_of_ble_eq_true rfl⟩) (hP.sub [1, 2, 3, 4, 5] rfl) hK hN (va_recv hK hP (ci := 4) (q0 := 1) rfl rfl) rfl hl.1 rfl (Nat.le_of_ble_eq_true rfl) dX7_leads_43 ⟨Nat.le_of_ble_eq_true rfl, Nat.le_of_ble_eq_true rfl⟩ ?_
            refine lv_iload_n hx hb dX7_leads_46 rfl (lv_at hl 1 rfl) ?_
            obtain ⟨J56_6, eJ56_6, hf⟩ := q_jn hf
            have hJ56_6 : ∀ (u6_0 : Int32) (ls : Array Slot), J56_6 u6_0 = some q → lv_has ls 4 [(0, .ref ax), (1, .int p1), (2, .int u6_0), (3, .int b4_v3)] → W p l e ({ frames := 3, cells := 0, slots := 0, locals := 68 } : Room) s m args below meth c s.heap [] 0 0 QQ (F0 m 56 ls []) := by
              intro u6_0 ls hf hl
              rw [eJ56_6] at hf
              refine lv_iinc (v := b4_v3 + (1 : Int32)) (lv' := [(3, .int (b4_v3 + (1 : Int32))), (0, .ref ax), (1, .int p1), (2, .int u6_0)]) hx hb dX7_leads_56 hl (k := 3) rfl rfl (by decide) rfl (fun ls hl => ?_)
              refine lv_goto (tgt := 27) hx hb dX7_leads_59 (by decide) ?_
              exact ih _ _ _ hf (lv_sub hl [1, 2, 3, 0] rfl)
            refine q_icmp_ne hx hb hf 56 dX7_leads_47 (by decide) (fun hf => ?_) (fun hf => ?_)
            · exact hJ56_6 _ _ hf (lv_sub hl [0, 1, 2, 3] rfl)
            · refine lv_iload_n hx hb dX7_leads_50 rfl (lv_at hl 2 rfl) ?_
              refine lv_iconst (v := 1) hx hb dX7_leads_51 (by decide) ?_
              refine lv_iload_n hx hb dX7_leads_52 rfl (lv_at hl 3 rfl) ?_
              refine lv_ishl hx hb dX7_leads_53 ?_
              refine lv_ior hx hb dX7_leads_54 ?_
              refine lv_istore_n (lv' := [(2, .int (b4_v2 ||| (((1 : Int32)) <<< (b4_v3 &&& 31)))), (0, .ref ax), (1, .int p1), (3, .int b4_v3)]) hx hb dX7_leads_55 rfl hl (by decide) rfl (fun ls hl => ?_)
              exact hJ56_6 _ _ hf (lv_sub hl [1, 2, 0, 3] rfl)
      refine hL27 _ (fun k3_v2 k3_v3 ls hf hl => ?_) fu _ _ _ hf (lv_sub hl [2, 3, 1, 0] rfl)
      refine lv_iload_n hx hb dX7_leads_62 rfl (lv_at hl 2 rfl) ?_
      exact hRet _ _ _ rfl (Option.some.inj hf) dX7_leads_63
    · refine lv_bipush (v := -3) hx hb dX7_leads_20 (by decide) ?_
      exact hRet _ _ _ rfl (Option.some.inj hf) dX7_leads_22
  · refine lv_bipush (v := -2) hx hb dX7_leads_7 (by decide) ?_
    exact hRet _ _ _ rfl (Option.some.inj hf) dX7_leads_9
set_option maxHeartbeats 4000000 in
set_option maxRecDepth 100000 in
theorem kX7_lose (l : Launch) (D : va_G) (cI cR : ClassId) (ax axrows as ad ay af ao ar arcells : Nat) (x_rows : Nat → Option Nat) (x_questions : Int32) (x_traced : Int32) (x_latestFault : Int32) (r_cells : Nat → Int32) (r_there : Int32) (r_lane : Int32) (r_length : Int32) (p1 : Int32) (hrow : vp_in p1 4 → x_rows p1.toNatClampNeg = some ar) (q : Int32 × Int32) (hf : pX7_lose r_there p1 = some q) : CWi l yX7_lose wsX7_lose ({ frames := 1, cells := 0, slots := 0, locals := 20 } : Room) D cI cR [.ref ax, .int p1] [(ax, .inr (6, [.ref axrows, .ref as, .ref ad, .ref ay, .ref af, .ref ao, .int x_questions, .int x_traced, .int x_latestFault])), (axrows, .inl (cR, 4, .inr (.inr (.inr (.inr x_rows))))), (ar, .inr (2, [.ref arcells, .int r_there, .int r_lane, .int r_length])), (arcells, .inl (cI, 60, .inl r_cells))] [(ax, .inr (6, [.ref axrows, .ref as, .ref ad, .ref ay, .ref af, .ref ao, .int x_questions, .int x_traced, .int x_latestFault])), (axrows, .inl (cR, 4, .inr (.inr (.inr (.inr x_rows))))), (ar, .inr (2, [.ref arcells, .int q.2, .int r_lane, .int r_length])), (arcells, .inl (cI, 60, .inl r_cells))] q.1 := by
  refine CWi.intro (cc := cX7_lose) (maxL := 2) (ty := .int) (by decide) rfl (Nat.le_of_ble_eq_true rfl) ?_
  intro p e s m args below meth c hx hb hml hts hown hP hK hN A hA hD hS QQ hRet ls hl
  have hown : s.vm.findClass RX7 = some m.cls := hown
  have hl : lv_has ls 2 [(0, .ref ax), (1, .int p1)] := hl
  have iX2 : ∀ w ∈ u_ws RX2 TX2 4, w ∈ wsX7_lose := by decide +kernel
  have iX7 : ∀ w ∈ u_ws RX7 TX7 9, w ∈ wsX7_lose := by decide +kernel
  have hF13 := hts (.fieldLink RX7 13 "WorldIndex" "rows" "[LWorldIndex$Row;") (by decide +kernel)
  have hG216 := NN.f (args := args) hN "WorldIndex" 216 "WorldIndex$Row" "there" "Z" "WorldIndex" (by decide +kernel)
  unfold pX7_lose at hf
  refine lv_iload_n hx hb dX7_lose_0 rfl (lv_at hl 1 rfl) ?_
  refine q_rS (rest := []) ⟨hx, hb, hml, hown, hts⟩ (kX7_isSheet l D cI cR p1 _ rfl) (va_cwS 1 hts gX7_lose_X7_isSheet rfl rfl rfl (by decide +kernel) ⟨Nat.le_of_ble_eq_true rfl, Nat.le_of_ble_eq_true rfl⟩) (hP.sub [] rfl) hK hN rfl hl.1 rfl (Nat.le_of_ble_eq_true rfl) dX7_lose_1 ⟨Nat.le_of_ble_eq_true rfl, Nat.le_of_ble_eq_true rfl⟩ ?_
  refine q_if_ne hx hb hf 9 dX7_lose_4 (by decide) (fun hf => ?_) (fun hf => ?_)
  · refine lv_aload_n hx hb dX7_lose_9 rfl (lv_at hl 0 rfl) ?_
    refine va_get (D := D) (ci := 6) (v := .ref axrows) (C := RX7) (T := TX7) (N := 9) hx hb hts iX7 hown hK hP 0 rfl rfl 0 (by decide) hF13 (fun _ h9 => h9) rfl dX7_lose_10 ?_
    refine lv_iload_n hx hb dX7_lose_13 rfl (lv_at hl 1 rfl) ?_
    refine q_aald hx hb hK hP 1 1 rfl rfl hf hrow dX7_lose_14 (fun hf => ?_)
    refine va_getN (D := D) (ci := 2) (v := .int r_there) (C := RX2) (T := TX2) (N := 4) hx hb hts iX2 hown hK hP 2 rfl rfl 1 (by decide) hG216 (fun _ h9 => h9) rfl dX7_lose_15 ?_
    refine q_if_ne hx hb hf 23 dX7_lose_18 (by decide) (fun hf => ?_) (fun hf => ?_)
    · refine lv_aload_n hx hb dX7_lose_23 rfl (lv_at hl 0 rfl) ?_
      refine va_get (D := D) (ci := 6) (v := .ref axrows) (C := RX7) (T := TX7) (N := 9) hx hb hts iX7 hown hK hP 0 rfl rfl 0 (by decide) hF13 (fun _ h9 => h9) rfl dX7_lose_24 ?_
      refine lv_iload_n hx hb dX7_lose_27 rfl (lv_at hl 1 rfl) ?_
      refine q_aald hx hb hK hP 1 1 rfl rfl hf hrow dX7_lose_28 (fun hf => ?_)
      refine lv_iconst (v := 0) hx hb dX7_lose_29 (by decide) ?_
      refine va_putN (D := D) (ci := 2) (v := .int ((0 : Int32))) (ty := .boolean) (C := RX2) (T := TX2) (N := 4) hx hb hts iX2 tyX2 tyX2_ok nmX2 hown hK hP hD hS 2 rfl rfl 1 (by decide) hG216 (fun _ h9 => h9) rfl (tyX2_ok 1 (by decide)) rfl rfl (Nat.le_of_ble_eq_true rfl) dX7_lose_30 (fun H locs hP hD hS => ?_)
      have hP : va_P D vwCl [(ax, .inr (6, [.ref axrows, .ref as, .ref ad, .ref ay, .ref af, .ref ao, .int x_questions, .int x_traced, .int x_latestFault])), (axrows, .inl (cR, 4, .inr (.inr (.inr (.inr x_rows))))), (ar, .inr (2, [.ref arcells, .int ((0 : Int32)), .int r_lane, .int r_length])), (arcells, .inl (cI, 60, .inl r_cells))] H := hP
      have hD : va_D A [(ax, .inr (6, [.ref axrows, .ref as, .ref ad, .ref ay, .ref af, .ref ao, .int x_questions, .int x_traced, .int x_latestFault])), (axrows, .inl (cR, 4, .inr (.inr (.inr (.inr x_rows))))), (ar, .inr (2, [.ref arcells, .int ((0 : Int32)), .int r_lane, .int r_length])), (arcells, .inl (cI, 60, .inl r_cells))] := hD
      refine lv_iconst (v := 1) hx hb dX7_lose_33 (by decide) ?_
      have hq9 := Option.some.inj hf
      subst hq9
      exact hRet _ _ _ _ _ rfl rfl hP hD hS dX7_lose_34
    · refine lv_iconst (v := 0) hx hb dX7_lose_21 (by decide) ?_
      have hq9 := Option.some.inj hf
      subst hq9
      exact hRet _ _ _ _ _ rfl rfl hP hD hS dX7_lose_22
  · refine lv_iconst (v := -1) hx hb dX7_lose_7 (by decide) ?_
    have hq9 := Option.some.inj hf
    subst hq9
    exact hRet _ _ _ _ _ rfl rfl hP hD hS dX7_lose_8
set_option maxHeartbeats 4000000 in
set_option maxRecDepth 100000 in
theorem kX7_many (l : Launch) (D : va_G) (cI cR : ClassId) (ax axrows as ad ay af ao askind aspage asasked assent adslip adleaf ae aekind aepage aeasked aesent : Nat) (x_questions : Int32) (x_traced : Int32) (x_latestFault : Int32) (s_kind : Nat → Int32) (s_page : Nat → Int32) (s_asked : Nat → Int32) (s_sent : Nat → Int32) (s_count : Int32) (s_wetSet : Int32) (d_slip : Nat → Int32) (d_leaf : Nat → Int32) (d_count : Int32) (d_fittingPages : Int32) (d_leastPage : Int32) (d_greatestPage : Int32) (e_kind : Nat → Int32) (e_page : Nat → Int32) (e_asked : Nat → Int32) (e_sent : Nat → Int32) (e_count : Int32) (e_wetSet : Int32) (p1 : Int32) (q : Int32) (hf : pX7_many x_questions s_count s_wetSet d_count p1 = q) : CR l yX7_many wsX7_many ({ frames := 2, cells := 0, slots := 0, locals := 40 } : Room) D cI cR [.ref ax, .int p1] [(ax, .inr (6, [.ref axrows, .ref as, .ref ad, .ref ay, .ref af, .ref ao, .int x_questions, .int x_traced, .int x_latestFault])), (as, .inr (4, [.ref askind, .ref aspage, .ref asasked, .ref assent, .int s_count, .int s_wetSet])), (askind, .inl (cI, 7, .inl s_kind)), (aspage, .inl (cI, 7, .inl s_page)), (asasked, .inl (cI, 7, .inl s_asked)), (assent, .inl (cI, 7, .inl s_sent)), (ad, .inr (1, [.ref adslip, .ref adleaf, .ref ae, .int d_count, .int d_fittingPages, .int d_leastPage, .int d_greatestPage])), (adslip, .inl (cI, 8, .inl d_slip)), (adleaf, .inl (cI, 8, .inl d_leaf)), (ae, .inr (4, [.ref aekind, .ref aepage, .ref aeasked, .ref aesent, .int e_count, .int e_wetSet])), (aekind, .inl (cI, 7, .inl e_kind)), (aepage, .inl (cI, 7, .inl e_page)), (aeasked, .inl (cI, 7, .inl e_asked)), (aesent, .inl (cI, 7, .inl e_sent))] (.int q) := by
  refine CRi.intro (cc := cX7_many) (maxL := 2) (ty := .int) (by decide) rfl (Nat.le_of_ble_eq_true rfl) ?_
  intro p e s m args below meth c hx hb hml hts hown hP hK hN QQ hRet ls hl
  have hown : s.vm.findClass RX7 = some m.cls := hown
  have hl : lv_has ls 2 [(0, .ref ax), (1, .int p1)] := hl
  have iX1 : ∀ w ∈ u_ws RX1 TX1 7, w ∈ wsX7_many := by decide +kernel
  have iX4 : ∀ w ∈ u_ws RX4 TX4 6, w ∈ wsX7_many := by decide +kernel
  have iX7 : ∀ w ∈ u_ws RX7 TX7 9, w ∈ wsX7_many := by decide +kernel
  have hF21 := hts (.fieldLink RX7 21 "WorldIndex" "slips" "LWorldIndex$Slips;") (by decide +kernel)
  have hF28 := hts (.fieldLink RX7 28 "WorldIndex" "readings" "LWorldIndex$Readings;") (by decide +kernel)
  have hF85 := hts (.fieldLink RX7 85 "WorldIndex" "questions" "I") (by decide +kernel)
  have hG82 := NN.f (args := args) hN "WorldIndex" 82 "WorldIndex$Readings" "count" "I" "WorldIndex" (by decide +kernel)
  have hG88 := NN.f (args := args) hN "WorldIndex" 88 "WorldIndex$Slips" "count" "I" "WorldIndex" (by decide +kernel)
  unfold pX7_many at hf
  refine lv_iload_n hx hb dX7_many_0 rfl (lv_at hl 1 rfl) ?_
  rcases q_sw hf with ⟨hs1_0, hf⟩ | ⟨hs1_0, hf⟩
  · refine lv_tableIn (off := 31) (tgt := 32) hx hb dX7_many_1 (by rw [hs1_0]; decide) (by rw [hs1_0]; decide) (by rw [hs1_0]; rfl) (by decide) ?_
    refine lv_aload_n hx hb dX7_many_32 rfl (lv_at hl 0 rfl) ?_
    refine va_get (D := D) (ci := 6) (v := .ref as) (C := RX7) (T := TX7) (N := 9) hx hb hts iX7 hown hK hP 0 rfl rfl 1 (by decide) hF21 (fun _ h9 => h9) rfl dX7_many_33 ?_
    refine va_getN (D := D) (ci := 4) (v := .int s_count) (C := RX4) (T := TX4) (N := 6) hx hb hts iX4 hown hK hP 1 rfl rfl 4 (by decide) hG88 (fun _ h9 => h9) rfl dX7_many_36 ?_
    exact hRet _ _ _ rfl hf dX7_many_39
  · skip
    rcases q_sw hf with ⟨hs1_1, hf⟩ | ⟨hs1_1, hf⟩
    · refine lv_tableIn (off := 39) (tgt := 40) hx hb dX7_many_1 (by rw [hs1_1]; decide) (by rw [hs1_1]; decide) (by rw [hs1_1]; rfl) (by decide) ?_
      refine lv_aload_n hx hb dX7_many_40 rfl (lv_at hl 0 rfl) ?_
      refine va_get (D := D) (ci := 6) (v := .int x_questions) (C := RX7) (T := TX7) (N := 9) hx hb hts iX7 hown hK hP 0 rfl rfl 6 (by decide) hF85 (fun _ h9 => h9) rfl dX7_many_41 ?_
      exact hRet _ _ _ rfl hf dX7_many_44
    · skip
      rcases q_sw hf with ⟨hs1_2, hf⟩ | ⟨hs1_2, hf⟩
      · refine lv_tableIn (off := 44) (tgt := 45) hx hb dX7_many_1 (by rw [hs1_2]; decide) (by rw [hs1_2]; decide) (by rw [hs1_2]; rfl) (by decide) ?_
        refine lv_aload_n hx hb dX7_many_45 rfl (lv_at hl 0 rfl) ?_
        refine va_get (D := D) (ci := 6) (v := .ref as) (C := RX7) (T := TX7) (N := 9) hx hb hts iX7 hown hK hP 0 rfl rfl 1 (by decide) hF21 (fun _ h9 => h9) rfl dX7_many_46 ?_
        refine q_rV (rest := []) ⟨hx, hb, hml, hown, hts⟩ (kX4_howManyWet l D cI cR as askind aspage asasked assent s_kind s_page s_asked s_sent s_count s_wetSet _ rfl) (cwV 0 hts gX7_many_X4_howManyWet rfl rfl rfl (by decide +kernel) ⟨Nat.le_of_ble_eq_true rfl, Nat.le_of_ble_eq_true rfl⟩) (hP.sub [1, 2, 3, 4, 5] rfl) hK hN (va_recv hK hP (ci := 4) (q0 := 1) rfl rfl) rfl hl.1 rfl (Nat.le_of_ble_eq_true rfl) dX7_many_49 ⟨Nat.le_of_ble_eq_true rfl, Nat.le_of_ble_eq_true rfl⟩ ?_
        exact hRet _ _ _ rfl hf dX7_many_52
      · skip
        rcases q_sw hf with ⟨hs1_3, hf⟩ | ⟨hs1_3, hf⟩
        · refine lv_tableIn (off := 52) (tgt := 53) hx hb dX7_many_1 (by rw [hs1_3]; decide) (by rw [hs1_3]; decide) (by rw [hs1_3]; rfl) (by decide) ?_
          refine lv_aload_n hx hb dX7_many_53 rfl (lv_at hl 0 rfl) ?_
          refine va_get (D := D) (ci := 6) (v := .ref ad) (C := RX7) (T := TX7) (N := 9) hx hb hts iX7 hown hK hP 0 rfl rfl 2 (by decide) hF28 (fun _ h9 => h9) rfl dX7_many_54 ?_
          refine va_getN (D := D) (ci := 1) (v := .int d_count) (C := RX1) (T := TX1) (N := 7) hx hb hts iX1 hown hK hP 6 rfl rfl 3 (by decide) hG82 (fun _ h9 => h9) rfl dX7_many_57 ?_
          exact hRet _ _ _ rfl hf dX7_many_60
        · skip
          have ehs1_0 := nt_i hs1_0 (show ((0 : Int32)).toInt = (0 : Int) by decide)
          have ehs1_1 := nt_i hs1_1 (show ((1 : Int32)).toInt = (1 : Int) by decide)
          have ehs1_2 := nt_i hs1_2 (show ((2 : Int32)).toInt = (2 : Int) by decide)
          have ehs1_3 := nt_i hs1_3 (show ((3 : Int32)).toInt = (3 : Int) by decide)
          refine lv_tableOut (tgt := 61) hx hb dX7_many_1 (by omega) (by decide) ?_
          refine lv_bipush (v := -2) hx hb dX7_many_61 (by decide) ?_
          exact hRet _ _ _ rfl hf dX7_many_63
set_option maxHeartbeats 4000000 in
set_option maxRecDepth 100000 in
theorem kX7_odds (l : Launch) (D : va_G) (cI cR : ClassId) (ax axrows as ad ay af ao askind aspage asasked assent : Nat) (x_questions : Int32) (x_traced : Int32) (x_latestFault : Int32) (s_kind : Nat → Int32) (s_page : Nat → Int32) (s_asked : Nat → Int32) (s_sent : Nat → Int32) (s_count : Int32) (s_wetSet : Int32) (p1 : Int32) (p2 : Int32) (q : Int64) (hf : pX7_odds s_kind s_page s_asked s_sent s_count s_wetSet p1 p2 = some q) : CR l yX7_odds wsX7_odds ({ frames := 3, cells := 0, slots := 0, locals := 68 } : Room) D cI cR [.ref ax, .int p1, .int p2] [(ax, .inr (6, [.ref axrows, .ref as, .ref ad, .ref ay, .ref af, .ref ao, .int x_questions, .int x_traced, .int x_latestFault])), (as, .inr (4, [.ref askind, .ref aspage, .ref asasked, .ref assent, .int s_count, .int s_wetSet])), (askind, .inl (cI, 7, .inl s_kind)), (aspage, .inl (cI, 7, .inl s_page)), (asasked, .inl (cI, 7, .inl s_asked)), (assent, .inl (cI, 7, .inl s_sent))] (.long q) := by
  refine CRl.intro (cc := cX7_odds) (maxL := 6) (by decide) rfl (Nat.le_of_ble_eq_true rfl) ?_
  intro p e s m args below meth c hx hb hml hts hown hP hK hN QQ hRet ls hl
  have hown : s.vm.findClass RX7 = some m.cls := hown
  have hl : lv_has ls 6 [(0, .ref ax), (1, .int p1), (2, .int p2)] := hl
  have iX4 : ∀ w ∈ u_ws RX4 TX4 6, w ∈ wsX7_odds := by decide +kernel
  have iX7 : ∀ w ∈ u_ws RX7 TX7 9, w ∈ wsX7_odds := by decide +kernel
  have hC208 := hts (.constantLong RX7 208 (-9223372036854775808)) (by decide +kernel)
  have hF21 := hts (.fieldLink RX7 21 "WorldIndex" "slips" "LWorldIndex$Slips;") (by decide +kernel)
  have hG88 := NN.f (args := args) hN "WorldIndex" 88 "WorldIndex$Slips" "count" "I" "WorldIndex" (by decide +kernel)
  have hG99 := NN.f (args := args) hN "WorldIndex" 99 "WorldIndex$Slips" "asked" "[I" "WorldIndex" (by decide +kernel)
  unfold pX7_odds at hf
  refine lv_iload_n hx hb dX7_odds_0 rfl (lv_at hl 1 rfl) ?_
  refine q_rS (rest := []) ⟨hx, hb, hml, hown, hts⟩ (kX7_isLeaf l D cI cR p1 _ rfl) (va_cwS 1 hts gX7_odds_X7_isLeaf rfl rfl rfl (by decide +kernel) ⟨Nat.le_of_ble_eq_true rfl, Nat.le_of_ble_eq_true rfl⟩) (hP.sub [] rfl) hK hN rfl hl.1 rfl (Nat.le_of_ble_eq_true rfl) dX7_odds_1 ⟨Nat.le_of_ble_eq_true rfl, Nat.le_of_ble_eq_true rfl⟩ ?_
  refine q_if_eq hx hb hf 16 dX7_odds_4 (by decide) (fun hf => ?_) (fun hf => ?_)
  · refine q_ldc2 (v := -9223372036854775808) hx hb hown hC208 dX7_odds_16 ?_
    exact hRet _ _ _ (Option.some.inj hf) dX7_odds_19
  · refine lv_iload_n hx hb dX7_odds_7 rfl (lv_at hl 2 rfl) ?_
    obtain ⟨J20_1, eJ20_1, hf⟩ := q_jn hf
    have hJ20_1 : ∀ (ls : Array Slot), J20_1 = some q → lv_has ls 6 [(0, .ref ax), (1, .int p1), (2, .int p2)] → W p l e ({ frames := 3, cells := 0, slots := 0, locals := 68 } : Room) s m args below meth c s.heap [] 0 0 QQ (F0 m 20 ls []) := by
      intro ls hf hl
      rw [eJ20_1] at hf
      refine lv_iconst (v := 0) hx hb dX7_odds_20 (by decide) ?_
      refine lv_istore_n (lv' := [(3, .int ((0 : Int32))), (0, .ref ax), (1, .int p1), (2, .int p2)]) hx hb dX7_odds_21 rfl hl (by decide) rfl (fun ls hl => ?_)
      refine lv_iconst (v := 0) hx hb dX7_odds_22 (by decide) ?_
      refine lv_istore (lv' := [(4, .int ((0 : Int32))), (3, .int ((0 : Int32))), (0, .ref ax), (1, .int p1), (2, .int p2)]) hx hb dX7_odds_23 hl (by decide) rfl (fun ls hl => ?_)
      refine lv_iconst (v := 0) hx hb dX7_odds_25 (by decide) ?_
      refine lv_istore (lv' := [(5, .int ((0 : Int32))), (4, .int ((0 : Int32))), (3, .int ((0 : Int32))), (0, .ref ax), (1, .int p1), (2, .int p2)]) hx hb dX7_odds_26 hl (by decide) rfl (fun ls hl => ?_)
      have hL28 : ∀ (K : Int32 → Int32 → Int32 → Option (Int64)) (hKK : ∀ (k6_v3 : Int32) (k6_v4 : Int32) (k6_v5 : Int32) (ls : Array Slot), K k6_v3 k6_v4 k6_v5 = some q → lv_has ls 6 [(0, .ref ax), (1, .int p1), (2, .int p2), (3, .int k6_v3), (4, .int k6_v4), (5, .int k6_v5)] → W p l e ({ frames := 3, cells := 0, slots := 0, locals := 68 } : Room) s m args below meth c s.heap [] 0 0 QQ (F0 m 87 ls [])) (n : Nat), ∀ (b10_v3 : Int32) (b10_v4 : Int32) (b10_v5 : Int32) (ls : Array Slot), pX7_odds_L28 p1 s_kind s_page s_asked s_sent s_count s_wetSet K n b10_v3 b10_v4 b10_v5 = some q → lv_has ls 6 [(0, .ref ax), (1, .int p1), (2, .int p2), (3, .int b10_v3), (4, .int b10_v4), (5, .int b10_v5)] → W p l e ({ frames := 3, cells := 0, slots := 0, locals := 68 } : Room) s m args below meth c s.heap [] 0 0 QQ (F0 m 28 ls []) := by
        intro K hKK n
        induction n with
        | zero =>
          intro b10_v3 b10_v4 b10_v5 ls hf hl
          rw [pX7_odds_L28_z] at hf
          cases hf
        | succ n ih =>
          intro b10_v3 b10_v4 b10_v5 ls hf hl
          rw [pX7_odds_L28_s] at hf
          refine lv_iload hx hb dX7_odds_28 (lv_at hl 5 rfl) ?_
          refine lv_aload_n hx hb dX7_odds_30 rfl (lv_at hl 0 rfl) ?_
          refine va_get (D := D) (ci := 6) (v := .ref as) (C := RX7) (T := TX7) (N := 9) hx hb hts iX7 hown hK hP 0 rfl rfl 1 (by decide) hF21 (fun _ h9 => h9) rfl dX7_odds_31 ?_
          refine va_getN (D := D) (ci := 4) (v := .int s_count) (C := RX4) (T := TX4) (N := 6) hx hb hts iX4 hown hK hP 1 rfl rfl 4 (by decide) hG88 (fun _ h9 => h9) rfl dX7_odds_34 ?_
          refine q_icmp_ge hx hb hf 87 dX7_odds_37 (by decide) (fun hf => ?_) (fun hf => ?_)
          · exact hKK _ _ _ _ hf (lv_sub hl [0, 1, 2, 3, 4, 5] rfl)
          · refine lv_iload_n hx hb dX7_odds_40 rfl (lv_at hl 3 rfl) ?_
            refine lv_aload_n hx hb dX7_odds_41 rfl (lv_at hl 0 rfl) ?_
            refine va_get (D := D) (ci := 6) (v := .ref as) (C := RX7) (T := TX7) (N := 9) hx hb hts iX7 hown hK hP 0 rfl rfl 1 (by decide) hF21 (fun _ h9 => h9) rfl dX7_odds_42 ?_
            refine va_getN (D := D) (ci := 4) (v := .ref asasked) (C := RX4) (T := TX4) (N := 6) hx hb hts iX4 hown hK hP 1 rfl rfl 2 (by decide) hG99 (fun _ h9 => h9) rfl dX7_odds_45 ?_
            refine lv_iload hx hb dX7_odds_48 (lv_at hl 5 rfl) ?_
            refine q_iald hx hb hK hP 4 0 rfl rfl hf dX7_odds_50 (fun x11 hf => ?_)
            refine lv_iadd hx hb dX7_odds_51 ?_
            refine lv_istore_n (lv' := [(3, .int (b10_v3 + x11)), (0, .ref ax), (1, .int p1), (2, .int p2), (4, .int b10_v4), (5, .int b10_v5)]) hx hb dX7_odds_52 rfl hl (by decide) rfl (fun ls hl => ?_)
            refine lv_aload_n hx hb dX7_odds_53 rfl (lv_at hl 1 rfl) ?_
            refine va_get (D := D) (ci := 6) (v := .ref as) (C := RX7) (T := TX7) (N := 9) hx hb hts iX7 hown hK hP 0 rfl rfl 1 (by decide) hF21 (fun _ h9 => h9) rfl dX7_odds_54 ?_
            refine lv_iload hx hb dX7_odds_57 (lv_at hl 5 rfl) ?_
            obtain ⟨z12, hz12, hf⟩ := bnd hf
            refine q_rV (rest := []) ⟨hx, hb, hml, hown, hts⟩ (kX4_leafOf l D cI cR as askind aspage asasked assent s_kind s_page s_asked s_sent s_count s_wetSet b10_v5 z12 hz12) (cwV 1 hts gX7_odds_X4_leafOf rfl rfl rfl (by decide +kernel) ⟨Nat.le_of_ble_eq_true rfl, Nat.le_of_ble_eq_true rfl⟩) (hP.sub [1, 2, 3, 4, 5] rfl) hK hN (va_recv hK hP (ci := 4) (q0 := 1) rfl rfl) rfl hl.1 rfl (Nat.le_of_ble_eq_true rfl) dX7_odds_59 ⟨Nat.le_of_ble_eq_true rfl, Nat.le_of_ble_eq_true rfl⟩ ?_
            refine lv_iload_n hx hb dX7_odds_62 rfl (lv_at hl 2 rfl) ?_
            obtain ⟨J81_13, eJ81_13, hf⟩ := q_jn hf
            have hJ81_13 : ∀ (u13_0 : Int32) (ls : Array Slot), J81_13 u13_0 = some q → lv_has ls 6 [(0, .ref ax), (1, .int p1), (2, .int p2), (3, .int (b10_v3 + x11)), (4, .int u13_0), (5, .int b10_v5)] → W p l e ({ frames := 3, cells := 0, slots := 0, locals := 68 } : Room) s m args below meth c s.heap [] 0 0 QQ (F0 m 81 ls []) := by
              intro u13_0 ls hf hl
              rw [eJ81_13] at hf
              refine lv_iinc (v := b10_v5 + (1 : Int32)) (lv' := [(5, .int (b10_v5 + (1 : Int32))), (0, .ref ax), (1, .int p1), (2, .int p2), (3, .int (b10_v3 + x11)), (4, .int u13_0)]) hx hb dX7_odds_81 hl (k := 5) rfl rfl (by decide) rfl (fun ls hl => ?_)
              refine lv_goto (tgt := 28) hx hb dX7_odds_84 (by decide) ?_
              exact ih _ _ _ _ hf (lv_sub hl [1, 2, 3, 4, 5, 0] rfl)
            refine q_icmp_ne hx hb hf 81 dX7_odds_63 (by decide) (fun hf => ?_) (fun hf => ?_)
            · exact hJ81_13 _ _ hf (lv_sub hl [1, 2, 3, 0, 4, 5] rfl)
            · refine lv_iload hx hb dX7_odds_66 (lv_at hl 4 rfl) ?_
              refine lv_aload_n hx hb dX7_odds_68 rfl (lv_at hl 1 rfl) ?_
              refine va_get (D := D) (ci := 6) (v := .ref as) (C := RX7) (T := TX7) (N := 9) hx hb hts iX7 hown hK hP 0 rfl rfl 1 (by decide) hF21 (fun _ h9 => h9) rfl dX7_odds_69 ?_
              refine va_getN (D := D) (ci := 4) (v := .ref asasked) (C := RX4) (T := TX4) (N := 6) hx hb hts iX4 hown hK hP 1 rfl rfl 2 (by decide) hG99 (fun _ h9 => h9) rfl dX7_odds_72 ?_
              refine lv_iload hx hb dX7_odds_75 (lv_at hl 5 rfl) ?_
              refine q_iald hx hb hK hP 4 0 rfl rfl hf dX7_odds_77 (fun x14 hf => ?_)
              refine lv_iadd hx hb dX7_odds_78 ?_
              refine lv_istore (lv' := [(4, .int (b10_v4 + x14)), (3, .int (b10_v3 + x11)), (0, .ref ax), (1, .int p1), (2, .int p2), (5, .int b10_v5)]) hx hb dX7_odds_79 hl (by decide) rfl (fun ls hl => ?_)
              exact hJ81_13 _ _ hf (lv_sub hl [2, 3, 4, 1, 0, 5] rfl)
      refine hL28 _ (fun k6_v3 k6_v4 k6_v5 ls hf hl => ?_) fu _ _ _ _ hf (lv_sub hl [3, 4, 5, 2, 1, 0] rfl)
      refine lv_iload_n hx hb dX7_odds_87 rfl (lv_at hl 3 rfl) ?_
      refine q_if_ne hx hb hf 95 dX7_odds_88 (by decide) (fun hf => ?_) (fun hf => ?_)
      · refine lv_iload_n hx hb dX7_odds_95 rfl (lv_at hl 3 rfl) ?_
        refine lv_iload hx hb dX7_odds_96 (lv_at hl 4 rfl) ?_
        obtain ⟨z7, hz7, hf⟩ := bnd hf
        refine q_rS (rest := []) ⟨hx, hb, hml, hown, hts⟩ (kX7_greatestCommon l D cI cR k6_v3 k6_v4 z7 hz7) (va_cwS 2 hts gX7_odds_X7_greatestCommon rfl rfl rfl (by decide +kernel) ⟨Nat.le_of_ble_eq_true rfl, Nat.le_of_ble_eq_true rfl⟩) (hP.sub [] rfl) hK hN rfl hl.1 rfl (Nat.le_of_ble_eq_true rfl) dX7_odds_98 ⟨Nat.le_of_ble_eq_true rfl, Nat.le_of_ble_eq_true rfl⟩ ?_
        refine lv_istore (lv' := [(5, .int z7), (0, .ref ax), (1, .int p1), (2, .int p2), (3, .int k6_v3), (4, .int k6_v4)]) hx hb dX7_odds_101 hl (by decide) rfl (fun ls hl => ?_)
        refine lv_iload hx hb dX7_odds_103 (lv_at hl 0 rfl) ?_
        refine q_if_ne hx hb hf 112 dX7_odds_105 (by decide) (fun hf => ?_) (fun hf => ?_)
        · refine lv_iload_n hx hb dX7_odds_112 rfl (lv_at hl 3 rfl) ?_
          refine q_if_ne hx hb hf 125 dX7_odds_113 (by decide) (fun hf => ?_) (fun hf => ?_)
          · refine lv_iload_n hx hb dX7_odds_125 rfl (lv_at hl 4 rfl) ?_
            refine lv_iload hx hb dX7_odds_126 (lv_at hl 0 rfl) ?_
            refine q_idiv hx hb hf dX7_odds_128 (fun z8 hf => ?_)
            refine lv_i2l hx hb dX7_odds_129 rfl ?_
            exact hRet _ _ _ (Option.some.inj hf) dX7_odds_130
          · refine lv_iload hx hb dX7_odds_116 (lv_at hl 5 rfl) ?_
            refine lv_iload hx hb dX7_odds_118 (lv_at hl 0 rfl) ?_
            refine q_idiv hx hb hf dX7_odds_120 (fun z9 hf => ?_)
            refine lv_i2l hx hb dX7_odds_121 rfl ?_
            refine lv_goto (tgt := 130) hx hb dX7_odds_122 (by decide) ?_
            exact hRet _ _ _ (Option.some.inj hf) dX7_odds_130
        · refine q_ldc2 (v := -9223372036854775808) hx hb hown hC208 dX7_odds_108 ?_
          exact hRet _ _ _ (Option.some.inj hf) dX7_odds_111
      · refine q_ldc2 (v := -9223372036854775808) hx hb hown hC208 dX7_odds_91 ?_
        exact hRet _ _ _ (Option.some.inj hf) dX7_odds_94
    refine q_if_eq hx hb hf 20 dX7_odds_8 (by decide) (fun hf => ?_) (fun hf => ?_)
    · exact hJ20_1 _ hf (lv_sub hl [0, 1, 2] rfl)
    · refine lv_iload_n hx hb dX7_odds_11 rfl (lv_at hl 2 rfl) ?_
      refine lv_iconst (v := 1) hx hb dX7_odds_12 (by decide) ?_
      refine q_icmp_eq hx hb hf 20 dX7_odds_13 (by decide) (fun hf => ?_) (fun hf => ?_)
      · exact hJ20_1 _ hf (lv_sub hl [0, 1, 2] rfl)
      · refine q_ldc2 (v := -9223372036854775808) hx hb hown hC208 dX7_odds_16 ?_
        exact hRet _ _ _ (Option.some.inj hf) dX7_odds_19
