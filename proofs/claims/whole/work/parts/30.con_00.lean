set_option maxHeartbeats 4000000 in
set_option maxRecDepth 100000 in
theorem kJ6_bitCount_0f7a4 (l : Launch) (D : va_G) (cI cR : ClassId) (p0 : Int32) (q : Int32) (hf : pJ6_bitCount_0f7a4 p0 = q) : CR l yJ6_bitCount_0f7a4 wsJ6_bitCount_0f7a4 ({ frames := 0, cells := 0, slots := 0, locals := 0 } : Room) D cI cR [.int p0] [] (.int q) := by
  refine CRi.intro (cc := cJ6_bitCount_0f7a4) (maxL := 1) (ty := .int) (by decide) rfl (Nat.le_of_ble_eq_true rfl) ?_
  intro p e s m args below meth c hx hb hml hts hown hP hK hN QQ hRet ls hl
  have hown : s.vm.findClass RJ6 = some m.cls := hown
  have hl : lv_has ls 1 [(0, .int p0)] := hl
  have hC265 := hts (.constant RJ6 265 (1431655765)) (by decide +kernel)
  have hC266 := hts (.constant RJ6 266 (858993459)) (by decide +kernel)
  have hC267 := hts (.constant RJ6 267 (252645135)) (by decide +kernel)
  unfold pJ6_bitCount_0f7a4 at hf
  refine lv_iload_n hx hb dJ6_bitCount_0f7a4_0 rfl (lv_at hl 0 rfl) ?_
  refine lv_iload_n hx hb dJ6_bitCount_0f7a4_1 rfl (lv_at hl 0 rfl) ?_
  refine lv_iconst (v := 1) hx hb dJ6_bitCount_0f7a4_2 (by decide) ?_
  refine lv_iushr hx hb dJ6_bitCount_0f7a4_3 rfl ?_
  refine lv_ldcw (v := 1431655765) hx hb hown hC265 dJ6_bitCount_0f7a4_4 ?_
  refine lv_iand hx hb dJ6_bitCount_0f7a4_7 ?_
  refine lv_isub hx hb dJ6_bitCount_0f7a4_8 ?_
  refine lv_istore_n (lv' := [(0, .int (p0 - (((p0.toUInt32 >>> (((1 : Int32)).toUInt32 &&& Int32.toUInt32 31)).toInt32) &&& ((1431655765 : Int32)))))]) hx hb dJ6_bitCount_0f7a4_9 rfl hl (by decide) rfl (fun ls hl => ?_)
  refine lv_iload_n hx hb dJ6_bitCount_0f7a4_10 rfl (lv_at hl 0 rfl) ?_
  refine lv_ldcw (v := 858993459) hx hb hown hC266 dJ6_bitCount_0f7a4_11 ?_
  refine lv_iand hx hb dJ6_bitCount_0f7a4_14 ?_
  refine lv_iload_n hx hb dJ6_bitCount_0f7a4_15 rfl (lv_at hl 0 rfl) ?_
  refine lv_iconst (v := 2) hx hb dJ6_bitCount_0f7a4_16 (by decide) ?_
  refine lv_iushr hx hb dJ6_bitCount_0f7a4_17 rfl ?_
  refine lv_ldcw (v := 858993459) hx hb hown hC266 dJ6_bitCount_0f7a4_18 ?_
  refine lv_iand hx hb dJ6_bitCount_0f7a4_21 ?_
  refine lv_iadd hx hb dJ6_bitCount_0f7a4_22 ?_
  refine lv_istore_n (lv' := [(0, .int (((p0 - (((p0.toUInt32 >>> (((1 : Int32)).toUInt32 &&& Int32.toUInt32 31)).toInt32) &&& ((1431655765 : Int32)))) &&& ((858993459 : Int32))) + ((((p0 - (((p0.toUInt32 >>> (((1 : Int32)).toUInt32 &&& Int32.toUInt32 31)).toInt32) &&& ((1431655765 : Int32)))).toUInt32 >>> (((2 : Int32)).toUInt32 &&& Int32.toUInt32 31)).toInt32) &&& ((858993459 : Int32)))))]) hx hb dJ6_bitCount_0f7a4_23 rfl hl (by decide) rfl (fun ls hl => ?_)
  refine lv_iload_n hx hb dJ6_bitCount_0f7a4_24 rfl (lv_at hl 0 rfl) ?_
  refine lv_iload_n hx hb dJ6_bitCount_0f7a4_25 rfl (lv_at hl 0 rfl) ?_
  refine lv_iconst (v := 4) hx hb dJ6_bitCount_0f7a4_26 (by decide) ?_
  refine lv_iushr hx hb dJ6_bitCount_0f7a4_27 rfl ?_
  refine lv_iadd hx hb dJ6_bitCount_0f7a4_28 ?_
  refine lv_ldcw (v := 252645135) hx hb hown hC267 dJ6_bitCount_0f7a4_29 ?_
  refine lv_iand hx hb dJ6_bitCount_0f7a4_32 ?_
  refine lv_istore_n (lv' := [(0, .int (((((p0 - (((p0.toUInt32 >>> (((1 : Int32)).toUInt32 &&& Int32.toUInt32 31)).toInt32) &&& ((1431655765 : Int32)))) &&& ((858993459 : Int32))) + ((((p0 - (((p0.toUInt32 >>> (((1 : Int32)).toUInt32 &&& Int32.toUInt32 31)).toInt32) &&& ((1431655765 : Int32)))).toUInt32 >>> (((2 : Int32)).toUInt32 &&& Int32.toUInt32 31)).toInt32) &&& ((858993459 : Int32)))) + (((((p0 - (((p0.toUInt32 >>> (((1 : Int32)).toUInt32 &&& Int32.toUInt32 31)).toInt32) &&& ((1431655765 : Int32)))) &&& ((858993459 : Int32))) + ((((p0 - (((p0.toUInt32 >>> (((1 : Int32)).toUInt32 &&& Int32.toUInt32 31)).toInt32) &&& ((1431655765 : Int32)))).toUInt32 >>> (((2 : Int32)).toUInt32 &&& Int32.toUInt32 31)).toInt32) &&& ((858993459 : Int32)))).toUInt32 >>> (((4 : Int32)).toUInt32 &&& Int32.toUInt32 31)).toInt32)) &&& ((252645135 : Int32))))]) hx hb dJ6_bitCount_0f7a4_33 rfl hl (by decide) rfl (fun ls hl => ?_)
  refine lv_iload_n hx hb dJ6_bitCount_0f7a4_34 rfl (lv_at hl 0 rfl) ?_
  refine lv_iload_n hx hb dJ6_bitCount_0f7a4_35 rfl (lv_at hl 0 rfl) ?_
  refine lv_bipush (v := 8) hx hb dJ6_bitCount_0f7a4_36 (by decide) ?_
  refine lv_iushr hx hb dJ6_bitCount_0f7a4_38 rfl ?_
  refine lv_iadd hx hb dJ6_bitCount_0f7a4_39 ?_
  refine lv_istore_n (lv' := [(0, .int ((((((p0 - (((p0.toUInt32 >>> (((1 : Int32)).toUInt32 &&& Int32.toUInt32 31)).toInt32) &&& ((1431655765 : Int32)))) &&& ((858993459 : Int32))) + ((((p0 - (((p0.toUInt32 >>> (((1 : Int32)).toUInt32 &&& Int32.toUInt32 31)).toInt32) &&& ((1431655765 : Int32)))).toUInt32 >>> (((2 : Int32)).toUInt32 &&& Int32.toUInt32 31)).toInt32) &&& ((858993459 : Int32)))) + (((((p0 - (((p0.toUInt32 >>> (((1 : Int32)).toUInt32 &&& Int32.toUInt32 31)).toInt32) &&& ((1431655765 : Int32)))) &&& ((858993459 : Int32))) + ((((p0 - (((p0.toUInt32 >>> (((1 : Int32)).toUInt32 &&& Int32.toUInt32 31)).toInt32) &&& ((1431655765 : Int32)))).toUInt32 >>> (((2 : Int32)).toUInt32 &&& Int32.toUInt32 31)).toInt32) &&& ((858993459 : Int32)))).toUInt32 >>> (((4 : Int32)).toUInt32 &&& Int32.toUInt32 31)).toInt32)) &&& ((252645135 : Int32))) + (((((((p0 - (((p0.toUInt32 >>> (((1 : Int32)).toUInt32 &&& Int32.toUInt32 31)).toInt32) &&& ((1431655765 : Int32)))) &&& ((858993459 : Int32))) + ((((p0 - (((p0.toUInt32 >>> (((1 : Int32)).toUInt32 &&& Int32.toUInt32 31)).toInt32) &&& ((1431655765 : Int32)))).toUInt32 >>> (((2 : Int32)).toUInt32 &&& Int32.toUInt32 31)).toInt32) &&& ((858993459 : Int32)))) + (((((p0 - (((p0.toUInt32 >>> (((1 : Int32)).toUInt32 &&& Int32.toUInt32 31)).toInt32) &&& ((1431655765 : Int32)))) &&& ((858993459 : Int32))) + ((((p0 - (((p0.toUInt32 >>> (((1 : Int32)).toUInt32 &&& Int32.toUInt32 31)).toInt32) &&& ((1431655765 : Int32)))).toUInt32 >>> (((2 : Int32)).toUInt32 &&& Int32.toUInt32 31)).toInt32) &&& ((858993459 : Int32)))).toUInt32 >>> (((4 : Int32)).toUInt32 &&& Int32.toUInt32 31)).toInt32)) &&& ((252645135 : Int32))).toUInt32 >>> (((8 : Int32)).toUInt32 &&& Int32.toUInt32 31)).toInt32)))]) hx hb dJ6_bitCount_0f7a4_40 rfl hl (by decide) rfl (fun ls hl => ?_)
  refine lv_iload_n hx hb dJ6_bitCount_0f7a4_41 rfl (lv_at hl 0 rfl) ?_
  refine lv_iload_n hx hb dJ6_bitCount_0f7a4_42 rfl (lv_at hl 0 rfl) ?_
  refine lv_bipush (v := 16) hx hb dJ6_bitCount_0f7a4_43 (by decide) ?_
  refine lv_iushr hx hb dJ6_bitCount_0f7a4_45 rfl ?_
  refine lv_iadd hx hb dJ6_bitCount_0f7a4_46 ?_
  refine lv_istore_n (lv' := [(0, .int (((((((p0 - (((p0.toUInt32 >>> (((1 : Int32)).toUInt32 &&& Int32.toUInt32 31)).toInt32) &&& ((1431655765 : Int32)))) &&& ((858993459 : Int32))) + ((((p0 - (((p0.toUInt32 >>> (((1 : Int32)).toUInt32 &&& Int32.toUInt32 31)).toInt32) &&& ((1431655765 : Int32)))).toUInt32 >>> (((2 : Int32)).toUInt32 &&& Int32.toUInt32 31)).toInt32) &&& ((858993459 : Int32)))) + (((((p0 - (((p0.toUInt32 >>> (((1 : Int32)).toUInt32 &&& Int32.toUInt32 31)).toInt32) &&& ((1431655765 : Int32)))) &&& ((858993459 : Int32))) + ((((p0 - (((p0.toUInt32 >>> (((1 : Int32)).toUInt32 &&& Int32.toUInt32 31)).toInt32) &&& ((1431655765 : Int32)))).toUInt32 >>> (((2 : Int32)).toUInt32 &&& Int32.toUInt32 31)).toInt32) &&& ((858993459 : Int32)))).toUInt32 >>> (((4 : Int32)).toUInt32 &&& Int32.toUInt32 31)).toInt32)) &&& ((252645135 : Int32))) + (((((((p0 - (((p0.toUInt32 >>> (((1 : Int32)).toUInt32 &&& Int32.toUInt32 31)).toInt32) &&& ((1431655765 : Int32)))) &&& ((858993459 : Int32))) + ((((p0 - (((p0.toUInt32 >>> (((1 : Int32)).toUInt32 &&& Int32.toUInt32 31)).toInt32) &&& ((1431655765 : Int32)))).toUInt32 >>> (((2 : Int32)).toUInt32 &&& Int32.toUInt32 31)).toInt32) &&& ((858993459 : Int32)))) + (((((p0 - (((p0.toUInt32 >>> (((1 : Int32)).toUInt32 &&& Int32.toUInt32 31)).toInt32) &&& ((1431655765 : Int32)))) &&& ((858993459 : Int32))) + ((((p0 - (((p0.toUInt32 >>> (((1 : Int32)).toUInt32 &&& Int32.toUInt32 31)).toInt32) &&& ((1431655765 : Int32)))).toUInt32 >>> (((2 : Int32)).toUInt32 &&& Int32.toUInt32 31)).toInt32) &&& ((858993459 : Int32)))).toUInt32 >>> (((4 : Int32)).toUInt32 &&& Int32.toUInt32 31)).toInt32)) &&& ((252645135 : Int32))).toUInt32 >>> (((8 : Int32)).toUInt32 &&& Int32.toUInt32 31)).toInt32)) + ((((((((p0 - (((p0.toUInt32 >>> (((1 : Int32)).toUInt32 &&& Int32.toUInt32 31)).toInt32) &&& ((1431655765 : Int32)))) &&& ((858993459 : Int32))) + ((((p0 - (((p0.toUInt32 >>> (((1 : Int32)).toUInt32 &&& Int32.toUInt32 31)).toInt32) &&& ((1431655765 : Int32)))).toUInt32 >>> (((2 : Int32)).toUInt32 &&& Int32.toUInt32 31)).toInt32) &&& ((858993459 : Int32)))) + (((((p0 - (((p0.toUInt32 >>> (((1 : Int32)).toUInt32 &&& Int32.toUInt32 31)).toInt32) &&& ((1431655765 : Int32)))) &&& ((858993459 : Int32))) + ((((p0 - (((p0.toUInt32 >>> (((1 : Int32)).toUInt32 &&& Int32.toUInt32 31)).toInt32) &&& ((1431655765 : Int32)))).toUInt32 >>> (((2 : Int32)).toUInt32 &&& Int32.toUInt32 31)).toInt32) &&& ((858993459 : Int32)))).toUInt32 >>> (((4 : Int32)).toUInt32 &&& Int32.toUInt32 31)).toInt32)) &&& ((252645135 : Int32))) + (((((((p0 - (((p0.toUInt32 >>> (((1 : Int32)).toUInt32 &&& Int32.toUInt32 31)).toInt32) &&& ((1431655765 : Int32)))) &&& ((858993459 : Int32))) + ((((p0 - (((p0.toUInt32 >>> (((1 : Int32)).toUInt32 &&& Int32.toUInt32 31)).toInt32) &&& ((1431655765 : Int32)))).toUInt32 >>> (((2 : Int32)).toUInt32 &&& Int32.toUInt32 31)).toInt32) &&& ((858993459 : Int32)))) + (((((p0 - (((p0.toUInt32 >>> (((1 : Int32)).toUInt32 &&& Int32.toUInt32 31)).toInt32) &&& ((1431655765 : Int32)))) &&& ((858993459 : Int32))) + ((((p0 - (((p0.toUInt32 >>> (((1 : Int32)).toUInt32 &&& Int32.toUInt32 31)).toInt32) &&& ((1431655765 : Int32)))).toUInt32 >>> (((2 : Int32)).toUInt32 &&& Int32.toUInt32 31)).toInt32) &&& ((858993459 : Int32)))).toUInt32 >>> (((4 : Int32)).toUInt32 &&& Int32.toUInt32 31)).toInt32)) &&& ((252645135 : Int32))).toUInt32 >>> (((8 : Int32)).toUInt32 &&& Int32.toUInt32 31)).toInt32)).toUInt32 >>> (((16 : Int32)).toUInt32 &&& Int32.toUInt32 31)).toInt32)))]) hx hb dJ6_bitCount_0f7a4_47 rfl hl (by decide) rfl (fun ls hl => ?_)
  refine lv_iload_n hx hb dJ6_bitCount_0f7a4_48 rfl (lv_at hl 0 rfl) ?_
  refine lv_bipush (v := 63) hx hb dJ6_bitCount_0f7a4_49 (by decide) ?_
  refine lv_iand hx hb dJ6_bitCount_0f7a4_51 ?_
  exact hRet _ _ _ rfl hf dJ6_bitCount_0f7a4_52
set_option maxHeartbeats 4000000 in
set_option maxRecDepth 100000 in
theorem kX0_begin (l : Launch) (D : va_G) (cI cR : ClassId) (ao aoaheadOf aoways : Nat) (o_aheadOf : Nat → Int32) (o_ways : Nat → Int32) (o_count : Int32) (p1 : Int32) (q : (Nat → Int32) × Int32) (hf : pX0_begin o_aheadOf o_count p1 = some q) : CWv l yX0_begin wsX0_begin ({ frames := 0, cells := 0, slots := 0, locals := 0 } : Room) D cI cR [.ref ao, .int p1] [(ao, .inr (0, [.ref aoaheadOf, .ref aoways, .int o_count])), (aoaheadOf, .inl (cI, 7, .inl o_aheadOf)), (aoways, .inl (cI, 128, .inl o_ways))] [(ao, .inr (0, [.ref aoaheadOf, .ref aoways, .int q.2])), (aoaheadOf, .inl (cI, 7, .inl q.1)), (aoways, .inl (cI, 128, .inl o_ways))] := by
  refine CWv.intro (cc := cX0_begin) (maxL := 3) (by decide) rfl (Nat.le_of_ble_eq_true rfl) ?_
  intro p e s m args below meth c hx hb hml hts hown hP hK hN A hA hD hS QQ hRet ls hl
  have hown : s.vm.findClass RX0 = some m.cls := hown
  have hl : lv_has ls 3 [(0, .ref ao), (1, .int p1)] := hl
  have iX0 : ∀ w ∈ u_ws RX0 TX0 3, w ∈ wsX0_begin := by decide +kernel
  have hF18 := hts (.fieldLink RX0 18 "WorldIndex$Orderings" "count" "I") (by decide +kernel)
  have hF9 := hts (.fieldLink RX0 9 "WorldIndex$Orderings" "aheadOf" "[I") (by decide +kernel)
  unfold pX0_begin at hf
  refine lv_aload_n hx hb dX0_begin_0 rfl (lv_at hl 0 rfl) ?_
  refine lv_iload_n hx hb dX0_begin_1 rfl (lv_at hl 1 rfl) ?_
  refine va_put (D := D) (ci := 0) (v := .int p1) (ty := .int) (C := RX0) (T := TX0) (N := 3) hx hb hts iX0 tyX0 tyX0_ok nmX0 hown hK hP hD hS 0 rfl rfl 2 (by decide) hF18 (fun _ h9 => h9) rfl (tyX0_ok 2 (by decide)) rfl rfl (Nat.le_of_ble_eq_true rfl) dX0_begin_2 (fun H locs hP hD hS => ?_)
  have hP : va_P D vwCl [(ao, .inr (0, [.ref aoaheadOf, .ref aoways, .int p1])), (aoaheadOf, .inl (cI, 7, .inl o_aheadOf)), (aoways, .inl (cI, 128, .inl o_ways))] H := hP
  have hD : va_D A [(ao, .inr (0, [.ref aoaheadOf, .ref aoways, .int p1])), (aoaheadOf, .inl (cI, 7, .inl o_aheadOf)), (aoways, .inl (cI, 128, .inl o_ways))] := hD
  refine lv_iconst (v := 0) hx hb dX0_begin_5 (by decide) ?_
  refine lv_istore_n (lv' := [(2, .int ((0 : Int32))), (0, .ref ao), (1, .int p1)]) hx hb dX0_begin_6 rfl hl (by decide) rfl (fun ls hl => ?_)
  have hL7 : ∀ (K : Int32 → (Nat → Int32) → Option ((Nat → Int32) × Int32)) (hKK : ∀ (k2_v2 : Int32) (k2_w_o_aheadOf : Nat → Int32) (H : Heap) (locs : List Loc) (ls : Array Slot), K k2_v2 k2_w_o_aheadOf = some q → va_P D vwCl [(ao, .inr (0, [.ref aoaheadOf, .ref aoways, .int p1])), (aoaheadOf, .inl (cI, 7, .inl k2_w_o_aheadOf)), (aoways, .inl (cI, 128, .inl o_ways))] H → va_D A [(ao, .inr (0, [.ref aoaheadOf, .ref aoways, .int p1])), (aoaheadOf, .inl (cI, 7, .inl k2_w_o_aheadOf)), (aoways, .inl (cI, 128, .inl o_ways))] → va_S A s.heap H locs → lv_has ls 3 [(0, .ref ao), (1, .int p1), (2, .int k2_v2)] → W p l e ({ frames := 0, cells := 0, slots := 0, locals := 0 } : Room) s m args below meth c H locs 0 0 QQ (F0 m 26 ls [])) (n : Nat), ∀ (b3_v2 : Int32) (b3_w_o_aheadOf : Nat → Int32) (H : Heap) (locs : List Loc) (ls : Array Slot), pX0_begin_L7  K n b3_v2 b3_w_o_aheadOf = some q → va_P D vwCl [(ao, .inr (0, [.ref aoaheadOf, .ref aoways, .int p1])), (aoaheadOf, .inl (cI, 7, .inl b3_w_o_aheadOf)), (aoways, .inl (cI, 128, .inl o_ways))] H → va_D A [(ao, .inr (0, [.ref aoaheadOf, .ref aoways, .int p1])), (aoaheadOf, .inl (cI, 7, .inl b3_w_o_aheadOf)), (aoways, .inl (cI, 128, .inl o_ways))] → va_S A s.heap H locs → lv_has ls 3 [(0, .ref ao), (1, .int p1), (2, .int b3_v2)] → W p l e ({ frames := 0, cells := 0, slots := 0, locals := 0 } : Room) s m args below meth c H locs 0 0 QQ (F0 m 7 ls []) := by
    intro K hKK n
    induction n with
    | zero =>
      intro b3_v2 b3_w_o_aheadOf H locs ls hf hP hD hS hl
      rw [pX0_begin_L7_z] at hf
      cases hf
    | succ n ih =>
      intro b3_v2 b3_w_o_aheadOf H locs ls hf hP hD hS hl
      rw [pX0_begin_L7_s] at hf
      refine lv_iload_n hx hb dX0_begin_7 rfl (lv_at hl 2 rfl) ?_
      refine lv_bipush (v := 7) hx hb dX0_begin_8 (by decide) ?_
      refine q_icmp_ge hx hb hf 26 dX0_begin_10 (by decide) (fun hf => ?_) (fun hf => ?_)
      · exact hKK _ _ _ _ _ hf hP hD hS (lv_sub hl [0, 1, 2] rfl)
      · refine lv_aload_n hx hb dX0_begin_13 rfl (lv_at hl 0 rfl) ?_
        refine va_get (D := D) (ci := 0) (v := .ref aoaheadOf) (C := RX0) (T := TX0) (N := 3) hx hb hts iX0 hown hK hP 0 rfl rfl 0 (by decide) hF9 (fun _ h9 => h9) rfl dX0_begin_14 ?_
        refine lv_iload_n hx hb dX0_begin_17 rfl (lv_at hl 2 rfl) ?_
        refine lv_iconst (v := 0) hx hb dX0_begin_18 (by decide) ?_
        refine q_iast hx hb hK hP hD hS 1 0 rfl rfl hf dX0_begin_19 (fun g4 H locs hf hP hD hS => ?_)
        have hP : va_P D vwCl [(ao, .inr (0, [.ref aoaheadOf, .ref aoways, .int p1])), (aoaheadOf, .inl (cI, 7, .inl g4)), (aoways, .inl (cI, 128, .inl o_ways))] H := hP
        have hD : va_D A [(ao, .inr (0, [.ref aoaheadOf, .ref aoways, .int p1])), (aoaheadOf, .inl (cI, 7, .inl g4)), (aoways, .inl (cI, 128, .inl o_ways))] := hD
        refine lv_iinc (v := b3_v2 + (1 : Int32)) (lv' := [(2, .int (b3_v2 + (1 : Int32))), (0, .ref ao), (1, .int p1)]) hx hb dX0_begin_20 hl (k := 2) rfl rfl (by decide) rfl (fun ls hl => ?_)
        refine lv_goto (tgt := 7) hx hb dX0_begin_23 (by decide) ?_
        exact ih _ _ _ _ _ hf hP hD hS (lv_sub hl [1, 2, 0] rfl)
  refine hL7 _ (fun k2_v2 k2_w_o_aheadOf H locs ls hf hP hD hS hl => ?_) fu _ _ _ _ _ hf hP hD hS (lv_sub hl [1, 2, 0] rfl)
  have hq9 := Option.some.inj hf
  subst hq9
  exact hRet _ _ _ _ hP hD hS dX0_begin_26
set_option maxHeartbeats 4000000 in
set_option maxRecDepth 100000 in
theorem kX0_mayFollow (l : Launch) (D : va_G) (cI cR : ClassId) (ao aoaheadOf aoways : Nat) (o_aheadOf : Nat → Int32) (o_ways : Nat → Int32) (o_count : Int32) (p1 : Int32) (p2 : Int32) (q : Int32) (hf : pX0_mayFollow o_aheadOf p1 p2 = some q) : CR l yX0_mayFollow wsX0_mayFollow ({ frames := 0, cells := 0, slots := 0, locals := 0 } : Room) D cI cR [.ref ao, .int p1, .int p2] [(ao, .inr (0, [.ref aoaheadOf, .ref aoways, .int o_count])), (aoaheadOf, .inl (cI, 7, .inl o_aheadOf)), (aoways, .inl (cI, 128, .inl o_ways))] (.int q) := by
  refine CRi.intro (cc := cX0_mayFollow) (maxL := 3) (ty := .boolean) (by decide) rfl (Nat.le_of_ble_eq_true rfl) ?_
  intro p e s m args below meth c hx hb hml hts hown hP hK hN QQ hRet ls hl
  have hown : s.vm.findClass RX0 = some m.cls := hown
  have hl : lv_has ls 3 [(0, .ref ao), (1, .int p1), (2, .int p2)] := hl
  have iX0 : ∀ w ∈ u_ws RX0 TX0 3, w ∈ wsX0_mayFollow := by decide +kernel
  have hF9 := hts (.fieldLink RX0 9 "WorldIndex$Orderings" "aheadOf" "[I") (by decide +kernel)
  unfold pX0_mayFollow at hf
  refine lv_iload_n hx hb dX0_mayFollow_0 rfl (lv_at hl 2 rfl) ?_
  refine lv_iload_n hx hb dX0_mayFollow_1 rfl (lv_at hl 1 rfl) ?_
  refine lv_ishr hx hb dX0_mayFollow_2 ?_
  refine lv_iconst (v := 1) hx hb dX0_mayFollow_3 (by decide) ?_
  refine lv_iand hx hb dX0_mayFollow_4 ?_
  refine q_if_ne hx hb hf 25 dX0_mayFollow_5 (by decide) (fun hf => ?_) (fun hf => ?_)
  · refine lv_iconst (v := 0) hx hb dX0_mayFollow_25 (by decide) ?_
    exact hRet _ _ _ (by decide) (Option.some.inj hf) dX0_mayFollow_26
  · refine lv_aload_n hx hb dX0_mayFollow_8 rfl (lv_at hl 0 rfl) ?_
    refine va_get (D := D) (ci := 0) (v := .ref aoaheadOf) (C := RX0) (T := TX0) (N := 3) hx hb hts iX0 hown hK hP 0 rfl rfl 0 (by decide) hF9 (fun _ h9 => h9) rfl dX0_mayFollow_9 ?_
    refine lv_iload_n hx hb dX0_mayFollow_12 rfl (lv_at hl 1 rfl) ?_
    refine q_iald hx hb hK hP 1 0 rfl rfl hf dX0_mayFollow_13 (fun x1 hf => ?_)
    refine lv_iload_n hx hb dX0_mayFollow_14 rfl (lv_at hl 2 rfl) ?_
    refine lv_iconst (v := -1) hx hb dX0_mayFollow_15 (by decide) ?_
    refine lv_ixor hx hb dX0_mayFollow_16 ?_
    refine lv_iand hx hb dX0_mayFollow_17 ?_
    refine q_if_ne hx hb hf 25 dX0_mayFollow_18 (by decide) (fun hf => ?_) (fun hf => ?_)
    · refine lv_iconst (v := 0) hx hb dX0_mayFollow_25 (by decide) ?_
      exact hRet _ _ _ (by decide) (Option.some.inj hf) dX0_mayFollow_26
    · refine lv_iconst (v := 1) hx hb dX0_mayFollow_21 (by decide) ?_
      refine lv_goto (tgt := 26) hx hb dX0_mayFollow_22 (by decide) ?_
      exact hRet _ _ _ (by decide) (Option.some.inj hf) dX0_mayFollow_26
set_option maxHeartbeats 4000000 in
set_option maxRecDepth 100000 in
theorem kX0_waysTo (l : Launch) (D : va_G) (cI cR : ClassId) (ao aoaheadOf aoways : Nat) (o_aheadOf : Nat → Int32) (o_ways : Nat → Int32) (o_count : Int32) (p1 : Int32) (q : Int32) (hf : pX0_waysTo o_aheadOf o_ways o_count p1 = some q) : CR l yX0_waysTo wsX0_waysTo ({ frames := 1, cells := 0, slots := 0, locals := 22 } : Room) D cI cR [.ref ao, .int p1] [(ao, .inr (0, [.ref aoaheadOf, .ref aoways, .int o_count])), (aoaheadOf, .inl (cI, 7, .inl o_aheadOf)), (aoways, .inl (cI, 128, .inl o_ways))] (.int q) := by
  refine CRi.intro (cc := cX0_waysTo) (maxL := 5) (ty := .int) (by decide) rfl (Nat.le_of_ble_eq_true rfl) ?_
  intro p e s m args below meth c hx hb hml hts hown hP hK hN QQ hRet ls hl
  have hown : s.vm.findClass RX0 = some m.cls := hown
  have hl : lv_has ls 5 [(0, .ref ao), (1, .int p1)] := hl
  have iX0 : ∀ w ∈ u_ws RX0 TX0 3, w ∈ wsX0_waysTo := by decide +kernel
  have hF15 := hts (.fieldLink RX0 15 "WorldIndex$Orderings" "ways" "[I") (by decide +kernel)
  have hF18 := hts (.fieldLink RX0 18 "WorldIndex$Orderings" "count" "I") (by decide +kernel)
  unfold pX0_waysTo at hf
  refine lv_iconst (v := 0) hx hb dX0_waysTo_0 (by decide) ?_
  refine lv_istore_n (lv' := [(2, .int ((0 : Int32))), (0, .ref ao), (1, .int p1)]) hx hb dX0_waysTo_1 rfl hl (by decide) rfl (fun ls hl => ?_)
  refine lv_iconst (v := 0) hx hb dX0_waysTo_2 (by decide) ?_
  refine lv_istore_n (lv' := [(3, .int ((0 : Int32))), (2, .int ((0 : Int32))), (0, .ref ao), (1, .int p1)]) hx hb dX0_waysTo_3 rfl hl (by decide) rfl (fun ls hl => ?_)
  have hL4 : ∀ (K : Int32 → Int32 → Option (Int32)) (hKK : ∀ (k4_v2 : Int32) (k4_v3 : Int32) (ls : Array Slot), K k4_v2 k4_v3 = some q → lv_has ls 5 [(0, .ref ao), (1, .int p1), (2, .int k4_v2), (3, .int k4_v3)] → W p l e ({ frames := 1, cells := 0, slots := 0, locals := 22 } : Room) s m args below meth c s.heap [] 0 0 QQ (F0 m 53 ls [])) (n : Nat), ∀ (b5_v2 : Int32) (b5_v3 : Int32) (ls : Array Slot), pX0_waysTo_L4 p1 o_aheadOf o_ways o_count K n b5_v2 b5_v3 = some q → lv_has ls 5 [(0, .ref ao), (1, .int p1), (2, .int b5_v2), (3, .int b5_v3)] → W p l e ({ frames := 1, cells := 0, slots := 0, locals := 22 } : Room) s m args below meth c s.heap [] 0 0 QQ (F0 m 4 ls []) := by
    intro K hKK n
    induction n with
    | zero =>
      intro b5_v2 b5_v3 ls hf hl
      rw [pX0_waysTo_L4_z] at hf
      cases hf
    | succ n ih =>
      intro b5_v2 b5_v3 ls hf hl
      rw [pX0_waysTo_L4_s] at hf
      refine lv_iload_n hx hb dX0_waysTo_4 rfl (lv_at hl 3 rfl) ?_
      refine lv_aload_n hx hb dX0_waysTo_5 rfl (lv_at hl 0 rfl) ?_
      refine va_get (D := D) (ci := 0) (v := .int o_count) (C := RX0) (T := TX0) (N := 3) hx hb hts iX0 hown hK hP 0 rfl rfl 2 (by decide) hF18 (fun _ h9 => h9) rfl dX0_waysTo_6 ?_
      refine q_icmp_ge hx hb hf 53 dX0_waysTo_9 (by decide) (fun hf => ?_) (fun hf => ?_)
      · exact hKK _ _ _ hf (lv_sub hl [0, 1, 2, 3] rfl)
      · refine lv_iload_n hx hb dX0_waysTo_12 rfl (lv_at hl 1 rfl) ?_
        refine lv_iconst (v := 1) hx hb dX0_waysTo_13 (by decide) ?_
        refine lv_iload_n hx hb dX0_waysTo_14 rfl (lv_at hl 3 rfl) ?_
        refine lv_ishl hx hb dX0_waysTo_15 ?_
        refine lv_iconst (v := -1) hx hb dX0_waysTo_16 (by decide) ?_
        refine lv_ixor hx hb dX0_waysTo_17 ?_
        refine lv_iand hx hb dX0_waysTo_18 ?_
        refine lv_istore (lv' := [(4, .int (p1 &&& ((((1 : Int32)) <<< (b5_v3 &&& 31)) ^^^ ((-1 : Int32))))), (0, .ref ao), (1, .int p1), (2, .int b5_v2), (3, .int b5_v3)]) hx hb dX0_waysTo_19 hl (by decide) rfl (fun ls hl => ?_)
        refine lv_iload hx hb dX0_waysTo_21 (lv_at hl 0 rfl) ?_
        refine lv_iload_n hx hb dX0_waysTo_23 rfl (lv_at hl 2 rfl) ?_
        obtain ⟨J47_6, eJ47_6, hf⟩ := q_jn hf
        have hJ47_6 : ∀ (u6_0 : Int32) (ls : Array Slot), J47_6 u6_0 = some q → lv_has ls 5 [(0, .ref ao), (1, .int p1), (2, .int u6_0), (3, .int b5_v3), (4, .int (p1 &&& ((((1 : Int32)) <<< (b5_v3 &&& 31)) ^^^ ((-1 : Int32)))))] → W p l e ({ frames := 1, cells := 0, slots := 0, locals := 22 } : Room) s m args below meth c s.heap [] 0 0 QQ (F0 m 47 ls []) := by
          intro u6_0 ls hf hl
          rw [eJ47_6] at hf
          refine lv_iinc (v := b5_v3 + (1 : Int32)) (lv' := [(3, .int (b5_v3 + (1 : Int32))), (0, .ref ao), (1, .int p1), (2, .int u6_0), (4, .int (p1 &&& ((((1 : Int32)) <<< (b5_v3 &&& 31)) ^^^ ((-1 : Int32)))))]) hx hb dX0_waysTo_47 hl (k := 3) rfl rfl (by decide) rfl (fun ls hl => ?_)
          refine lv_goto (tgt := 4) hx hb dX0_waysTo_50 (by decide) ?_
          exact ih _ _ _ hf (lv_sub hl [1, 2, 3, 0] rfl)
        refine q_icmp_eq hx hb hf 47 dX0_waysTo_24 (by decide) (fun hf => ?_) (fun hf => ?_)
        · exact hJ47_6 _ _ hf (lv_sub hl [1, 2, 3, 4, 0] rfl)
        · refine lv_aload_n hx hb dX0_waysTo_27 rfl (lv_at hl 1 rfl) ?_
          refine lv_iload_n hx hb dX0_waysTo_28 rfl (lv_at hl 4 rfl) ?_
          refine lv_iload hx hb dX0_waysTo_29 (lv_at hl 0 rfl) ?_
          obtain ⟨z7, hz7, hf⟩ := bnd hf
          refine q_rV (rest := []) ⟨hx, hb, hml, hown, hts⟩ (kX0_mayFollow l D cI cR ao aoaheadOf aoways o_aheadOf o_ways o_count b5_v3 (p1 &&& ((((1 : Int32)) <<< (b5_v3 &&& 31)) ^^^ ((-1 : Int32)))) z7 hz7) (cwV 2 hts gX0_waysTo_X0_mayFollow rfl rfl rfl (by decide +kernel) ⟨Nat.le_of_ble_eq_true rfl, Nat.le_of_ble_eq_true rfl⟩) hP hK hN (va_recv hK hP (ci := 0) (q0 := 0) rfl rfl) rfl hl.1 rfl (Nat.le_of_ble_eq_true rfl) dX0_waysTo_31 ⟨Nat.le_of_ble_eq_true rfl, Nat.le_of_ble_eq_true rfl⟩ ?_
          refine q_if_eq hx hb hf 47 dX0_waysTo_34 (by decide) (fun hf => ?_) (fun hf => ?_)
          · exact hJ47_6 _ _ hf (lv_sub hl [1, 2, 3, 4, 0] rfl)
          · refine lv_iload_n hx hb dX0_waysTo_37 rfl (lv_at hl 3 rfl) ?_
            refine lv_aload_n hx hb dX0_waysTo_38 rfl (lv_at hl 1 rfl) ?_
            refine va_get (D := D) (ci := 0) (v := .ref aoways) (C := RX0) (T := TX0) (N := 3) hx hb hts iX0 hown hK hP 0 rfl rfl 1 (by decide) hF15 (fun _ h9 => h9) rfl dX0_waysTo_39 ?_
            refine lv_iload hx hb dX0_waysTo_42 (lv_at hl 0 rfl) ?_
            refine q_iald hx hb hK hP 2 0 rfl rfl hf dX0_waysTo_44 (fun x8 hf => ?_)
            refine lv_iadd hx hb dX0_waysTo_45 ?_
            refine lv_istore_n (lv' := [(2, .int (b5_v2 + x8)), (4, .int (p1 &&& ((((1 : Int32)) <<< (b5_v3 &&& 31)) ^^^ ((-1 : Int32))))), (0, .ref ao), (1, .int p1), (3, .int b5_v3)]) hx hb dX0_waysTo_46 rfl hl (by decide) rfl (fun ls hl => ?_)
            exact hJ47_6 _ _ hf (lv_sub hl [2, 3, 0, 4, 1] rfl)
  refine hL4 _ (fun k4_v2 k4_v3 ls hf hl => ?_) fu _ _ _ hf (lv_sub hl [2, 3, 1, 0] rfl)
  refine lv_iload_n hx hb dX0_waysTo_53 rfl (lv_at hl 2 rfl) ?_
  exact hRet _ _ _ rfl (Option.some.inj hf) dX0_waysTo_54
set_option maxHeartbeats 4000000 in
set_option maxRecDepth 100000 in
theorem kX0_howMany (l : Launch) (D : va_G) (cI cR : ClassId) (ao aoaheadOf aoways : Nat) (o_aheadOf : Nat → Int32) (o_ways : Nat → Int32) (o_count : Int32) (q : Int32 × (Nat → Int32)) (hf : pX0_howMany o_aheadOf o_ways o_count = some q) : CWi l yX0_howMany wsX0_howMany ({ frames := 2, cells := 0, slots := 0, locals := 46 } : Room) D cI cR [.ref ao] [(ao, .inr (0, [.ref aoaheadOf, .ref aoways, .int o_count])), (aoaheadOf, .inl (cI, 7, .inl o_aheadOf)), (aoways, .inl (cI, 128, .inl o_ways))] [(ao, .inr (0, [.ref aoaheadOf, .ref aoways, .int o_count])), (aoaheadOf, .inl (cI, 7, .inl o_aheadOf)), (aoways, .inl (cI, 128, .inl q.2))] q.1 := by
  refine CWi.intro (cc := cX0_howMany) (maxL := 3) (ty := .int) (by decide) rfl (Nat.le_of_ble_eq_true rfl) ?_
  intro p e s m args below meth c hx hb hml hts hown hP hK hN A hA hD hS QQ hRet ls hl
  have hown : s.vm.findClass RX0 = some m.cls := hown
  have hl : lv_has ls 3 [(0, .ref ao)] := hl
  have iX0 : ∀ w ∈ u_ws RX0 TX0 3, w ∈ wsX0_howMany := by decide +kernel
  have hF15 := hts (.fieldLink RX0 15 "WorldIndex$Orderings" "ways" "[I") (by decide +kernel)
  have hF18 := hts (.fieldLink RX0 18 "WorldIndex$Orderings" "count" "I") (by decide +kernel)
  unfold pX0_howMany at hf
  refine lv_iconst (v := 1) hx hb dX0_howMany_0 (by decide) ?_
  refine lv_aload_n hx hb dX0_howMany_1 rfl (lv_at hl 0 rfl) ?_
  refine va_get (D := D) (ci := 0) (v := .int o_count) (C := RX0) (T := TX0) (N := 3) hx hb hts iX0 hown hK hP 0 rfl rfl 2 (by decide) hF18 (fun _ h9 => h9) rfl dX0_howMany_2 ?_
  refine lv_ishl hx hb dX0_howMany_5 ?_
  refine lv_iconst (v := 1) hx hb dX0_howMany_6 (by decide) ?_
  refine lv_isub hx hb dX0_howMany_7 ?_
  refine lv_istore_n (lv' := [(1, .int ((((1 : Int32)) <<< (o_count &&& 31)) - ((1 : Int32)))), (0, .ref ao)]) hx hb dX0_howMany_8 rfl hl (by decide) rfl (fun ls hl => ?_)
  refine lv_aload_n hx hb dX0_howMany_9 rfl (lv_at hl 1 rfl) ?_
  refine va_get (D := D) (ci := 0) (v := .ref aoways) (C := RX0) (T := TX0) (N := 3) hx hb hts iX0 hown hK hP 0 rfl rfl 1 (by decide) hF15 (fun _ h9 => h9) rfl dX0_howMany_10 ?_
  refine lv_iconst (v := 0) hx hb dX0_howMany_13 (by decide) ?_
  refine lv_iconst (v := 1) hx hb dX0_howMany_14 (by decide) ?_
  refine q_iast hx hb hK hP hD hS 2 0 rfl rfl hf dX0_howMany_15 (fun g1 H locs hf hP hD hS => ?_)
  have hP : va_P D vwCl [(ao, .inr (0, [.ref aoaheadOf, .ref aoways, .int o_count])), (aoaheadOf, .inl (cI, 7, .inl o_aheadOf)), (aoways, .inl (cI, 128, .inl g1))] H := hP
  have hD : va_D A [(ao, .inr (0, [.ref aoaheadOf, .ref aoways, .int o_count])), (aoaheadOf, .inl (cI, 7, .inl o_aheadOf)), (aoways, .inl (cI, 128, .inl g1))] := hD
  refine lv_iconst (v := 1) hx hb dX0_howMany_16 (by decide) ?_
  refine lv_istore_n (lv' := [(2, .int ((1 : Int32))), (1, .int ((((1 : Int32)) <<< (o_count &&& 31)) - ((1 : Int32)))), (0, .ref ao)]) hx hb dX0_howMany_17 rfl hl (by decide) rfl (fun ls hl => ?_)
  have hL18 : ∀ (K : Int32 → (Nat → Int32) → Option (Int32 × (Nat → Int32))) (hKK : ∀ (k4_v2 : Int32) (k4_w_o_ways : Nat → Int32) (H : Heap) (locs : List Loc) (ls : Array Slot), K k4_v2 k4_w_o_ways = some q → va_P D vwCl [(ao, .inr (0, [.ref aoaheadOf, .ref aoways, .int o_count])), (aoaheadOf, .inl (cI, 7, .inl o_aheadOf)), (aoways, .inl (cI, 128, .inl k4_w_o_ways))] H → va_D A [(ao, .inr (0, [.ref aoaheadOf, .ref aoways, .int o_count])), (aoaheadOf, .inl (cI, 7, .inl o_aheadOf)), (aoways, .inl (cI, 128, .inl k4_w_o_ways))] → va_S A s.heap H locs → lv_has ls 3 [(0, .ref ao), (1, .int ((((1 : Int32)) <<< (o_count &&& 31)) - ((1 : Int32)))), (2, .int k4_v2)] → W p l e ({ frames := 2, cells := 0, slots := 0, locals := 46 } : Room) s m args below meth c H locs 0 0 QQ (F0 m 40 ls [])) (n : Nat), ∀ (b6_v2 : Int32) (b6_w_o_ways : Nat → Int32) (H : Heap) (locs : List Loc) (ls : Array Slot), pX0_howMany_L18 ((((1 : Int32)) <<< (o_count &&& 31)) - ((1 : Int32))) o_aheadOf o_count K n b6_v2 b6_w_o_ways = some q → va_P D vwCl [(ao, .inr (0, [.ref aoaheadOf, .ref aoways, .int o_count])), (aoaheadOf, .inl (cI, 7, .inl o_aheadOf)), (aoways, .inl (cI, 128, .inl b6_w_o_ways))] H → va_D A [(ao, .inr (0, [.ref aoaheadOf, .ref aoways, .int o_count])), (aoaheadOf, .inl (cI, 7, .inl o_aheadOf)), (aoways, .inl (cI, 128, .inl b6_w_o_ways))] → va_S A s.heap H locs → lv_has ls 3 [(0, .ref ao), (1, .int ((((1 : Int32)) <<< (o_count &&& 31)) - ((1 : Int32)))), (2, .int b6_v2)] → W p l e ({ frames := 2, cells := 0, slots := 0, locals := 46 } : Room) s m args below meth c H locs 0 0 QQ (F0 m 18 ls []) := by
    intro K hKK n
    induction n with
    | zero =>
      intro b6_v2 b6_w_o_ways H locs ls hf hP hD hS hl
      rw [pX0_howMany_L18_z] at hf
      cases hf
    | succ n ih =>
      intro b6_v2 b6_w_o_ways H locs ls hf hP hD hS hl
      rw [pX0_howMany_L18_s] at hf
      refine lv_iload_n hx hb dX0_howMany_18 rfl (lv_at hl 2 rfl) ?_
      refine lv_iload_n hx hb dX0_howMany_19 rfl (lv_at hl 1 rfl) ?_
      refine q_icmp_gt hx hb hf 40 dX0_howMany_20 (by decide) (fun hf => ?_) (fun hf => ?_)
      · exact hKK _ _ _ _ _ hf hP hD hS (lv_sub hl [0, 1, 2] rfl)
      · refine lv_aload_n hx hb dX0_howMany_23 rfl (lv_at hl 0 rfl) ?_
        refine va_get (D := D) (ci := 0) (v := .ref aoways) (C := RX0) (T := TX0) (N := 3) hx hb hts iX0 hown hK hP 0 rfl rfl 1 (by decide) hF15 (fun _ h9 => h9) rfl dX0_howMany_24 ?_
        refine lv_iload_n hx hb dX0_howMany_27 rfl (lv_at hl 2 rfl) ?_
        refine lv_aload_n hx hb dX0_howMany_28 rfl (lv_at hl 0 rfl) ?_
        refine lv_iload_n hx hb dX0_howMany_29 rfl (lv_at hl 2 rfl) ?_
        obtain ⟨z7, hz7, hf⟩ := bnd hf
        refine q_rV (rest := [.int b6_v2, .ref aoways]) ⟨hx, hb, hml, hown, hts⟩ (kX0_waysTo l D cI cR ao aoaheadOf aoways o_aheadOf b6_w_o_ways o_count b6_v2 z7 hz7) (cwV 1 hts gX0_howMany_X0_waysTo rfl rfl rfl (by decide +kernel) ⟨Nat.le_of_ble_eq_true rfl, Nat.le_of_ble_eq_true rfl⟩) hP hK hN (va_recv hK hP (ci := 0) (q0 := 0) rfl rfl) rfl hl.1 rfl (Nat.le_of_ble_eq_true rfl) dX0_howMany_30 ⟨Nat.le_of_ble_eq_true rfl, Nat.le_of_ble_eq_true rfl⟩ ?_
        refine q_iast hx hb hK hP hD hS 2 0 rfl rfl hf dX0_howMany_33 (fun g8 H locs hf hP hD hS => ?_)
        have hP : va_P D vwCl [(ao, .inr (0, [.ref aoaheadOf, .ref aoways, .int o_count])), (aoaheadOf, .inl (cI, 7, .inl o_aheadOf)), (aoways, .inl (cI, 128, .inl g8))] H := hP
        have hD : va_D A [(ao, .inr (0, [.ref aoaheadOf, .ref aoways, .int o_count])), (aoaheadOf, .inl (cI, 7, .inl o_aheadOf)), (aoways, .inl (cI, 128, .inl g8))] := hD
        refine lv_iinc (v := b6_v2 + (1 : Int32)) (lv' := [(2, .int (b6_v2 + (1 : Int32))), (0, .ref ao), (1, .int ((((1 : Int32)) <<< (o_count &&& 31)) - ((1 : Int32))))]) hx hb dX0_howMany_34 hl (k := 2) rfl rfl (by decide) rfl (fun ls hl => ?_)
        refine lv_goto (tgt := 18) hx hb dX0_howMany_37 (by decide) ?_
        exact ih _ _ _ _ _ hf hP hD hS (lv_sub hl [1, 2, 0] rfl)
  refine hL18 _ (fun k4_v2 k4_w_o_ways H locs ls hf hP hD hS hl => ?_) fu _ _ _ _ _ hf hP hD hS (lv_sub hl [2, 1, 0] rfl)
  refine lv_aload_n hx hb dX0_howMany_40 rfl (lv_at hl 0 rfl) ?_
  refine va_get (D := D) (ci := 0) (v := .ref aoways) (C := RX0) (T := TX0) (N := 3) hx hb hts iX0 hown hK hP 0 rfl rfl 1 (by decide) hF15 (fun _ h9 => h9) rfl dX0_howMany_41 ?_
  refine lv_iload_n hx hb dX0_howMany_44 rfl (lv_at hl 1 rfl) ?_
  refine q_iald hx hb hK hP 2 0 rfl rfl hf dX0_howMany_45 (fun x5 hf => ?_)
  have hq9 := Option.some.inj hf
  subst hq9
  exact hRet _ _ _ _ _ rfl rfl hP hD hS dX0_howMany_46
set_option maxHeartbeats 4000000 in
set_option maxRecDepth 100000 in
theorem kX0_leastThatMayFollow (l : Launch) (D : va_G) (cI cR : ClassId) (ao aoaheadOf aoways : Nat) (o_aheadOf : Nat → Int32) (o_ways : Nat → Int32) (o_count : Int32) (p1 : Int32) (q : Int32) (hf : pX0_leastThatMayFollow o_aheadOf o_count p1 = some q) : CR l yX0_leastThatMayFollow wsX0_leastThatMayFollow ({ frames := 1, cells := 0, slots := 0, locals := 22 } : Room) D cI cR [.ref ao, .int p1] [(ao, .inr (0, [.ref aoaheadOf, .ref aoways, .int o_count])), (aoaheadOf, .inl (cI, 7, .inl o_aheadOf)), (aoways, .inl (cI, 128, .inl o_ways))] (.int q) := by
  refine CRi.intro (cc := cX0_leastThatMayFollow) (maxL := 3) (ty := .int) (by decide) rfl (Nat.le_of_ble_eq_true rfl) ?_
  intro p e s m args below meth c hx hb hml hts hown hP hK hN QQ hRet ls hl
  have hown : s.vm.findClass RX0 = some m.cls := hown
  have hl : lv_has ls 3 [(0, .ref ao), (1, .int p1)] := hl
  have iX0 : ∀ w ∈ u_ws RX0 TX0 3, w ∈ wsX0_leastThatMayFollow := by decide +kernel
  have hF18 := hts (.fieldLink RX0 18 "WorldIndex$Orderings" "count" "I") (by decide +kernel)
  unfold pX0_leastThatMayFollow at hf
  refine lv_iconst (v := 0) hx hb dX0_leastThatMayFollow_0 (by decide) ?_
  refine lv_istore_n (lv' := [(2, .int ((0 : Int32))), (0, .ref ao), (1, .int p1)]) hx hb dX0_leastThatMayFollow_1 rfl hl (by decide) rfl (fun ls hl => ?_)
  have hL2 : ∀ (K : Int32 → Option (Int32)) (hKK : ∀ (k2_v2 : Int32) (ls : Array Slot), K k2_v2 = some q → lv_has ls 3 [(0, .ref ao), (1, .int p1), (2, .int k2_v2)] → W p l e ({ frames := 1, cells := 0, slots := 0, locals := 22 } : Room) s m args below meth c s.heap [] 0 0 QQ (F0 m 27 ls [])) (n : Nat), ∀ (b3_v2 : Int32) (ls : Array Slot), pX0_leastThatMayFollow_L2 p1 o_aheadOf o_count K n b3_v2 = some q → lv_has ls 3 [(0, .ref ao), (1, .int p1), (2, .int b3_v2)] → W p l e ({ frames := 1, cells := 0, slots := 0, locals := 22 } : Room) s m args below meth c s.heap [] 0 0 QQ (F0 m 2 ls []) := by
    intro K hKK n
    induction n with
    | zero =>
      intro b3_v2 ls hf hl
      rw [pX0_leastThatMayFollow_L2_z] at hf
      cases hf
    | succ n ih =>
      intro b3_v2 ls hf hl
      rw [pX0_leastThatMayFollow_L2_s] at hf
      refine lv_iload_n hx hb dX0_leastThatMayFollow_2 rfl (lv_at hl 2 rfl) ?_
      refine lv_aload_n hx hb dX0_leastThatMayFollow_3 rfl (lv_at hl 0 rfl) ?_
      refine va_get (D := D) (ci := 0) (v := .int o_count) (C := RX0) (T := TX0) (N := 3) hx hb hts iX0 hown hK hP 0 rfl rfl 2 (by decide) hF18 (fun _ h9 => h9) rfl dX0_leastThatMayFollow_4 ?_
      refine q_icmp_ge hx hb hf 27 dX0_leastThatMayFollow_7 (by decide) (fun hf => ?_) (fun hf => ?_)
      · exact hKK _ _ hf (lv_sub hl [0, 1, 2] rfl)
      · refine lv_aload_n hx hb dX0_leastThatMayFollow_10 rfl (lv_at hl 0 rfl) ?_
        refine lv_iload_n hx hb dX0_leastThatMayFollow_11 rfl (lv_at hl 2 rfl) ?_
        refine lv_iload_n hx hb dX0_leastThatMayFollow_12 rfl (lv_at hl 1 rfl) ?_
        obtain ⟨z4, hz4, hf⟩ := bnd hf
        refine q_rV (rest := []) ⟨hx, hb, hml, hown, hts⟩ (kX0_mayFollow l D cI cR ao aoaheadOf aoways o_aheadOf o_ways o_count b3_v2 p1 z4 hz4) (cwV 2 hts gX0_leastThatMayFollow_X0_mayFollow rfl rfl rfl (by decide +kernel) ⟨Nat.le_of_ble_eq_true rfl, Nat.le_of_ble_eq_true rfl⟩) hP hK hN (va_recv hK hP (ci := 0) (q0 := 0) rfl rfl) rfl hl.1 rfl (Nat.le_of_ble_eq_true rfl) dX0_leastThatMayFollow_13 ⟨Nat.le_of_ble_eq_true rfl, Nat.le_of_ble_eq_true rfl⟩ ?_
        refine q_if_eq hx hb hf 21 dX0_leastThatMayFollow_16 (by decide) (fun hf => ?_) (fun hf => ?_)
        · refine lv_iinc (v := b3_v2 + (1 : Int32)) (lv' := [(2, .int (b3_v2 + (1 : Int32))), (0, .ref ao), (1, .int p1)]) hx hb dX0_leastThatMayFollow_21 hl (k := 2) rfl rfl (by decide) rfl (fun ls hl => ?_)
          refine lv_goto (tgt := 2) hx hb dX0_leastThatMayFollow_24 (by decide) ?_
          exact ih _ _ hf (lv_sub hl [1, 2, 0] rfl)
        · refine lv_iload_n hx hb dX0_leastThatMayFollow_19 rfl (lv_at hl 2 rfl) ?_
          exact hRet _ _ _ rfl (Option.some.inj hf) dX0_leastThatMayFollow_20
  refine hL2 _ (fun k2_v2 ls hf hl => ?_) fu _ _ hf (lv_sub hl [1, 2, 0] rfl)
  refine lv_bipush (v := -9) hx hb dX0_leastThatMayFollow_27 (by decide) ?_
  exact hRet _ _ _ rfl (Option.some.inj hf) dX0_leastThatMayFollow_29
set_option maxHeartbeats 4000000 in
set_option maxRecDepth 100000 in
theorem kX0_firstAt (l : Launch) (D : va_G) (cI cR : ClassId) (ao aoaheadOf aoways : Nat) (o_aheadOf : Nat → Int32) (o_ways : Nat → Int32) (o_count : Int32) (p1 : Int32) (q : Int32 × (Nat → Int32)) (hf : pX0_firstAt o_aheadOf o_ways o_count p1 = some q) : CWi l yX0_firstAt wsX0_firstAt ({ frames := 3, cells := 0, slots := 0, locals := 68 } : Room) D cI cR [.ref ao, .int p1] [(ao, .inr (0, [.ref aoaheadOf, .ref aoways, .int o_count])), (aoaheadOf, .inl (cI, 7, .inl o_aheadOf)), (aoways, .inl (cI, 128, .inl o_ways))] [(ao, .inr (0, [.ref aoaheadOf, .ref aoways, .int o_count])), (aoaheadOf, .inl (cI, 7, .inl o_aheadOf)), (aoways, .inl (cI, 128, .inl q.2))] q.1 := by
  refine CWi.intro (cc := cX0_firstAt) (maxL := 5) (ty := .int) (by decide) rfl (Nat.le_of_ble_eq_true rfl) ?_
  intro p e s m args below meth c hx hb hml hts hown hP hK hN A hA hD hS QQ hRet ls hl
  have hown : s.vm.findClass RX0 = some m.cls := hown
  have hl : lv_has ls 5 [(0, .ref ao), (1, .int p1)] := hl
  have iX0 : ∀ w ∈ u_ws RX0 TX0 3, w ∈ wsX0_firstAt := by decide +kernel
  have hF18 := hts (.fieldLink RX0 18 "WorldIndex$Orderings" "count" "I") (by decide +kernel)
  unfold pX0_firstAt at hf
  refine lv_iload_n hx hb dX0_firstAt_0 rfl (lv_at hl 1 rfl) ?_
  refine lv_aload_n hx hb dX0_firstAt_1 rfl (lv_at hl 0 rfl) ?_
  refine va_get (D := D) (ci := 0) (v := .int o_count) (C := RX0) (T := TX0) (N := 3) hx hb hts iX0 hown hK hP 0 rfl rfl 2 (by decide) hF18 (fun _ h9 => h9) rfl dX0_firstAt_2 ?_
  refine q_icmp_ge hx hb hf 15 dX0_firstAt_5 (by decide) (fun hf => ?_) (fun hf => ?_)
  · refine lv_bipush (v := -9) hx hb dX0_firstAt_15 (by decide) ?_
    have hq9 := Option.some.inj hf
    subst hq9
    exact hRet _ _ _ _ _ rfl rfl hP hD hS dX0_firstAt_17
  · refine lv_aload_n hx hb dX0_firstAt_8 rfl (lv_at hl 0 rfl) ?_
    obtain ⟨z1, hz1, hf⟩ := bnd hf
    refine q_wVi (wr := []) (rest := []) ⟨hx, hb, hml, hown, hts⟩ (kX0_howMany l D cI cR ao aoaheadOf aoways o_aheadOf o_ways o_count z1 hz1) (cwV 0 hts gX0_firstAt_X0_howMany rfl rfl rfl (by decide +kernel) ⟨Nat.le_of_ble_eq_true rfl, Nat.le_of_ble_eq_true rfl⟩) hP hD hS hA hK hN [0, 1, 2] [] rfl rfl (by decide) (by decide) (by decide) (va_recv hK hP (ci := 0) (q0 := 0) rfl rfl) rfl hl.1 rfl (Nat.le_of_ble_eq_true rfl) dX0_firstAt_9 ⟨Nat.le_of_ble_eq_true rfl, Nat.le_of_ble_eq_true rfl⟩ (fun H locs hP hD hS => ?_)
    have hP : va_P D vwCl [(ao, .inr (0, [.ref aoaheadOf, .ref aoways, .int o_count])), (aoaheadOf, .inl (cI, 7, .inl o_aheadOf)), (aoways, .inl (cI, 128, .inl z1.2))] H := hP
    have hD : va_D A [(ao, .inr (0, [.ref aoaheadOf, .ref aoways, .int o_count])), (aoaheadOf, .inl (cI, 7, .inl o_aheadOf)), (aoways, .inl (cI, 128, .inl z1.2))] := hD
    refine q_if_ne hx hb hf 18 dX0_firstAt_12 (by decide) (fun hf => ?_) (fun hf => ?_)
    · refine lv_iconst (v := 0) hx hb dX0_firstAt_18 (by decide) ?_
      refine lv_istore_n (lv' := [(2, .int ((0 : Int32))), (0, .ref ao), (1, .int p1)]) hx hb dX0_firstAt_19 rfl hl (by decide) rfl (fun ls hl => ?_)
      refine lv_bipush (v := -9) hx hb dX0_firstAt_20 (by decide) ?_
      refine lv_istore_n (lv' := [(3, .int ((-9 : Int32))), (2, .int ((0 : Int32))), (0, .ref ao), (1, .int p1)]) hx hb dX0_firstAt_22 rfl hl (by decide) rfl (fun ls hl => ?_)
      refine lv_iconst (v := 0) hx hb dX0_firstAt_23 (by decide) ?_
      refine lv_istore (lv' := [(4, .int ((0 : Int32))), (3, .int ((-9 : Int32))), (2, .int ((0 : Int32))), (0, .ref ao), (1, .int p1)]) hx hb dX0_firstAt_24 hl (by decide) rfl (fun ls hl => ?_)
      have hL26 : ∀ (K : Int32 → Int32 → Int32 → Option (Int32 × (Nat → Int32))) (hKK : ∀ (k3_v2 : Int32) (k3_v3 : Int32) (k3_v4 : Int32) (H : Heap) (locs : List Loc) (ls : Array Slot), K k3_v2 k3_v3 k3_v4 = some q → va_P D vwCl [(ao, .inr (0, [.ref aoaheadOf, .ref aoways, .int o_count])), (aoaheadOf, .inl (cI, 7, .inl o_aheadOf)), (aoways, .inl (cI, 128, .inl z1.2))] H → va_D A [(ao, .inr (0, [.ref aoaheadOf, .ref aoways, .int o_count])), (aoaheadOf, .inl (cI, 7, .inl o_aheadOf)), (aoways, .inl (cI, 128, .inl z1.2))] → va_S A s.heap H locs → lv_has ls 5 [(0, .ref ao), (1, .int p1), (2, .int k3_v2), (3, .int k3_v3), (4, .int k3_v4)] → W p l e ({ frames := 3, cells := 0, slots := 0, locals := 68 } : Room) s m args below meth c H locs 0 0 QQ (F0 m 59 ls [])) (n : Nat), ∀ (b4_v2 : Int32) (b4_v3 : Int32) (b4_v4 : Int32) (H : Heap) (locs : List Loc) (ls : Array Slot), pX0_firstAt_L26 p1 o_aheadOf z1.2 o_count K n b4_v2 b4_v3 b4_v4 = some q → va_P D vwCl [(ao, .inr (0, [.ref aoaheadOf, .ref aoways, .int o_count])), (aoaheadOf, .inl (cI, 7, .inl o_aheadOf)), (aoways, .inl (cI, 128, .inl z1.2))] H → va_D A [(ao, .inr (0, [.ref aoaheadOf, .ref aoways, .int o_count])), (aoaheadOf, .inl (cI, 7, .inl o_aheadOf)), (aoways, .inl (cI, 128, .inl z1.2))] → va_S A s.heap H locs → lv_has ls 5 [(0, .ref ao), (1, .int p1), (2, .int b4_v2), (3, .int b4_v3), (4, .int b4_v4)] → W p l e ({ frames := 3, cells := 0, slots := 0, locals := 68 } : Room) s m args below meth c H locs 0 0 QQ (F0 m 26 ls []) := by
        intro K hKK n
        induction n with
        | zero =>
          intro b4_v2 b4_v3 b4_v4 H locs ls hf hP hD hS hl
          rw [pX0_firstAt_L26_z] at hf
          cases hf
        | succ n ih =>
          intro b4_v2 b4_v3 b4_v4 H locs ls hf hP hD hS hl
          rw [pX0_firstAt_L26_s] at hf
          refine lv_iload hx hb dX0_firstAt_26 (lv_at hl 4 rfl) ?_
          refine lv_iload_n hx hb dX0_firstAt_28 rfl (lv_at hl 1 rfl) ?_
          refine q_icmp_gt hx hb hf 59 dX0_firstAt_29 (by decide) (fun hf => ?_) (fun hf => ?_)
          · exact hKK _ _ _ _ _ _ hf hP hD hS (lv_sub hl [0, 1, 2, 3, 4] rfl)
          · refine lv_aload_n hx hb dX0_firstAt_32 rfl (lv_at hl 0 rfl) ?_
            refine lv_iload_n hx hb dX0_firstAt_33 rfl (lv_at hl 2 rfl) ?_
            obtain ⟨z5, hz5, hf⟩ := bnd hf
            refine q_rV (rest := []) ⟨hx, hb, hml, hown, hts⟩ (kX0_leastThatMayFollow l D cI cR ao aoaheadOf aoways o_aheadOf z1.2 o_count b4_v2 z5 hz5) (cwV 1 hts gX0_firstAt_X0_leastThatMayFollow rfl rfl rfl (by decide +kernel) ⟨Nat.le_of_ble_eq_true rfl, Nat.le_of_ble_eq_true rfl⟩) hP hK hN (va_recv hK hP (ci := 0) (q0 := 0) rfl rfl) rfl hl.1 rfl (Nat.le_of_ble_eq_true rfl) dX0_firstAt_34 ⟨Nat.le_of_ble_eq_true rfl, Nat.le_of_ble_eq_true rfl⟩ ?_
            refine lv_istore_n (lv' := [(3, .int z5), (0, .ref ao), (1, .int p1), (2, .int b4_v2), (4, .int b4_v4)]) hx hb dX0_firstAt_37 rfl hl (by decide) rfl (fun ls hl => ?_)
            refine lv_iload_n hx hb dX0_firstAt_38 rfl (lv_at hl 0 rfl) ?_
            refine lv_bipush (v := -9) hx hb dX0_firstAt_39 (by decide) ?_
            refine q_icmp_ne hx hb hf 47 dX0_firstAt_41 (by decide) (fun hf => ?_) (fun hf => ?_)
            · refine lv_iload_n hx hb dX0_firstAt_47 rfl (lv_at hl 3 rfl) ?_
              refine lv_iconst (v := 1) hx hb dX0_firstAt_48 (by decide) ?_
              refine lv_iload_n hx hb dX0_firstAt_49 rfl (lv_at hl 0 rfl) ?_
              refine lv_ishl hx hb dX0_firstAt_50 ?_
              refine lv_ior hx hb dX0_firstAt_51 ?_
              refine lv_istore_n (lv' := [(2, .int (b4_v2 ||| (((1 : Int32)) <<< (z5 &&& 31)))), (3, .int z5), (0, .ref ao), (1, .int p1), (4, .int b4_v4)]) hx hb dX0_firstAt_52 rfl hl (by decide) rfl (fun ls hl => ?_)
              refine lv_iinc (v := b4_v4 + (1 : Int32)) (lv' := [(4, .int (b4_v4 + (1 : Int32))), (2, .int (b4_v2 ||| (((1 : Int32)) <<< (z5 &&& 31)))), (3, .int z5), (0, .ref ao), (1, .int p1)]) hx hb dX0_firstAt_53 hl (k := 4) rfl rfl (by decide) rfl (fun ls hl => ?_)
              refine lv_goto (tgt := 26) hx hb dX0_firstAt_56 (by decide) ?_
              exact ih _ _ _ _ _ _ hf hP hD hS (lv_sub hl [3, 4, 1, 2, 0] rfl)
            · refine lv_bipush (v := -9) hx hb dX0_firstAt_44 (by decide) ?_
              have hq9 := Option.some.inj hf
              subst hq9
              exact hRet _ _ _ _ _ rfl rfl hP hD hS dX0_firstAt_46
      refine hL26 _ (fun k3_v2 k3_v3 k3_v4 H locs ls hf hP hD hS hl => ?_) fu _ _ _ _ _ _ hf hP hD hS (lv_sub hl [3, 4, 2, 1, 0] rfl)
      refine lv_iload_n hx hb dX0_firstAt_59 rfl (lv_at hl 3 rfl) ?_
      have hq9 := Option.some.inj hf
      subst hq9
      exact hRet _ _ _ _ _ rfl rfl hP hD hS dX0_firstAt_60
    · refine lv_bipush (v := -9) hx hb dX0_firstAt_15 (by decide) ?_
      have hq9 := Option.some.inj hf
      subst hq9
      exact hRet _ _ _ _ _ rfl rfl hP hD hS dX0_firstAt_17
set_option maxHeartbeats 4000000 in
set_option maxRecDepth 100000 in
theorem kX0_putAhead (l : Launch) (D : va_G) (cI cR : ClassId) (ao aoaheadOf aoways : Nat) (o_aheadOf : Nat → Int32) (o_ways : Nat → Int32) (o_count : Int32) (p1 : Int32) (p2 : Int32) (q : (Nat → Int32)) (hf : pX0_putAhead o_aheadOf p1 p2 = some q) : CWv l yX0_putAhead wsX0_putAhead ({ frames := 0, cells := 0, slots := 0, locals := 0 } : Room) D cI cR [.ref ao, .int p1, .int p2] [(ao, .inr (0, [.ref aoaheadOf, .ref aoways, .int o_count])), (aoaheadOf, .inl (cI, 7, .inl o_aheadOf)), (aoways, .inl (cI, 128, .inl o_ways))] [(ao, .inr (0, [.ref aoaheadOf, .ref aoways, .int o_count])), (aoaheadOf, .inl (cI, 7, .inl q)), (aoways, .inl (cI, 128, .inl o_ways))] := by
  refine CWv.intro (cc := cX0_putAhead) (maxL := 3) (by decide) rfl (Nat.le_of_ble_eq_true rfl) ?_
  intro p e s m args below meth c hx hb hml hts hown hP hK hN A hA hD hS QQ hRet ls hl
  have hown : s.vm.findClass RX0 = some m.cls := hown
  have hl : lv_has ls 3 [(0, .ref ao), (1, .int p1), (2, .int p2)] := hl
  have iX0 : ∀ w ∈ u_ws RX0 TX0 3, w ∈ wsX0_putAhead := by decide +kernel
  have hF9 := hts (.fieldLink RX0 9 "WorldIndex$Orderings" "aheadOf" "[I") (by decide +kernel)
  unfold pX0_putAhead at hf
  refine lv_aload_n hx hb dX0_putAhead_0 rfl (lv_at hl 0 rfl) ?_
  refine va_get (D := D) (ci := 0) (v := .ref aoaheadOf) (C := RX0) (T := TX0) (N := 3) hx hb hts iX0 hown hK hP 0 rfl rfl 0 (by decide) hF9 (fun _ h9 => h9) rfl dX0_putAhead_1 ?_
  refine lv_iload_n hx hb dX0_putAhead_4 rfl (lv_at hl 2 rfl) ?_
  refine lv_dup2_11 hx hb dX0_putAhead_5 rfl rfl ?_
  refine q_iald hx hb hK hP 1 0 rfl rfl hf dX0_putAhead_6 (fun x1 hf => ?_)
  refine lv_iconst (v := 1) hx hb dX0_putAhead_7 (by decide) ?_
  refine lv_iload_n hx hb dX0_putAhead_8 rfl (lv_at hl 1 rfl) ?_
  refine lv_ishl hx hb dX0_putAhead_9 ?_
  refine lv_ior hx hb dX0_putAhead_10 ?_
  refine q_iast hx hb hK hP hD hS 1 0 rfl rfl hf dX0_putAhead_11 (fun g2 H locs hf hP hD hS => ?_)
  have hP : va_P D vwCl [(ao, .inr (0, [.ref aoaheadOf, .ref aoways, .int o_count])), (aoaheadOf, .inl (cI, 7, .inl g2)), (aoways, .inl (cI, 128, .inl o_ways))] H := hP
  have hD : va_D A [(ao, .inr (0, [.ref aoaheadOf, .ref aoways, .int o_count])), (aoaheadOf, .inl (cI, 7, .inl g2)), (aoways, .inl (cI, 128, .inl o_ways))] := hD
  have hq9 := Option.some.inj hf
  subst hq9
  exact hRet _ _ _ _ hP hD hS dX0_putAhead_12
set_option maxHeartbeats 4000000 in
set_option maxRecDepth 100000 in
theorem kX4_isWet (l : Launch) (D : va_G) (cI cR : ClassId) (as askind aspage asasked assent : Nat) (s_kind : Nat → Int32) (s_page : Nat → Int32) (s_asked : Nat → Int32) (s_sent : Nat → Int32) (s_count : Int32) (s_wetSet : Int32) (p1 : Int32) (q : Int32) (hf : pX4_isWet s_wetSet p1 = q) : CR l yX4_isWet wsX4_isWet ({ frames := 0, cells := 0, slots := 0, locals := 0 } : Room) D cI cR [.ref as, .int p1] [(as, .inr (4, [.ref askind, .ref aspage, .ref asasked, .ref assent, .int s_count, .int s_wetSet])), (askind, .inl (cI, 7, .inl s_kind)), (aspage, .inl (cI, 7, .inl s_page)), (asasked, .inl (cI, 7, .inl s_asked)), (assent, .inl (cI, 7, .inl s_sent))] (.int q) := by
  refine CRi.intro (cc := cX4_isWet) (maxL := 2) (ty := .boolean) (by decide) rfl (Nat.le_of_ble_eq_true rfl) ?_
  intro p e s m args below meth c hx hb hml hts hown hP hK hN QQ hRet ls hl
  have hown : s.vm.findClass RX4 = some m.cls := hown
  have hl : lv_has ls 2 [(0, .ref as), (1, .int p1)] := hl
  have iX4 : ∀ w ∈ u_ws RX4 TX4 6, w ∈ wsX4_isWet := by decide +kernel
  have hF34 := hts (.fieldLink RX4 34 "WorldIndex$Slips" "wetSet" "I") (by decide +kernel)
  unfold pX4_isWet at hf
  refine lv_aload_n hx hb dX4_isWet_0 rfl (lv_at hl 0 rfl) ?_
  refine va_get (D := D) (ci := 4) (v := .int s_wetSet) (C := RX4) (T := TX4) (N := 6) hx hb hts iX4 hown hK hP 0 rfl rfl 5 (by decide) hF34 (fun _ h9 => h9) rfl dX4_isWet_1 ?_
  refine lv_iload_n hx hb dX4_isWet_4 rfl (lv_at hl 1 rfl) ?_
  refine lv_ishr hx hb dX4_isWet_5 ?_
  refine lv_iconst (v := 1) hx hb dX4_isWet_6 (by decide) ?_
  refine lv_iand hx hb dX4_isWet_7 ?_
  refine lv_iconst (v := 1) hx hb dX4_isWet_8 (by decide) ?_
  refine q_icmp_ne hx hb hf 16 dX4_isWet_9 (by decide) (fun hf => ?_) (fun hf => ?_)
  · refine lv_iconst (v := 0) hx hb dX4_isWet_16 (by decide) ?_
    exact hRet _ _ _ (by decide) hf dX4_isWet_17
  · refine lv_iconst (v := 1) hx hb dX4_isWet_12 (by decide) ?_
    refine lv_goto (tgt := 17) hx hb dX4_isWet_13 (by decide) ?_
    exact hRet _ _ _ (by decide) hf dX4_isWet_17
set_option maxHeartbeats 4000000 in
set_option maxRecDepth 100000 in
theorem kX4_looksOf (l : Launch) (D : va_G) (cI cR : ClassId) (as askind aspage asasked assent : Nat) (s_kind : Nat → Int32) (s_page : Nat → Int32) (s_asked : Nat → Int32) (s_sent : Nat → Int32) (s_count : Int32) (s_wetSet : Int32) (p1 : Int32) (q : Int32) (hf : pX4_looksOf s_sent s_count s_wetSet p1 = some q) : CR l yX4_looksOf wsX4_looksOf ({ frames := 1, cells := 0, slots := 0, locals := 21 } : Room) D cI cR [.ref as, .int p1] [(as, .inr (4, [.ref askind, .ref aspage, .ref asasked, .ref assent, .int s_count, .int s_wetSet])), (askind, .inl (cI, 7, .inl s_kind)), (aspage, .inl (cI, 7, .inl s_page)), (asasked, .inl (cI, 7, .inl s_asked)), (assent, .inl (cI, 7, .inl s_sent))] (.int q) := by
  refine CRi.intro (cc := cX4_looksOf) (maxL := 4) (ty := .int) (by decide) rfl (Nat.le_of_ble_eq_true rfl) ?_
  intro p e s m args below meth c hx hb hml hts hown hP hK hN QQ hRet ls hl
  have hown : s.vm.findClass RX4 = some m.cls := hown
  have hl : lv_has ls 4 [(0, .ref as), (1, .int p1)] := hl
  have iX4 : ∀ w ∈ u_ws RX4 TX4 6, w ∈ wsX4_looksOf := by decide +kernel
  have hF21 := hts (.fieldLink RX4 21 "WorldIndex$Slips" "sent" "[I") (by decide +kernel)
  have hF24 := hts (.fieldLink RX4 24 "WorldIndex$Slips" "count" "I") (by decide +kernel)
  unfold pX4_looksOf at hf
  refine lv_iload_n hx hb dX4_looksOf_0 rfl (lv_at hl 1 rfl) ?_
  refine lv_istore_n (lv' := [(2, .int p1), (0, .ref as), (1, .int p1)]) hx hb dX4_looksOf_1 rfl hl (by decide) rfl (fun ls hl => ?_)
  refine lv_iconst (v := 1) hx hb dX4_looksOf_2 (by decide) ?_
  refine lv_istore_n (lv' := [(3, .int ((1 : Int32))), (2, .int p1), (0, .ref as), (1, .int p1)]) hx hb dX4_looksOf_3 rfl hl (by decide) rfl (fun ls hl => ?_)
  have hL4 : ∀ (K : Int32 → Int32 → Option (Int32)) (hKK : ∀ (k3_v2 : Int32) (k3_v3 : Int32) (ls : Array Slot), K k3_v2 k3_v3 = some q → lv_has ls 4 [(0, .ref as), (1, .int p1), (2, .int k3_v2), (3, .int k3_v3)] → W p l e ({ frames := 1, cells := 0, slots := 0, locals := 21 } : Room) s m args below meth c s.heap [] 0 0 QQ (F0 m 49 ls [])) (n : Nat), ∀ (b4_v2 : Int32) (b4_v3 : Int32) (ls : Array Slot), pX4_looksOf_L4 s_sent s_count s_wetSet K n b4_v2 b4_v3 = some q → lv_has ls 4 [(0, .ref as), (1, .int p1), (2, .int b4_v2), (3, .int b4_v3)] → W p l e ({ frames := 1, cells := 0, slots := 0, locals := 21 } : Room) s m args below meth c s.heap [] 0 0 QQ (F0 m 4 ls []) := by
    intro K hKK n
    induction n with
    | zero =>
      intro b4_v2 b4_v3 ls hf hl
      rw [pX4_looksOf_L4_z] at hf
      cases hf
    | succ n ih =>
      intro b4_v2 b4_v3 ls hf hl
      rw [pX4_looksOf_L4_s] at hf
      refine lv_iload_n hx hb dX4_looksOf_4 rfl (lv_at hl 3 rfl) ?_
      refine lv_aload_n hx hb dX4_looksOf_5 rfl (lv_at hl 0 rfl) ?_
      refine va_get (D := D) (ci := 4) (v := .int s_count) (C := RX4) (T := TX4) (N := 6) hx hb hts iX4 hown hK hP 0 rfl rfl 4 (by decide) hF24 (fun _ h9 => h9) rfl dX4_looksOf_6 ?_
      refine q_icmp_gt hx hb hf 49 dX4_looksOf_9 (by decide) (fun hf => ?_) (fun hf => ?_)
      · exact hKK _ _ _ hf (lv_sub hl [0, 1, 2, 3] rfl)
      · refine lv_aload_n hx hb dX4_looksOf_12 rfl (lv_at hl 0 rfl) ?_
        refine lv_iload_n hx hb dX4_looksOf_13 rfl (lv_at hl 2 rfl) ?_
        refine q_rV (rest := []) ⟨hx, hb, hml, hown, hts⟩ (kX4_isWet l D cI cR as askind aspage asasked assent s_kind s_page s_asked s_sent s_count s_wetSet b4_v2 _ rfl) (cwV 1 hts gX4_looksOf_X4_isWet rfl rfl rfl (by decide +kernel) ⟨Nat.le_of_ble_eq_true rfl, Nat.le_of_ble_eq_true rfl⟩) hP hK hN (va_recv hK hP (ci := 4) (q0 := 0) rfl rfl) rfl hl.1 rfl (Nat.le_of_ble_eq_true rfl) dX4_looksOf_14 ⟨Nat.le_of_ble_eq_true rfl, Nat.le_of_ble_eq_true rfl⟩ ?_
        refine q_if_eq hx hb hf 23 dX4_looksOf_17 (by decide) (fun hf => ?_) (fun hf => ?_)
        · refine lv_aload_n hx hb dX4_looksOf_23 rfl (lv_at hl 0 rfl) ?_
          refine va_get (D := D) (ci := 4) (v := .ref assent) (C := RX4) (T := TX4) (N := 6) hx hb hts iX4 hown hK hP 0 rfl rfl 3 (by decide) hF21 (fun _ h9 => h9) rfl dX4_looksOf_24 ?_
          refine lv_iload_n hx hb dX4_looksOf_27 rfl (lv_at hl 2 rfl) ?_
          refine q_iald hx hb hK hP 4 0 rfl rfl hf dX4_looksOf_28 (fun x5 hf => ?_)
          refine lv_bipush (v := -9) hx hb dX4_looksOf_29 (by decide) ?_
          refine q_icmp_ne hx hb hf 36 dX4_looksOf_31 (by decide) (fun hf => ?_) (fun hf => ?_)
          · refine lv_aload_n hx hb dX4_looksOf_36 rfl (lv_at hl 0 rfl) ?_
            refine va_get (D := D) (ci := 4) (v := .ref assent) (C := RX4) (T := TX4) (N := 6) hx hb hts iX4 hown hK hP 0 rfl rfl 3 (by decide) hF21 (fun _ h9 => h9) rfl dX4_looksOf_37 ?_
            refine lv_iload_n hx hb dX4_looksOf_40 rfl (lv_at hl 2 rfl) ?_
            refine q_iald hx hb hK hP 4 0 rfl rfl hf dX4_looksOf_41 (fun x6 hf => ?_)
            refine lv_istore_n (lv' := [(2, .int x6), (0, .ref as), (1, .int p1), (3, .int b4_v3)]) hx hb dX4_looksOf_42 rfl hl (by decide) rfl (fun ls hl => ?_)
            refine lv_iinc (v := b4_v3 + (1 : Int32)) (lv' := [(3, .int (b4_v3 + (1 : Int32))), (2, .int x6), (0, .ref as), (1, .int p1)]) hx hb dX4_looksOf_43 hl (k := 3) rfl rfl (by decide) rfl (fun ls hl => ?_)
            refine lv_goto (tgt := 4) hx hb dX4_looksOf_46 (by decide) ?_
            exact ih _ _ _ hf (lv_sub hl [2, 3, 1, 0] rfl)
          · refine lv_iload_n hx hb dX4_looksOf_34 rfl (lv_at hl 3 rfl) ?_
            exact hRet _ _ _ rfl (Option.some.inj hf) dX4_looksOf_35
        · refine lv_bipush (v := -9) hx hb dX4_looksOf_20 (by decide) ?_
          exact hRet _ _ _ rfl (Option.some.inj hf) dX4_looksOf_22
  refine hL4 _ (fun k3_v2 k3_v3 ls hf hl => ?_) fu _ _ _ hf (lv_sub hl [2, 3, 1, 0] rfl)
  refine lv_bipush (v := -9) hx hb dX4_looksOf_49 (by decide) ?_
  exact hRet _ _ _ rfl (Option.some.inj hf) dX4_looksOf_51
set_option maxHeartbeats 4000000 in
set_option maxRecDepth 100000 in
theorem kX4_pointsTo (l : Launch) (D : va_G) (cI cR : ClassId) (as askind aspage asasked assent : Nat) (s_kind : Nat → Int32) (s_page : Nat → Int32) (s_asked : Nat → Int32) (s_sent : Nat → Int32) (s_count : Int32) (s_wetSet : Int32) (p1 : Int32) (q : Int32) (hf : pX4_pointsTo s_kind s_page p1 = some q) : CR l yX4_pointsTo wsX4_pointsTo ({ frames := 0, cells := 0, slots := 0, locals := 0 } : Room) D cI cR [.ref as, .int p1] [(as, .inr (4, [.ref askind, .ref aspage, .ref asasked, .ref assent, .int s_count, .int s_wetSet])), (askind, .inl (cI, 7, .inl s_kind)), (aspage, .inl (cI, 7, .inl s_page)), (asasked, .inl (cI, 7, .inl s_asked)), (assent, .inl (cI, 7, .inl s_sent))] (.int q) := by
  refine CRi.intro (cc := cX4_pointsTo) (maxL := 2) (ty := .int) (by decide) rfl (Nat.le_of_ble_eq_true rfl) ?_
  intro p e s m args below meth c hx hb hml hts hown hP hK hN QQ hRet ls hl
  have hown : s.vm.findClass RX4 = some m.cls := hown
  have hl : lv_has ls 2 [(0, .ref as), (1, .int p1)] := hl
  have iX4 : ∀ w ∈ u_ws RX4 TX4 6, w ∈ wsX4_pointsTo := by decide +kernel
  have hF15 := hts (.fieldLink RX4 15 "WorldIndex$Slips" "page" "[I") (by decide +kernel)
  have hF9 := hts (.fieldLink RX4 9 "WorldIndex$Slips" "kind" "[I") (by decide +kernel)
  unfold pX4_pointsTo at hf
  refine lv_aload_n hx hb dX4_pointsTo_0 rfl (lv_at hl 0 rfl) ?_
  refine va_get (D := D) (ci := 4) (v := .ref askind) (C := RX4) (T := TX4) (N := 6) hx hb hts iX4 hown hK hP 0 rfl rfl 0 (by decide) hF9 (fun _ h9 => h9) rfl dX4_pointsTo_1 ?_
  refine lv_iload_n hx hb dX4_pointsTo_4 rfl (lv_at hl 1 rfl) ?_
  refine q_iald hx hb hK hP 1 0 rfl rfl hf dX4_pointsTo_5 (fun x1 hf => ?_)
  rcases q_sw hf with ⟨hs6_0, hf⟩ | ⟨hs6_0, hf⟩
  · refine lv_lookup (off := 26) (tgt := 32) hx hb dX4_pointsTo_6 (by decide) (by rw [hs6_0]; rfl) (by decide) ?_
    refine lv_aload_n hx hb dX4_pointsTo_32 rfl (lv_at hl 0 rfl) ?_
    refine va_get (D := D) (ci := 4) (v := .ref aspage) (C := RX4) (T := TX4) (N := 6) hx hb hts iX4 hown hK hP 0 rfl rfl 1 (by decide) hF15 (fun _ h9 => h9) rfl dX4_pointsTo_33 ?_
    refine lv_iload_n hx hb dX4_pointsTo_36 rfl (lv_at hl 1 rfl) ?_
    refine q_iald hx hb hK hP 2 0 rfl rfl hf dX4_pointsTo_37 (fun x2 hf => ?_)
    refine lv_iconst (v := 1) hx hb dX4_pointsTo_38 (by decide) ?_
    refine lv_iadd hx hb dX4_pointsTo_39 ?_
    exact hRet _ _ _ rfl (Option.some.inj hf) dX4_pointsTo_40
  · skip
    rcases q_sw hf with ⟨hs6_1, hf⟩ | ⟨hs6_1, hf⟩
    · refine lv_lookup (off := 35) (tgt := 41) hx hb dX4_pointsTo_6 (by decide) (by rw [hs6_1]; rfl) (by decide) ?_
      refine lv_iconst (v := 2) hx hb dX4_pointsTo_41 (by decide) ?_
      refine lv_aload_n hx hb dX4_pointsTo_42 rfl (lv_at hl 0 rfl) ?_
      refine va_get (D := D) (ci := 4) (v := .ref aspage) (C := RX4) (T := TX4) (N := 6) hx hb hts iX4 hown hK hP 0 rfl rfl 1 (by decide) hF15 (fun _ h9 => h9) rfl dX4_pointsTo_43 ?_
      refine lv_iload_n hx hb dX4_pointsTo_46 rfl (lv_at hl 1 rfl) ?_
      refine q_iald hx hb hK hP 2 0 rfl rfl hf dX4_pointsTo_47 (fun x3 hf => ?_)
      refine lv_imul hx hb dX4_pointsTo_48 ?_
      exact hRet _ _ _ rfl (Option.some.inj hf) dX4_pointsTo_49
    · skip
      have ehs6_0 := nt_i hs6_0 (show ((1 : Int32)).toInt = (1 : Int) by decide)
      have ehs6_1 := nt_i hs6_1 (show ((2 : Int32)).toInt = (2 : Int) by decide)
      refine lv_lookup (off := 44) (tgt := 50) hx hb dX4_pointsTo_6 (by decide) (by show Op.lookupswitch.offset [(1, 26), (2, 35)] 44 _ = _; rw [Op.lookupswitch.offset_cons, if_neg (fun z => ehs6_0 z.symm), Op.lookupswitch.offset_cons, if_neg (fun z => ehs6_1 z.symm)]; rfl) (by decide) ?_
      refine lv_aload_n hx hb dX4_pointsTo_50 rfl (lv_at hl 0 rfl) ?_
      refine va_get (D := D) (ci := 4) (v := .ref aspage) (C := RX4) (T := TX4) (N := 6) hx hb hts iX4 hown hK hP 0 rfl rfl 1 (by decide) hF15 (fun _ h9 => h9) rfl dX4_pointsTo_51 ?_
      refine lv_iload_n hx hb dX4_pointsTo_54 rfl (lv_at hl 1 rfl) ?_
      refine q_iald hx hb hK hP 2 0 rfl rfl hf dX4_pointsTo_55 (fun x4 hf => ?_)
      exact hRet _ _ _ rfl (Option.some.inj hf) dX4_pointsTo_56
set_option maxHeartbeats 4000000 in
set_option maxRecDepth 100000 in
theorem kX4_leafOf (l : Launch) (D : va_G) (cI cR : ClassId) (as askind aspage asasked assent : Nat) (s_kind : Nat → Int32) (s_page : Nat → Int32) (s_asked : Nat → Int32) (s_sent : Nat → Int32) (s_count : Int32) (s_wetSet : Int32) (p1 : Int32) (q : Int32) (hf : pX4_leafOf s_kind s_page s_sent s_count s_wetSet p1 = some q) : CR l yX4_leafOf wsX4_leafOf ({ frames := 2, cells := 0, slots := 0, locals := 44 } : Room) D cI cR [.ref as, .int p1] [(as, .inr (4, [.ref askind, .ref aspage, .ref asasked, .ref assent, .int s_count, .int s_wetSet])), (askind, .inl (cI, 7, .inl s_kind)), (aspage, .inl (cI, 7, .inl s_page)), (asasked, .inl (cI, 7, .inl s_asked)), (assent, .inl (cI, 7, .inl s_sent))] (.int q) := by
  refine CRi.intro (cc := cX4_leafOf) (maxL := 5) (ty := .int) (by decide) rfl (Nat.le_of_ble_eq_true rfl) ?_
  intro p e s m args below meth c hx hb hml hts hown hP hK hN QQ hRet ls hl
  have hown : s.vm.findClass RX4 = some m.cls := hown
  have hl : lv_has ls 5 [(0, .ref as), (1, .int p1)] := hl
  have iX4 : ∀ w ∈ u_ws RX4 TX4 6, w ∈ wsX4_leafOf := by decide +kernel
  have hF21 := hts (.fieldLink RX4 21 "WorldIndex$Slips" "sent" "[I") (by decide +kernel)
  unfold pX4_leafOf at hf
  refine lv_aload_n hx hb dX4_leafOf_0 rfl (lv_at hl 0 rfl) ?_
  refine lv_iload_n hx hb dX4_leafOf_1 rfl (lv_at hl 1 rfl) ?_
  obtain ⟨z1, hz1, hf⟩ := bnd hf
  refine q_rV (rest := []) ⟨hx, hb, hml, hown, hts⟩ (kX4_looksOf l D cI cR as askind aspage asasked assent s_kind s_page s_asked s_sent s_count s_wetSet p1 z1 hz1) (cwV 1 hts gX4_leafOf_X4_looksOf rfl rfl rfl (by decide +kernel) ⟨Nat.le_of_ble_eq_true rfl, Nat.le_of_ble_eq_true rfl⟩) hP hK hN (va_recv hK hP (ci := 4) (q0 := 0) rfl rfl) rfl hl.1 rfl (Nat.le_of_ble_eq_true rfl) dX4_leafOf_2 ⟨Nat.le_of_ble_eq_true rfl, Nat.le_of_ble_eq_true rfl⟩ ?_
  refine lv_istore_n (lv' := [(2, .int z1), (0, .ref as), (1, .int p1)]) hx hb dX4_leafOf_5 rfl hl (by decide) rfl (fun ls hl => ?_)
  refine lv_iload_n hx hb dX4_leafOf_6 rfl (lv_at hl 0 rfl) ?_
  refine lv_bipush (v := -9) hx hb dX4_leafOf_7 (by decide) ?_
  refine q_icmp_ne hx hb hf 15 dX4_leafOf_9 (by decide) (fun hf => ?_) (fun hf => ?_)
  · refine lv_iload_n hx hb dX4_leafOf_15 rfl (lv_at hl 2 rfl) ?_
    refine lv_istore_n (lv' := [(3, .int p1), (2, .int z1), (0, .ref as), (1, .int p1)]) hx hb dX4_leafOf_16 rfl hl (by decide) rfl (fun ls hl => ?_)
    refine lv_iconst (v := 1) hx hb dX4_leafOf_17 (by decide) ?_
    refine lv_istore (lv' := [(4, .int ((1 : Int32))), (3, .int p1), (2, .int z1), (0, .ref as), (1, .int p1)]) hx hb dX4_leafOf_18 hl (by decide) rfl (fun ls hl => ?_)
    have hL20 : ∀ (K : Int32 → Int32 → Option (Int32)) (hKK : ∀ (k3_v3 : Int32) (k3_v4 : Int32) (ls : Array Slot), K k3_v3 k3_v4 = some q → lv_has ls 5 [(0, .ref as), (1, .int p1), (2, .int z1), (3, .int k3_v3), (4, .int k3_v4)] → W p l e ({ frames := 2, cells := 0, slots := 0, locals := 44 } : Room) s m args below meth c s.heap [] 0 0 QQ (F0 m 39 ls [])) (n : Nat), ∀ (b5_v3 : Int32) (b5_v4 : Int32) (ls : Array Slot), pX4_leafOf_L20 z1 s_sent K n b5_v3 b5_v4 = some q → lv_has ls 5 [(0, .ref as), (1, .int p1), (2, .int z1), (3, .int b5_v3), (4, .int b5_v4)] → W p l e ({ frames := 2, cells := 0, slots := 0, locals := 44 } : Room) s m args below meth c s.heap [] 0 0 QQ (F0 m 20 ls []) := by
      intro K hKK n
      induction n with
      | zero =>
        intro b5_v3 b5_v4 ls hf hl
        rw [pX4_leafOf_L20_z] at hf
        cases hf
      | succ n ih =>
        intro b5_v3 b5_v4 ls hf hl
        rw [pX4_leafOf_L20_s] at hf
        refine lv_iload hx hb dX4_leafOf_20 (lv_at hl 4 rfl) ?_
        refine lv_iload_n hx hb dX4_leafOf_22 rfl (lv_at hl 2 rfl) ?_
        refine q_icmp_ge hx hb hf 39 dX4_leafOf_23 (by decide) (fun hf => ?_) (fun hf => ?_)
        · exact hKK _ _ _ hf (lv_sub hl [0, 1, 2, 3, 4] rfl)
        · refine lv_aload_n hx hb dX4_leafOf_26 rfl (lv_at hl 0 rfl) ?_
          refine va_get (D := D) (ci := 4) (v := .ref assent) (C := RX4) (T := TX4) (N := 6) hx hb hts iX4 hown hK hP 0 rfl rfl 3 (by decide) hF21 (fun _ h9 => h9) rfl dX4_leafOf_27 ?_
          refine lv_iload_n hx hb dX4_leafOf_30 rfl (lv_at hl 3 rfl) ?_
          refine q_iald hx hb hK hP 4 0 rfl rfl hf dX4_leafOf_31 (fun x6 hf => ?_)
          refine lv_istore_n (lv' := [(3, .int x6), (0, .ref as), (1, .int p1), (2, .int z1), (4, .int b5_v4)]) hx hb dX4_leafOf_32 rfl hl (by decide) rfl (fun ls hl => ?_)
          refine lv_iinc (v := b5_v4 + (1 : Int32)) (lv' := [(4, .int (b5_v4 + (1 : Int32))), (3, .int x6), (0, .ref as), (1, .int p1), (2, .int z1)]) hx hb dX4_leafOf_33 hl (k := 4) rfl rfl (by decide) rfl (fun ls hl => ?_)
          refine lv_goto (tgt := 20) hx hb dX4_leafOf_36 (by decide) ?_
          exact ih _ _ _ hf (lv_sub hl [2, 3, 4, 1, 0] rfl)
    refine hL20 _ (fun k3_v3 k3_v4 ls hf hl => ?_) fu _ _ _ hf (lv_sub hl [3, 4, 2, 1, 0] rfl)
    refine lv_aload_n hx hb dX4_leafOf_39 rfl (lv_at hl 0 rfl) ?_
    refine lv_iload_n hx hb dX4_leafOf_40 rfl (lv_at hl 3 rfl) ?_
    obtain ⟨z4, hz4, hf⟩ := bnd hf
    refine q_rV (rest := []) ⟨hx, hb, hml, hown, hts⟩ (kX4_pointsTo l D cI cR as askind aspage asasked assent s_kind s_page s_asked s_sent s_count s_wetSet k3_v3 z4 hz4) (cwV 1 hts gX4_leafOf_X4_pointsTo rfl rfl rfl (by decide +kernel) ⟨Nat.le_of_ble_eq_true rfl, Nat.le_of_ble_eq_true rfl⟩) hP hK hN (va_recv hK hP (ci := 4) (q0 := 0) rfl rfl) rfl hl.1 rfl (Nat.le_of_ble_eq_true rfl) dX4_leafOf_41 ⟨Nat.le_of_ble_eq_true rfl, Nat.le_of_ble_eq_true rfl⟩ ?_
    exact hRet _ _ _ rfl (Option.some.inj hf) dX4_leafOf_44
  · refine lv_bipush (v := -9) hx hb dX4_leafOf_12 (by decide) ?_
    exact hRet _ _ _ rfl (Option.some.inj hf) dX4_leafOf_14
set_option maxHeartbeats 4000000 in
set_option maxRecDepth 100000 in
theorem kX1_allAreSo (l : Launch) (D : va_G) (cI cR : ClassId) (ad adslip adleaf ae aekind aepage aeasked aesent : Nat) (d_slip : Nat → Int32) (d_leaf : Nat → Int32) (d_count : Int32) (d_fittingPages : Int32) (d_leastPage : Int32) (d_greatestPage : Int32) (e_kind : Nat → Int32) (e_page : Nat → Int32) (e_asked : Nat → Int32) (e_sent : Nat → Int32) (e_count : Int32) (e_wetSet : Int32) (q : Int32) (hf : pX1_allAreSo d_slip d_leaf d_count e_kind e_page e_sent e_count e_wetSet = some q) : CR l yX1_allAreSo wsX1_allAreSo ({ frames := 3, cells := 0, slots := 0, locals := 68 } : Room) D cI cR [.ref ad] [(ad, .inr (1, [.ref adslip, .ref adleaf, .ref ae, .int d_count, .int d_fittingPages, .int d_leastPage, .int d_greatestPage])), (adslip, .inl (cI, 8, .inl d_slip)), (adleaf, .inl (cI, 8, .inl d_leaf)), (ae, .inr (4, [.ref aekind, .ref aepage, .ref aeasked, .ref aesent, .int e_count, .int e_wetSet])), (aekind, .inl (cI, 7, .inl e_kind)), (aepage, .inl (cI, 7, .inl e_page)), (aeasked, .inl (cI, 7, .inl e_asked)), (aesent, .inl (cI, 7, .inl e_sent))] (.int q) := by
  refine CRi.intro (cc := cX1_allAreSo) (maxL := 2) (ty := .boolean) (by decide) rfl (Nat.le_of_ble_eq_true rfl) ?_
  intro p e s m args below meth c hx hb hml hts hown hP hK hN QQ hRet ls hl
  have hown : s.vm.findClass RX1 = some m.cls := hown
  have hl : lv_has ls 2 [(0, .ref ad)] := hl
  have iX1 : ∀ w ∈ u_ws RX1 TX1 7, w ∈ wsX1_allAreSo := by decide +kernel
  have hF15 := hts (.fieldLink RX1 15 "WorldIndex$Readings" "leaf" "[I") (by decide +kernel)
  have hF21 := hts (.fieldLink RX1 21 "WorldIndex$Readings" "tried" "LWorldIndex$Slips;") (by decide +kernel)
  have hF25 := hts (.fieldLink RX1 25 "WorldIndex$Readings" "count" "I") (by decide +kernel)
  have hF9 := hts (.fieldLink RX1 9 "WorldIndex$Readings" "slip" "[I") (by decide +kernel)
  unfold pX1_allAreSo at hf
  refine lv_iconst (v := 0) hx hb dX1_allAreSo_0 (by decide) ?_
  refine lv_istore_n (lv' := [(1, .int ((0 : Int32))), (0, .ref ad)]) hx hb dX1_allAreSo_1 rfl hl (by decide) rfl (fun ls hl => ?_)
  have hL2 : ∀ (K : Int32 → Option (Int32)) (hKK : ∀ (k4_v1 : Int32) (ls : Array Slot), K k4_v1 = some q → lv_has ls 2 [(0, .ref ad), (1, .int k4_v1)] → W p l e ({ frames := 3, cells := 0, slots := 0, locals := 68 } : Room) s m args below meth c s.heap [] 0 0 QQ (F0 m 40 ls [])) (n : Nat), ∀ (b5_v1 : Int32) (ls : Array Slot), pX1_allAreSo_L2 d_slip d_leaf d_count e_kind e_page e_sent e_count e_wetSet K n b5_v1 = some q → lv_has ls 2 [(0, .ref ad), (1, .int b5_v1)] → W p l e ({ frames := 3, cells := 0, slots := 0, locals := 68 } : Room) s m args below meth c s.heap [] 0 0 QQ (F0 m 2 ls []) := by
    intro K hKK n
    induction n with
    | zero =>
      intro b5_v1 ls hf hl
      rw [pX1_allAreSo_L2_z] at hf
      cases hf
    | succ n ih =>
      intro b5_v1 ls hf hl
      rw [pX1_allAreSo_L2_s] at hf
      refine lv_iload_n hx hb dX1_allAreSo_2 rfl (lv_at hl 1 rfl) ?_
      refine lv_aload_n hx hb dX1_allAreSo_3 rfl (lv_at hl 0 rfl) ?_
      refine va_get (D := D) (ci := 1) (v := .int d_count) (C := RX1) (T := TX1) (N := 7) hx hb hts iX1 hown hK hP 0 rfl rfl 3 (by decide) hF25 (fun _ h9 => h9) rfl dX1_allAreSo_4 ?_
      refine q_icmp_ge hx hb hf 40 dX1_allAreSo_7 (by decide) (fun hf => ?_) (fun hf => ?_)
      · exact hKK _ _ hf (lv_sub hl [0, 1] rfl)
      · refine lv_aload_n hx hb dX1_allAreSo_10 rfl (lv_at hl 0 rfl) ?_
        refine va_get (D := D) (ci := 1) (v := .ref ae) (C := RX1) (T := TX1) (N := 7) hx hb hts iX1 hown hK hP 0 rfl rfl 2 (by decide) hF21 (fun _ h9 => h9) rfl dX1_allAreSo_11 ?_
        refine lv_aload_n hx hb dX1_allAreSo_14 rfl (lv_at hl 0 rfl) ?_
        refine va_get (D := D) (ci := 1) (v := .ref adslip) (C := RX1) (T := TX1) (N := 7) hx hb hts iX1 hown hK hP 0 rfl rfl 0 (by decide) hF9 (fun _ h9 => h9) rfl dX1_allAreSo_15 ?_
        refine lv_iload_n hx hb dX1_allAreSo_18 rfl (lv_at hl 1 rfl) ?_
        refine q_iald hx hb hK hP 1 0 rfl rfl hf dX1_allAreSo_19 (fun x6 hf => ?_)
        obtain ⟨z7, hz7, hf⟩ := bnd hf
        refine q_rV (rest := []) ⟨hx, hb, hml, hown, hts⟩ (kX4_leafOf l D cI cR ae aekind aepage aeasked aesent e_kind e_page e_asked e_sent e_count e_wetSet x6 z7 hz7) (cwV 1 hts gX1_allAreSo_X4_leafOf rfl rfl rfl (by decide +kernel) ⟨Nat.le_of_ble_eq_true rfl, Nat.le_of_ble_eq_true rfl⟩) (hP.sub [3, 4, 5, 6, 7] rfl) hK hN (va_recv hK hP (ci := 4) (q0 := 3) rfl rfl) rfl hl.1 rfl (Nat.le_of_ble_eq_true rfl) dX1_allAreSo_20 ⟨Nat.le_of_ble_eq_true rfl, Nat.le_of_ble_eq_true rfl⟩ ?_
        refine lv_aload_n hx hb dX1_allAreSo_23 rfl (lv_at hl 0 rfl) ?_
        refine va_get (D := D) (ci := 1) (v := .ref adleaf) (C := RX1) (T := TX1) (N := 7) hx hb hts iX1 hown hK hP 0 rfl rfl 1 (by decide) hF15 (fun _ h9 => h9) rfl dX1_allAreSo_24 ?_
        refine lv_iload_n hx hb dX1_allAreSo_27 rfl (lv_at hl 1 rfl) ?_
        refine q_iald hx hb hK hP 2 0 rfl rfl hf dX1_allAreSo_28 (fun x8 hf => ?_)
        refine q_icmp_eq hx hb hf 34 dX1_allAreSo_29 (by decide) (fun hf => ?_) (fun hf => ?_)
        · refine lv_iinc (v := b5_v1 + (1 : Int32)) (lv' := [(1, .int (b5_v1 + (1 : Int32))), (0, .ref ad)]) hx hb dX1_allAreSo_34 hl (k := 1) rfl rfl (by decide) rfl (fun ls hl => ?_)
          refine lv_goto (tgt := 2) hx hb dX1_allAreSo_37 (by decide) ?_
          exact ih _ _ hf (lv_sub hl [1, 0] rfl)
        · refine lv_iconst (v := 0) hx hb dX1_allAreSo_32 (by decide) ?_
          exact hRet _ _ _ (by decide) (Option.some.inj hf) dX1_allAreSo_33
  refine hL2 _ (fun k4_v1 ls hf hl => ?_) fu _ _ hf (lv_sub hl [1, 0] rfl)
  refine lv_iconst (v := 1) hx hb dX1_allAreSo_40 (by decide) ?_
  exact hRet _ _ _ (by decide) (Option.some.inj hf) dX1_allAreSo_41
set_option maxHeartbeats 4000000 in
set_option maxRecDepth 100000 in
theorem kX4_becomeLike (l : Launch) (D : va_G) (cI cR : ClassId) (as askind aspage asasked assent an ankind anpage anasked ansent : Nat) (s_kind : Nat → Int32) (s_page : Nat → Int32) (s_asked : Nat → Int32) (s_sent : Nat → Int32) (s_count : Int32) (s_wetSet : Int32) (n_kind : Nat → Int32) (n_page : Nat → Int32) (n_asked : Nat → Int32) (n_sent : Nat → Int32) (n_count : Int32) (n_wetSet : Int32) (q : (Nat → Int32) × (Nat → Int32) × (Nat → Int32) × (Nat → Int32) × Int32 × Int32) (hf : pX4_becomeLike s_kind s_page s_asked s_sent s_count s_wetSet n_kind n_page n_asked n_sent n_count n_wetSet = some q) : CWv l yX4_becomeLike wsX4_becomeLike ({ frames := 0, cells := 0, slots := 0, locals := 0 } : Room) D cI cR [.ref as, .ref an] [(as, .inr (4, [.ref askind, .ref aspage, .ref asasked, .ref assent, .int s_count, .int s_wetSet])), (askind, .inl (cI, 7, .inl s_kind)), (aspage, .inl (cI, 7, .inl s_page)), (asasked, .inl (cI, 7, .inl s_asked)), (assent, .inl (cI, 7, .inl s_sent)), (an, .inr (4, [.ref ankind, .ref anpage, .ref anasked, .ref ansent, .int n_count, .int n_wetSet])), (ankind, .inl (cI, 7, .inl n_kind)), (anpage, .inl (cI, 7, .inl n_page)), (anasked, .inl (cI, 7, .inl n_asked)), (ansent, .inl (cI, 7, .inl n_sent))] [(as, .inr (4, [.ref askind, .ref aspage, .ref asasked, .ref assent, .int q.2.2.2.2.1, .int q.2.2.2.2.2])), (askind, .inl (cI, 7, .inl q.1)), (aspage, .inl (cI, 7, .inl q.2.1)), (asasked, .inl (cI, 7, .inl q.2.2.1)), (assent, .inl (cI, 7, .inl q.2.2.2.1)), (an, .inr (4, [.ref ankind, .ref anpage, .ref anasked, .ref ansent, .int n_count, .int n_wetSet])), (ankind, .inl (cI, 7, .inl n_kind)), (anpage, .inl (cI, 7, .inl n_page)), (anasked, .inl (cI, 7, .inl n_asked)), (ansent, .inl (cI, 7, .inl n_sent))] := by
  refine CWv.intro (cc := cX4_becomeLike) (maxL := 3) (by decide) rfl (Nat.le_of_ble_eq_true rfl) ?_
  intro p e s m args below meth c hx hb hml hts hown hP hK hN A hA hD hS QQ hRet ls hl
  have hown : s.vm.findClass RX4 = some m.cls := hown
  have hl : lv_has ls 3 [(0, .ref as), (1, .ref an)] := hl
  have iX4 : ∀ w ∈ u_ws RX4 TX4 6, w ∈ wsX4_becomeLike := by decide +kernel
  have hF15 := hts (.fieldLink RX4 15 "WorldIndex$Slips" "page" "[I") (by decide +kernel)
  have hF18 := hts (.fieldLink RX4 18 "WorldIndex$Slips" "asked" "[I") (by decide +kernel)
  have hF21 := hts (.fieldLink RX4 21 "WorldIndex$Slips" "sent" "[I") (by decide +kernel)
  have hF24 := hts (.fieldLink RX4 24 "WorldIndex$Slips" "count" "I") (by decide +kernel)
  have hF34 := hts (.fieldLink RX4 34 "WorldIndex$Slips" "wetSet" "I") (by decide +kernel)
  have hF9 := hts (.fieldLink RX4 9 "WorldIndex$Slips" "kind" "[I") (by decide +kernel)
  unfold pX4_becomeLike at hf
  refine lv_aload_n hx hb dX4_becomeLike_0 rfl (lv_at hl 0 rfl) ?_
  refine lv_aload_n hx hb dX4_becomeLike_1 rfl (lv_at hl 1 rfl) ?_
  refine va_get (D := D) (ci := 4) (v := .int n_count) (C := RX4) (T := TX4) (N := 6) hx hb hts iX4 hown hK hP 5 rfl rfl 4 (by decide) hF24 (fun _ h9 => h9) rfl dX4_becomeLike_2 ?_
  refine va_put (D := D) (ci := 4) (v := .int n_count) (ty := .int) (C := RX4) (T := TX4) (N := 6) hx hb hts iX4 tyX4 tyX4_ok nmX4 hown hK hP hD hS 0 rfl rfl 4 (by decide) hF24 (fun _ h9 => h9) rfl (tyX4_ok 4 (by decide)) rfl rfl (Nat.le_of_ble_eq_true rfl) dX4_becomeLike_5 (fun H locs hP hD hS => ?_)
  have hP : va_P D vwCl [(as, .inr (4, [.ref askind, .ref aspage, .ref asasked, .ref assent, .int n_count, .int s_wetSet])), (askind, .inl (cI, 7, .inl s_kind)), (aspage, .inl (cI, 7, .inl s_page)), (asasked, .inl (cI, 7, .inl s_asked)), (assent, .inl (cI, 7, .inl s_sent)), (an, .inr (4, [.ref ankind, .ref anpage, .ref anasked, .ref ansent, .int n_count, .int n_wetSet])), (ankind, .inl (cI, 7, .inl n_kind)), (anpage, .inl (cI, 7, .inl n_page)), (anasked, .inl (cI, 7, .inl n_asked)), (ansent, .inl (cI, 7, .inl n_sent))] H := hP
  have hD : va_D A [(as, .inr (4, [.ref askind, .ref aspage, .ref asasked, .ref assent, .int n_count, .int s_wetSet])), (askind, .inl (cI, 7, .inl s_kind)), (aspage, .inl (cI, 7, .inl s_page)), (asasked, .inl (cI, 7, .inl s_asked)), (assent, .inl (cI, 7, .inl s_sent)), (an, .inr (4, [.ref ankind, .ref anpage, .ref anasked, .ref ansent, .int n_count, .int n_wetSet])), (ankind, .inl (cI, 7, .inl n_kind)), (anpage, .inl (cI, 7, .inl n_page)), (anasked, .inl (cI, 7, .inl n_asked)), (ansent, .inl (cI, 7, .inl n_sent))] := hD
  refine lv_aload_n hx hb dX4_becomeLike_8 rfl (lv_at hl 0 rfl) ?_
  refine lv_aload_n hx hb dX4_becomeLike_9 rfl (lv_at hl 1 rfl) ?_
  refine va_get (D := D) (ci := 4) (v := .int n_wetSet) (C := RX4) (T := TX4) (N := 6) hx hb hts iX4 hown hK hP 5 rfl rfl 5 (by decide) hF34 (fun _ h9 => h9) rfl dX4_becomeLike_10 ?_
  refine va_put (D := D) (ci := 4) (v := .int n_wetSet) (ty := .int) (C := RX4) (T := TX4) (N := 6) hx hb hts iX4 tyX4 tyX4_ok nmX4 hown hK hP hD hS 0 rfl rfl 5 (by decide) hF34 (fun _ h9 => h9) rfl (tyX4_ok 5 (by decide)) rfl rfl (Nat.le_of_ble_eq_true rfl) dX4_becomeLike_13 (fun H locs hP hD hS => ?_)
  have hP : va_P D vwCl [(as, .inr (4, [.ref askind, .ref aspage, .ref asasked, .ref assent, .int n_count, .int n_wetSet])), (askind, .inl (cI, 7, .inl s_kind)), (aspage, .inl (cI, 7, .inl s_page)), (asasked, .inl (cI, 7, .inl s_asked)), (assent, .inl (cI, 7, .inl s_sent)), (an, .inr (4, [.ref ankind, .ref anpage, .ref anasked, .ref ansent, .int n_count, .int n_wetSet])), (ankind, .inl (cI, 7, .inl n_kind)), (anpage, .inl (cI, 7, .inl n_page)), (anasked, .inl (cI, 7, .inl n_asked)), (ansent, .inl (cI, 7, .inl n_sent))] H := hP
  have hD : va_D A [(as, .inr (4, [.ref askind, .ref aspage, .ref asasked, .ref assent, .int n_count, .int n_wetSet])), (askind, .inl (cI, 7, .inl s_kind)), (aspage, .inl (cI, 7, .inl s_page)), (asasked, .inl (cI, 7, .inl s_asked)), (assent, .inl (cI, 7, .inl s_sent)), (an, .inr (4, [.ref ankind, .ref anpage, .ref anasked, .ref ansent, .int n_count, .int n_wetSet])), (ankind, .inl (cI, 7, .inl n_kind)), (anpage, .inl (cI, 7, .inl n_page)), (anasked, .inl (cI, 7, .inl n_asked)), (ansent, .inl (cI, 7, .inl n_sent))] := hD
  refine lv_iconst (v := 0) hx hb dX4_becomeLike_16 (by decide) ?_
  refine lv_istore_n (lv' := [(2, .int ((0 : Int32))), (0, .ref as), (1, .ref an)]) hx hb dX4_becomeLike_17 rfl hl (by decide) rfl (fun ls hl => ?_)
  have hL18 : ∀ (K : Int32 → (Nat → Int32) → (Nat → Int32) → (Nat → Int32) → (Nat → Int32) → Option ((Nat → Int32) × (Nat → Int32) × (Nat → Int32) × (Nat → Int32) × Int32 × Int32)) (hKK : ∀ (k9_v2 : Int32) (k9_w_s_kind : Nat → Int32) (k9_w_s_page : Nat → Int32) (k9_w_s_asked : Nat → Int32) (k9_w_s_sent : Nat → Int32) (H : Heap) (locs : List Loc) (ls : Array Slot), K k9_v2 k9_w_s_kind k9_w_s_page k9_w_s_asked k9_w_s_sent = some q → va_P D vwCl [(as, .inr (4, [.ref askind, .ref aspage, .ref asasked, .ref assent, .int n_count, .int n_wetSet])), (askind, .inl (cI, 7, .inl k9_w_s_kind)), (aspage, .inl (cI, 7, .inl k9_w_s_page)), (asasked, .inl (cI, 7, .inl k9_w_s_asked)), (assent, .inl (cI, 7, .inl k9_w_s_sent)), (an, .inr (4, [.ref ankind, .ref anpage, .ref anasked, .ref ansent, .int n_count, .int n_wetSet])), (ankind, .inl (cI, 7, .inl n_kind)), (anpage, .inl (cI, 7, .inl n_page)), (anasked, .inl (cI, 7, .inl n_asked)), (ansent, .inl (cI, 7, .inl n_sent))] H → va_D A [(as, .inr (4, [.ref askind, .ref aspage, .ref asasked, .ref assent, .int n_count, .int n_wetSet])), (askind, .inl (cI, 7, .inl k9_w_s_kind)), (aspage, .inl (cI, 7, .inl k9_w_s_page)), (asasked, .inl (cI, 7, .inl k9_w_s_asked)), (assent, .inl (cI, 7, .inl k9_w_s_sent)), (an, .inr (4, [.ref ankind, .ref anpage, .ref anasked, .ref ansent, .int n_count, .int n_wetSet])), (ankind, .inl (cI, 7, .inl n_kind)), (anpage, .inl (cI, 7, .inl n_page)), (anasked, .inl (cI, 7, .inl n_asked)), (ansent, .inl (cI, 7, .inl n_sent))] → va_S A s.heap H locs → lv_has ls 3 [(0, .ref as), (1, .ref an), (2, .int k9_v2)] → W p l e ({ frames := 0, cells := 0, slots := 0, locals := 0 } : Room) s m args below meth c H locs 0 0 QQ (F0 m 78 ls [])) (n : Nat), ∀ (b10_v2 : Int32) (b10_w_s_kind : Nat → Int32) (b10_w_s_page : Nat → Int32) (b10_w_s_asked : Nat → Int32) (b10_w_s_sent : Nat → Int32) (H : Heap) (locs : List Loc) (ls : Array Slot), pX4_becomeLike_L18 n_kind n_page n_asked n_sent K n b10_v2 b10_w_s_kind b10_w_s_page b10_w_s_asked b10_w_s_sent = some q → va_P D vwCl [(as, .inr (4, [.ref askind, .ref aspage, .ref asasked, .ref assent, .int n_count, .int n_wetSet])), (askind, .inl (cI, 7, .inl b10_w_s_kind)), (aspage, .inl (cI, 7, .inl b10_w_s_page)), (asasked, .inl (cI, 7, .inl b10_w_s_asked)), (assent, .inl (cI, 7, .inl b10_w_s_sent)), (an, .inr (4, [.ref ankind, .ref anpage, .ref anasked, .ref ansent, .int n_count, .int n_wetSet])), (ankind, .inl (cI, 7, .inl n_kind)), (anpage, .inl (cI, 7, .inl n_page)), (anasked, .inl (cI, 7, .inl n_asked)), (ansent, .inl (cI, 7, .inl n_sent))] H → va_D A [(as, .inr (4, [.ref askind, .ref aspage, .ref asasked, .ref assent, .int n_count, .int n_wetSet])), (askind, .inl (cI, 7, .inl b10_w_s_kind)), (aspage, .inl (cI, 7, .inl b10_w_s_page)), (asasked, .inl (cI, 7, .inl b10_w_s_asked)), (assent, .inl (cI, 7, .inl b10_w_s_sent)), (an, .inr (4, [.ref ankind, .ref anpage, .ref anasked, .ref ansent, .int n_count, .int n_wetSet])), (ankind, .inl (cI, 7, .inl n_kind)), (anpage, .inl (cI, 7, .inl n_page)), (anasked, .inl (cI, 7, .inl n_asked)), (ansent, .inl (cI, 7, .inl n_sent))] → va_S A s.heap H locs → lv_has ls 3 [(0, .ref as), (1, .ref an), (2, .int b10_v2)] → W p l e ({ frames := 0, cells := 0, slots := 0, locals := 0 } : Room) s m args below meth c H locs 0 0 QQ (F0 m 18 ls []) := by
    intro K hKK n
    induction n with
    | zero =>
      intro b10_v2 b10_w_s_kind b10_w_s_page b10_w_s_asked b10_w_s_sent H locs ls hf hP hD hS hl
      rw [pX4_becomeLike_L18_z] at hf
      cases hf
    | succ n ih =>
      intro b10_v2 b10_w_s_kind b10_w_s_page b10_w_s_asked b10_w_s_sent H locs ls hf hP hD hS hl
      rw [pX4_becomeLike_L18_s] at hf
      refine lv_iload_n hx hb dX4_becomeLike_18 rfl (lv_at hl 2 rfl) ?_
      refine lv_bipush (v := 7) hx hb dX4_becomeLike_19 (by decide) ?_
      refine q_icmp_ge hx hb hf 78 dX4_becomeLike_21 (by decide) (fun hf => ?_) (fun hf => ?_)
      · exact hKK _ _ _ _ _ _ _ _ hf hP hD hS (lv_sub hl [0, 1, 2] rfl)
      · refine lv_aload_n hx hb dX4_becomeLike_24 rfl (lv_at hl 0 rfl) ?_
        refine va_get (D := D) (ci := 4) (v := .ref askind) (C := RX4) (T := TX4) (N := 6) hx hb hts iX4 hown hK hP 0 rfl rfl 0 (by decide) hF9 (fun _ h9 => h9) rfl dX4_becomeLike_25 ?_
        refine lv_iload_n hx hb dX4_becomeLike_28 rfl (lv_at hl 2 rfl) ?_
        refine lv_aload_n hx hb dX4_becomeLike_29 rfl (lv_at hl 1 rfl) ?_
        refine va_get (D := D) (ci := 4) (v := .ref ankind) (C := RX4) (T := TX4) (N := 6) hx hb hts iX4 hown hK hP 5 rfl rfl 0 (by decide) hF9 (fun _ h9 => h9) rfl dX4_becomeLike_30 ?_
        refine lv_iload_n hx hb dX4_becomeLike_33 rfl (lv_at hl 2 rfl) ?_
        refine q_iald hx hb hK hP 6 0 rfl rfl hf dX4_becomeLike_34 (fun x11 hf => ?_)
        refine q_iast hx hb hK hP hD hS 1 0 rfl rfl hf dX4_becomeLike_35 (fun g12 H locs hf hP hD hS => ?_)
        have hP : va_P D vwCl [(as, .inr (4, [.ref askind, .ref aspage, .ref asasked, .ref assent, .int n_count, .int n_wetSet])), (askind, .inl (cI, 7, .inl g12)), (aspage, .inl (cI, 7, .inl b10_w_s_page)), (asasked, .inl (cI, 7, .inl b10_w_s_asked)), (assent, .inl (cI, 7, .inl b10_w_s_sent)), (an, .inr (4, [.ref ankind, .ref anpage, .ref anasked, .ref ansent, .int n_count, .int n_wetSet])), (ankind, .inl (cI, 7, .inl n_kind)), (anpage, .inl (cI, 7, .inl n_page)), (anasked, .inl (cI, 7, .inl n_asked)), (ansent, .inl (cI, 7, .inl n_sent))] H := hP
        have hD : va_D A [(as, .inr (4, [.ref askind, .ref aspage, .ref asasked, .ref assent, .int n_count, .int n_wetSet])), (askind, .inl (cI, 7, .inl g12)), (aspage, .inl (cI, 7, .inl b10_w_s_page)), (asasked, .inl (cI, 7, .inl b10_w_s_asked)), (assent, .inl (cI, 7, .inl b10_w_s_sent)), (an, .inr (4, [.ref ankind, .ref anpage, .ref anasked, .ref ansent, .int n_count, .int n_wetSet])), (ankind, .inl (cI, 7, .inl n_kind)), (anpage, .inl (cI, 7, .inl n_page)), (anasked, .inl (cI, 7, .inl n_asked)), (ansent, .inl (cI, 7, .inl n_sent))] := hD
        refine lv_aload_n hx hb dX4_becomeLike_36 rfl (lv_at hl 0 rfl) ?_
        refine va_get (D := D) (ci := 4) (v := .ref aspage) (C := RX4) (T := TX4) (N := 6) hx hb hts iX4 hown hK hP 0 rfl rfl 1 (by decide) hF15 (fun _ h9 => h9) rfl dX4_becomeLike_37 ?_
        refine lv_iload_n hx hb dX4_becomeLike_40 rfl (lv_at hl 2 rfl) ?_
        refine lv_aload_n hx hb dX4_becomeLike_41 rfl (lv_at hl 1 rfl) ?_
        refine va_get (D := D) (ci := 4) (v := .ref anpage) (C := RX4) (T := TX4) (N := 6) hx hb hts iX4 hown hK hP 5 rfl rfl 1 (by decide) hF15 (fun _ h9 => h9) rfl dX4_becomeLike_42 ?_
        refine lv_iload_n hx hb dX4_becomeLike_45 rfl (lv_at hl 2 rfl) ?_
        refine q_iald hx hb hK hP 7 0 rfl rfl hf dX4_becomeLike_46 (fun x13 hf => ?_)
        refine q_iast hx hb hK hP hD hS 2 0 rfl rfl hf dX4_becomeLike_47 (fun g14 H locs hf hP hD hS => ?_)
        have hP : va_P D vwCl [(as, .inr (4, [.ref askind, .ref aspage, .ref asasked, .ref assent, .int n_count, .int n_wetSet])), (askind, .inl (cI, 7, .inl g12)), (aspage, .inl (cI, 7, .inl g14)), (asasked, .inl (cI, 7, .inl b10_w_s_asked)), (assent, .inl (cI, 7, .inl b10_w_s_sent)), (an, .inr (4, [.ref ankind, .ref anpage, .ref anasked, .ref ansent, .int n_count, .int n_wetSet])), (ankind, .inl (cI, 7, .inl n_kind)), (anpage, .inl (cI, 7, .inl n_page)), (anasked, .inl (cI, 7, .inl n_asked)), (ansent, .inl (cI, 7, .inl n_sent))] H := hP
        have hD : va_D A [(as, .inr (4, [.ref askind, .ref aspage, .ref asasked, .ref assent, .int n_count, .int n_wetSet])), (askind, .inl (cI, 7, .inl g12)), (aspage, .inl (cI, 7, .inl g14)), (asasked, .inl (cI, 7, .inl b10_w_s_asked)), (assent, .inl (cI, 7, .inl b10_w_s_sent)), (an, .inr (4, [.ref ankind, .ref anpage, .ref anasked, .ref ansent, .int n_count, .int n_wetSet])), (ankind, .inl (cI, 7, .inl n_kind)), (anpage, .inl (cI, 7, .inl n_page)), (anasked, .inl (cI, 7, .inl n_asked)), (ansent, .inl (cI, 7, .inl n_sent))] := hD
        refine lv_aload_n hx hb dX4_becomeLike_48 rfl (lv_at hl 0 rfl) ?_
        refine va_get (D := D) (ci := 4) (v := .ref asasked) (C := RX4) (T := TX4) (N := 6) hx hb hts iX4 hown hK hP 0 rfl rfl 2 (by decide) hF18 (fun _ h9 => h9) rfl dX4_becomeLike_49 ?_
        refine lv_iload_n hx hb dX4_becomeLike_52 rfl (lv_at hl 2 rfl) ?_
        refine lv_aload_n hx hb dX4_becomeLike_53 rfl (lv_at hl 1 rfl) ?_
        refine va_get (D := D) (ci := 4) (v := .ref anasked) (C := RX4) (T := TX4) (N := 6) hx hb hts iX4 hown hK hP 5 rfl rfl 2 (by decide) hF18 (fun _ h9 => h9) rfl dX4_becomeLike_54 ?_
        refine lv_iload_n hx hb dX4_becomeLike_57 rfl (lv_at hl 2 rfl) ?_
        refine q_iald hx hb hK hP 8 0 rfl rfl hf dX4_becomeLike_58 (fun x15 hf => ?_)
        refine q_iast hx hb hK hP hD hS 3 0 rfl rfl hf dX4_becomeLike_59 (fun g16 H locs hf hP hD hS => ?_)
        have hP : va_P D vwCl [(as, .inr (4, [.ref askind, .ref aspage, .ref asasked, .ref assent, .int n_count, .int n_wetSet])), (askind, .inl (cI, 7, .inl g12)), (aspage, .inl (cI, 7, .inl g14)), (asasked, .inl (cI, 7, .inl g16)), (assent, .inl (cI, 7, .inl b10_w_s_sent)), (an, .inr (4, [.ref ankind, .ref anpage, .ref anasked, .ref ansent, .int n_count, .int n_wetSet])), (ankind, .inl (cI, 7, .inl n_kind)), (anpage, .inl (cI, 7, .inl n_page)), (anasked, .inl (cI, 7, .inl n_asked)), (ansent, .inl (cI, 7, .inl n_sent))] H := hP
        have hD : va_D A [(as, .inr (4, [.ref askind, .ref aspage, .ref asasked, .ref assent, .int n_count, .int n_wetSet])), (askind, .inl (cI, 7, .inl g12)), (aspage, .inl (cI, 7, .inl g14)), (asasked, .inl (cI, 7, .inl g16)), (assent, .inl (cI, 7, .inl b10_w_s_sent)), (an, .inr (4, [.ref ankind, .ref anpage, .ref anasked, .ref ansent, .int n_count, .int n_wetSet])), (ankind, .inl (cI, 7, .inl n_kind)), (anpage, .inl (cI, 7, .inl n_page)), (anasked, .inl (cI, 7, .inl n_asked)), (ansent, .inl (cI, 7, .inl n_sent))] := hD
        refine lv_aload_n hx hb dX4_becomeLike_60 rfl (lv_at hl 0 rfl) ?_
        refine va_get (D := D) (ci := 4) (v := .ref assent) (C := RX4) (T := TX4) (N := 6) hx hb hts iX4 hown hK hP 0 rfl rfl 3 (by decide) hF21 (fun _ h9 => h9) rfl dX4_becomeLike_61 ?_
        refine lv_iload_n hx hb dX4_becomeLike_64 rfl (lv_at hl 2 rfl) ?_
        refine lv_aload_n hx hb dX4_becomeLike_65 rfl (lv_at hl 1 rfl) ?_
        refine va_get (D := D) (ci := 4) (v := .ref ansent) (C := RX4) (T := TX4) (N := 6) hx hb hts iX4 hown hK hP 5 rfl rfl 3 (by decide) hF21 (fun _ h9 => h9) rfl dX4_becomeLike_66 ?_
        refine lv_iload_n hx hb dX4_becomeLike_69 rfl (lv_at hl 2 rfl) ?_
        refine q_iald hx hb hK hP 9 0 rfl rfl hf dX4_becomeLike_70 (fun x17 hf => ?_)
        refine q_iast hx hb hK hP hD hS 4 0 rfl rfl hf dX4_becomeLike_71 (fun g18 H locs hf hP hD hS => ?_)
        have hP : va_P D vwCl [(as, .inr (4, [.ref askind, .ref aspage, .ref asasked, .ref assent, .int n_count, .int n_wetSet])), (askind, .inl (cI, 7, .inl g12)), (aspage, .inl (cI, 7, .inl g14)), (asasked, .inl (cI, 7, .inl g16)), (assent, .inl (cI, 7, .inl g18)), (an, .inr (4, [.ref ankind, .ref anpage, .ref anasked, .ref ansent, .int n_count, .int n_wetSet])), (ankind, .inl (cI, 7, .inl n_kind)), (anpage, .inl (cI, 7, .inl n_page)), (anasked, .inl (cI, 7, .inl n_asked)), (ansent, .inl (cI, 7, .inl n_sent))] H := hP
        have hD : va_D A [(as, .inr (4, [.ref askind, .ref aspage, .ref asasked, .ref assent, .int n_count, .int n_wetSet])), (askind, .inl (cI, 7, .inl g12)), (aspage, .inl (cI, 7, .inl g14)), (asasked, .inl (cI, 7, .inl g16)), (assent, .inl (cI, 7, .inl g18)), (an, .inr (4, [.ref ankind, .ref anpage, .ref anasked, .ref ansent, .int n_count, .int n_wetSet])), (ankind, .inl (cI, 7, .inl n_kind)), (anpage, .inl (cI, 7, .inl n_page)), (anasked, .inl (cI, 7, .inl n_asked)), (ansent, .inl (cI, 7, .inl n_sent))] := hD
        refine lv_iinc (v := b10_v2 + (1 : Int32)) (lv' := [(2, .int (b10_v2 + (1 : Int32))), (0, .ref as), (1, .ref an)]) hx hb dX4_becomeLike_72 hl (k := 2) rfl rfl (by decide) rfl (fun ls hl => ?_)
        refine lv_goto (tgt := 18) hx hb dX4_becomeLike_75 (by decide) ?_
        exact ih _ _ _ _ _ _ _ _ hf hP hD hS (lv_sub hl [1, 2, 0] rfl)
  refine hL18 _ (fun k9_v2 k9_w_s_kind k9_w_s_page k9_w_s_asked k9_w_s_sent H locs ls hf hP hD hS hl => ?_) fu _ _ _ _ _ _ _ _ hf hP hD hS (lv_sub hl [1, 2, 0] rfl)
  have hq9 := Option.some.inj hf
  subst hq9
  exact hRet _ _ _ _ hP hD hS dX4_becomeLike_78
set_option maxHeartbeats 4000000 in
set_option maxRecDepth 100000 in
theorem kX1_kindsOf (l : Launch) (D : va_G) (cI cR : ClassId) (ad adslip adleaf ae aekind aepage aeasked aesent an ankind anpage anasked ansent : Nat) (d_slip : Nat → Int32) (d_leaf : Nat → Int32) (d_count : Int32) (d_fittingPages : Int32) (d_leastPage : Int32) (d_greatestPage : Int32) (e_kind : Nat → Int32) (e_page : Nat → Int32) (e_asked : Nat → Int32) (e_sent : Nat → Int32) (e_count : Int32) (e_wetSet : Int32) (n_kind : Nat → Int32) (n_page : Nat → Int32) (n_asked : Nat → Int32) (n_sent : Nat → Int32) (n_count : Int32) (n_wetSet : Int32) (p2 : Int32) (q : Int32 × (Nat → Int32) × (Nat → Int32) × (Nat → Int32) × (Nat → Int32) × Int32 × Int32) (hf : pX1_kindsOf d_slip d_leaf d_count e_kind e_page e_asked e_sent e_count e_wetSet n_kind n_page n_asked n_sent n_count n_wetSet p2 = some q) : CWi l yX1_kindsOf wsX1_kindsOf ({ frames := 4, cells := 0, slots := 0, locals := 89 } : Room) D cI cR [.ref ad, .ref an, .int p2] [(ad, .inr (1, [.ref adslip, .ref adleaf, .ref ae, .int d_count, .int d_fittingPages, .int d_leastPage, .int d_greatestPage])), (adslip, .inl (cI, 8, .inl d_slip)), (adleaf, .inl (cI, 8, .inl d_leaf)), (ae, .inr (4, [.ref aekind, .ref aepage, .ref aeasked, .ref aesent, .int e_count, .int e_wetSet])), (aekind, .inl (cI, 7, .inl e_kind)), (aepage, .inl (cI, 7, .inl e_page)), (aeasked, .inl (cI, 7, .inl e_asked)), (aesent, .inl (cI, 7, .inl e_sent)), (an, .inr (4, [.ref ankind, .ref anpage, .ref anasked, .ref ansent, .int n_count, .int n_wetSet])), (ankind, .inl (cI, 7, .inl n_kind)), (anpage, .inl (cI, 7, .inl n_page)), (anasked, .inl (cI, 7, .inl n_asked)), (ansent, .inl (cI, 7, .inl n_sent))] [(ad, .inr (1, [.ref adslip, .ref adleaf, .ref ae, .int d_count, .int d_fittingPages, .int d_leastPage, .int d_greatestPage])), (adslip, .inl (cI, 8, .inl d_slip)), (adleaf, .inl (cI, 8, .inl d_leaf)), (ae, .inr (4, [.ref aekind, .ref aepage, .ref aeasked, .ref aesent, .int q.2.2.2.2.2.1, .int q.2.2.2.2.2.2])), (aekind, .inl (cI, 7, .inl q.2.1)), (aepage, .inl (cI, 7, .inl q.2.2.1)), (aeasked, .inl (cI, 7, .inl q.2.2.2.1)), (aesent, .inl (cI, 7, .inl q.2.2.2.2.1)), (an, .inr (4, [.ref ankind, .ref anpage, .ref anasked, .ref ansent, .int n_count, .int n_wetSet])), (ankind, .inl (cI, 7, .inl n_kind)), (anpage, .inl (cI, 7, .inl n_page)), (anasked, .inl (cI, 7, .inl n_asked)), (ansent, .inl (cI, 7, .inl n_sent))] q.1 := by
  refine CWi.intro (cc := cX1_kindsOf) (maxL := 5) (ty := .int) (by decide) rfl (Nat.le_of_ble_eq_true rfl) ?_
  intro p e s m args below meth c hx hb hml hts hown hP hK hN A hA hD hS QQ hRet ls hl
  have hown : s.vm.findClass RX1 = some m.cls := hown
  have hl : lv_has ls 5 [(0, .ref ad), (1, .ref an), (2, .int p2)] := hl
  have iX1 : ∀ w ∈ u_ws RX1 TX1 7, w ∈ wsX1_kindsOf := by decide +kernel
  have iX4 : ∀ w ∈ u_ws RX4 TX4 6, w ∈ wsX1_kindsOf := by decide +kernel
  have hF21 := hts (.fieldLink RX1 21 "WorldIndex$Readings" "tried" "LWorldIndex$Slips;") (by decide +kernel)
  have hG53 := NN.f (args := args) hN "WorldIndex$Readings" 53 "WorldIndex$Slips" "kind" "[I" "WorldIndex" (by decide +kernel)
  unfold pX1_kindsOf at hf
  refine lv_aload_n hx hb dX1_kindsOf_0 rfl (lv_at hl 0 rfl) ?_
  refine va_get (D := D) (ci := 1) (v := .ref ae) (C := RX1) (T := TX1) (N := 7) hx hb hts iX1 hown hK hP 0 rfl rfl 2 (by decide) hF21 (fun _ h9 => h9) rfl dX1_kindsOf_1 ?_
  refine lv_aload_n hx hb dX1_kindsOf_4 rfl (lv_at hl 1 rfl) ?_
  obtain ⟨z1, hz1, hf⟩ := bnd hf
  refine q_wVv (wr := [(ad, .inr (1, [.ref adslip, .ref adleaf, .ref ae, .int d_count, .int d_fittingPages, .int d_leastPage, .int d_greatestPage])), (adslip, .inl (cI, 8, .inl d_slip)), (adleaf, .inl (cI, 8, .inl d_leaf))]) (rest := []) ⟨hx, hb, hml, hown, hts⟩ (kX4_becomeLike l D cI cR ae aekind aepage aeasked aesent an ankind anpage anasked ansent e_kind e_page e_asked e_sent e_count e_wetSet n_kind n_page n_asked n_sent n_count n_wetSet z1 hz1) (cwV 1 hts gX1_kindsOf_X4_becomeLike rfl rfl rfl (by decide +kernel) ⟨Nat.le_of_ble_eq_true rfl, Nat.le_of_ble_eq_true rfl⟩) hP hD hS hA hK hN [3, 4, 5, 6, 7, 8, 9, 10, 11, 12] [0, 1, 2] rfl rfl (by decide) (by decide) (by decide) (va_recv hK hP (ci := 4) (q0 := 3) rfl rfl) rfl hl.1 rfl (Nat.le_of_ble_eq_true rfl) dX1_kindsOf_5 ⟨Nat.le_of_ble_eq_true rfl, Nat.le_of_ble_eq_true rfl⟩ (fun H locs hP hD hS => ?_)
  have hP := hP.sub (ws' := [(ad, .inr (1, [.ref adslip, .ref adleaf, .ref ae, .int d_count, .int d_fittingPages, .int d_leastPage, .int d_greatestPage])), (adslip, .inl (cI, 8, .inl d_slip)), (adleaf, .inl (cI, 8, .inl d_leaf)), (ae, .inr (4, [.ref aekind, .ref aepage, .ref aeasked, .ref aesent, .int z1.2.2.2.2.1, .int z1.2.2.2.2.2])), (aekind, .inl (cI, 7, .inl z1.1)), (aepage, .inl (cI, 7, .inl z1.2.1)), (aeasked, .inl (cI, 7, .inl z1.2.2.1)), (aesent, .inl (cI, 7, .inl z1.2.2.2.1)), (an, .inr (4, [.ref ankind, .ref anpage, .ref anasked, .ref ansent, .int n_count, .int n_wetSet])), (ankind, .inl (cI, 7, .inl n_kind)), (anpage, .inl (cI, 7, .inl n_page)), (anasked, .inl (cI, 7, .inl n_asked)), (ansent, .inl (cI, 7, .inl n_sent))]) [0, 1, 2, 3, 4, 5, 6, 7, 8, 9, 10, 11, 12] rfl
  have hD := hD.sub (ws' := [(ad, .inr (1, [.ref adslip, .ref adleaf, .ref ae, .int d_count, .int d_fittingPages, .int d_leastPage, .int d_greatestPage])), (adslip, .inl (cI, 8, .inl d_slip)), (adleaf, .inl (cI, 8, .inl d_leaf)), (ae, .inr (4, [.ref aekind, .ref aepage, .ref aeasked, .ref aesent, .int z1.2.2.2.2.1, .int z1.2.2.2.2.2])), (aekind, .inl (cI, 7, .inl z1.1)), (aepage, .inl (cI, 7, .inl z1.2.1)), (aeasked, .inl (cI, 7, .inl z1.2.2.1)), (aesent, .inl (cI, 7, .inl z1.2.2.2.1)), (an, .inr (4, [.ref ankind, .ref anpage, .ref anasked, .ref ansent, .int n_count, .int n_wetSet])), (ankind, .inl (cI, 7, .inl n_kind)), (anpage, .inl (cI, 7, .inl n_page)), (anasked, .inl (cI, 7, .inl n_asked)), (ansent, .inl (cI, 7, .inl n_sent))]) [0, 1, 2, 3, 4, 5, 6, 7, 8, 9, 10, 11, 12] (by decide) rfl
  refine lv_iconst (v := 0) hx hb dX1_kindsOf_8 (by decide) ?_
  refine lv_istore_n (lv' := [(3, .int ((0 : Int32))), (0, .ref ad), (1, .ref an), (2, .int p2)]) hx hb dX1_kindsOf_9 rfl hl (by decide) rfl (fun ls hl => ?_)
  refine lv_iconst (v := 0) hx hb dX1_kindsOf_10 (by decide) ?_
  refine lv_istore (lv' := [(4, .int ((0 : Int32))), (3, .int ((0 : Int32))), (0, .ref ad), (1, .ref an), (2, .int p2)]) hx hb dX1_kindsOf_11 hl (by decide) rfl (fun ls hl => ?_)
  have hL13 : ∀ (K : Int32 → Int32 → (Nat → Int32) → Option (Int32 × (Nat → Int32) × (Nat → Int32) × (Nat → Int32) × (Nat → Int32) × Int32 × Int32)) (hKK : ∀ (k5_v3 : Int32) (k5_v4 : Int32) (k5_w_e_kind : Nat → Int32) (H : Heap) (locs : List Loc) (ls : Array Slot), K k5_v3 k5_v4 k5_w_e_kind = some q → va_P D vwCl [(ad, .inr (1, [.ref adslip, .ref adleaf, .ref ae, .int d_count, .int d_fittingPages, .int d_leastPage, .int d_greatestPage])), (adslip, .inl (cI, 8, .inl d_slip)), (adleaf, .inl (cI, 8, .inl d_leaf)), (ae, .inr (4, [.ref aekind, .ref aepage, .ref aeasked, .ref aesent, .int z1.2.2.2.2.1, .int z1.2.2.2.2.2])), (aekind, .inl (cI, 7, .inl k5_w_e_kind)), (aepage, .inl (cI, 7, .inl z1.2.1)), (aeasked, .inl (cI, 7, .inl z1.2.2.1)), (aesent, .inl (cI, 7, .inl z1.2.2.2.1)), (an, .inr (4, [.ref ankind, .ref anpage, .ref anasked, .ref ansent, .int n_count, .int n_wetSet])), (ankind, .inl (cI, 7, .inl n_kind)), (anpage, .inl (cI, 7, .inl n_page)), (anasked, .inl (cI, 7, .inl n_asked)), (ansent, .inl (cI, 7, .inl n_sent))] H → va_D A [(ad, .inr (1, [.ref adslip, .ref adleaf, .ref ae, .int d_count, .int d_fittingPages, .int d_leastPage, .int d_greatestPage])), (adslip, .inl (cI, 8, .inl d_slip)), (adleaf, .inl (cI, 8, .inl d_leaf)), (ae, .inr (4, [.ref aekind, .ref aepage, .ref aeasked, .ref aesent, .int z1.2.2.2.2.1, .int z1.2.2.2.2.2])), (aekind, .inl (cI, 7, .inl k5_w_e_kind)), (aepage, .inl (cI, 7, .inl z1.2.1)), (aeasked, .inl (cI, 7, .inl z1.2.2.1)), (aesent, .inl (cI, 7, .inl z1.2.2.2.1)), (an, .inr (4, [.ref ankind, .ref anpage, .ref anasked, .ref ansent, .int n_count, .int n_wetSet])), (ankind, .inl (cI, 7, .inl n_kind)), (anpage, .inl (cI, 7, .inl n_page)), (anasked, .inl (cI, 7, .inl n_asked)), (ansent, .inl (cI, 7, .inl n_sent))] → va_S A s.heap H locs → lv_has ls 5 [(0, .ref ad), (1, .ref an), (2, .int p2), (3, .int k5_v3), (4, .int k5_v4)] → W p l e ({ frames := 4, cells := 0, slots := 0, locals := 89 } : Room) s m args below meth c H locs 0 0 QQ (F0 m 50 ls [])) (n : Nat), ∀ (b6_v3 : Int32) (b6_v4 : Int32) (b6_w_e_kind : Nat → Int32) (H : Heap) (locs : List Loc) (ls : Array Slot), pX1_kindsOf_L13 p2 d_slip d_leaf d_count z1.2.1 z1.2.2.2.1 z1.2.2.2.2.1 z1.2.2.2.2.2 K n b6_v3 b6_v4 b6_w_e_kind = some q → va_P D vwCl [(ad, .inr (1, [.ref adslip, .ref adleaf, .ref ae, .int d_count, .int d_fittingPages, .int d_leastPage, .int d_greatestPage])), (adslip, .inl (cI, 8, .inl d_slip)), (adleaf, .inl (cI, 8, .inl d_leaf)), (ae, .inr (4, [.ref aekind, .ref aepage, .ref aeasked, .ref aesent, .int z1.2.2.2.2.1, .int z1.2.2.2.2.2])), (aekind, .inl (cI, 7, .inl b6_w_e_kind)), (aepage, .inl (cI, 7, .inl z1.2.1)), (aeasked, .inl (cI, 7, .inl z1.2.2.1)), (aesent, .inl (cI, 7, .inl z1.2.2.2.1)), (an, .inr (4, [.ref ankind, .ref anpage, .ref anasked, .ref ansent, .int n_count, .int n_wetSet])), (ankind, .inl (cI, 7, .inl n_kind)), (anpage, .inl (cI, 7, .inl n_page)), (anasked, .inl (cI, 7, .inl n_asked)), (ansent, .inl (cI, 7, .inl n_sent))] H → va_D A [(ad, .inr (1, [.ref adslip, .ref adleaf, .ref ae, .int d_count, .int d_fittingPages, .int d_leastPage, .int d_greatestPage])), (adslip, .inl (cI, 8, .inl d_slip)), (adleaf, .inl (cI, 8, .inl d_leaf)), (ae, .inr (4, [.ref aekind, .ref aepage, .ref aeasked, .ref aesent, .int z1.2.2.2.2.1, .int z1.2.2.2.2.2])), (aekind, .inl (cI, 7, .inl b6_w_e_kind)), (aepage, .inl (cI, 7, .inl z1.2.1)), (aeasked, .inl (cI, 7, .inl z1.2.2.1)), (aesent, .inl (cI, 7, .inl z1.2.2.2.1)), (an, .inr (4, [.ref ankind, .ref anpage, .ref anasked, .ref ansent, .int n_count, .int n_wetSet])), (ankind, .inl (cI, 7, .inl n_kind)), (anpage, .inl (cI, 7, .inl n_page)), (anasked, .inl (cI, 7, .inl n_asked)), (ansent, .inl (cI, 7, .inl n_sent))] → va_S A s.heap H locs → lv_has ls 5 [(0, .ref ad), (1, .ref an), (2, .int p2), (3, .int b6_v3), (4, .int b6_v4)] → W p l e ({ frames := 4, cells := 0, slots := 0, locals := 89 } : Room) s m args below meth c H locs 0 0 QQ (F0 m 13 ls []) := by
    intro K hKK n
    induction n with
    | zero =>
      intro b6_v3 b6_v4 b6_w_e_kind H locs ls hf hP hD hS hl
      rw [pX1_kindsOf_L13_z] at hf
      cases hf
    | succ n ih =>
      intro b6_v3 b6_v4 b6_w_e_kind H locs ls hf hP hD hS hl
      rw [pX1_kindsOf_L13_s] at hf
      refine lv_iload hx hb dX1_kindsOf_13 (lv_at hl 4 rfl) ?_
      refine lv_iconst (v := 2) hx hb dX1_kindsOf_15 (by decide) ?_
      refine q_icmp_gt hx hb hf 50 dX1_kindsOf_16 (by decide) (fun hf => ?_) (fun hf => ?_)
      · exact hKK _ _ _ _ _ _ hf hP hD hS (lv_sub hl [0, 1, 2, 3, 4] rfl)
      · refine lv_aload_n hx hb dX1_kindsOf_19 rfl (lv_at hl 0 rfl) ?_
        refine va_get (D := D) (ci := 1) (v := .ref ae) (C := RX1) (T := TX1) (N := 7) hx hb hts iX1 hown hK hP 0 rfl rfl 2 (by decide) hF21 (fun _ h9 => h9) rfl dX1_kindsOf_20 ?_
        refine va_getN (D := D) (ci := 4) (v := .ref aekind) (C := RX4) (T := TX4) (N := 6) hx hb hts iX4 hown hK hP 3 rfl rfl 0 (by decide) hG53 (fun _ h9 => h9) rfl dX1_kindsOf_23 ?_
        refine lv_iload_n hx hb dX1_kindsOf_26 rfl (lv_at hl 2 rfl) ?_
        refine lv_iload hx hb dX1_kindsOf_27 (lv_at hl 4 rfl) ?_
        refine q_iast hx hb hK hP hD hS 4 0 rfl rfl hf dX1_kindsOf_29 (fun g7 H locs hf hP hD hS => ?_)
        have hP : va_P D vwCl [(ad, .inr (1, [.ref adslip, .ref adleaf, .ref ae, .int d_count, .int d_fittingPages, .int d_leastPage, .int d_greatestPage])), (adslip, .inl (cI, 8, .inl d_slip)), (adleaf, .inl (cI, 8, .inl d_leaf)), (ae, .inr (4, [.ref aekind, .ref aepage, .ref aeasked, .ref aesent, .int z1.2.2.2.2.1, .int z1.2.2.2.2.2])), (aekind, .inl (cI, 7, .inl g7)), (aepage, .inl (cI, 7, .inl z1.2.1)), (aeasked, .inl (cI, 7, .inl z1.2.2.1)), (aesent, .inl (cI, 7, .inl z1.2.2.2.1)), (an, .inr (4, [.ref ankind, .ref anpage, .ref anasked, .ref ansent, .int n_count, .int n_wetSet])), (ankind, .inl (cI, 7, .inl n_kind)), (anpage, .inl (cI, 7, .inl n_page)), (anasked, .inl (cI, 7, .inl n_asked)), (ansent, .inl (cI, 7, .inl n_sent))] H := hP
        have hD : va_D A [(ad, .inr (1, [.ref adslip, .ref adleaf, .ref ae, .int d_count, .int d_fittingPages, .int d_leastPage, .int d_greatestPage])), (adslip, .inl (cI, 8, .inl d_slip)), (adleaf, .inl (cI, 8, .inl d_leaf)), (ae, .inr (4, [.ref aekind, .ref aepage, .ref aeasked, .ref aesent, .int z1.2.2.2.2.1, .int z1.2.2.2.2.2])), (aekind, .inl (cI, 7, .inl g7)), (aepage, .inl (cI, 7, .inl z1.2.1)), (aeasked, .inl (cI, 7, .inl z1.2.2.1)), (aesent, .inl (cI, 7, .inl z1.2.2.2.1)), (an, .inr (4, [.ref ankind, .ref anpage, .ref anasked, .ref ansent, .int n_count, .int n_wetSet])), (ankind, .inl (cI, 7, .inl n_kind)), (anpage, .inl (cI, 7, .inl n_page)), (anasked, .inl (cI, 7, .inl n_asked)), (ansent, .inl (cI, 7, .inl n_sent))] := hD
        refine lv_aload_n hx hb dX1_kindsOf_30 rfl (lv_at hl 0 rfl) ?_
        obtain ⟨z8, hz8, hf⟩ := bnd hf
        refine q_rV (rest := []) ⟨hx, hb, hml, hown, hts⟩ (kX1_allAreSo l D cI cR ad adslip adleaf ae aekind aepage aeasked aesent d_slip d_leaf d_count d_fittingPages d_leastPage d_greatestPage g7 z1.2.1 z1.2.2.1 z1.2.2.2.1 z1.2.2.2.2.1 z1.2.2.2.2.2 z8 hz8) (cwV 0 hts gX1_kindsOf_X1_allAreSo rfl rfl rfl (by decide +kernel) ⟨Nat.le_of_ble_eq_true rfl, Nat.le_of_ble_eq_true rfl⟩) (hP.sub [0, 1, 2, 3, 4, 5, 6, 7] rfl) hK hN (va_recv hK hP (ci := 1) (q0 := 0) rfl rfl) rfl hl.1 rfl (Nat.le_of_ble_eq_true rfl) dX1_kindsOf_31 ⟨Nat.le_of_ble_eq_true rfl, Nat.le_of_ble_eq_true rfl⟩ ?_
        obtain ⟨J44_9, eJ44_9, hf⟩ := q_jn hf
        have hJ44_9 : ∀ (u9_0 : Int32) (H : Heap) (locs : List Loc) (ls : Array Slot), J44_9 u9_0 = some q → va_P D vwCl [(ad, .inr (1, [.ref adslip, .ref adleaf, .ref ae, .int d_count, .int d_fittingPages, .int d_leastPage, .int d_greatestPage])), (adslip, .inl (cI, 8, .inl d_slip)), (adleaf, .inl (cI, 8, .inl d_leaf)), (ae, .inr (4, [.ref aekind, .ref aepage, .ref aeasked, .ref aesent, .int z1.2.2.2.2.1, .int z1.2.2.2.2.2])), (aekind, .inl (cI, 7, .inl g7)), (aepage, .inl (cI, 7, .inl z1.2.1)), (aeasked, .inl (cI, 7, .inl z1.2.2.1)), (aesent, .inl (cI, 7, .inl z1.2.2.2.1)), (an, .inr (4, [.ref ankind, .ref anpage, .ref anasked, .ref ansent, .int n_count, .int n_wetSet])), (ankind, .inl (cI, 7, .inl n_kind)), (anpage, .inl (cI, 7, .inl n_page)), (anasked, .inl (cI, 7, .inl n_asked)), (ansent, .inl (cI, 7, .inl n_sent))] H → va_D A [(ad, .inr (1, [.ref adslip, .ref adleaf, .ref ae, .int d_count, .int d_fittingPages, .int d_leastPage, .int d_greatestPage])), (adslip, .inl (cI, 8, .inl d_slip)), (adleaf, .inl (cI, 8, .inl d_leaf)), (ae, .inr (4, [.ref aekind, .ref aepage, .ref aeasked, .ref aesent, .int z1.2.2.2.2.1, .int z1.2.2.2.2.2])), (aekind, .inl (cI, 7, .inl g7)), (aepage, .inl (cI, 7, .inl z1.2.1)), (aeasked, .inl (cI, 7, .inl z1.2.2.1)), (aesent, .inl (cI, 7, .inl z1.2.2.2.1)), (an, .inr (4, [.ref ankind, .ref anpage, .ref anasked, .ref ansent, .int n_count, .int n_wetSet])), (ankind, .inl (cI, 7, .inl n_kind)), (anpage, .inl (cI, 7, .inl n_page)), (anasked, .inl (cI, 7, .inl n_asked)), (ansent, .inl (cI, 7, .inl n_sent))] → va_S A s.heap H locs → lv_has ls 5 [(0, .ref ad), (1, .ref an), (2, .int p2), (3, .int u9_0), (4, .int b6_v4)] → W p l e ({ frames := 4, cells := 0, slots := 0, locals := 89 } : Room) s m args below meth c H locs 0 0 QQ (F0 m 44 ls []) := by
          intro u9_0 H locs ls hf hP hD hS hl
          rw [eJ44_9] at hf
          refine lv_iinc (v := b6_v4 + (1 : Int32)) (lv' := [(4, .int (b6_v4 + (1 : Int32))), (0, .ref ad), (1, .ref an), (2, .int p2), (3, .int u9_0)]) hx hb dX1_kindsOf_44 hl (k := 4) rfl rfl (by decide) rfl (fun ls hl => ?_)
          refine lv_goto (tgt := 13) hx hb dX1_kindsOf_47 (by decide) ?_
          exact ih _ _ _ _ _ _ hf hP hD hS (lv_sub hl [1, 2, 3, 4, 0] rfl)
        refine q_if_eq hx hb hf 44 dX1_kindsOf_34 (by decide) (fun hf => ?_) (fun hf => ?_)
        · exact hJ44_9 _ _ _ _ hf hP hD hS (lv_sub hl [0, 1, 2, 3, 4] rfl)
        · refine lv_iload_n hx hb dX1_kindsOf_37 rfl (lv_at hl 3 rfl) ?_
          refine lv_iconst (v := 1) hx hb dX1_kindsOf_38 (by decide) ?_
          refine lv_iload hx hb dX1_kindsOf_39 (lv_at hl 4 rfl) ?_
          refine lv_ishl hx hb dX1_kindsOf_41 ?_
          refine lv_ior hx hb dX1_kindsOf_42 ?_
          refine lv_istore_n (lv' := [(3, .int (b6_v3 ||| (((1 : Int32)) <<< (b6_v4 &&& 31)))), (0, .ref ad), (1, .ref an), (2, .int p2), (4, .int b6_v4)]) hx hb dX1_kindsOf_43 rfl hl (by decide) rfl (fun ls hl => ?_)
          exact hJ44_9 _ _ _ _ hf hP hD hS (lv_sub hl [1, 2, 3, 0, 4] rfl)
  refine hL13 _ (fun k5_v3 k5_v4 k5_w_e_kind H locs ls hf hP hD hS hl => ?_) fu _ _ _ _ _ _ hf hP hD hS (lv_sub hl [2, 3, 4, 1, 0] rfl)
  refine lv_iload_n hx hb dX1_kindsOf_50 rfl (lv_at hl 3 rfl) ?_
  have hq9 := Option.some.inj hf
  subst hq9
  exact hRet _ _ _ _ _ rfl rfl hP hD hS dX1_kindsOf_51
set_option maxHeartbeats 4000000 in
set_option maxRecDepth 100000 in
theorem kX1_note (l : Launch) (D : va_G) (cI cR : ClassId) (ad adslip adleaf ae aekind aepage aeasked aesent : Nat) (d_slip : Nat → Int32) (d_leaf : Nat → Int32) (d_count : Int32) (d_fittingPages : Int32) (d_leastPage : Int32) (d_greatestPage : Int32) (e_kind : Nat → Int32) (e_page : Nat → Int32) (e_asked : Nat → Int32) (e_sent : Nat → Int32) (e_count : Int32) (e_wetSet : Int32) (p1 : Int32) (p2 : Int32) (q : Int32 × (Nat → Int32) × (Nat → Int32) × Int32) (hf : pX1_note d_slip d_leaf d_count p1 p2 = some q) : CWi l yX1_note wsX1_note ({ frames := 0, cells := 0, slots := 0, locals := 0 } : Room) D cI cR [.ref ad, .int p1, .int p2] [(ad, .inr (1, [.ref adslip, .ref adleaf, .ref ae, .int d_count, .int d_fittingPages, .int d_leastPage, .int d_greatestPage])), (adslip, .inl (cI, 8, .inl d_slip)), (adleaf, .inl (cI, 8, .inl d_leaf)), (ae, .inr (4, [.ref aekind, .ref aepage, .ref aeasked, .ref aesent, .int e_count, .int e_wetSet])), (aekind, .inl (cI, 7, .inl e_kind)), (aepage, .inl (cI, 7, .inl e_page)), (aeasked, .inl (cI, 7, .inl e_asked)), (aesent, .inl (cI, 7, .inl e_sent))] [(ad, .inr (1, [.ref adslip, .ref adleaf, .ref ae, .int q.2.2.2, .int d_fittingPages, .int d_leastPage, .int d_greatestPage])), (adslip, .inl (cI, 8, .inl q.2.1)), (adleaf, .inl (cI, 8, .inl q.2.2.1)), (ae, .inr (4, [.ref aekind, .ref aepage, .ref aeasked, .ref aesent, .int e_count, .int e_wetSet])), (aekind, .inl (cI, 7, .inl e_kind)), (aepage, .inl (cI, 7, .inl e_page)), (aeasked, .inl (cI, 7, .inl e_asked)), (aesent, .inl (cI, 7, .inl e_sent))] q.1 := by
  refine CWi.intro (cc := cX1_note) (maxL := 3) (ty := .int) (by decide) rfl (Nat.le_of_ble_eq_true rfl) ?_
  intro p e s m args below meth c hx hb hml hts hown hP hK hN A hA hD hS QQ hRet ls hl
  have hown : s.vm.findClass RX1 = some m.cls := hown
  have hl : lv_has ls 3 [(0, .ref ad), (1, .int p1), (2, .int p2)] := hl
  have iX1 : ∀ w ∈ u_ws RX1 TX1 7, w ∈ wsX1_note := by decide +kernel
  have hF15 := hts (.fieldLink RX1 15 "WorldIndex$Readings" "leaf" "[I") (by decide +kernel)
  have hF25 := hts (.fieldLink RX1 25 "WorldIndex$Readings" "count" "I") (by decide +kernel)
  have hF9 := hts (.fieldLink RX1 9 "WorldIndex$Readings" "slip" "[I") (by decide +kernel)
  unfold pX1_note at hf
  refine lv_aload_n hx hb dX1_note_0 rfl (lv_at hl 0 rfl) ?_
  refine va_get (D := D) (ci := 1) (v := .ref adslip) (C := RX1) (T := TX1) (N := 7) hx hb hts iX1 hown hK hP 0 rfl rfl 0 (by decide) hF9 (fun _ h9 => h9) rfl dX1_note_1 ?_
  refine lv_aload_n hx hb dX1_note_4 rfl (lv_at hl 0 rfl) ?_
  refine va_get (D := D) (ci := 1) (v := .int d_count) (C := RX1) (T := TX1) (N := 7) hx hb hts iX1 hown hK hP 0 rfl rfl 3 (by decide) hF25 (fun _ h9 => h9) rfl dX1_note_5 ?_
  refine lv_iload_n hx hb dX1_note_8 rfl (lv_at hl 1 rfl) ?_
  refine q_iast hx hb hK hP hD hS 1 0 rfl rfl hf dX1_note_9 (fun g1 H locs hf hP hD hS => ?_)
  have hP : va_P D vwCl [(ad, .inr (1, [.ref adslip, .ref adleaf, .ref ae, .int d_count, .int d_fittingPages, .int d_leastPage, .int d_greatestPage])), (adslip, .inl (cI, 8, .inl g1)), (adleaf, .inl (cI, 8, .inl d_leaf)), (ae, .inr (4, [.ref aekind, .ref aepage, .ref aeasked, .ref aesent, .int e_count, .int e_wetSet])), (aekind, .inl (cI, 7, .inl e_kind)), (aepage, .inl (cI, 7, .inl e_page)), (aeasked, .inl (cI, 7, .inl e_asked)), (aesent, .inl (cI, 7, .inl e_sent))] H := hP
  have hD : va_D A [(ad, .inr (1, [.ref adslip, .ref adleaf, .ref ae, .int d_count, .int d_fittingPages, .int d_leastPage, .int d_greatestPage])), (adslip, .inl (cI, 8, .inl g1)), (adleaf, .inl (cI, 8, .inl d_leaf)), (ae, .inr (4, [.ref aekind, .ref aepage, .ref aeasked, .ref aesent, .int e_count, .int e_wetSet])), (aekind, .inl (cI, 7, .inl e_kind)), (aepage, .inl (cI, 7, .inl e_page)), (aeasked, .inl (cI, 7, .inl e_asked)), (aesent, .inl (cI, 7, .inl e_sent))] := hD
  refine lv_aload_n hx hb dX1_note_10 rfl (lv_at hl 0 rfl) ?_
  refine va_get (D := D) (ci := 1) (v := .ref adleaf) (C := RX1) (T := TX1) (N := 7) hx hb hts iX1 hown hK hP 0 rfl rfl 1 (by decide) hF15 (fun _ h9 => h9) rfl dX1_note_11 ?_
  refine lv_aload_n hx hb dX1_note_14 rfl (lv_at hl 0 rfl) ?_
  refine va_get (D := D) (ci := 1) (v := .int d_count) (C := RX1) (T := TX1) (N := 7) hx hb hts iX1 hown hK hP 0 rfl rfl 3 (by decide) hF25 (fun _ h9 => h9) rfl dX1_note_15 ?_
  refine lv_iload_n hx hb dX1_note_18 rfl (lv_at hl 2 rfl) ?_
  refine q_iast hx hb hK hP hD hS 2 0 rfl rfl hf dX1_note_19 (fun g2 H locs hf hP hD hS => ?_)
  have hP : va_P D vwCl [(ad, .inr (1, [.ref adslip, .ref adleaf, .ref ae, .int d_count, .int d_fittingPages, .int d_leastPage, .int d_greatestPage])), (adslip, .inl (cI, 8, .inl g1)), (adleaf, .inl (cI, 8, .inl g2)), (ae, .inr (4, [.ref aekind, .ref aepage, .ref aeasked, .ref aesent, .int e_count, .int e_wetSet])), (aekind, .inl (cI, 7, .inl e_kind)), (aepage, .inl (cI, 7, .inl e_page)), (aeasked, .inl (cI, 7, .inl e_asked)), (aesent, .inl (cI, 7, .inl e_sent))] H := hP
  have hD : va_D A [(ad, .inr (1, [.ref adslip, .ref adleaf, .ref ae, .int d_count, .int d_fittingPages, .int d_leastPage, .int d_greatestPage])), (adslip, .inl (cI, 8, .inl g1)), (adleaf, .inl (cI, 8, .inl g2)), (ae, .inr (4, [.ref aekind, .ref aepage, .ref aeasked, .ref aesent, .int e_count, .int e_wetSet])), (aekind, .inl (cI, 7, .inl e_kind)), (aepage, .inl (cI, 7, .inl e_page)), (aeasked, .inl (cI, 7, .inl e_asked)), (aesent, .inl (cI, 7, .inl e_sent))] := hD
  refine lv_aload_n hx hb dX1_note_20 rfl (lv_at hl 0 rfl) ?_
  refine lv_dup hx hb dX1_note_21 rfl ?_
  refine va_get (D := D) (ci := 1) (v := .int d_count) (C := RX1) (T := TX1) (N := 7) hx hb hts iX1 hown hK hP 0 rfl rfl 3 (by decide) hF25 (fun _ h9 => h9) rfl dX1_note_22 ?_
  refine lv_iconst (v := 1) hx hb dX1_note_25 (by decide) ?_
  refine lv_iadd hx hb dX1_note_26 ?_
  refine va_put (D := D) (ci := 1) (v := .int (d_count + ((1 : Int32)))) (ty := .int) (C := RX1) (T := TX1) (N := 7) hx hb hts iX1 tyX1 tyX1_ok nmX1 hown hK hP hD hS 0 rfl rfl 3 (by decide) hF25 (fun _ h9 => h9) rfl (tyX1_ok 3 (by decide)) rfl rfl (Nat.le_of_ble_eq_true rfl) dX1_note_27 (fun H locs hP hD hS => ?_)
  have hP : va_P D vwCl [(ad, .inr (1, [.ref adslip, .ref adleaf, .ref ae, .int (d_count + ((1 : Int32))), .int d_fittingPages, .int d_leastPage, .int d_greatestPage])), (adslip, .inl (cI, 8, .inl g1)), (adleaf, .inl (cI, 8, .inl g2)), (ae, .inr (4, [.ref aekind, .ref aepage, .ref aeasked, .ref aesent, .int e_count, .int e_wetSet])), (aekind, .inl (cI, 7, .inl e_kind)), (aepage, .inl (cI, 7, .inl e_page)), (aeasked, .inl (cI, 7, .inl e_asked)), (aesent, .inl (cI, 7, .inl e_sent))] H := hP
  have hD : va_D A [(ad, .inr (1, [.ref adslip, .ref adleaf, .ref ae, .int (d_count + ((1 : Int32))), .int d_fittingPages, .int d_leastPage, .int d_greatestPage])), (adslip, .inl (cI, 8, .inl g1)), (adleaf, .inl (cI, 8, .inl g2)), (ae, .inr (4, [.ref aekind, .ref aepage, .ref aeasked, .ref aesent, .int e_count, .int e_wetSet])), (aekind, .inl (cI, 7, .inl e_kind)), (aepage, .inl (cI, 7, .inl e_page)), (aeasked, .inl (cI, 7, .inl e_asked)), (aesent, .inl (cI, 7, .inl e_sent))] := hD
  refine lv_aload_n hx hb dX1_note_30 rfl (lv_at hl 0 rfl) ?_
  refine va_get (D := D) (ci := 1) (v := .int (d_count + ((1 : Int32)))) (C := RX1) (T := TX1) (N := 7) hx hb hts iX1 hown hK hP 0 rfl rfl 3 (by decide) hF25 (fun _ h9 => h9) rfl dX1_note_31 ?_
  refine lv_iconst (v := 1) hx hb dX1_note_34 (by decide) ?_
  refine lv_isub hx hb dX1_note_35 ?_
  have hq9 := Option.some.inj hf
  subst hq9
  exact hRet _ _ _ _ _ rfl rfl hP hD hS dX1_note_36
set_option maxHeartbeats 4000000 in
set_option maxRecDepth 100000 in
theorem kX1_seenOf (l : Launch) (D : va_G) (cI cR : ClassId) (ad adslip adleaf ae aekind aepage aeasked aesent an ankind anpage anasked ansent : Nat) (d_slip : Nat → Int32) (d_leaf : Nat → Int32) (d_count : Int32) (d_fittingPages : Int32) (d_leastPage : Int32) (d_greatestPage : Int32) (e_kind : Nat → Int32) (e_page : Nat → Int32) (e_asked : Nat → Int32) (e_sent : Nat → Int32) (e_count : Int32) (e_wetSet : Int32) (n_kind : Nat → Int32) (n_page : Nat → Int32) (n_asked : Nat → Int32) (n_sent : Nat → Int32) (n_count : Int32) (n_wetSet : Int32) (p2 : Int32) (q : Int32 × (Nat → Int32) × (Nat → Int32) × (Nat → Int32) × (Nat → Int32) × Int32 × Int32) (hf : pX1_seenOf d_slip d_leaf d_count e_kind e_page e_asked e_sent e_count e_wetSet n_kind n_page n_asked n_sent n_count n_wetSet p2 = some q) : CWi l yX1_seenOf wsX1_seenOf ({ frames := 4, cells := 0, slots := 0, locals := 89 } : Room) D cI cR [.ref ad, .ref an, .int p2] [(ad, .inr (1, [.ref adslip, .ref adleaf, .ref ae, .int d_count, .int d_fittingPages, .int d_leastPage, .int d_greatestPage])), (adslip, .inl (cI, 8, .inl d_slip)), (adleaf, .inl (cI, 8, .inl d_leaf)), (ae, .inr (4, [.ref aekind, .ref aepage, .ref aeasked, .ref aesent, .int e_count, .int e_wetSet])), (aekind, .inl (cI, 7, .inl e_kind)), (aepage, .inl (cI, 7, .inl e_page)), (aeasked, .inl (cI, 7, .inl e_asked)), (aesent, .inl (cI, 7, .inl e_sent)), (an, .inr (4, [.ref ankind, .ref anpage, .ref anasked, .ref ansent, .int n_count, .int n_wetSet])), (ankind, .inl (cI, 7, .inl n_kind)), (anpage, .inl (cI, 7, .inl n_page)), (anasked, .inl (cI, 7, .inl n_asked)), (ansent, .inl (cI, 7, .inl n_sent))] [(ad, .inr (1, [.ref adslip, .ref adleaf, .ref ae, .int d_count, .int d_fittingPages, .int d_leastPage, .int d_greatestPage])), (adslip, .inl (cI, 8, .inl d_slip)), (adleaf, .inl (cI, 8, .inl d_leaf)), (ae, .inr (4, [.ref aekind, .ref aepage, .ref aeasked, .ref aesent, .int q.2.2.2.2.2.1, .int q.2.2.2.2.2.2])), (aekind, .inl (cI, 7, .inl q.2.1)), (aepage, .inl (cI, 7, .inl q.2.2.1)), (aeasked, .inl (cI, 7, .inl q.2.2.2.1)), (aesent, .inl (cI, 7, .inl q.2.2.2.2.1)), (an, .inr (4, [.ref ankind, .ref anpage, .ref anasked, .ref ansent, .int n_count, .int n_wetSet])), (ankind, .inl (cI, 7, .inl n_kind)), (anpage, .inl (cI, 7, .inl n_page)), (anasked, .inl (cI, 7, .inl n_asked)), (ansent, .inl (cI, 7, .inl n_sent))] q.1 := by
  refine CWi.intro (cc := cX1_seenOf) (maxL := 5) (ty := .int) (by decide) rfl (Nat.le_of_ble_eq_true rfl) ?_
  intro p e s m args below meth c hx hb hml hts hown hP hK hN A hA hD hS QQ hRet ls hl
  have hown : s.vm.findClass RX1 = some m.cls := hown
  have hl : lv_has ls 5 [(0, .ref ad), (1, .ref an), (2, .int p2)] := hl
  have iX1 : ∀ w ∈ u_ws RX1 TX1 7, w ∈ wsX1_seenOf := by decide +kernel
  have iX4 : ∀ w ∈ u_ws RX4 TX4 6, w ∈ wsX1_seenOf := by decide +kernel
  have hF21 := hts (.fieldLink RX1 21 "WorldIndex$Readings" "tried" "LWorldIndex$Slips;") (by decide +kernel)
  have hG56 := NN.f (args := args) hN "WorldIndex$Readings" 56 "WorldIndex$Slips" "count" "I" "WorldIndex" (by decide +kernel)
  have hG57 := NN.f (args := args) hN "WorldIndex$Readings" 57 "WorldIndex$Slips" "sent" "[I" "WorldIndex" (by decide +kernel)
  unfold pX1_seenOf at hf
  refine lv_aload_n hx hb dX1_seenOf_0 rfl (lv_at hl 0 rfl) ?_
  refine va_get (D := D) (ci := 1) (v := .ref ae) (C := RX1) (T := TX1) (N := 7) hx hb hts iX1 hown hK hP 0 rfl rfl 2 (by decide) hF21 (fun _ h9 => h9) rfl dX1_seenOf_1 ?_
  refine lv_aload_n hx hb dX1_seenOf_4 rfl (lv_at hl 1 rfl) ?_
  obtain ⟨z1, hz1, hf⟩ := bnd hf
  refine q_wVv (wr := [(ad, .inr (1, [.ref adslip, .ref adleaf, .ref ae, .int d_count, .int d_fittingPages, .int d_leastPage, .int d_greatestPage])), (adslip, .inl (cI, 8, .inl d_slip)), (adleaf, .inl (cI, 8, .inl d_leaf))]) (rest := []) ⟨hx, hb, hml, hown, hts⟩ (kX4_becomeLike l D cI cR ae aekind aepage aeasked aesent an ankind anpage anasked ansent e_kind e_page e_asked e_sent e_count e_wetSet n_kind n_page n_asked n_sent n_count n_wetSet z1 hz1) (cwV 1 hts gX1_seenOf_X4_becomeLike rfl rfl rfl (by decide +kernel) ⟨Nat.le_of_ble_eq_true rfl, Nat.le_of_ble_eq_true rfl⟩) hP hD hS hA hK hN [3, 4, 5, 6, 7, 8, 9, 10, 11, 12] [0, 1, 2] rfl rfl (by decide) (by decide) (by decide) (va_recv hK hP (ci := 4) (q0 := 3) rfl rfl) rfl hl.1 rfl (Nat.le_of_ble_eq_true rfl) dX1_seenOf_5 ⟨Nat.le_of_ble_eq_true rfl, Nat.le_of_ble_eq_true rfl⟩ (fun H locs hP hD hS => ?_)
  have hP := hP.sub (ws' := [(ad, .inr (1, [.ref adslip, .ref adleaf, .ref ae, .int d_count, .int d_fittingPages, .int d_leastPage, .int d_greatestPage])), (adslip, .inl (cI, 8, .inl d_slip)), (adleaf, .inl (cI, 8, .inl d_leaf)), (ae, .inr (4, [.ref aekind, .ref aepage, .ref aeasked, .ref aesent, .int z1.2.2.2.2.1, .int z1.2.2.2.2.2])), (aekind, .inl (cI, 7, .inl z1.1)), (aepage, .inl (cI, 7, .inl z1.2.1)), (aeasked, .inl (cI, 7, .inl z1.2.2.1)), (aesent, .inl (cI, 7, .inl z1.2.2.2.1)), (an, .inr (4, [.ref ankind, .ref anpage, .ref anasked, .ref ansent, .int n_count, .int n_wetSet])), (ankind, .inl (cI, 7, .inl n_kind)), (anpage, .inl (cI, 7, .inl n_page)), (anasked, .inl (cI, 7, .inl n_asked)), (ansent, .inl (cI, 7, .inl n_sent))]) [0, 1, 2, 3, 4, 5, 6, 7, 8, 9, 10, 11, 12] rfl
  have hD := hD.sub (ws' := [(ad, .inr (1, [.ref adslip, .ref adleaf, .ref ae, .int d_count, .int d_fittingPages, .int d_leastPage, .int d_greatestPage])), (adslip, .inl (cI, 8, .inl d_slip)), (adleaf, .inl (cI, 8, .inl d_leaf)), (ae, .inr (4, [.ref aekind, .ref aepage, .ref aeasked, .ref aesent, .int z1.2.2.2.2.1, .int z1.2.2.2.2.2])), (aekind, .inl (cI, 7, .inl z1.1)), (aepage, .inl (cI, 7, .inl z1.2.1)), (aeasked, .inl (cI, 7, .inl z1.2.2.1)), (aesent, .inl (cI, 7, .inl z1.2.2.2.1)), (an, .inr (4, [.ref ankind, .ref anpage, .ref anasked, .ref ansent, .int n_count, .int n_wetSet])), (ankind, .inl (cI, 7, .inl n_kind)), (anpage, .inl (cI, 7, .inl n_page)), (anasked, .inl (cI, 7, .inl n_asked)), (ansent, .inl (cI, 7, .inl n_sent))]) [0, 1, 2, 3, 4, 5, 6, 7, 8, 9, 10, 11, 12] (by decide) rfl
  refine lv_iconst (v := 0) hx hb dX1_seenOf_8 (by decide) ?_
  refine lv_istore_n (lv' := [(3, .int ((0 : Int32))), (0, .ref ad), (1, .ref an), (2, .int p2)]) hx hb dX1_seenOf_9 rfl hl (by decide) rfl (fun ls hl => ?_)
  refine lv_iconst (v := 0) hx hb dX1_seenOf_10 (by decide) ?_
  refine lv_istore (lv' := [(4, .int ((0 : Int32))), (3, .int ((0 : Int32))), (0, .ref ad), (1, .ref an), (2, .int p2)]) hx hb dX1_seenOf_11 hl (by decide) rfl (fun ls hl => ?_)
  have hL13 : ∀ (K : Int32 → Int32 → (Nat → Int32) → Option (Int32 × (Nat → Int32) × (Nat → Int32) × (Nat → Int32) × (Nat → Int32) × Int32 × Int32)) (hKK : ∀ (k5_v3 : Int32) (k5_v4 : Int32) (k5_w_e_sent : Nat → Int32) (H : Heap) (locs : List Loc) (ls : Array Slot), K k5_v3 k5_v4 k5_w_e_sent = some q → va_P D vwCl [(ad, .inr (1, [.ref adslip, .ref adleaf, .ref ae, .int d_count, .int d_fittingPages, .int d_leastPage, .int d_greatestPage])), (adslip, .inl (cI, 8, .inl d_slip)), (adleaf, .inl (cI, 8, .inl d_leaf)), (ae, .inr (4, [.ref aekind, .ref aepage, .ref aeasked, .ref aesent, .int z1.2.2.2.2.1, .int z1.2.2.2.2.2])), (aekind, .inl (cI, 7, .inl z1.1)), (aepage, .inl (cI, 7, .inl z1.2.1)), (aeasked, .inl (cI, 7, .inl z1.2.2.1)), (aesent, .inl (cI, 7, .inl k5_w_e_sent)), (an, .inr (4, [.ref ankind, .ref anpage, .ref anasked, .ref ansent, .int n_count, .int n_wetSet])), (ankind, .inl (cI, 7, .inl n_kind)), (anpage, .inl (cI, 7, .inl n_page)), (anasked, .inl (cI, 7, .inl n_asked)), (ansent, .inl (cI, 7, .inl n_sent))] H → va_D A [(ad, .inr (1, [.ref adslip, .ref adleaf, .ref ae, .int d_count, .int d_fittingPages, .int d_leastPage, .int d_greatestPage])), (adslip, .inl (cI, 8, .inl d_slip)), (adleaf, .inl (cI, 8, .inl d_leaf)), (ae, .inr (4, [.ref aekind, .ref aepage, .ref aeasked, .ref aesent, .int z1.2.2.2.2.1, .int z1.2.2.2.2.2])), (aekind, .inl (cI, 7, .inl z1.1)), (aepage, .inl (cI, 7, .inl z1.2.1)), (aeasked, .inl (cI, 7, .inl z1.2.2.1)), (aesent, .inl (cI, 7, .inl k5_w_e_sent)), (an, .inr (4, [.ref ankind, .ref anpage, .ref anasked, .ref ansent, .int n_count, .int n_wetSet])), (ankind, .inl (cI, 7, .inl n_kind)), (anpage, .inl (cI, 7, .inl n_page)), (anasked, .inl (cI, 7, .inl n_asked)), (ansent, .inl (cI, 7, .inl n_sent))] → va_S A s.heap H locs → lv_has ls 5 [(0, .ref ad), (1, .ref an), (2, .int p2), (3, .int k5_v3), (4, .int k5_v4)] → W p l e ({ frames := 4, cells := 0, slots := 0, locals := 89 } : Room) s m args below meth c H locs 0 0 QQ (F0 m 56 ls [])) (n : Nat), ∀ (b8_v3 : Int32) (b8_v4 : Int32) (b8_w_e_sent : Nat → Int32) (H : Heap) (locs : List Loc) (ls : Array Slot), pX1_seenOf_L13 p2 d_slip d_leaf d_count z1.1 z1.2.1 z1.2.2.2.2.1 z1.2.2.2.2.2 K n b8_v3 b8_v4 b8_w_e_sent = some q → va_P D vwCl [(ad, .inr (1, [.ref adslip, .ref adleaf, .ref ae, .int d_count, .int d_fittingPages, .int d_leastPage, .int d_greatestPage])), (adslip, .inl (cI, 8, .inl d_slip)), (adleaf, .inl (cI, 8, .inl d_leaf)), (ae, .inr (4, [.ref aekind, .ref aepage, .ref aeasked, .ref aesent, .int z1.2.2.2.2.1, .int z1.2.2.2.2.2])), (aekind, .inl (cI, 7, .inl z1.1)), (aepage, .inl (cI, 7, .inl z1.2.1)), (aeasked, .inl (cI, 7, .inl z1.2.2.1)), (aesent, .inl (cI, 7, .inl b8_w_e_sent)), (an, .inr (4, [.ref ankind, .ref anpage, .ref anasked, .ref ansent, .int n_count, .int n_wetSet])), (ankind, .inl (cI, 7, .inl n_kind)), (anpage, .inl (cI, 7, .inl n_page)), (anasked, .inl (cI, 7, .inl n_asked)), (ansent, .inl (cI, 7, .inl n_sent))] H → va_D A [(ad, .inr (1, [.ref adslip, .ref adleaf, .ref ae, .int d_count, .int d_fittingPages, .int d_leastPage, .int d_greatestPage])), (adslip, .inl (cI, 8, .inl d_slip)), (adleaf, .inl (cI, 8, .inl d_leaf)), (ae, .inr (4, [.ref aekind, .ref aepage, .ref aeasked, .ref aesent, .int z1.2.2.2.2.1, .int z1.2.2.2.2.2])), (aekind, .inl (cI, 7, .inl z1.1)), (aepage, .inl (cI, 7, .inl z1.2.1)), (aeasked, .inl (cI, 7, .inl z1.2.2.1)), (aesent, .inl (cI, 7, .inl b8_w_e_sent)), (an, .inr (4, [.ref ankind, .ref anpage, .ref anasked, .ref ansent, .int n_count, .int n_wetSet])), (ankind, .inl (cI, 7, .inl n_kind)), (anpage, .inl (cI, 7, .inl n_page)), (anasked, .inl (cI, 7, .inl n_asked)), (ansent, .inl (cI, 7, .inl n_sent))] → va_S A s.heap H locs → lv_has ls 5 [(0, .ref ad), (1, .ref an), (2, .int p2), (3, .int b8_v3), (4, .int b8_v4)] → W p l e ({ frames := 4, cells := 0, slots := 0, locals := 89 } : Room) s m args below meth c H locs 0 0 QQ (F0 m 13 ls []) := by
    intro K hKK n
    induction n with
    | zero =>
      intro b8_v3 b8_v4 b8_w_e_sent H locs ls hf hP hD hS hl
      rw [pX1_seenOf_L13_z] at hf
      cases hf
    | succ n ih =>
      intro b8_v3 b8_v4 b8_w_e_sent H locs ls hf hP hD hS hl
      rw [pX1_seenOf_L13_s] at hf
      refine lv_iload hx hb dX1_seenOf_13 (lv_at hl 4 rfl) ?_
      refine lv_aload_n hx hb dX1_seenOf_15 rfl (lv_at hl 0 rfl) ?_
      refine va_get (D := D) (ci := 1) (v := .ref ae) (C := RX1) (T := TX1) (N := 7) hx hb hts iX1 hown hK hP 0 rfl rfl 2 (by decide) hF21 (fun _ h9 => h9) rfl dX1_seenOf_16 ?_
      refine va_getN (D := D) (ci := 4) (v := .int z1.2.2.2.2.1) (C := RX4) (T := TX4) (N := 6) hx hb hts iX4 hown hK hP 3 rfl rfl 4 (by decide) hG56 (fun _ h9 => h9) rfl dX1_seenOf_19 ?_
      refine q_icmp_ge hx hb hf 56 dX1_seenOf_22 (by decide) (fun hf => ?_) (fun hf => ?_)
      · exact hKK _ _ _ _ _ _ hf hP hD hS (lv_sub hl [0, 1, 2, 3, 4] rfl)
      · refine lv_aload_n hx hb dX1_seenOf_25 rfl (lv_at hl 0 rfl) ?_
        refine va_get (D := D) (ci := 1) (v := .ref ae) (C := RX1) (T := TX1) (N := 7) hx hb hts iX1 hown hK hP 0 rfl rfl 2 (by decide) hF21 (fun _ h9 => h9) rfl dX1_seenOf_26 ?_
        refine va_getN (D := D) (ci := 4) (v := .ref aesent) (C := RX4) (T := TX4) (N := 6) hx hb hts iX4 hown hK hP 3 rfl rfl 3 (by decide) hG57 (fun _ h9 => h9) rfl dX1_seenOf_29 ?_
        refine lv_iload_n hx hb dX1_seenOf_32 rfl (lv_at hl 2 rfl) ?_
        refine lv_iload hx hb dX1_seenOf_33 (lv_at hl 4 rfl) ?_
        refine q_iast hx hb hK hP hD hS 7 0 rfl rfl hf dX1_seenOf_35 (fun g9 H locs hf hP hD hS => ?_)
        have hP : va_P D vwCl [(ad, .inr (1, [.ref adslip, .ref adleaf, .ref ae, .int d_count, .int d_fittingPages, .int d_leastPage, .int d_greatestPage])), (adslip, .inl (cI, 8, .inl d_slip)), (adleaf, .inl (cI, 8, .inl d_leaf)), (ae, .inr (4, [.ref aekind, .ref aepage, .ref aeasked, .ref aesent, .int z1.2.2.2.2.1, .int z1.2.2.2.2.2])), (aekind, .inl (cI, 7, .inl z1.1)), (aepage, .inl (cI, 7, .inl z1.2.1)), (aeasked, .inl (cI, 7, .inl z1.2.2.1)), (aesent, .inl (cI, 7, .inl g9)), (an, .inr (4, [.ref ankind, .ref anpage, .ref anasked, .ref ansent, .int n_count, .int n_wetSet])), (ankind, .inl (cI, 7, .inl n_kind)), (anpage, .inl (cI, 7, .inl n_page)), (anasked, .inl (cI, 7, .inl n_asked)), (ansent, .inl (cI, 7, .inl n_sent))] H := hP
        have hD : va_D A [(ad, .inr (1, [.ref adslip, .ref adleaf, .ref ae, .int d_count, .int d_fittingPages, .int d_leastPage, .int d_greatestPage])), (adslip, .inl (cI, 8, .inl d_slip)), (adleaf, .inl (cI, 8, .inl d_leaf)), (ae, .inr (4, [.ref aekind, .ref aepage, .ref aeasked, .ref aesent, .int z1.2.2.2.2.1, .int z1.2.2.2.2.2])), (aekind, .inl (cI, 7, .inl z1.1)), (aepage, .inl (cI, 7, .inl z1.2.1)), (aeasked, .inl (cI, 7, .inl z1.2.2.1)), (aesent, .inl (cI, 7, .inl g9)), (an, .inr (4, [.ref ankind, .ref anpage, .ref anasked, .ref ansent, .int n_count, .int n_wetSet])), (ankind, .inl (cI, 7, .inl n_kind)), (anpage, .inl (cI, 7, .inl n_page)), (anasked, .inl (cI, 7, .inl n_asked)), (ansent, .inl (cI, 7, .inl n_sent))] := hD
        refine lv_aload_n hx hb dX1_seenOf_36 rfl (lv_at hl 0 rfl) ?_
        obtain ⟨z10, hz10, hf⟩ := bnd hf
        refine q_rV (rest := []) ⟨hx, hb, hml, hown, hts⟩ (kX1_allAreSo l D cI cR ad adslip adleaf ae aekind aepage aeasked aesent d_slip d_leaf d_count d_fittingPages d_leastPage d_greatestPage z1.1 z1.2.1 z1.2.2.1 g9 z1.2.2.2.2.1 z1.2.2.2.2.2 z10 hz10) (cwV 0 hts gX1_seenOf_X1_allAreSo rfl rfl rfl (by decide +kernel) ⟨Nat.le_of_ble_eq_true rfl, Nat.le_of_ble_eq_true rfl⟩) (hP.sub [0, 1, 2, 3, 4, 5, 6, 7] rfl) hK hN (va_recv hK hP (ci := 1) (q0 := 0) rfl rfl) rfl hl.1 rfl (Nat.le_of_ble_eq_true rfl) dX1_seenOf_37 ⟨Nat.le_of_ble_eq_true rfl, Nat.le_of_ble_eq_true rfl⟩ ?_
        obtain ⟨J50_11, eJ50_11, hf⟩ := q_jn hf
        have hJ50_11 : ∀ (u11_0 : Int32) (H : Heap) (locs : List Loc) (ls : Array Slot), J50_11 u11_0 = some q → va_P D vwCl [(ad, .inr (1, [.ref adslip, .ref adleaf, .ref ae, .int d_count, .int d_fittingPages, .int d_leastPage, .int d_greatestPage])), (adslip, .inl (cI, 8, .inl d_slip)), (adleaf, .inl (cI, 8, .inl d_leaf)), (ae, .inr (4, [.ref aekind, .ref aepage, .ref aeasked, .ref aesent, .int z1.2.2.2.2.1, .int z1.2.2.2.2.2])), (aekind, .inl (cI, 7, .inl z1.1)), (aepage, .inl (cI, 7, .inl z1.2.1)), (aeasked, .inl (cI, 7, .inl z1.2.2.1)), (aesent, .inl (cI, 7, .inl g9)), (an, .inr (4, [.ref ankind, .ref anpage, .ref anasked, .ref ansent, .int n_count, .int n_wetSet])), (ankind, .inl (cI, 7, .inl n_kind)), (anpage, .inl (cI, 7, .inl n_page)), (anasked, .inl (cI, 7, .inl n_asked)), (ansent, .inl (cI, 7, .inl n_sent))] H → va_D A [(ad, .inr (1, [.ref adslip, .ref adleaf, .ref ae, .int d_count, .int d_fittingPages, .int d_leastPage, .int d_greatestPage])), (adslip, .inl (cI, 8, .inl d_slip)), (adleaf, .inl (cI, 8, .inl d_leaf)), (ae, .inr (4, [.ref aekind, .ref aepage, .ref aeasked, .ref aesent, .int z1.2.2.2.2.1, .int z1.2.2.2.2.2])), (aekind, .inl (cI, 7, .inl z1.1)), (aepage, .inl (cI, 7, .inl z1.2.1)), (aeasked, .inl (cI, 7, .inl z1.2.2.1)), (aesent, .inl (cI, 7, .inl g9)), (an, .inr (4, [.ref ankind, .ref anpage, .ref anasked, .ref ansent, .int n_count, .int n_wetSet])), (ankind, .inl (cI, 7, .inl n_kind)), (anpage, .inl (cI, 7, .inl n_page)), (anasked, .inl (cI, 7, .inl n_asked)), (ansent, .inl (cI, 7, .inl n_sent))] → va_S A s.heap H locs → lv_has ls 5 [(0, .ref ad), (1, .ref an), (2, .int p2), (3, .int u11_0), (4, .int b8_v4)] → W p l e ({ frames := 4, cells := 0, slots := 0, locals := 89 } : Room) s m args below meth c H locs 0 0 QQ (F0 m 50 ls []) := by
          intro u11_0 H locs ls hf hP hD hS hl
          rw [eJ50_11] at hf
          refine lv_iinc (v := b8_v4 + (1 : Int32)) (lv' := [(4, .int (b8_v4 + (1 : Int32))), (0, .ref ad), (1, .ref an), (2, .int p2), (3, .int u11_0)]) hx hb dX1_seenOf_50 hl (k := 4) rfl rfl (by decide) rfl (fun ls hl => ?_)
          refine lv_goto (tgt := 13) hx hb dX1_seenOf_53 (by decide) ?_
          exact ih _ _ _ _ _ _ hf hP hD hS (lv_sub hl [1, 2, 3, 4, 0] rfl)
        refine q_if_eq hx hb hf 50 dX1_seenOf_40 (by decide) (fun hf => ?_) (fun hf => ?_)
        · exact hJ50_11 _ _ _ _ hf hP hD hS (lv_sub hl [0, 1, 2, 3, 4] rfl)
        · refine lv_iload_n hx hb dX1_seenOf_43 rfl (lv_at hl 3 rfl) ?_
          refine lv_iconst (v := 1) hx hb dX1_seenOf_44 (by decide) ?_
          refine lv_iload hx hb dX1_seenOf_45 (lv_at hl 4 rfl) ?_
          refine lv_ishl hx hb dX1_seenOf_47 ?_
          refine lv_ior hx hb dX1_seenOf_48 ?_
          refine lv_istore_n (lv' := [(3, .int (b8_v3 ||| (((1 : Int32)) <<< (b8_v4 &&& 31)))), (0, .ref ad), (1, .ref an), (2, .int p2), (4, .int b8_v4)]) hx hb dX1_seenOf_49 rfl hl (by decide) rfl (fun ls hl => ?_)
          exact hJ50_11 _ _ _ _ hf hP hD hS (lv_sub hl [1, 2, 3, 0, 4] rfl)
  refine hL13 _ (fun k5_v3 k5_v4 k5_w_e_sent H locs ls hf hP hD hS hl => ?_) fu _ _ _ _ _ _ hf hP hD hS (lv_sub hl [2, 3, 4, 1, 0] rfl)
  refine lv_aload_n hx hb dX1_seenOf_56 rfl (lv_at hl 0 rfl) ?_
  refine va_get (D := D) (ci := 1) (v := .ref ae) (C := RX1) (T := TX1) (N := 7) hx hb hts iX1 hown hK hP 0 rfl rfl 2 (by decide) hF21 (fun _ h9 => h9) rfl dX1_seenOf_57 ?_
  refine va_getN (D := D) (ci := 4) (v := .ref aesent) (C := RX4) (T := TX4) (N := 6) hx hb hts iX4 hown hK hP 3 rfl rfl 3 (by decide) hG57 (fun _ h9 => h9) rfl dX1_seenOf_60 ?_
  refine lv_iload_n hx hb dX1_seenOf_63 rfl (lv_at hl 2 rfl) ?_
  refine lv_bipush (v := -9) hx hb dX1_seenOf_64 (by decide) ?_
  refine q_iast hx hb hK hP hD hS 7 0 rfl rfl hf dX1_seenOf_66 (fun g6 H locs hf hP hD hS => ?_)
  have hP : va_P D vwCl [(ad, .inr (1, [.ref adslip, .ref adleaf, .ref ae, .int d_count, .int d_fittingPages, .int d_leastPage, .int d_greatestPage])), (adslip, .inl (cI, 8, .inl d_slip)), (adleaf, .inl (cI, 8, .inl d_leaf)), (ae, .inr (4, [.ref aekind, .ref aepage, .ref aeasked, .ref aesent, .int z1.2.2.2.2.1, .int z1.2.2.2.2.2])), (aekind, .inl (cI, 7, .inl z1.1)), (aepage, .inl (cI, 7, .inl z1.2.1)), (aeasked, .inl (cI, 7, .inl z1.2.2.1)), (aesent, .inl (cI, 7, .inl g6)), (an, .inr (4, [.ref ankind, .ref anpage, .ref anasked, .ref ansent, .int n_count, .int n_wetSet])), (ankind, .inl (cI, 7, .inl n_kind)), (anpage, .inl (cI, 7, .inl n_page)), (anasked, .inl (cI, 7, .inl n_asked)), (ansent, .inl (cI, 7, .inl n_sent))] H := hP
  have hD : va_D A [(ad, .inr (1, [.ref adslip, .ref adleaf, .ref ae, .int d_count, .int d_fittingPages, .int d_leastPage, .int d_greatestPage])), (adslip, .inl (cI, 8, .inl d_slip)), (adleaf, .inl (cI, 8, .inl d_leaf)), (ae, .inr (4, [.ref aekind, .ref aepage, .ref aeasked, .ref aesent, .int z1.2.2.2.2.1, .int z1.2.2.2.2.2])), (aekind, .inl (cI, 7, .inl z1.1)), (aepage, .inl (cI, 7, .inl z1.2.1)), (aeasked, .inl (cI, 7, .inl z1.2.2.1)), (aesent, .inl (cI, 7, .inl g6)), (an, .inr (4, [.ref ankind, .ref anpage, .ref anasked, .ref ansent, .int n_count, .int n_wetSet])), (ankind, .inl (cI, 7, .inl n_kind)), (anpage, .inl (cI, 7, .inl n_page)), (anasked, .inl (cI, 7, .inl n_asked)), (ansent, .inl (cI, 7, .inl n_sent))] := hD
  refine lv_aload_n hx hb dX1_seenOf_67 rfl (lv_at hl 0 rfl) ?_
  obtain ⟨z7, hz7, hf⟩ := bnd hf
  refine q_rV (rest := []) ⟨hx, hb, hml, hown, hts⟩ (kX1_allAreSo l D cI cR ad adslip adleaf ae aekind aepage aeasked aesent d_slip d_leaf d_count d_fittingPages d_leastPage d_greatestPage z1.1 z1.2.1 z1.2.2.1 g6 z1.2.2.2.2.1 z1.2.2.2.2.2 z7 hz7) (cwV 0 hts gX1_seenOf_X1_allAreSo rfl rfl rfl (by decide +kernel) ⟨Nat.le_of_ble_eq_true rfl, Nat.le_of_ble_eq_true rfl⟩) (hP.sub [0, 1, 2, 3, 4, 5, 6, 7] rfl) hK hN (va_recv hK hP (ci := 1) (q0 := 0) rfl rfl) rfl hl.1 rfl (Nat.le_of_ble_eq_true rfl) dX1_seenOf_68 ⟨Nat.le_of_ble_eq_true rfl, Nat.le_of_ble_eq_true rfl⟩ ?_
  refine q_if_eq hx hb hf 82 dX1_seenOf_71 (by decide) (fun hf => ?_) (fun hf => ?_)
  · refine lv_iload_n hx hb dX1_seenOf_82 rfl (lv_at hl 3 rfl) ?_
    have hq9 := Option.some.inj hf
    subst hq9
    exact hRet _ _ _ _ _ rfl rfl hP hD hS dX1_seenOf_83
  · refine lv_iload_n hx hb dX1_seenOf_74 rfl (lv_at hl 3 rfl) ?_
    refine lv_sipush (v := 128) hx hb dX1_seenOf_75 (by decide) ?_
    refine lv_ior hx hb dX1_seenOf_78 ?_
    refine lv_goto (tgt := 83) hx hb dX1_seenOf_79 (by decide) ?_
    have hq9 := Option.some.inj hf
    subst hq9
    exact hRet _ _ _ _ _ rfl rfl hP hD hS dX1_seenOf_83
set_option maxHeartbeats 4000000 in
set_option maxRecDepth 100000 in
theorem kX1_tryPages (l : Launch) (D : va_G) (cI cR : ClassId) (ad adslip adleaf ae aekind aepage aeasked aesent an ankind anpage anasked ansent : Nat) (d_slip : Nat → Int32) (d_leaf : Nat → Int32) (d_count : Int32) (d_fittingPages : Int32) (d_leastPage : Int32) (d_greatestPage : Int32) (e_kind : Nat → Int32) (e_page : Nat → Int32) (e_asked : Nat → Int32) (e_sent : Nat → Int32) (e_count : Int32) (e_wetSet : Int32) (n_kind : Nat → Int32) (n_page : Nat → Int32) (n_asked : Nat → Int32) (n_sent : Nat → Int32) (n_count : Int32) (n_wetSet : Int32) (p2 : Int32) (q : Int32 × Int32 × Int32 × (Nat → Int32) × (Nat → Int32) × (Nat → Int32) × (Nat → Int32) × Int32 × Int32) (hf : pX1_tryPages d_slip d_leaf d_count d_fittingPages d_leastPage d_greatestPage e_kind e_page e_asked e_sent e_count e_wetSet n_kind n_page n_asked n_sent n_count n_wetSet p2 = some q) : CWv l yX1_tryPages wsX1_tryPages ({ frames := 4, cells := 0, slots := 0, locals := 89 } : Room) D cI cR [.ref ad, .ref an, .int p2] [(ad, .inr (1, [.ref adslip, .ref adleaf, .ref ae, .int d_count, .int d_fittingPages, .int d_leastPage, .int d_greatestPage])), (adslip, .inl (cI, 8, .inl d_slip)), (adleaf, .inl (cI, 8, .inl d_leaf)), (ae, .inr (4, [.ref aekind, .ref aepage, .ref aeasked, .ref aesent, .int e_count, .int e_wetSet])), (aekind, .inl (cI, 7, .inl e_kind)), (aepage, .inl (cI, 7, .inl e_page)), (aeasked, .inl (cI, 7, .inl e_asked)), (aesent, .inl (cI, 7, .inl e_sent)), (an, .inr (4, [.ref ankind, .ref anpage, .ref anasked, .ref ansent, .int n_count, .int n_wetSet])), (ankind, .inl (cI, 7, .inl n_kind)), (anpage, .inl (cI, 7, .inl n_page)), (anasked, .inl (cI, 7, .inl n_asked)), (ansent, .inl (cI, 7, .inl n_sent))] [(ad, .inr (1, [.ref adslip, .ref adleaf, .ref ae, .int d_count, .int q.1, .int q.2.1, .int q.2.2.1])), (adslip, .inl (cI, 8, .inl d_slip)), (adleaf, .inl (cI, 8, .inl d_leaf)), (ae, .inr (4, [.ref aekind, .ref aepage, .ref aeasked, .ref aesent, .int q.2.2.2.2.2.2.2.1, .int q.2.2.2.2.2.2.2.2])), (aekind, .inl (cI, 7, .inl q.2.2.2.1)), (aepage, .inl (cI, 7, .inl q.2.2.2.2.1)), (aeasked, .inl (cI, 7, .inl q.2.2.2.2.2.1)), (aesent, .inl (cI, 7, .inl q.2.2.2.2.2.2.1)), (an, .inr (4, [.ref ankind, .ref anpage, .ref anasked, .ref ansent, .int n_count, .int n_wetSet])), (ankind, .inl (cI, 7, .inl n_kind)), (anpage, .inl (cI, 7, .inl n_page)), (anasked, .inl (cI, 7, .inl n_asked)), (ansent, .inl (cI, 7, .inl n_sent))] := by
  refine CWv.intro (cc := cX1_tryPages) (maxL := 4) (by decide) rfl (Nat.le_of_ble_eq_true rfl) ?_
  intro p e s m args below meth c hx hb hml hts hown hP hK hN A hA hD hS QQ hRet ls hl
  have hown : s.vm.findClass RX1 = some m.cls := hown
  have hl : lv_has ls 4 [(0, .ref ad), (1, .ref an), (2, .int p2)] := hl
  have iX1 : ∀ w ∈ u_ws RX1 TX1 7, w ∈ wsX1_tryPages := by decide +kernel
  have iX4 : ∀ w ∈ u_ws RX4 TX4 6, w ∈ wsX1_tryPages := by decide +kernel
  have hF21 := hts (.fieldLink RX1 21 "WorldIndex$Readings" "tried" "LWorldIndex$Slips;") (by decide +kernel)
  have hF37 := hts (.fieldLink RX1 37 "WorldIndex$Readings" "fittingPages" "I") (by decide +kernel)
  have hF40 := hts (.fieldLink RX1 40 "WorldIndex$Readings" "leastPage" "I") (by decide +kernel)
  have hF43 := hts (.fieldLink RX1 43 "WorldIndex$Readings" "greatestPage" "I") (by decide +kernel)
  have hG46 := NN.f (args := args) hN "WorldIndex$Readings" 46 "WorldIndex$Slips" "page" "[I" "WorldIndex" (by decide +kernel)
  unfold pX1_tryPages at hf
  refine lv_aload_n hx hb dX1_tryPages_0 rfl (lv_at hl 0 rfl) ?_
  refine va_get (D := D) (ci := 1) (v := .ref ae) (C := RX1) (T := TX1) (N := 7) hx hb hts iX1 hown hK hP 0 rfl rfl 2 (by decide) hF21 (fun _ h9 => h9) rfl dX1_tryPages_1 ?_
  refine lv_aload_n hx hb dX1_tryPages_4 rfl (lv_at hl 1 rfl) ?_
  obtain ⟨z1, hz1, hf⟩ := bnd hf
  refine q_wVv (wr := [(ad, .inr (1, [.ref adslip, .ref adleaf, .ref ae, .int d_count, .int d_fittingPages, .int d_leastPage, .int d_greatestPage])), (adslip, .inl (cI, 8, .inl d_slip)), (adleaf, .inl (cI, 8, .inl d_leaf))]) (rest := []) ⟨hx, hb, hml, hown, hts⟩ (kX4_becomeLike l D cI cR ae aekind aepage aeasked aesent an ankind anpage anasked ansent e_kind e_page e_asked e_sent e_count e_wetSet n_kind n_page n_asked n_sent n_count n_wetSet z1 hz1) (cwV 1 hts gX1_tryPages_X4_becomeLike rfl rfl rfl (by decide +kernel) ⟨Nat.le_of_ble_eq_true rfl, Nat.le_of_ble_eq_true rfl⟩) hP hD hS hA hK hN [3, 4, 5, 6, 7, 8, 9, 10, 11, 12] [0, 1, 2] rfl rfl (by decide) (by decide) (by decide) (va_recv hK hP (ci := 4) (q0 := 3) rfl rfl) rfl hl.1 rfl (Nat.le_of_ble_eq_true rfl) dX1_tryPages_5 ⟨Nat.le_of_ble_eq_true rfl, Nat.le_of_ble_eq_true rfl⟩ (fun H locs hP hD hS => ?_)
  have hP := hP.sub (ws' := [(ad, .inr (1, [.ref adslip, .ref adleaf, .ref ae, .int d_count, .int d_fittingPages, .int d_leastPage, .int d_greatestPage])), (adslip, .inl (cI, 8, .inl d_slip)), (adleaf, .inl (cI, 8, .inl d_leaf)), (ae, .inr (4, [.ref aekind, .ref aepage, .ref aeasked, .ref aesent, .int z1.2.2.2.2.1, .int z1.2.2.2.2.2])), (aekind, .inl (cI, 7, .inl z1.1)), (aepage, .inl (cI, 7, .inl z1.2.1)), (aeasked, .inl (cI, 7, .inl z1.2.2.1)), (aesent, .inl (cI, 7, .inl z1.2.2.2.1)), (an, .inr (4, [.ref ankind, .ref anpage, .ref anasked, .ref ansent, .int n_count, .int n_wetSet])), (ankind, .inl (cI, 7, .inl n_kind)), (anpage, .inl (cI, 7, .inl n_page)), (anasked, .inl (cI, 7, .inl n_asked)), (ansent, .inl (cI, 7, .inl n_sent))]) [0, 1, 2, 3, 4, 5, 6, 7, 8, 9, 10, 11, 12] rfl
  have hD := hD.sub (ws' := [(ad, .inr (1, [.ref adslip, .ref adleaf, .ref ae, .int d_count, .int d_fittingPages, .int d_leastPage, .int d_greatestPage])), (adslip, .inl (cI, 8, .inl d_slip)), (adleaf, .inl (cI, 8, .inl d_leaf)), (ae, .inr (4, [.ref aekind, .ref aepage, .ref aeasked, .ref aesent, .int z1.2.2.2.2.1, .int z1.2.2.2.2.2])), (aekind, .inl (cI, 7, .inl z1.1)), (aepage, .inl (cI, 7, .inl z1.2.1)), (aeasked, .inl (cI, 7, .inl z1.2.2.1)), (aesent, .inl (cI, 7, .inl z1.2.2.2.1)), (an, .inr (4, [.ref ankind, .ref anpage, .ref anasked, .ref ansent, .int n_count, .int n_wetSet])), (ankind, .inl (cI, 7, .inl n_kind)), (anpage, .inl (cI, 7, .inl n_page)), (anasked, .inl (cI, 7, .inl n_asked)), (ansent, .inl (cI, 7, .inl n_sent))]) [0, 1, 2, 3, 4, 5, 6, 7, 8, 9, 10, 11, 12] (by decide) rfl
  refine lv_aload_n hx hb dX1_tryPages_8 rfl (lv_at hl 0 rfl) ?_
  refine lv_iconst (v := 0) hx hb dX1_tryPages_9 (by decide) ?_
  refine va_put (D := D) (ci := 1) (v := .int ((0 : Int32))) (ty := .int) (C := RX1) (T := TX1) (N := 7) hx hb hts iX1 tyX1 tyX1_ok nmX1 hown hK hP hD hS 0 rfl rfl 4 (by decide) hF37 (fun _ h9 => h9) rfl (tyX1_ok 4 (by decide)) rfl rfl (Nat.le_of_ble_eq_true rfl) dX1_tryPages_10 (fun H locs hP hD hS => ?_)
  have hP : va_P D vwCl [(ad, .inr (1, [.ref adslip, .ref adleaf, .ref ae, .int d_count, .int ((0 : Int32)), .int d_leastPage, .int d_greatestPage])), (adslip, .inl (cI, 8, .inl d_slip)), (adleaf, .inl (cI, 8, .inl d_leaf)), (ae, .inr (4, [.ref aekind, .ref aepage, .ref aeasked, .ref aesent, .int z1.2.2.2.2.1, .int z1.2.2.2.2.2])), (aekind, .inl (cI, 7, .inl z1.1)), (aepage, .inl (cI, 7, .inl z1.2.1)), (aeasked, .inl (cI, 7, .inl z1.2.2.1)), (aesent, .inl (cI, 7, .inl z1.2.2.2.1)), (an, .inr (4, [.ref ankind, .ref anpage, .ref anasked, .ref ansent, .int n_count, .int n_wetSet])), (ankind, .inl (cI, 7, .inl n_kind)), (anpage, .inl (cI, 7, .inl n_page)), (anasked, .inl (cI, 7, .inl n_asked)), (ansent, .inl (cI, 7, .inl n_sent))] H := hP
  have hD : va_D A [(ad, .inr (1, [.ref adslip, .ref adleaf, .ref ae, .int d_count, .int ((0 : Int32)), .int d_leastPage, .int d_greatestPage])), (adslip, .inl (cI, 8, .inl d_slip)), (adleaf, .inl (cI, 8, .inl d_leaf)), (ae, .inr (4, [.ref aekind, .ref aepage, .ref aeasked, .ref aesent, .int z1.2.2.2.2.1, .int z1.2.2.2.2.2])), (aekind, .inl (cI, 7, .inl z1.1)), (aepage, .inl (cI, 7, .inl z1.2.1)), (aeasked, .inl (cI, 7, .inl z1.2.2.1)), (aesent, .inl (cI, 7, .inl z1.2.2.2.1)), (an, .inr (4, [.ref ankind, .ref anpage, .ref anasked, .ref ansent, .int n_count, .int n_wetSet])), (ankind, .inl (cI, 7, .inl n_kind)), (anpage, .inl (cI, 7, .inl n_page)), (anasked, .inl (cI, 7, .inl n_asked)), (ansent, .inl (cI, 7, .inl n_sent))] := hD
  refine lv_aload_n hx hb dX1_tryPages_13 rfl (lv_at hl 0 rfl) ?_
  refine lv_bipush (v := -9) hx hb dX1_tryPages_14 (by decide) ?_
  refine va_put (D := D) (ci := 1) (v := .int ((-9 : Int32))) (ty := .int) (C := RX1) (T := TX1) (N := 7) hx hb hts iX1 tyX1 tyX1_ok nmX1 hown hK hP hD hS 0 rfl rfl 5 (by decide) hF40 (fun _ h9 => h9) rfl (tyX1_ok 5 (by decide)) rfl rfl (Nat.le_of_ble_eq_true rfl) dX1_tryPages_16 (fun H locs hP hD hS => ?_)
  have hP : va_P D vwCl [(ad, .inr (1, [.ref adslip, .ref adleaf, .ref ae, .int d_count, .int ((0 : Int32)), .int ((-9 : Int32)), .int d_greatestPage])), (adslip, .inl (cI, 8, .inl d_slip)), (adleaf, .inl (cI, 8, .inl d_leaf)), (ae, .inr (4, [.ref aekind, .ref aepage, .ref aeasked, .ref aesent, .int z1.2.2.2.2.1, .int z1.2.2.2.2.2])), (aekind, .inl (cI, 7, .inl z1.1)), (aepage, .inl (cI, 7, .inl z1.2.1)), (aeasked, .inl (cI, 7, .inl z1.2.2.1)), (aesent, .inl (cI, 7, .inl z1.2.2.2.1)), (an, .inr (4, [.ref ankind, .ref anpage, .ref anasked, .ref ansent, .int n_count, .int n_wetSet])), (ankind, .inl (cI, 7, .inl n_kind)), (anpage, .inl (cI, 7, .inl n_page)), (anasked, .inl (cI, 7, .inl n_asked)), (ansent, .inl (cI, 7, .inl n_sent))] H := hP
  have hD : va_D A [(ad, .inr (1, [.ref adslip, .ref adleaf, .ref ae, .int d_count, .int ((0 : Int32)), .int ((-9 : Int32)), .int d_greatestPage])), (adslip, .inl (cI, 8, .inl d_slip)), (adleaf, .inl (cI, 8, .inl d_leaf)), (ae, .inr (4, [.ref aekind, .ref aepage, .ref aeasked, .ref aesent, .int z1.2.2.2.2.1, .int z1.2.2.2.2.2])), (aekind, .inl (cI, 7, .inl z1.1)), (aepage, .inl (cI, 7, .inl z1.2.1)), (aeasked, .inl (cI, 7, .inl z1.2.2.1)), (aesent, .inl (cI, 7, .inl z1.2.2.2.1)), (an, .inr (4, [.ref ankind, .ref anpage, .ref anasked, .ref ansent, .int n_count, .int n_wetSet])), (ankind, .inl (cI, 7, .inl n_kind)), (anpage, .inl (cI, 7, .inl n_page)), (anasked, .inl (cI, 7, .inl n_asked)), (ansent, .inl (cI, 7, .inl n_sent))] := hD
  refine lv_aload_n hx hb dX1_tryPages_19 rfl (lv_at hl 0 rfl) ?_
  refine lv_bipush (v := -9) hx hb dX1_tryPages_20 (by decide) ?_
  refine va_put (D := D) (ci := 1) (v := .int ((-9 : Int32))) (ty := .int) (C := RX1) (T := TX1) (N := 7) hx hb hts iX1 tyX1 tyX1_ok nmX1 hown hK hP hD hS 0 rfl rfl 6 (by decide) hF43 (fun _ h9 => h9) rfl (tyX1_ok 6 (by decide)) rfl rfl (Nat.le_of_ble_eq_true rfl) dX1_tryPages_22 (fun H locs hP hD hS => ?_)
  have hP : va_P D vwCl [(ad, .inr (1, [.ref adslip, .ref adleaf, .ref ae, .int d_count, .int ((0 : Int32)), .int ((-9 : Int32)), .int ((-9 : Int32))])), (adslip, .inl (cI, 8, .inl d_slip)), (adleaf, .inl (cI, 8, .inl d_leaf)), (ae, .inr (4, [.ref aekind, .ref aepage, .ref aeasked, .ref aesent, .int z1.2.2.2.2.1, .int z1.2.2.2.2.2])), (aekind, .inl (cI, 7, .inl z1.1)), (aepage, .inl (cI, 7, .inl z1.2.1)), (aeasked, .inl (cI, 7, .inl z1.2.2.1)), (aesent, .inl (cI, 7, .inl z1.2.2.2.1)), (an, .inr (4, [.ref ankind, .ref anpage, .ref anasked, .ref ansent, .int n_count, .int n_wetSet])), (ankind, .inl (cI, 7, .inl n_kind)), (anpage, .inl (cI, 7, .inl n_page)), (anasked, .inl (cI, 7, .inl n_asked)), (ansent, .inl (cI, 7, .inl n_sent))] H := hP
  have hD : va_D A [(ad, .inr (1, [.ref adslip, .ref adleaf, .ref ae, .int d_count, .int ((0 : Int32)), .int ((-9 : Int32)), .int ((-9 : Int32))])), (adslip, .inl (cI, 8, .inl d_slip)), (adleaf, .inl (cI, 8, .inl d_leaf)), (ae, .inr (4, [.ref aekind, .ref aepage, .ref aeasked, .ref aesent, .int z1.2.2.2.2.1, .int z1.2.2.2.2.2])), (aekind, .inl (cI, 7, .inl z1.1)), (aepage, .inl (cI, 7, .inl z1.2.1)), (aeasked, .inl (cI, 7, .inl z1.2.2.1)), (aesent, .inl (cI, 7, .inl z1.2.2.2.1)), (an, .inr (4, [.ref ankind, .ref anpage, .ref anasked, .ref ansent, .int n_count, .int n_wetSet])), (ankind, .inl (cI, 7, .inl n_kind)), (anpage, .inl (cI, 7, .inl n_page)), (anasked, .inl (cI, 7, .inl n_asked)), (ansent, .inl (cI, 7, .inl n_sent))] := hD
  refine lv_iconst (v := 0) hx hb dX1_tryPages_25 (by decide) ?_
  refine lv_istore_n (lv' := [(3, .int ((0 : Int32))), (0, .ref ad), (1, .ref an), (2, .int p2)]) hx hb dX1_tryPages_26 rfl hl (by decide) rfl (fun ls hl => ?_)
  have hL27 : ∀ (K : Int32 → Int32 → Int32 → Int32 → (Nat → Int32) → Option (Int32 × Int32 × Int32 × (Nat → Int32) × (Nat → Int32) × (Nat → Int32) × (Nat → Int32) × Int32 × Int32)) (hKK : ∀ (k6_v3 : Int32) (k6_w_d_fittingPages : Int32) (k6_w_d_leastPage : Int32) (k6_w_d_greatestPage : Int32) (k6_w_e_page : Nat → Int32) (H : Heap) (locs : List Loc) (ls : Array Slot), K k6_v3 k6_w_d_fittingPages k6_w_d_leastPage k6_w_d_greatestPage k6_w_e_page = some q → va_P D vwCl [(ad, .inr (1, [.ref adslip, .ref adleaf, .ref ae, .int d_count, .int k6_w_d_fittingPages, .int k6_w_d_leastPage, .int k6_w_d_greatestPage])), (adslip, .inl (cI, 8, .inl d_slip)), (adleaf, .inl (cI, 8, .inl d_leaf)), (ae, .inr (4, [.ref aekind, .ref aepage, .ref aeasked, .ref aesent, .int z1.2.2.2.2.1, .int z1.2.2.2.2.2])), (aekind, .inl (cI, 7, .inl z1.1)), (aepage, .inl (cI, 7, .inl k6_w_e_page)), (aeasked, .inl (cI, 7, .inl z1.2.2.1)), (aesent, .inl (cI, 7, .inl z1.2.2.2.1)), (an, .inr (4, [.ref ankind, .ref anpage, .ref anasked, .ref ansent, .int n_count, .int n_wetSet])), (ankind, .inl (cI, 7, .inl n_kind)), (anpage, .inl (cI, 7, .inl n_page)), (anasked, .inl (cI, 7, .inl n_asked)), (ansent, .inl (cI, 7, .inl n_sent))] H → va_D A [(ad, .inr (1, [.ref adslip, .ref adleaf, .ref ae, .int d_count, .int k6_w_d_fittingPages, .int k6_w_d_leastPage, .int k6_w_d_greatestPage])), (adslip, .inl (cI, 8, .inl d_slip)), (adleaf, .inl (cI, 8, .inl d_leaf)), (ae, .inr (4, [.ref aekind, .ref aepage, .ref aeasked, .ref aesent, .int z1.2.2.2.2.1, .int z1.2.2.2.2.2])), (aekind, .inl (cI, 7, .inl z1.1)), (aepage, .inl (cI, 7, .inl k6_w_e_page)), (aeasked, .inl (cI, 7, .inl z1.2.2.1)), (aesent, .inl (cI, 7, .inl z1.2.2.2.1)), (an, .inr (4, [.ref ankind, .ref anpage, .ref anasked, .ref ansent, .int n_count, .int n_wetSet])), (ankind, .inl (cI, 7, .inl n_kind)), (anpage, .inl (cI, 7, .inl n_page)), (anasked, .inl (cI, 7, .inl n_asked)), (ansent, .inl (cI, 7, .inl n_sent))] → va_S A s.heap H locs → lv_has ls 4 [(0, .ref ad), (1, .ref an), (2, .int p2), (3, .int k6_v3)] → W p l e ({ frames := 4, cells := 0, slots := 0, locals := 89 } : Room) s m args below meth c H locs 0 0 QQ (F0 m 92 ls [])) (n : Nat), ∀ (b7_v3 : Int32) (b7_w_d_fittingPages : Int32) (b7_w_d_leastPage : Int32) (b7_w_d_greatestPage : Int32) (b7_w_e_page : Nat → Int32) (H : Heap) (locs : List Loc) (ls : Array Slot), pX1_tryPages_L27 p2 d_slip d_leaf d_count z1.1 z1.2.2.2.1 z1.2.2.2.2.1 z1.2.2.2.2.2 K n b7_v3 b7_w_d_fittingPages b7_w_d_leastPage b7_w_d_greatestPage b7_w_e_page = some q → va_P D vwCl [(ad, .inr (1, [.ref adslip, .ref adleaf, .ref ae, .int d_count, .int b7_w_d_fittingPages, .int b7_w_d_leastPage, .int b7_w_d_greatestPage])), (adslip, .inl (cI, 8, .inl d_slip)), (adleaf, .inl (cI, 8, .inl d_leaf)), (ae, .inr (4, [.ref aekind, .ref aepage, .ref aeasked, .ref aesent, .int z1.2.2.2.2.1, .int z1.2.2.2.2.2])), (aekind, .inl (cI, 7, .inl z1.1)), (aepage, .inl (cI, 7, .inl b7_w_e_page)), (aeasked, .inl (cI, 7, .inl z1.2.2.1)), (aesent, .inl (cI, 7, .inl z1.2.2.2.1)), (an, .inr (4, [.ref ankind, .ref anpage, .ref anasked, .ref ansent, .int n_count, .int n_wetSet])), (ankind, .inl (cI, 7, .inl n_kind)), (anpage, .inl (cI, 7, .inl n_page)), (anasked, .inl (cI, 7, .inl n_asked)), (ansent, .inl (cI, 7, .inl n_sent))] H → va_D A [(ad, .inr (1, [.ref adslip, .ref adleaf, .ref ae, .int d_count, .int b7_w_d_fittingPages, .int b7_w_d_leastPage, .int b7_w_d_greatestPage])), (adslip, .inl (cI, 8, .inl d_slip)), (adleaf, .inl (cI, 8, .inl d_leaf)), (ae, .inr (4, [.ref aekind, .ref aepage, .ref aeasked, .ref aesent, .int z1.2.2.2.2.1, .int z1.2.2.2.2.2])), (aekind, .inl (cI, 7, .inl z1.1)), (aepage, .inl (cI, 7, .inl b7_w_e_page)), (aeasked, .inl (cI, 7, .inl z1.2.2.1)), (aesent, .inl (cI, 7, .inl z1.2.2.2.1)), (an, .inr (4, [.ref ankind, .ref anpage, .ref anasked, .ref ansent, .int n_count, .int n_wetSet])), (ankind, .inl (cI, 7, .inl n_kind)), (anpage, .inl (cI, 7, .inl n_page)), (anasked, .inl (cI, 7, .inl n_asked)), (ansent, .inl (cI, 7, .inl n_sent))] → va_S A s.heap H locs → lv_has ls 4 [(0, .ref ad), (1, .ref an), (2, .int p2), (3, .int b7_v3)] → W p l e ({ frames := 4, cells := 0, slots := 0, locals := 89 } : Room) s m args below meth c H locs 0 0 QQ (F0 m 27 ls []) := by
    intro K hKK n
    induction n with
    | zero =>
      intro b7_v3 b7_w_d_fittingPages b7_w_d_leastPage b7_w_d_greatestPage b7_w_e_page H locs ls hf hP hD hS hl
      rw [pX1_tryPages_L27_z] at hf
      cases hf
    | succ n ih =>
      intro b7_v3 b7_w_d_fittingPages b7_w_d_leastPage b7_w_d_greatestPage b7_w_e_page H locs ls hf hP hD hS hl
      rw [pX1_tryPages_L27_s] at hf
      refine lv_iload_n hx hb dX1_tryPages_27 rfl (lv_at hl 3 rfl) ?_
      refine lv_bipush (v := 49) hx hb dX1_tryPages_28 (by decide) ?_
      refine q_icmp_gt hx hb hf 92 dX1_tryPages_30 (by decide) (fun hf => ?_) (fun hf => ?_)
      · exact hKK _ _ _ _ _ _ _ _ hf hP hD hS (lv_sub hl [0, 1, 2, 3] rfl)
      · refine lv_aload_n hx hb dX1_tryPages_33 rfl (lv_at hl 0 rfl) ?_
        refine va_get (D := D) (ci := 1) (v := .ref ae) (C := RX1) (T := TX1) (N := 7) hx hb hts iX1 hown hK hP 0 rfl rfl 2 (by decide) hF21 (fun _ h9 => h9) rfl dX1_tryPages_34 ?_
        refine va_getN (D := D) (ci := 4) (v := .ref aepage) (C := RX4) (T := TX4) (N := 6) hx hb hts iX4 hown hK hP 3 rfl rfl 1 (by decide) hG46 (fun _ h9 => h9) rfl dX1_tryPages_37 ?_
        refine lv_iload_n hx hb dX1_tryPages_40 rfl (lv_at hl 2 rfl) ?_
        refine lv_iload_n hx hb dX1_tryPages_41 rfl (lv_at hl 3 rfl) ?_
        refine q_iast hx hb hK hP hD hS 5 0 rfl rfl hf dX1_tryPages_42 (fun g8 H locs hf hP hD hS => ?_)
        have hP : va_P D vwCl [(ad, .inr (1, [.ref adslip, .ref adleaf, .ref ae, .int d_count, .int b7_w_d_fittingPages, .int b7_w_d_leastPage, .int b7_w_d_greatestPage])), (adslip, .inl (cI, 8, .inl d_slip)), (adleaf, .inl (cI, 8, .inl d_leaf)), (ae, .inr (4, [.ref aekind, .ref aepage, .ref aeasked, .ref aesent, .int z1.2.2.2.2.1, .int z1.2.2.2.2.2])), (aekind, .inl (cI, 7, .inl z1.1)), (aepage, .inl (cI, 7, .inl g8)), (aeasked, .inl (cI, 7, .inl z1.2.2.1)), (aesent, .inl (cI, 7, .inl z1.2.2.2.1)), (an, .inr (4, [.ref ankind, .ref anpage, .ref anasked, .ref ansent, .int n_count, .int n_wetSet])), (ankind, .inl (cI, 7, .inl n_kind)), (anpage, .inl (cI, 7, .inl n_page)), (anasked, .inl (cI, 7, .inl n_asked)), (ansent, .inl (cI, 7, .inl n_sent))] H := hP
        have hD : va_D A [(ad, .inr (1, [.ref adslip, .ref adleaf, .ref ae, .int d_count, .int b7_w_d_fittingPages, .int b7_w_d_leastPage, .int b7_w_d_greatestPage])), (adslip, .inl (cI, 8, .inl d_slip)), (adleaf, .inl (cI, 8, .inl d_leaf)), (ae, .inr (4, [.ref aekind, .ref aepage, .ref aeasked, .ref aesent, .int z1.2.2.2.2.1, .int z1.2.2.2.2.2])), (aekind, .inl (cI, 7, .inl z1.1)), (aepage, .inl (cI, 7, .inl g8)), (aeasked, .inl (cI, 7, .inl z1.2.2.1)), (aesent, .inl (cI, 7, .inl z1.2.2.2.1)), (an, .inr (4, [.ref ankind, .ref anpage, .ref anasked, .ref ansent, .int n_count, .int n_wetSet])), (ankind, .inl (cI, 7, .inl n_kind)), (anpage, .inl (cI, 7, .inl n_page)), (anasked, .inl (cI, 7, .inl n_asked)), (ansent, .inl (cI, 7, .inl n_sent))] := hD
        refine lv_aload_n hx hb dX1_tryPages_43 rfl (lv_at hl 0 rfl) ?_
        obtain ⟨z9, hz9, hf⟩ := bnd hf
        refine q_rV (rest := []) ⟨hx, hb, hml, hown, hts⟩ (kX1_allAreSo l D cI cR ad adslip adleaf ae aekind aepage aeasked aesent d_slip d_leaf d_count b7_w_d_fittingPages b7_w_d_leastPage b7_w_d_greatestPage z1.1 g8 z1.2.2.1 z1.2.2.2.1 z1.2.2.2.2.1 z1.2.2.2.2.2 z9 hz9) (cwV 0 hts gX1_tryPages_X1_allAreSo rfl rfl rfl (by decide +kernel) ⟨Nat.le_of_ble_eq_true rfl, Nat.le_of_ble_eq_true rfl⟩) (hP.sub [0, 1, 2, 3, 4, 5, 6, 7] rfl) hK hN (va_recv hK hP (ci := 1) (q0 := 0) rfl rfl) rfl hl.1 rfl (Nat.le_of_ble_eq_true rfl) dX1_tryPages_44 ⟨Nat.le_of_ble_eq_true rfl, Nat.le_of_ble_eq_true rfl⟩ ?_
        obtain ⟨J86_10, eJ86_10, hf⟩ := q_jn hf
        have hJ86_10 : ∀ (u10_0 : Int32) (u10_1 : Int32) (u10_2 : Int32) (H : Heap) (locs : List Loc) (ls : Array Slot), J86_10 u10_0 u10_1 u10_2 = some q → va_P D vwCl [(ad, .inr (1, [.ref adslip, .ref adleaf, .ref ae, .int d_count, .int u10_0, .int u10_1, .int u10_2])), (adslip, .inl (cI, 8, .inl d_slip)), (adleaf, .inl (cI, 8, .inl d_leaf)), (ae, .inr (4, [.ref aekind, .ref aepage, .ref aeasked, .ref aesent, .int z1.2.2.2.2.1, .int z1.2.2.2.2.2])), (aekind, .inl (cI, 7, .inl z1.1)), (aepage, .inl (cI, 7, .inl g8)), (aeasked, .inl (cI, 7, .inl z1.2.2.1)), (aesent, .inl (cI, 7, .inl z1.2.2.2.1)), (an, .inr (4, [.ref ankind, .ref anpage, .ref anasked, .ref ansent, .int n_count, .int n_wetSet])), (ankind, .inl (cI, 7, .inl n_kind)), (anpage, .inl (cI, 7, .inl n_page)), (anasked, .inl (cI, 7, .inl n_asked)), (ansent, .inl (cI, 7, .inl n_sent))] H → va_D A [(ad, .inr (1, [.ref adslip, .ref adleaf, .ref ae, .int d_count, .int u10_0, .int u10_1, .int u10_2])), (adslip, .inl (cI, 8, .inl d_slip)), (adleaf, .inl (cI, 8, .inl d_leaf)), (ae, .inr (4, [.ref aekind, .ref aepage, .ref aeasked, .ref aesent, .int z1.2.2.2.2.1, .int z1.2.2.2.2.2])), (aekind, .inl (cI, 7, .inl z1.1)), (aepage, .inl (cI, 7, .inl g8)), (aeasked, .inl (cI, 7, .inl z1.2.2.1)), (aesent, .inl (cI, 7, .inl z1.2.2.2.1)), (an, .inr (4, [.ref ankind, .ref anpage, .ref anasked, .ref ansent, .int n_count, .int n_wetSet])), (ankind, .inl (cI, 7, .inl n_kind)), (anpage, .inl (cI, 7, .inl n_page)), (anasked, .inl (cI, 7, .inl n_asked)), (ansent, .inl (cI, 7, .inl n_sent))] → va_S A s.heap H locs → lv_has ls 4 [(0, .ref ad), (1, .ref an), (2, .int p2), (3, .int b7_v3)] → W p l e ({ frames := 4, cells := 0, slots := 0, locals := 89 } : Room) s m args below meth c H locs 0 0 QQ (F0 m 86 ls []) := by
          intro u10_0 u10_1 u10_2 H locs ls hf hP hD hS hl
          rw [eJ86_10] at hf
          refine lv_iinc (v := b7_v3 + (1 : Int32)) (lv' := [(3, .int (b7_v3 + (1 : Int32))), (0, .ref ad), (1, .ref an), (2, .int p2)]) hx hb dX1_tryPages_86 hl (k := 3) rfl rfl (by decide) rfl (fun ls hl => ?_)
          refine lv_goto (tgt := 27) hx hb dX1_tryPages_89 (by decide) ?_
          exact ih _ _ _ _ _ _ _ _ hf hP hD hS (lv_sub hl [1, 2, 3, 0] rfl)
        refine q_if_eq hx hb hf 86 dX1_tryPages_47 (by decide) (fun hf => ?_) (fun hf => ?_)
        · exact hJ86_10 _ _ _ _ _ _ hf hP hD hS (lv_sub hl [0, 1, 2, 3] rfl)
        · refine lv_aload_n hx hb dX1_tryPages_50 rfl (lv_at hl 0 rfl) ?_
          refine lv_dup hx hb dX1_tryPages_51 rfl ?_
          refine va_get (D := D) (ci := 1) (v := .int b7_w_d_fittingPages) (C := RX1) (T := TX1) (N := 7) hx hb hts iX1 hown hK hP 0 rfl rfl 4 (by decide) hF37 (fun _ h9 => h9) rfl dX1_tryPages_52 ?_
          refine lv_iconst (v := 1) hx hb dX1_tryPages_55 (by decide) ?_
          refine lv_iadd hx hb dX1_tryPages_56 ?_
          refine va_put (D := D) (ci := 1) (v := .int (b7_w_d_fittingPages + ((1 : Int32)))) (ty := .int) (C := RX1) (T := TX1) (N := 7) hx hb hts iX1 tyX1 tyX1_ok nmX1 hown hK hP hD hS 0 rfl rfl 4 (by decide) hF37 (fun _ h9 => h9) rfl (tyX1_ok 4 (by decide)) rfl rfl (Nat.le_of_ble_eq_true rfl) dX1_tryPages_57 (fun H locs hP hD hS => ?_)
          have hP : va_P D vwCl [(ad, .inr (1, [.ref adslip, .ref adleaf, .ref ae, .int d_count, .int (b7_w_d_fittingPages + ((1 : Int32))), .int b7_w_d_leastPage, .int b7_w_d_greatestPage])), (adslip, .inl (cI, 8, .inl d_slip)), (adleaf, .inl (cI, 8, .inl d_leaf)), (ae, .inr (4, [.ref aekind, .ref aepage, .ref aeasked, .ref aesent, .int z1.2.2.2.2.1, .int z1.2.2.2.2.2])), (aekind, .inl (cI, 7, .inl z1.1)), (aepage, .inl (cI, 7, .inl g8)), (aeasked, .inl (cI, 7, .inl z1.2.2.1)), (aesent, .inl (cI, 7, .inl z1.2.2.2.1)), (an, .inr (4, [.ref ankind, .ref anpage, .ref anasked, .ref ansent, .int n_count, .int n_wetSet])), (ankind, .inl (cI, 7, .inl n_kind)), (anpage, .inl (cI, 7, .inl n_page)), (anasked, .inl (cI, 7, .inl n_asked)), (ansent, .inl (cI, 7, .inl n_sent))] H := hP
          have hD : va_D A [(ad, .inr (1, [.ref adslip, .ref adleaf, .ref ae, .int d_count, .int (b7_w_d_fittingPages + ((1 : Int32))), .int b7_w_d_leastPage, .int b7_w_d_greatestPage])), (adslip, .inl (cI, 8, .inl d_slip)), (adleaf, .inl (cI, 8, .inl d_leaf)), (ae, .inr (4, [.ref aekind, .ref aepage, .ref aeasked, .ref aesent, .int z1.2.2.2.2.1, .int z1.2.2.2.2.2])), (aekind, .inl (cI, 7, .inl z1.1)), (aepage, .inl (cI, 7, .inl g8)), (aeasked, .inl (cI, 7, .inl z1.2.2.1)), (aesent, .inl (cI, 7, .inl z1.2.2.2.1)), (an, .inr (4, [.ref ankind, .ref anpage, .ref anasked, .ref ansent, .int n_count, .int n_wetSet])), (ankind, .inl (cI, 7, .inl n_kind)), (anpage, .inl (cI, 7, .inl n_page)), (anasked, .inl (cI, 7, .inl n_asked)), (ansent, .inl (cI, 7, .inl n_sent))] := hD
          refine lv_aload_n hx hb dX1_tryPages_60 rfl (lv_at hl 0 rfl) ?_
          refine lv_aload_n hx hb dX1_tryPages_61 rfl (lv_at hl 0 rfl) ?_
          refine va_get (D := D) (ci := 1) (v := .int b7_w_d_leastPage) (C := RX1) (T := TX1) (N := 7) hx hb hts iX1 hown hK hP 0 rfl rfl 5 (by decide) hF40 (fun _ h9 => h9) rfl dX1_tryPages_62 ?_
          refine lv_bipush (v := -9) hx hb dX1_tryPages_65 (by decide) ?_
          obtain ⟨J78_11, eJ78_11, hf⟩ := q_jn hf
          have hJ78_11 : ∀ (u11_0 : Int32) (H : Heap) (locs : List Loc) (ls : Array Slot), J78_11 u11_0 = some q → va_P D vwCl [(ad, .inr (1, [.ref adslip, .ref adleaf, .ref ae, .int d_count, .int (b7_w_d_fittingPages + ((1 : Int32))), .int b7_w_d_leastPage, .int b7_w_d_greatestPage])), (adslip, .inl (cI, 8, .inl d_slip)), (adleaf, .inl (cI, 8, .inl d_leaf)), (ae, .inr (4, [.ref aekind, .ref aepage, .ref aeasked, .ref aesent, .int z1.2.2.2.2.1, .int z1.2.2.2.2.2])), (aekind, .inl (cI, 7, .inl z1.1)), (aepage, .inl (cI, 7, .inl g8)), (aeasked, .inl (cI, 7, .inl z1.2.2.1)), (aesent, .inl (cI, 7, .inl z1.2.2.2.1)), (an, .inr (4, [.ref ankind, .ref anpage, .ref anasked, .ref ansent, .int n_count, .int n_wetSet])), (ankind, .inl (cI, 7, .inl n_kind)), (anpage, .inl (cI, 7, .inl n_page)), (anasked, .inl (cI, 7, .inl n_asked)), (ansent, .inl (cI, 7, .inl n_sent))] H → va_D A [(ad, .inr (1, [.ref adslip, .ref adleaf, .ref ae, .int d_count, .int (b7_w_d_fittingPages + ((1 : Int32))), .int b7_w_d_leastPage, .int b7_w_d_greatestPage])), (adslip, .inl (cI, 8, .inl d_slip)), (adleaf, .inl (cI, 8, .inl d_leaf)), (ae, .inr (4, [.ref aekind, .ref aepage, .ref aeasked, .ref aesent, .int z1.2.2.2.2.1, .int z1.2.2.2.2.2])), (aekind, .inl (cI, 7, .inl z1.1)), (aepage, .inl (cI, 7, .inl g8)), (aeasked, .inl (cI, 7, .inl z1.2.2.1)), (aesent, .inl (cI, 7, .inl z1.2.2.2.1)), (an, .inr (4, [.ref ankind, .ref anpage, .ref anasked, .ref ansent, .int n_count, .int n_wetSet])), (ankind, .inl (cI, 7, .inl n_kind)), (anpage, .inl (cI, 7, .inl n_page)), (anasked, .inl (cI, 7, .inl n_asked)), (ansent, .inl (cI, 7, .inl n_sent))] → va_S A s.heap H locs → lv_has ls 4 [(0, .ref ad), (1, .ref an), (2, .int p2), (3, .int b7_v3)] → W p l e ({ frames := 4, cells := 0, slots := 0, locals := 89 } : Room) s m args below meth c H locs 0 0 QQ (F0 m 78 ls [.int u11_0, .ref ad]) := by
            intro u11_0 H locs ls hf hP hD hS hl
            rw [eJ78_11] at hf
            refine va_put (D := D) (ci := 1) (v := .int u11_0) (ty := .int) (C := RX1) (T := TX1) (N := 7) hx hb hts iX1 tyX1 tyX1_ok nmX1 hown hK hP hD hS 0 rfl rfl 5 (by decide) hF40 (fun _ h9 => h9) rfl (tyX1_ok 5 (by decide)) rfl rfl (Nat.le_of_ble_eq_true rfl) dX1_tryPages_78 (fun H locs hP hD hS => ?_)
            have hP : va_P D vwCl [(ad, .inr (1, [.ref adslip, .ref adleaf, .ref ae, .int d_count, .int (b7_w_d_fittingPages + ((1 : Int32))), .int u11_0, .int b7_w_d_greatestPage])), (adslip, .inl (cI, 8, .inl d_slip)), (adleaf, .inl (cI, 8, .inl d_leaf)), (ae, .inr (4, [.ref aekind, .ref aepage, .ref aeasked, .ref aesent, .int z1.2.2.2.2.1, .int z1.2.2.2.2.2])), (aekind, .inl (cI, 7, .inl z1.1)), (aepage, .inl (cI, 7, .inl g8)), (aeasked, .inl (cI, 7, .inl z1.2.2.1)), (aesent, .inl (cI, 7, .inl z1.2.2.2.1)), (an, .inr (4, [.ref ankind, .ref anpage, .ref anasked, .ref ansent, .int n_count, .int n_wetSet])), (ankind, .inl (cI, 7, .inl n_kind)), (anpage, .inl (cI, 7, .inl n_page)), (anasked, .inl (cI, 7, .inl n_asked)), (ansent, .inl (cI, 7, .inl n_sent))] H := hP
            have hD : va_D A [(ad, .inr (1, [.ref adslip, .ref adleaf, .ref ae, .int d_count, .int (b7_w_d_fittingPages + ((1 : Int32))), .int u11_0, .int b7_w_d_greatestPage])), (adslip, .inl (cI, 8, .inl d_slip)), (adleaf, .inl (cI, 8, .inl d_leaf)), (ae, .inr (4, [.ref aekind, .ref aepage, .ref aeasked, .ref aesent, .int z1.2.2.2.2.1, .int z1.2.2.2.2.2])), (aekind, .inl (cI, 7, .inl z1.1)), (aepage, .inl (cI, 7, .inl g8)), (aeasked, .inl (cI, 7, .inl z1.2.2.1)), (aesent, .inl (cI, 7, .inl z1.2.2.2.1)), (an, .inr (4, [.ref ankind, .ref anpage, .ref anasked, .ref ansent, .int n_count, .int n_wetSet])), (ankind, .inl (cI, 7, .inl n_kind)), (anpage, .inl (cI, 7, .inl n_page)), (anasked, .inl (cI, 7, .inl n_asked)), (ansent, .inl (cI, 7, .inl n_sent))] := hD
            refine lv_aload_n hx hb dX1_tryPages_81 rfl (lv_at hl 0 rfl) ?_
            refine lv_iload_n hx hb dX1_tryPages_82 rfl (lv_at hl 3 rfl) ?_
            refine va_put (D := D) (ci := 1) (v := .int b7_v3) (ty := .int) (C := RX1) (T := TX1) (N := 7) hx hb hts iX1 tyX1 tyX1_ok nmX1 hown hK hP hD hS 0 rfl rfl 6 (by decide) hF43 (fun _ h9 => h9) rfl (tyX1_ok 6 (by decide)) rfl rfl (Nat.le_of_ble_eq_true rfl) dX1_tryPages_83 (fun H locs hP hD hS => ?_)
            have hP : va_P D vwCl [(ad, .inr (1, [.ref adslip, .ref adleaf, .ref ae, .int d_count, .int (b7_w_d_fittingPages + ((1 : Int32))), .int u11_0, .int b7_v3])), (adslip, .inl (cI, 8, .inl d_slip)), (adleaf, .inl (cI, 8, .inl d_leaf)), (ae, .inr (4, [.ref aekind, .ref aepage, .ref aeasked, .ref aesent, .int z1.2.2.2.2.1, .int z1.2.2.2.2.2])), (aekind, .inl (cI, 7, .inl z1.1)), (aepage, .inl (cI, 7, .inl g8)), (aeasked, .inl (cI, 7, .inl z1.2.2.1)), (aesent, .inl (cI, 7, .inl z1.2.2.2.1)), (an, .inr (4, [.ref ankind, .ref anpage, .ref anasked, .ref ansent, .int n_count, .int n_wetSet])), (ankind, .inl (cI, 7, .inl n_kind)), (anpage, .inl (cI, 7, .inl n_page)), (anasked, .inl (cI, 7, .inl n_asked)), (ansent, .inl (cI, 7, .inl n_sent))] H := hP
            have hD : va_D A [(ad, .inr (1, [.ref adslip, .ref adleaf, .ref ae, .int d_count, .int (b7_w_d_fittingPages + ((1 : Int32))), .int u11_0, .int b7_v3])), (adslip, .inl (cI, 8, .inl d_slip)), (adleaf, .inl (cI, 8, .inl d_leaf)), (ae, .inr (4, [.ref aekind, .ref aepage, .ref aeasked, .ref aesent, .int z1.2.2.2.2.1, .int z1.2.2.2.2.2])), (aekind, .inl (cI, 7, .inl z1.1)), (aepage, .inl (cI, 7, .inl g8)), (aeasked, .inl (cI, 7, .inl z1.2.2.1)), (aesent, .inl (cI, 7, .inl z1.2.2.2.1)), (an, .inr (4, [.ref ankind, .ref anpage, .ref anasked, .ref ansent, .int n_count, .int n_wetSet])), (ankind, .inl (cI, 7, .inl n_kind)), (anpage, .inl (cI, 7, .inl n_page)), (anasked, .inl (cI, 7, .inl n_asked)), (ansent, .inl (cI, 7, .inl n_sent))] := hD
            exact hJ86_10 _ _ _ _ _ _ hf hP hD hS (lv_sub hl [0, 1, 2, 3] rfl)
          refine q_icmp_ne hx hb hf 74 dX1_tryPages_67 (by decide) (fun hf => ?_) (fun hf => ?_)
          · refine lv_aload_n hx hb dX1_tryPages_74 rfl (lv_at hl 0 rfl) ?_
            refine va_get (D := D) (ci := 1) (v := .int b7_w_d_leastPage) (C := RX1) (T := TX1) (N := 7) hx hb hts iX1 hown hK hP 0 rfl rfl 5 (by decide) hF40 (fun _ h9 => h9) rfl dX1_tryPages_75 ?_
            exact hJ78_11 _ _ _ _ hf hP hD hS (lv_sub hl [0, 1, 2, 3] rfl)
          · refine lv_iload_n hx hb dX1_tryPages_70 rfl (lv_at hl 3 rfl) ?_
            refine lv_goto (tgt := 78) hx hb dX1_tryPages_71 (by decide) ?_
            exact hJ78_11 _ _ _ _ hf hP hD hS (lv_sub hl [0, 1, 2, 3] rfl)
  refine hL27 _ (fun k6_v3 k6_w_d_fittingPages k6_w_d_leastPage k6_w_d_greatestPage k6_w_e_page H locs ls hf hP hD hS hl => ?_) fu _ _ _ _ _ _ _ _ hf hP hD hS (lv_sub hl [1, 2, 3, 0] rfl)
  have hq9 := Option.some.inj hf
  subst hq9
  exact hRet _ _ _ _ hP hD hS dX1_tryPages_92
