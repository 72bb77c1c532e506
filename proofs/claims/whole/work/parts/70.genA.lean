-- J6_bitCount_0f7a4
theorem wmJ6_bitCount_0f7a4_0 : (.constant RJ6 265 (1431655765 : Int32) : Cond) ∈ wsJ6_bitCount_0f7a4 := by decide +kernel
theorem wmJ6_bitCount_0f7a4_1 : (.constant RJ6 266 (858993459 : Int32) : Cond) ∈ wsJ6_bitCount_0f7a4 := by decide +kernel
theorem wmJ6_bitCount_0f7a4_2 : (.constant RJ6 267 (252645135 : Int32) : Cond) ∈ wsJ6_bitCount_0f7a4 := by decide +kernel
set_option maxHeartbeats 8000000 in
set_option maxRecDepth 100000 in
theorem kJ6_bitCount_0f7a4 (l : Launch) (D : va_G) (cI cJ cZ : ClassId) (tP sz : Nat)  (p1 : Int32) (uu : Int32) (h : fJ6_bitCount_0f7a4 p1 = some uu) : Met l yJ6_bitCount_0f7a4 wsJ6_bitCount_0f7a4 ({ frames := 0, cells := 0, slots := 0, locals := 0 }) (cPre D cI cJ cZ tP [] sz [.int p1]) (cQi D (va_A [] sz) [] uu) 0 0 (va_A [] sz) := by
  refine va_MetF (cc := cJ6_bitCount_0f7a4) (maxL := 1) (ret := (some .int)) (by decide +kernel) rfl ?_
  intro p e s m args below meth c s₁ B hml hv
  obtain ⟨rfl, hsz, hP, hK, hN, hD0, hZ⟩ := hv
  have hx := B.exec
  have hb := B.bytes
  have hr := B.returns
  have hts := atoms_spec (ws := wsJ6_bitCount_0f7a4) B.pre
  have hown : s.vm.findClass RJ6 = some m.cls := findClass_of_methodNamed B.named
  have hlocks := B.notSynchronized
  subst hsz
  have hD := hD0.self (sz := s.heap.size)
  generalize hAe : va_A [] s.heap.size = A at hD hZ ⊢
  have hA : ∀ q : Nat, s.heap.size ≤ q → A q := fun q h => by rw [← hAe]; exact Or.inr h
  have hS : va_S A s.heap s.heap [] := va_S.rf
  have hl := lv_entry ([.int p1]) (n := 1) (Nat.le_of_ble_eq_true rfl)
  rw [lg_entry_eq]
  generalize (lg_sl ([.int p1]) ++ List.replicate (1 - (lg_sl ([.int p1])).length) Slot.unset).toArray = ls at hl ⊢
  have hl : lv_has ls 1 [(0, .int p1)] := hl
  unfold fJ6_bitCount_0f7a4 at h
  refine lv_iload_n hx hb dJ6_bitCount_0f7a4_0 rfl (lv_at hl 0 rfl) ?_
  refine lv_iload_n hx hb dJ6_bitCount_0f7a4_1 rfl (lv_at hl 0 rfl) ?_
  refine lv_iconst (v := (1 : Int32)) hx hb dJ6_bitCount_0f7a4_2 (by decide) ?_
  refine lv_iushr (v := (p1.toUInt32 >>> ((1 : Int32).toUInt32 &&& Int32.toUInt32 31)).toInt32) hx hb dJ6_bitCount_0f7a4_3 rfl ?_
  refine lv_ldcw hx hb hown (hts _ wmJ6_bitCount_0f7a4_0) dJ6_bitCount_0f7a4_4 ?_
  refine lv_iand hx hb dJ6_bitCount_0f7a4_7 ?_
  refine lv_isub hx hb dJ6_bitCount_0f7a4_8 ?_
  refine lv_topi (fun n1 en1 => ?_)
  have h := nm_some en1 h
  refine lv_istore_n (lv' := [(0, .int n1)]) hx hb dJ6_bitCount_0f7a4_9 rfl hl (by decide) rfl (fun ls hl => ?_)
  refine lv_iload_n hx hb dJ6_bitCount_0f7a4_10 rfl (lv_at hl 0 rfl) ?_
  refine lv_ldcw hx hb hown (hts _ wmJ6_bitCount_0f7a4_1) dJ6_bitCount_0f7a4_11 ?_
  refine lv_iand hx hb dJ6_bitCount_0f7a4_14 ?_
  refine lv_iload_n hx hb dJ6_bitCount_0f7a4_15 rfl (lv_at hl 0 rfl) ?_
  refine lv_iconst (v := (2 : Int32)) hx hb dJ6_bitCount_0f7a4_16 (by decide) ?_
  refine lv_iushr (v := (n1.toUInt32 >>> ((2 : Int32).toUInt32 &&& Int32.toUInt32 31)).toInt32) hx hb dJ6_bitCount_0f7a4_17 rfl ?_
  refine lv_ldcw hx hb hown (hts _ wmJ6_bitCount_0f7a4_1) dJ6_bitCount_0f7a4_18 ?_
  refine lv_iand hx hb dJ6_bitCount_0f7a4_21 ?_
  refine lv_iadd hx hb dJ6_bitCount_0f7a4_22 ?_
  refine lv_topi (fun n2 en2 => ?_)
  have h := nm_some en2 h
  refine lv_istore_n (lv' := [(0, .int n2)]) hx hb dJ6_bitCount_0f7a4_23 rfl hl (by decide) rfl (fun ls hl => ?_)
  refine lv_iload_n hx hb dJ6_bitCount_0f7a4_24 rfl (lv_at hl 0 rfl) ?_
  refine lv_iload_n hx hb dJ6_bitCount_0f7a4_25 rfl (lv_at hl 0 rfl) ?_
  refine lv_iconst (v := (4 : Int32)) hx hb dJ6_bitCount_0f7a4_26 (by decide) ?_
  refine lv_iushr (v := (n2.toUInt32 >>> ((4 : Int32).toUInt32 &&& Int32.toUInt32 31)).toInt32) hx hb dJ6_bitCount_0f7a4_27 rfl ?_
  refine lv_iadd hx hb dJ6_bitCount_0f7a4_28 ?_
  refine lv_ldcw hx hb hown (hts _ wmJ6_bitCount_0f7a4_2) dJ6_bitCount_0f7a4_29 ?_
  refine lv_iand hx hb dJ6_bitCount_0f7a4_32 ?_
  refine lv_topi (fun n3 en3 => ?_)
  have h := nm_some en3 h
  refine lv_istore_n (lv' := [(0, .int n3)]) hx hb dJ6_bitCount_0f7a4_33 rfl hl (by decide) rfl (fun ls hl => ?_)
  refine lv_iload_n hx hb dJ6_bitCount_0f7a4_34 rfl (lv_at hl 0 rfl) ?_
  refine lv_iload_n hx hb dJ6_bitCount_0f7a4_35 rfl (lv_at hl 0 rfl) ?_
  refine lv_bipush (v := (8 : Int32)) hx hb dJ6_bitCount_0f7a4_36 (by decide) ?_
  refine lv_iushr (v := (n3.toUInt32 >>> ((8 : Int32).toUInt32 &&& Int32.toUInt32 31)).toInt32) hx hb dJ6_bitCount_0f7a4_38 rfl ?_
  refine lv_iadd hx hb dJ6_bitCount_0f7a4_39 ?_
  refine lv_istore_n (lv' := [(0, .int (n3 + (n3.toUInt32 >>> ((8 : Int32).toUInt32 &&& Int32.toUInt32 31)).toInt32))]) hx hb dJ6_bitCount_0f7a4_40 rfl hl (by decide) rfl (fun ls hl => ?_)
  refine lv_iload_n hx hb dJ6_bitCount_0f7a4_41 rfl (lv_at hl 0 rfl) ?_
  refine lv_iload_n hx hb dJ6_bitCount_0f7a4_42 rfl (lv_at hl 0 rfl) ?_
  refine lv_bipush (v := (16 : Int32)) hx hb dJ6_bitCount_0f7a4_43 (by decide) ?_
  refine lv_iushr (v := ((n3 + (n3.toUInt32 >>> ((8 : Int32).toUInt32 &&& Int32.toUInt32 31)).toInt32).toUInt32 >>> ((16 : Int32).toUInt32 &&& Int32.toUInt32 31)).toInt32) hx hb dJ6_bitCount_0f7a4_45 rfl ?_
  refine lv_iadd hx hb dJ6_bitCount_0f7a4_46 ?_
  refine lv_topi (fun n4 en4 => ?_)
  have h := nm_some en4 h
  refine lv_istore_n (lv' := [(0, .int n4)]) hx hb dJ6_bitCount_0f7a4_47 rfl hl (by decide) rfl (fun ls hl => ?_)
  refine lv_iload_n hx hb dJ6_bitCount_0f7a4_48 rfl (lv_at hl 0 rfl) ?_
  refine lv_bipush (v := (63 : Int32)) hx hb dJ6_bitCount_0f7a4_49 (by decide) ?_
  refine lv_iand hx hb dJ6_bitCount_0f7a4_51 ?_
  obtain rfl := Option.some.inj h
  exact W.iret (v := (n4 &&& (63 : Int32))) hx hb hr (fun t ht hW => ⟨⟨(n4 &&& (63 : Int32)), (), rfl, rfl, by rw [ht]; exact hP, hD⟩, hS.F ht⟩) hS.2.2 dJ6_bitCount_0f7a4_52

-- J9_floorMod_7cf53
set_option maxHeartbeats 8000000 in
set_option maxRecDepth 100000 in
theorem kJ9_floorMod_7cf53 (l : Launch) (D : va_G) (cI cJ cZ : ClassId) (tP sz : Nat)  (p1 : Int32) (p2 : Int32) (uu : Int32) (h : fJ9_floorMod_7cf53 p1 p2 = some uu) : Met l yJ9_floorMod_7cf53 wsJ9_floorMod_7cf53 ({ frames := 0, cells := 0, slots := 0, locals := 0 }) (cPre D cI cJ cZ tP [] sz [.int p1, .int p2]) (cQi D (va_A [] sz) [] uu) 0 0 (va_A [] sz) := by
  refine va_MetF (cc := cJ9_floorMod_7cf53) (maxL := 3) (ret := (some .int)) (by decide +kernel) rfl ?_
  intro p e s m args below meth c s₁ B hml hv
  obtain ⟨rfl, hsz, hP, hK, hN, hD0, hZ⟩ := hv
  have hx := B.exec
  have hb := B.bytes
  have hr := B.returns
  have hts := atoms_spec (ws := wsJ9_floorMod_7cf53) B.pre
  have hown : s.vm.findClass RJ9 = some m.cls := findClass_of_methodNamed B.named
  have hlocks := B.notSynchronized
  subst hsz
  have hD := hD0.self (sz := s.heap.size)
  generalize hAe : va_A [] s.heap.size = A at hD hZ ⊢
  have hA : ∀ q : Nat, s.heap.size ≤ q → A q := fun q h => by rw [← hAe]; exact Or.inr h
  have hS : va_S A s.heap s.heap [] := va_S.rf
  have hl := lv_entry ([.int p1, .int p2]) (n := 3) (Nat.le_of_ble_eq_true rfl)
  rw [lg_entry_eq]
  generalize (lg_sl ([.int p1, .int p2]) ++ List.replicate (3 - (lg_sl ([.int p1, .int p2])).length) Slot.unset).toArray = ls at hl ⊢
  have hl : lv_has ls 3 [(0, .int p1), (1, .int p2)] := hl
  unfold fJ9_floorMod_7cf53 at h
  refine lv_iload_n hx hb dJ9_floorMod_7cf53_0 rfl (lv_at hl 0 rfl) ?_
  refine lv_iload_n hx hb dJ9_floorMod_7cf53_1 rfl (lv_at hl 1 rfl) ?_
  obtain ⟨i1, h⟩ := ck_some h
  refine lv_irem hx hb dJ9_floorMod_7cf53_2 i1 ?_
  refine lv_istore_n (lv' := [(2, .int (p1 - p1 / p2 * p2)), (0, .int p1), (1, .int p2)]) hx hb dJ9_floorMod_7cf53_3 rfl hl (by decide) rfl (fun ls hl => ?_)
  refine lv_iload_n hx hb dJ9_floorMod_7cf53_4 rfl (lv_at hl 1 rfl) ?_
  refine lv_iload_n hx hb dJ9_floorMod_7cf53_5 rfl (lv_at hl 2 rfl) ?_
  refine lv_ixor hx hb dJ9_floorMod_7cf53_6 ?_
  refine lv_if_ge (tgt := 18) hx hb dJ9_floorMod_7cf53_7 (by decide) (fun c2 => ?_) (fun c2 => ?_)
  · have h := (if_pos c2).symm.trans h
    refine lv_iload_n hx hb dJ9_floorMod_7cf53_18 rfl (lv_at hl 0 rfl) ?_
    obtain rfl := Option.some.inj h
    exact W.iret (v := (p1 - p1 / p2 * p2)) hx hb hr (fun t ht hW => ⟨⟨(p1 - p1 / p2 * p2), (), rfl, rfl, by rw [ht]; exact hP, hD⟩, hS.F ht⟩) hS.2.2 dJ9_floorMod_7cf53_19
  · have h := (if_neg c2).symm.trans h
    refine lv_iload_n hx hb dJ9_floorMod_7cf53_10 rfl (lv_at hl 0 rfl) ?_
    refine lv_if_eq (tgt := 18) hx hb dJ9_floorMod_7cf53_11 (by decide) (fun c3 => ?_) (fun c3 => ?_)
    · have h := (if_pos c3).symm.trans h
      refine lv_iload_n hx hb dJ9_floorMod_7cf53_18 rfl (lv_at hl 0 rfl) ?_
      obtain rfl := Option.some.inj h
      exact W.iret (v := (p1 - p1 / p2 * p2)) hx hb hr (fun t ht hW => ⟨⟨(p1 - p1 / p2 * p2), (), rfl, rfl, by rw [ht]; exact hP, hD⟩, hS.F ht⟩) hS.2.2 dJ9_floorMod_7cf53_19
    · have h := (if_neg c3).symm.trans h
      refine lv_iload_n hx hb dJ9_floorMod_7cf53_14 rfl (lv_at hl 0 rfl) ?_
      refine lv_iload_n hx hb dJ9_floorMod_7cf53_15 rfl (lv_at hl 2 rfl) ?_
      refine lv_iadd hx hb dJ9_floorMod_7cf53_16 ?_
      obtain rfl := Option.some.inj h
      exact W.iret (v := ((p1 - p1 / p2 * p2) + p2)) hx hb hr (fun t ht hW => ⟨⟨((p1 - p1 / p2 * p2) + p2), (), rfl, rfl, by rw [ht]; exact hP, hD⟩, hS.F ht⟩) hS.2.2 dJ9_floorMod_7cf53_17

-- X5_isTooFar
theorem wmX5_isTooFar_0 : (.constant RX5 166 (1000000 : Int32) : Cond) ∈ wsX5_isTooFar := by decide +kernel
theorem wmX5_isTooFar_1 : (.constant RX5 167 (-1000000 : Int32) : Cond) ∈ wsX5_isTooFar := by decide +kernel
set_option maxHeartbeats 8000000 in
set_option maxRecDepth 100000 in
theorem kX5_isTooFar (l : Launch) (D : va_G) (cI cJ cZ : ClassId) (tP sz : Nat)  (p1 : Int32) (uu : Int32) (h : fX5_isTooFar p1 = some uu) : Met l yX5_isTooFar wsX5_isTooFar ({ frames := 0, cells := 0, slots := 0, locals := 0 }) (cPre D cI cJ cZ tP [] sz [.int p1]) (cQi D (va_A [] sz) [] uu) 0 0 (va_A [] sz) := by
  refine Met.ofW (cc := cX5_isTooFar) (maxL := 1) (ret := (some .boolean)) (by decide) rfl ?_
  intro p e s m args below meth c s₁ B hml hv
  obtain ⟨rfl, hsz, hP, hK, hN, hD0, hZ⟩ := hv
  have hx := B.exec
  have hb := B.bytes
  have hr := B.returns
  have hts := atoms_spec (ws := wsX5_isTooFar) B.pre
  have hown : s.vm.findClass RX5 = some m.cls := findClass_of_methodNamed B.named
  have hlocks := B.notSynchronized
  subst hsz
  have hD := hD0.self (sz := s.heap.size)
  generalize hAe : va_A [] s.heap.size = A at hD hZ ⊢
  have hA : ∀ q : Nat, s.heap.size ≤ q → A q := fun q h => by rw [← hAe]; exact Or.inr h
  have hS : va_S A s.heap s.heap [] := va_S.rf
  have hl := lv_entry ([.int p1]) (n := 1) (Nat.le_of_ble_eq_true rfl)
  rw [lg_entry_eq]
  generalize (lg_sl ([.int p1]) ++ List.replicate (1 - (lg_sl ([.int p1])).length) Slot.unset).toArray = ls at hl ⊢
  have hl : lv_has ls 1 [(0, .int p1)] := hl
  unfold fX5_isTooFar at h
  refine lv_iload_n hx hb dX5_isTooFar_0 rfl (lv_at hl 0 rfl) ?_
  refine lv_ldc hx hb hown (hts _ wmX5_isTooFar_0) dX5_isTooFar_1 ?_
  refine lv_icmp_gt (tgt := 12) hx hb dX5_isTooFar_3 (by decide) (fun c1 => ?_) (fun c1 => ?_)
  · have h := (if_pos c1).symm.trans h
    refine lv_iconst (v := (1 : Int32)) hx hb dX5_isTooFar_12 (by decide) ?_
    refine lv_goto (tgt := 17) hx hb dX5_isTooFar_13 (by decide) ?_
    obtain rfl := Option.some.inj h
    exact W.zret (v := (1 : Int32)) hx hb hr (by decide) (fun t ht hW => ⟨⟨(1 : Int32), (), rfl, rfl, by rw [ht]; exact hP, hD⟩, hS.F ht⟩) hS.2.2 dX5_isTooFar_17
  · have h := (if_neg c1).symm.trans h
    refine lv_iload_n hx hb dX5_isTooFar_6 rfl (lv_at hl 0 rfl) ?_
    refine lv_ldc hx hb hown (hts _ wmX5_isTooFar_1) dX5_isTooFar_7 ?_
    refine lv_icmp_ge (tgt := 16) hx hb dX5_isTooFar_9 (by decide) (fun c2 => ?_) (fun c2 => ?_)
    · have h := (if_pos c2).symm.trans h
      refine lv_iconst (v := (0 : Int32)) hx hb dX5_isTooFar_16 (by decide) ?_
      obtain rfl := Option.some.inj h
      exact W.zret (v := (0 : Int32)) hx hb hr (by decide) (fun t ht hW => ⟨⟨(0 : Int32), (), rfl, rfl, by rw [ht]; exact hP, hD⟩, hS.F ht⟩) hS.2.2 dX5_isTooFar_17
    · have h := (if_neg c2).symm.trans h
      refine lv_iconst (v := (1 : Int32)) hx hb dX5_isTooFar_12 (by decide) ?_
      refine lv_goto (tgt := 17) hx hb dX5_isTooFar_13 (by decide) ?_
      obtain rfl := Option.some.inj h
      exact W.zret (v := (1 : Int32)) hx hb hr (by decide) (fun t ht hW => ⟨⟨(1 : Int32), (), rfl, rfl, by rw [ht]; exact hP, hD⟩, hS.F ht⟩) hS.2.2 dX5_isTooFar_17

-- X5_isPrime
set_option maxHeartbeats 8000000 in
set_option maxRecDepth 100000 in
theorem kX5_isPrime (l : Launch) (D : va_G) (cI cJ cZ : ClassId) (tP sz : Nat)  (p1 : Int32) (uu : Int32) (h : fX5_isPrime p1 = some uu) : Met l yX5_isPrime wsX5_isPrime ({ frames := 0, cells := 0, slots := 0, locals := 0 }) (cPre D cI cJ cZ tP [] sz [.int p1]) (cQi D (va_A [] sz) [] uu) 0 0 (va_A [] sz) := by
  refine Met.ofW (cc := cX5_isPrime) (maxL := 2) (ret := (some .boolean)) (by decide) rfl ?_
  intro p e s m args below meth c s₁ B hml hv
  obtain ⟨rfl, hsz, hP, hK, hN, hD0, hZ⟩ := hv
  have hx := B.exec
  have hb := B.bytes
  have hr := B.returns
  have hts := atoms_spec (ws := wsX5_isPrime) B.pre
  have hown : s.vm.findClass RX5 = some m.cls := findClass_of_methodNamed B.named
  have hlocks := B.notSynchronized
  subst hsz
  have hD := hD0.self (sz := s.heap.size)
  generalize hAe : va_A [] s.heap.size = A at hD hZ ⊢
  have hA : ∀ q : Nat, s.heap.size ≤ q → A q := fun q h => by rw [← hAe]; exact Or.inr h
  have hS : va_S A s.heap s.heap [] := va_S.rf
  have hl := lv_entry ([.int p1]) (n := 2) (Nat.le_of_ble_eq_true rfl)
  rw [lg_entry_eq]
  generalize (lg_sl ([.int p1]) ++ List.replicate (2 - (lg_sl ([.int p1])).length) Slot.unset).toArray = ls at hl ⊢
  have hl : lv_has ls 2 [(0, .int p1)] := hl
  unfold fX5_isPrime at h
  refine lv_iload_n hx hb dX5_isPrime_0 rfl (lv_at hl 0 rfl) ?_
  refine lv_iconst (v := (2 : Int32)) hx hb dX5_isPrime_1 (by decide) ?_
  refine lv_icmp_lt (tgt := 11) hx hb dX5_isPrime_2 (by decide) (fun c1 => ?_) (fun c1 => ?_)
  · have h := (if_pos c1).symm.trans h
    refine lv_iconst (v := (0 : Int32)) hx hb dX5_isPrime_11 (by decide) ?_
    obtain rfl := Option.some.inj h
    exact W.zret (v := (0 : Int32)) hx hb hr (by decide) (fun t ht hW => ⟨⟨(0 : Int32), (), rfl, rfl, by rw [ht]; exact hP, hD⟩, hS.F ht⟩) hS.2.2 dX5_isPrime_12
  · have h := (if_neg c1).symm.trans h
    refine lv_iload_n hx hb dX5_isPrime_5 rfl (lv_at hl 0 rfl) ?_
    refine lv_bipush (v := (31 : Int32)) hx hb dX5_isPrime_6 (by decide) ?_
    refine lv_icmp_le (tgt := 13) hx hb dX5_isPrime_8 (by decide) (fun c2 => ?_) (fun c2 => ?_)
    · have h := (if_pos c2).symm.trans h
      refine lv_iconst (v := (2 : Int32)) hx hb dX5_isPrime_13 (by decide) ?_
      refine lv_istore_n (lv' := [(1, .int (2 : Int32)), (0, .int p1)]) hx hb dX5_isPrime_14 rfl hl (by decide) rfl (fun ls hl => ?_)
      obtain ⟨u4, e5, h⟩ := bd_some h
      have KR7 : ∀ y9, Sum.inr y9 = u4 → y9 = uu := by
        intro y9 hy
        subst hy
        have h := se_inr h
        exact Option.some.inj h
      refine W_leave (P := fun (y : Int32) H locs ls => u4 = Sum.inl y ∧ va_P D vwCl [] H ∧ va_D A [] ∧ va_S A s.heap H locs ∧ lv_has ls 2 [(1, .int y), (0, .int p1)]) (g := fun ls => F0 m 36 ls []) ?_ ?_
      · intro x8 H locs ls hq
        obtain ⟨hy, hP, hD, hS, hl⟩ := hq
        subst hy
        have h := se_inl h
        refine lv_iconst (v := (1 : Int32)) hx hb dX5_isPrime_36 (by decide) ?_
        obtain rfl := Option.some.inj h
        exact W.zret (v := (1 : Int32)) hx hb hr (by decide) (fun t ht hW => ⟨⟨(1 : Int32), (), rfl, rfl, by rw [ht]; exact hP, hD⟩, hS.F ht⟩) hS.2.2 dX5_isPrime_37
      · intro K6
        refine W_lp (body := (fun (st : Int32) => fX5_isPrime_L15 p1 st)) (P := fun (st : Int32) H locs ls => va_P D vwCl [] H ∧ va_D A [] ∧ va_S A s.heap H locs ∧ lv_has ls 2 [(1, .int st), (0, .int p1)]) (g := fun _ ls => F0 m 15 ls []) (r := u4) ?_ fu_ (2 : Int32) _ _ _ e5 ⟨hP, hD, hS, lv_sub hl [0, 1] rfl⟩
        intro v3 xx12 H locs ls h hq ih11 hR10
        obtain ⟨hP, hD, hS, hl⟩ := hq
        have hl : lv_has ls 2 [(1, .int v3), (0, .int p1)] := hl
        have h : fX5_isPrime_L15 p1 v3 = some xx12 := h
        unfold fX5_isPrime_L15 at h
        refine lv_iload_n hx hb dX5_isPrime_15 rfl (lv_at hl 0 rfl) ?_
        refine lv_iload_n hx hb dX5_isPrime_16 rfl (lv_at hl 0 rfl) ?_
        refine lv_imul hx hb dX5_isPrime_17 ?_
        refine lv_iload_n hx hb dX5_isPrime_18 rfl (lv_at hl 1 rfl) ?_
        refine lv_icmp_gt (tgt := 36) hx hb dX5_isPrime_19 (by decide) (fun c13 => ?_) (fun c13 => ?_)
        · have h := (if_pos c13).symm.trans h
          exact K6 _ _ _ _ ⟨(hR10 _ (Option.some.inj h).symm).symm, hP, hD, hS, lv_sub hl [0, 1] rfl⟩
        · have h := (if_neg c13).symm.trans h
          refine lv_iload_n hx hb dX5_isPrime_22 rfl (lv_at hl 1 rfl) ?_
          refine lv_iload_n hx hb dX5_isPrime_23 rfl (lv_at hl 0 rfl) ?_
          obtain ⟨i14, h⟩ := ck_some h
          refine lv_irem hx hb dX5_isPrime_24 i14 ?_
          refine lv_if_ne (tgt := 30) hx hb dX5_isPrime_25 (by decide) (fun c15 => ?_) (fun c15 => ?_)
          · have h := (if_neg c15).symm.trans h
            refine lv_iinc (v := (v3 + (1 : Int32))) (lv' := [(1, .int (v3 + (1 : Int32))), (0, .int p1)]) hx hb dX5_isPrime_30 hl (k := 0) rfl rfl (by decide) rfl (fun ls hl => ?_)
            refine lv_goto (tgt := 15) hx hb dX5_isPrime_33 (by decide) ?_
            exact ih11 _ _ _ _ (Option.some.inj h).symm ⟨hP, hD, hS, lv_sub hl [0, 1] rfl⟩
          · have h := (if_pos c15).symm.trans h
            refine lv_iconst (v := (0 : Int32)) hx hb dX5_isPrime_28 (by decide) ?_
            have hu := KR7 _ (hR10 _ (Option.some.inj h).symm)
            subst hu
            exact W.zret (v := (0 : Int32)) hx hb hr (by decide) (fun t ht hW => ⟨⟨(0 : Int32), (), rfl, rfl, by rw [ht]; exact hP, hD⟩, hS.F ht⟩) hS.2.2 dX5_isPrime_29
    · have h := (if_neg c2).symm.trans h
      refine lv_iconst (v := (0 : Int32)) hx hb dX5_isPrime_11 (by decide) ?_
      obtain rfl := Option.some.inj h
      exact W.zret (v := (0 : Int32)) hx hb hr (by decide) (fun t ht hW => ⟨⟨(0 : Int32), (), rfl, rfl, by rw [ht]; exact hP, hD⟩, hS.F ht⟩) hS.2.2 dX5_isPrime_12

-- X5_maskOf
set_option maxHeartbeats 8000000 in
set_option maxRecDepth 100000 in
theorem kX5_maskOf (l : Launch) (D : va_G) (cI cJ cZ : ClassId) (tP sz : Nat)  (p1 : Int32) (p2 : Int32) (uu : Int32) (h : fX5_maskOf p1 p2 = some uu) : Met l yX5_maskOf wsX5_maskOf ({ frames := 0, cells := 0, slots := 0, locals := 0 }) (cPre D cI cJ cZ tP [] sz [.int p1, .int p2]) (cQi D (va_A [] sz) [] uu) 0 0 (va_A [] sz) := by
  refine Met.ofW (cc := cX5_maskOf) (maxL := 5) (ret := (some .int)) (by decide) rfl ?_
  intro p e s m args below meth c s₁ B hml hv
  obtain ⟨rfl, hsz, hP, hK, hN, hD0, hZ⟩ := hv
  have hx := B.exec
  have hb := B.bytes
  have hr := B.returns
  have hts := atoms_spec (ws := wsX5_maskOf) B.pre
  have hown : s.vm.findClass RX5 = some m.cls := findClass_of_methodNamed B.named
  have hlocks := B.notSynchronized
  subst hsz
  have hD := hD0.self (sz := s.heap.size)
  generalize hAe : va_A [] s.heap.size = A at hD hZ ⊢
  have hA : ∀ q : Nat, s.heap.size ≤ q → A q := fun q h => by rw [← hAe]; exact Or.inr h
  have hS : va_S A s.heap s.heap [] := va_S.rf
  have hl := lv_entry ([.int p1, .int p2]) (n := 5) (Nat.le_of_ble_eq_true rfl)
  rw [lg_entry_eq]
  generalize (lg_sl ([.int p1, .int p2]) ++ List.replicate (5 - (lg_sl ([.int p1, .int p2])).length) Slot.unset).toArray = ls at hl ⊢
  have hl : lv_has ls 5 [(0, .int p1), (1, .int p2)] := hl
  unfold fX5_maskOf at h
  refine lv_iconst (v := (0 : Int32)) hx hb dX5_maskOf_0 (by decide) ?_
  refine lv_istore_n (lv' := [(2, .int (0 : Int32)), (0, .int p1), (1, .int p2)]) hx hb dX5_maskOf_1 rfl hl (by decide) rfl (fun ls hl => ?_)
  refine lv_iload_n hx hb dX5_maskOf_2 rfl (lv_at hl 1 rfl) ?_
  refine lv_istore_n (lv' := [(3, .int p1), (2, .int (0 : Int32)), (0, .int p1), (1, .int p2)]) hx hb dX5_maskOf_3 rfl hl (by decide) rfl (fun ls hl => ?_)
  refine lv_iconst (v := (0 : Int32)) hx hb dX5_maskOf_4 (by decide) ?_
  refine lv_istore (lv' := [(4, .int (0 : Int32)), (3, .int p1), (2, .int (0 : Int32)), (0, .int p1), (1, .int p2)]) hx hb dX5_maskOf_5 hl (by decide) rfl (fun ls hl => ?_)
  obtain ⟨u4, e5, h⟩ := bd_some h
  refine W_leave (P := fun (y : (Int32 × Int32 × Int32)) H locs ls => u4 = y ∧ va_P D vwCl [] H ∧ va_D A [] ∧ va_S A s.heap H locs ∧ lv_has ls 5 [(4, .int y.1), (3, .int y.2.1), (2, .int y.2.2), (0, .int p1), (1, .int p2)]) (g := fun ls => F0 m 38 ls []) ?_ ?_
  · intro y H locs ls hq
    obtain ⟨hy, hP, hD, hS, hl⟩ := hq
    subst hy
    have hl : lv_has ls 5 [(4, .int u4.1), (3, .int u4.2.1), (2, .int u4.2.2), (0, .int p1), (1, .int p2)] := hl
    refine lv_iload_n hx hb dX5_maskOf_38 rfl (lv_at hl 2 rfl) ?_
    obtain rfl := Option.some.inj h
    exact W.iret (v := u4.2.2) hx hb hr (fun t ht hW => ⟨⟨u4.2.2, (), rfl, rfl, by rw [ht]; exact hP, hD⟩, hS.F ht⟩) hS.2.2 dX5_maskOf_39
  · intro K6
    refine W_lp (body := (fun (st : (Int32 × Int32 × Int32)) => fX5_maskOf_L7 p2 st.1 st.2.1 st.2.2)) (P := fun (st : (Int32 × Int32 × Int32)) H locs ls => va_P D vwCl [] H ∧ va_D A [] ∧ va_S A s.heap H locs ∧ lv_has ls 5 [(4, .int st.1), (3, .int st.2.1), (2, .int st.2.2), (0, .int p1), (1, .int p2)]) (g := fun _ ls => F0 m 7 ls []) (r := u4) ?_ fu_ ((0 : Int32), p1, (0 : Int32)) _ _ _ e5 ⟨hP, hD, hS, lv_sub hl [0, 1, 2, 3, 4] rfl⟩
    intro st xx10 H locs ls h hq ih9 hR8
    obtain ⟨hP, hD, hS, hl⟩ := hq
    obtain ⟨v1, v2, v3⟩ := st
    have hl : lv_has ls 5 [(4, .int v1), (3, .int v2), (2, .int v3), (0, .int p1), (1, .int p2)] := hl
    have h : fX5_maskOf_L7 p2 v1 v2 v3 = some xx10 := h
    unfold fX5_maskOf_L7 at h
    refine lv_iload hx hb dX5_maskOf_7 (lv_at hl 0 rfl) ?_
    refine lv_bipush (v := (8 : Int32)) hx hb dX5_maskOf_9 (by decide) ?_
    refine lv_icmp_ge (tgt := 38) hx hb dX5_maskOf_11 (by decide) (fun c11 => ?_) (fun c11 => ?_)
    · have h := (if_pos c11).symm.trans h
      exact K6 _ _ _ _ ⟨(hR8 _ (Option.some.inj h).symm).symm, hP, hD, hS, lv_sub hl [0, 1, 2, 3, 4] rfl⟩
    · have h := (if_neg c11).symm.trans h
      refine lv_iload_n hx hb dX5_maskOf_14 rfl (lv_at hl 1 rfl) ?_
      refine lv_iconst (v := (3 : Int32)) hx hb dX5_maskOf_15 (by decide) ?_
      refine lv_irem hx hb dX5_maskOf_16 (by decide) ?_
      refine lv_iload_n hx hb dX5_maskOf_17 rfl (lv_at hl 4 rfl) ?_
      refine lv_icmp_ne (tgt := 28) hx hb dX5_maskOf_18 (by decide) (fun c12 => ?_) (fun c12 => ?_)
      · have h := (if_neg c12).symm.trans h
        refine lv_iload_n hx hb dX5_maskOf_28 rfl (lv_at hl 1 rfl) ?_
        refine lv_iconst (v := (3 : Int32)) hx hb dX5_maskOf_29 (by decide) ?_
        refine lv_idiv hx hb dX5_maskOf_30 (by decide) ?_
        refine lv_istore_n (lv' := [(3, .int (v2 / (3 : Int32))), (4, .int v1), (2, .int v3), (0, .int p1), (1, .int p2)]) hx hb dX5_maskOf_31 rfl hl (by decide) rfl (fun ls hl => ?_)
        refine lv_iinc (v := (v1 + (1 : Int32))) (lv' := [(4, .int (v1 + (1 : Int32))), (3, .int (v2 / (3 : Int32))), (2, .int v3), (0, .int p1), (1, .int p2)]) hx hb dX5_maskOf_32 hl (k := 1) rfl rfl (by decide) rfl (fun ls hl => ?_)
        refine lv_goto (tgt := 7) hx hb dX5_maskOf_35 (by decide) ?_
        exact ih9 _ _ _ _ (Option.some.inj h).symm ⟨hP, hD, hS, lv_sub hl [0, 1, 2, 3, 4] rfl⟩
      · have h := (if_pos c12).symm.trans h
        refine lv_iload_n hx hb dX5_maskOf_21 rfl (lv_at hl 2 rfl) ?_
        refine lv_iconst (v := (1 : Int32)) hx hb dX5_maskOf_22 (by decide) ?_
        refine lv_iload hx hb dX5_maskOf_23 (lv_at hl 0 rfl) ?_
        refine lv_ishl hx hb dX5_maskOf_25 ?_
        refine lv_ior hx hb dX5_maskOf_26 ?_
        refine lv_istore_n (lv' := [(2, .int (v3 ||| ((1 : Int32) <<< (v1 &&& 31)))), (4, .int v1), (3, .int v2), (0, .int p1), (1, .int p2)]) hx hb dX5_maskOf_27 rfl hl (by decide) rfl (fun ls hl => ?_)
        refine lv_iload_n hx hb dX5_maskOf_28 rfl (lv_at hl 2 rfl) ?_
        refine lv_iconst (v := (3 : Int32)) hx hb dX5_maskOf_29 (by decide) ?_
        refine lv_idiv hx hb dX5_maskOf_30 (by decide) ?_
        refine lv_istore_n (lv' := [(3, .int (v2 / (3 : Int32))), (2, .int (v3 ||| ((1 : Int32) <<< (v1 &&& 31)))), (4, .int v1), (0, .int p1), (1, .int p2)]) hx hb dX5_maskOf_31 rfl hl (by decide) rfl (fun ls hl => ?_)
        refine lv_iinc (v := (v1 + (1 : Int32))) (lv' := [(4, .int (v1 + (1 : Int32))), (3, .int (v2 / (3 : Int32))), (2, .int (v3 ||| ((1 : Int32) <<< (v1 &&& 31)))), (0, .int p1), (1, .int p2)]) hx hb dX5_maskOf_32 hl (k := 2) rfl rfl (by decide) rfl (fun ls hl => ?_)
        refine lv_goto (tgt := 7) hx hb dX5_maskOf_35 (by decide) ?_
        exact ih9 _ _ _ _ (Option.some.inj h).symm ⟨hP, hD, hS, lv_sub hl [0, 1, 2, 3, 4] rfl⟩

-- X5_parting
set_option maxHeartbeats 8000000 in
set_option maxRecDepth 100000 in
theorem kX5_parting (l : Launch) (D : va_G) (cI cJ cZ : ClassId) (tP sz : Nat)  (p1 : Int32) (p2 : Int32) (uu : Int32) (h : fX5_parting p1 p2 = some uu) : Met l yX5_parting wsX5_parting ({ frames := 1, cells := 0, slots := 0, locals := 24 }) (cPre D cI cJ cZ tP [] sz [.int p1, .int p2]) (cQi D (va_A [] sz) [] uu) 0 0 (va_A [] sz) := by
  refine Met.ofW (cc := cX5_parting) (maxL := 2) (ret := (some .int)) (by decide) rfl ?_
  intro p e s m args below meth c s₁ B hml hv
  obtain ⟨rfl, hsz, hP, hK, hN, hD0, hZ⟩ := hv
  have hx := B.exec
  have hb := B.bytes
  have hr := B.returns
  have hts := atoms_spec (ws := wsX5_parting) B.pre
  have hown : s.vm.findClass RX5 = some m.cls := findClass_of_methodNamed B.named
  have hlocks := B.notSynchronized
  subst hsz
  have hD := hD0.self (sz := s.heap.size)
  generalize hAe : va_A [] s.heap.size = A at hD hZ ⊢
  have hA : ∀ q : Nat, s.heap.size ≤ q → A q := fun q h => by rw [← hAe]; exact Or.inr h
  have hS : va_S A s.heap s.heap [] := va_S.rf
  have hl := lv_entry ([.int p1, .int p2]) (n := 2) (Nat.le_of_ble_eq_true rfl)
  rw [lg_entry_eq]
  generalize (lg_sl ([.int p1, .int p2]) ++ List.replicate (2 - (lg_sl ([.int p1, .int p2])).length) Slot.unset).toArray = ls at hl ⊢
  have hl : lv_has ls 2 [(0, .int p1), (1, .int p2)] := hl
  unfold fX5_parting at h
  refine lv_iload_n hx hb dX5_parting_0 rfl (lv_at hl 0 rfl) ?_
  refine lv_iconst (v := (2 : Int32)) hx hb dX5_parting_1 (by decide) ?_
  obtain ⟨u1, e2, h⟩ := bd_some h
  refine k_i0 (va_runS (As := [.int p1, .int (2 : Int32)]) (rest := []) ⟨hx, hb, hml, hown, hts⟩ (kX5_maskOf l D cI cJ cZ tP s.heap.size  p1 (2 : Int32) u1 e2) (va_cwS 2 hts gX5_parting_X5_maskOf rfl rfl rfl (by decide +kernel) ⟨Nat.le_of_ble_eq_true rfl, Nat.le_of_ble_eq_true rfl⟩) ⟨cPre_blind, cPre_at0 hK hN hS hA hZ⟩ rfl rfl hl.1 rfl (lv_room (Nat.le_of_ble_eq_true rfl)) dX5_parting_2 ⟨Nat.le_of_ble_eq_true rfl, Nat.le_of_ble_eq_true rfl⟩) hP hS hA (fun H locs hP hS => ?_)
  refine lv_iload_n hx hb dX5_parting_5 rfl (lv_at hl 1 rfl) ?_
  refine lv_iconst (v := (2 : Int32)) hx hb dX5_parting_6 (by decide) ?_
  obtain ⟨u3, e4, h⟩ := bd_some h
  refine k_i0 (va_runS (As := [.int p2, .int (2 : Int32)]) (rest := [.int u1]) ⟨hx, hb, hml, hown, hts⟩ (kX5_maskOf l D cI cJ cZ tP H.size  p2 (2 : Int32) u3 e4) (va_cwS 2 hts gX5_parting_X5_maskOf rfl rfl rfl (by decide +kernel) ⟨Nat.le_of_ble_eq_true rfl, Nat.le_of_ble_eq_true rfl⟩) ⟨cPre_blind, cPre_at0 hK hN hS hA hZ⟩ rfl rfl hl.1 rfl (lv_room (Nat.le_of_ble_eq_true rfl)) dX5_parting_7 ⟨Nat.le_of_ble_eq_true rfl, Nat.le_of_ble_eq_true rfl⟩) hP hS hA (fun H locs hP hS => ?_)
  refine lv_ixor hx hb dX5_parting_10 ?_
  obtain rfl := Option.some.inj h
  exact W.iret (v := (u1 ^^^ u3)) hx hb hr (fun t ht hW => ⟨⟨(u1 ^^^ u3), (), rfl, rfl, by rw [ht]; exact hP, hD⟩, hS.F ht⟩) hS.2.2 dX5_parting_11

-- X5_onMask
set_option maxHeartbeats 8000000 in
set_option maxRecDepth 100000 in
theorem kX5_onMask (l : Launch) (D : va_G) (cI cJ cZ : ClassId) (tP sz : Nat)  (p1 : Int32) (uu : Int32) (h : fX5_onMask p1 = some uu) : Met l yX5_onMask wsX5_onMask ({ frames := 0, cells := 0, slots := 0, locals := 0 }) (cPre D cI cJ cZ tP [] sz [.int p1]) (cQi D (va_A [] sz) [] uu) 0 0 (va_A [] sz) := by
  refine Met.ofW (cc := cX5_onMask) (maxL := 1) (ret := (some .int)) (by decide) rfl ?_
  intro p e s m args below meth c s₁ B hml hv
  obtain ⟨rfl, hsz, hP, hK, hN, hD0, hZ⟩ := hv
  have hx := B.exec
  have hb := B.bytes
  have hr := B.returns
  have hts := atoms_spec (ws := wsX5_onMask) B.pre
  have hown : s.vm.findClass RX5 = some m.cls := findClass_of_methodNamed B.named
  have hlocks := B.notSynchronized
  subst hsz
  have hD := hD0.self (sz := s.heap.size)
  generalize hAe : va_A [] s.heap.size = A at hD hZ ⊢
  have hA : ∀ q : Nat, s.heap.size ≤ q → A q := fun q h => by rw [← hAe]; exact Or.inr h
  have hS : va_S A s.heap s.heap [] := va_S.rf
  have hl := lv_entry ([.int p1]) (n := 1) (Nat.le_of_ble_eq_true rfl)
  rw [lg_entry_eq]
  generalize (lg_sl ([.int p1]) ++ List.replicate (1 - (lg_sl ([.int p1])).length) Slot.unset).toArray = ls at hl ⊢
  have hl : lv_has ls 1 [(0, .int p1)] := hl
  unfold fX5_onMask at h
  refine lv_iload_n hx hb dX5_onMask_0 rfl (lv_at hl 0 rfl) ?_
  refine lv_sipush (v := (255 : Int32)) hx hb dX5_onMask_1 (by decide) ?_
  refine lv_iand hx hb dX5_onMask_4 ?_
  obtain rfl := Option.some.inj h
  exact W.iret (v := (p1 &&& (255 : Int32))) hx hb hr (fun t ht hW => ⟨⟨(p1 &&& (255 : Int32)), (), rfl, rfl, by rw [ht]; exact hP, hD⟩, hS.F ht⟩) hS.2.2 dX5_onMask_5

-- X5_aboveMask
set_option maxHeartbeats 8000000 in
set_option maxRecDepth 100000 in
theorem kX5_aboveMask (l : Launch) (D : va_G) (cI cJ cZ : ClassId) (tP sz : Nat)  (p1 : Int32) (uu : Int32) (h : fX5_aboveMask p1 = some uu) : Met l yX5_aboveMask wsX5_aboveMask ({ frames := 0, cells := 0, slots := 0, locals := 0 }) (cPre D cI cJ cZ tP [] sz [.int p1]) (cQi D (va_A [] sz) [] uu) 0 0 (va_A [] sz) := by
  refine Met.ofW (cc := cX5_aboveMask) (maxL := 1) (ret := (some .int)) (by decide) rfl ?_
  intro p e s m args below meth c s₁ B hml hv
  obtain ⟨rfl, hsz, hP, hK, hN, hD0, hZ⟩ := hv
  have hx := B.exec
  have hb := B.bytes
  have hr := B.returns
  have hts := atoms_spec (ws := wsX5_aboveMask) B.pre
  have hown : s.vm.findClass RX5 = some m.cls := findClass_of_methodNamed B.named
  have hlocks := B.notSynchronized
  subst hsz
  have hD := hD0.self (sz := s.heap.size)
  generalize hAe : va_A [] s.heap.size = A at hD hZ ⊢
  have hA : ∀ q : Nat, s.heap.size ≤ q → A q := fun q h => by rw [← hAe]; exact Or.inr h
  have hS : va_S A s.heap s.heap [] := va_S.rf
  have hl := lv_entry ([.int p1]) (n := 1) (Nat.le_of_ble_eq_true rfl)
  rw [lg_entry_eq]
  generalize (lg_sl ([.int p1]) ++ List.replicate (1 - (lg_sl ([.int p1])).length) Slot.unset).toArray = ls at hl ⊢
  have hl : lv_has ls 1 [(0, .int p1)] := hl
  unfold fX5_aboveMask at h
  refine lv_iload_n hx hb dX5_aboveMask_0 rfl (lv_at hl 0 rfl) ?_
  refine lv_bipush (v := (8 : Int32)) hx hb dX5_aboveMask_1 (by decide) ?_
  refine lv_ishr hx hb dX5_aboveMask_3 ?_
  refine lv_sipush (v := (255 : Int32)) hx hb dX5_aboveMask_4 (by decide) ?_
  refine lv_iand hx hb dX5_aboveMask_7 ?_
  obtain rfl := Option.some.inj h
  exact W.iret (v := ((p1 >>> ((8 : Int32) &&& 31)) &&& (255 : Int32))) hx hb hr (fun t ht hW => ⟨⟨((p1 >>> ((8 : Int32) &&& 31)) &&& (255 : Int32)), (), rfl, rfl, by rw [ht]; exact hP, hD⟩, hS.F ht⟩) hS.2.2 dX5_aboveMask_8

-- X5_across
theorem wmX5_across_0 : (.fieldLink RX5 168 "SpaceWalls" "POWERS" "[I" : Cond) ∈ wsX5_across := by decide +kernel
set_option maxHeartbeats 8000000 in
set_option maxRecDepth 100000 in
theorem kX5_across (l : Launch) (D : va_G) (cI cJ cZ : ClassId) (tP sz : Nat)  (p1 : Int32) (p2 : Int32) (uu : Int32) (h : fX5_across p1 p2 = some uu) : Met l yX5_across wsX5_across ({ frames := 0, cells := 0, slots := 0, locals := 0 }) (cPre D cI cJ cZ tP [] sz [.int p1, .int p2]) (cQi D (va_A [] sz) [] uu) 0 0 (va_A [] sz) := by
  refine Met.ofW (cc := cX5_across) (maxL := 3) (ret := (some .int)) (by decide) rfl ?_
  intro p e s m args below meth c s₁ B hml hv
  obtain ⟨rfl, hsz, hP, hK, hN, hD0, hZ⟩ := hv
  have hx := B.exec
  have hb := B.bytes
  have hr := B.returns
  have hts := atoms_spec (ws := wsX5_across) B.pre
  have hown : s.vm.findClass RX5 = some m.cls := findClass_of_methodNamed B.named
  have hlocks := B.notSynchronized
  subst hsz
  have hD := hD0.self (sz := s.heap.size)
  generalize hAe : va_A [] s.heap.size = A at hD hZ ⊢
  have hA : ∀ q : Nat, s.heap.size ≤ q → A q := fun q h => by rw [← hAe]; exact Or.inr h
  have hS : va_S A s.heap s.heap [] := va_S.rf
  have hl := lv_entry ([.int p1, .int p2]) (n := 3) (Nat.le_of_ble_eq_true rfl)
  rw [lg_entry_eq]
  generalize (lg_sl ([.int p1, .int p2]) ++ List.replicate (3 - (lg_sl ([.int p1, .int p2])).length) Slot.unset).toArray = ls at hl ⊢
  have hl : lv_has ls 3 [(0, .int p1), (1, .int p2)] := hl
  unfold fX5_across at h
  refine lv_iload_n hx hb dX5_across_0 rfl (lv_at hl 1 rfl) ?_
  refine lv_if_lt (tgt := 10) hx hb dX5_across_1 (by decide) (fun c1 => ?_) (fun c1 => ?_)
  · have h := (if_pos c1).symm.trans h
    refine lv_iconst (v := (-1 : Int32)) hx hb dX5_across_10 (by decide) ?_
    obtain rfl := Option.some.inj h
    exact W.iret (v := (-1 : Int32)) hx hb hr (fun t ht hW => ⟨⟨(-1 : Int32), (), rfl, rfl, by rw [ht]; exact hP, hD⟩, hS.F ht⟩) hS.2.2 dX5_across_11
  · have h := (if_neg c1).symm.trans h
    refine lv_iload_n hx hb dX5_across_4 rfl (lv_at hl 1 rfl) ?_
    refine lv_bipush (v := (8 : Int32)) hx hb dX5_across_5 (by decide) ?_
    refine lv_icmp_lt (tgt := 12) hx hb dX5_across_7 (by decide) (fun c2 => ?_) (fun c2 => ?_)
    · have h := (if_pos c2).symm.trans h
      refine lv_iconst (v := (2 : Int32)) hx hb dX5_across_12 (by decide) ?_
      refine va_gets hx hb hZ.1 hS hown (hts _ wmX5_across_0) (fun _ h9 => h9) dX5_across_13 ?_
      refine lv_iload_n hx hb dX5_across_16 rfl (lv_at hl 1 rfl) ?_
      obtain ⟨i3, h⟩ := ck_some h
      refine va_ti hx hb hZ.2 hS i3 rfl dX5_across_17 ?_
      refine lv_imul hx hb dX5_across_18 ?_
      refine lv_istore_n (lv' := [(2, .int ((2 : Int32) * (pw_ p2.toNatClampNeg))), (0, .int p1), (1, .int p2)]) hx hb dX5_across_19 rfl hl (by decide) rfl (fun ls hl => ?_)
      refine lv_iload_n hx hb dX5_across_20 rfl (lv_at hl 1 rfl) ?_
      refine va_gets hx hb hZ.1 hS hown (hts _ wmX5_across_0) (fun _ h9 => h9) dX5_across_21 ?_
      refine lv_iload_n hx hb dX5_across_24 rfl (lv_at hl 2 rfl) ?_
      obtain ⟨i4, h⟩ := ck_some h
      refine va_ti hx hb hZ.2 hS i4 rfl dX5_across_25 ?_
      obtain ⟨i5, h⟩ := ck_some h
      refine lv_idiv hx hb dX5_across_26 i5 ?_
      refine lv_iconst (v := (3 : Int32)) hx hb dX5_across_27 (by decide) ?_
      refine lv_irem hx hb dX5_across_28 (by decide) ?_
      refine lv_if_ne (tgt := 38) hx hb dX5_across_29 (by decide) (fun c6 => ?_) (fun c6 => ?_)
      · have h := (if_neg c6).symm.trans h
        refine lv_iload_n hx hb dX5_across_38 rfl (lv_at hl 1 rfl) ?_
        refine lv_iload_n hx hb dX5_across_39 rfl (lv_at hl 0 rfl) ?_
        refine lv_isub hx hb dX5_across_40 ?_
        obtain rfl := Option.some.inj h
        exact W.iret (v := (p1 - ((2 : Int32) * (pw_ p2.toNatClampNeg)))) hx hb hr (fun t ht hW => ⟨⟨(p1 - ((2 : Int32) * (pw_ p2.toNatClampNeg))), (), rfl, rfl, by rw [ht]; exact hP, hD⟩, hS.F ht⟩) hS.2.2 dX5_across_41
      · have h := (if_pos c6).symm.trans h
        refine lv_iload_n hx hb dX5_across_32 rfl (lv_at hl 1 rfl) ?_
        refine lv_iload_n hx hb dX5_across_33 rfl (lv_at hl 0 rfl) ?_
        refine lv_iadd hx hb dX5_across_34 ?_
        refine lv_goto (tgt := 41) hx hb dX5_across_35 (by decide) ?_
        obtain rfl := Option.some.inj h
        exact W.iret (v := (p1 + ((2 : Int32) * (pw_ p2.toNatClampNeg)))) hx hb hr (fun t ht hW => ⟨⟨(p1 + ((2 : Int32) * (pw_ p2.toNatClampNeg))), (), rfl, rfl, by rw [ht]; exact hP, hD⟩, hS.F ht⟩) hS.2.2 dX5_across_41
    · have h := (if_neg c2).symm.trans h
      refine lv_iconst (v := (-1 : Int32)) hx hb dX5_across_10 (by decide) ?_
      obtain rfl := Option.some.inj h
      exact W.iret (v := (-1 : Int32)) hx hb hr (fun t ht hW => ⟨⟨(-1 : Int32), (), rfl, rfl, by rw [ht]; exact hP, hD⟩, hS.F ht⟩) hS.2.2 dX5_across_11

-- X3_isWithin
set_option maxHeartbeats 8000000 in
set_option maxRecDepth 100000 in
theorem kX3_isWithin (l : Launch) (D : va_G) (cI cJ cZ : ClassId) (tP sz : Nat)  (p1 : Int32) (p2 : Int32) (uu : Int32) (h : fX3_isWithin p1 p2 = some uu) : Met l yX3_isWithin wsX3_isWithin ({ frames := 0, cells := 0, slots := 0, locals := 0 }) (cPre D cI cJ cZ tP [] sz [.int p1, .int p2]) (cQi D (va_A [] sz) [] uu) 0 0 (va_A [] sz) := by
  refine Met.ofW (cc := cX3_isWithin) (maxL := 2) (ret := (some .boolean)) (by decide) rfl ?_
  intro p e s m args below meth c s₁ B hml hv
  obtain ⟨rfl, hsz, hP, hK, hN, hD0, hZ⟩ := hv
  have hx := B.exec
  have hb := B.bytes
  have hr := B.returns
  have hts := atoms_spec (ws := wsX3_isWithin) B.pre
  have hown : s.vm.findClass RX3 = some m.cls := findClass_of_methodNamed B.named
  have hlocks := B.notSynchronized
  subst hsz
  have hD := hD0.self (sz := s.heap.size)
  generalize hAe : va_A [] s.heap.size = A at hD hZ ⊢
  have hA : ∀ q : Nat, s.heap.size ≤ q → A q := fun q h => by rw [← hAe]; exact Or.inr h
  have hS : va_S A s.heap s.heap [] := va_S.rf
  have hl := lv_entry ([.int p1, .int p2]) (n := 2) (Nat.le_of_ble_eq_true rfl)
  rw [lg_entry_eq]
  generalize (lg_sl ([.int p1, .int p2]) ++ List.replicate (2 - (lg_sl ([.int p1, .int p2])).length) Slot.unset).toArray = ls at hl ⊢
  have hl : lv_has ls 2 [(0, .int p1), (1, .int p2)] := hl
  unfold fX3_isWithin at h
  refine lv_iload_n hx hb dX3_isWithin_0 rfl (lv_at hl 0 rfl) ?_
  refine lv_iload_n hx hb dX3_isWithin_1 rfl (lv_at hl 1 rfl) ?_
  refine lv_ineg hx hb dX3_isWithin_2 ?_
  refine lv_icmp_lt (tgt := 15) hx hb dX3_isWithin_3 (by decide) (fun c1 => ?_) (fun c1 => ?_)
  · have h := (if_pos c1).symm.trans h
    refine lv_iconst (v := (0 : Int32)) hx hb dX3_isWithin_15 (by decide) ?_
    obtain rfl := Option.some.inj h
    exact W.zret (v := (0 : Int32)) hx hb hr (by decide) (fun t ht hW => ⟨⟨(0 : Int32), (), rfl, rfl, by rw [ht]; exact hP, hD⟩, hS.F ht⟩) hS.2.2 dX3_isWithin_16
  · have h := (if_neg c1).symm.trans h
    refine lv_iload_n hx hb dX3_isWithin_6 rfl (lv_at hl 0 rfl) ?_
    refine lv_iload_n hx hb dX3_isWithin_7 rfl (lv_at hl 1 rfl) ?_
    refine lv_icmp_gt (tgt := 15) hx hb dX3_isWithin_8 (by decide) (fun c2 => ?_) (fun c2 => ?_)
    · have h := (if_pos c2).symm.trans h
      refine lv_iconst (v := (0 : Int32)) hx hb dX3_isWithin_15 (by decide) ?_
      obtain rfl := Option.some.inj h
      exact W.zret (v := (0 : Int32)) hx hb hr (by decide) (fun t ht hW => ⟨⟨(0 : Int32), (), rfl, rfl, by rw [ht]; exact hP, hD⟩, hS.F ht⟩) hS.2.2 dX3_isWithin_16
    · have h := (if_neg c2).symm.trans h
      refine lv_iconst (v := (1 : Int32)) hx hb dX3_isWithin_11 (by decide) ?_
      refine lv_goto (tgt := 16) hx hb dX3_isWithin_12 (by decide) ?_
      obtain rfl := Option.some.inj h
      exact W.zret (v := (1 : Int32)) hx hb hr (by decide) (fun t ht hW => ⟨⟨(1 : Int32), (), rfl, rfl, by rw [ht]; exact hP, hD⟩, hS.F ht⟩) hS.2.2 dX3_isWithin_16

-- X4_inverse
set_option maxHeartbeats 8000000 in
set_option maxRecDepth 100000 in
theorem kX4_inverse (l : Launch) (D : va_G) (cI cJ cZ : ClassId) (tP sz : Nat)  (p1 : Int32) (p2 : Int32) (uu : Int32) (h : fX4_inverse p1 p2 = some uu) : Met l yX4_inverse wsX4_inverse ({ frames := 0, cells := 0, slots := 0, locals := 0 }) (cPre D cI cJ cZ tP [] sz [.int p1, .int p2]) (cQi D (va_A [] sz) [] uu) 0 0 (va_A [] sz) := by
  refine Met.ofW (cc := cX4_inverse) (maxL := 3) (ret := (some .int)) (by decide) rfl ?_
  intro p e s m args below meth c s₁ B hml hv
  obtain ⟨rfl, hsz, hP, hK, hN, hD0, hZ⟩ := hv
  have hx := B.exec
  have hb := B.bytes
  have hr := B.returns
  have hts := atoms_spec (ws := wsX4_inverse) B.pre
  have hown : s.vm.findClass RX4 = some m.cls := findClass_of_methodNamed B.named
  have hlocks := B.notSynchronized
  subst hsz
  have hD := hD0.self (sz := s.heap.size)
  generalize hAe : va_A [] s.heap.size = A at hD hZ ⊢
  have hA : ∀ q : Nat, s.heap.size ≤ q → A q := fun q h => by rw [← hAe]; exact Or.inr h
  have hS : va_S A s.heap s.heap [] := va_S.rf
  have hl := lv_entry ([.int p1, .int p2]) (n := 3) (Nat.le_of_ble_eq_true rfl)
  rw [lg_entry_eq]
  generalize (lg_sl ([.int p1, .int p2]) ++ List.replicate (3 - (lg_sl ([.int p1, .int p2])).length) Slot.unset).toArray = ls at hl ⊢
  have hl : lv_has ls 3 [(0, .int p1), (1, .int p2)] := hl
  unfold fX4_inverse at h
  refine lv_iconst (v := (1 : Int32)) hx hb dX4_inverse_0 (by decide) ?_
  refine lv_istore_n (lv' := [(2, .int (1 : Int32)), (0, .int p1), (1, .int p2)]) hx hb dX4_inverse_1 rfl hl (by decide) rfl (fun ls hl => ?_)
  obtain ⟨u2, e3, h⟩ := bd_some h
  have KR5 : ∀ y7, Sum.inr y7 = u2 → y7 = uu := by
    intro y7 hy
    subst hy
    have h := se_inr h
    exact Option.some.inj h
  refine W_leave (P := fun (y : Int32) H locs ls => u2 = Sum.inl y ∧ va_P D vwCl [] H ∧ va_D A [] ∧ va_S A s.heap H locs ∧ lv_has ls 3 [(2, .int y), (0, .int p1), (1, .int p2)]) (g := fun ls => F0 m 24 ls []) ?_ ?_
  · intro x6 H locs ls hq
    obtain ⟨hy, hP, hD, hS, hl⟩ := hq
    subst hy
    have h := se_inl h
    refine lv_iconst (v := (0 : Int32)) hx hb dX4_inverse_24 (by decide) ?_
    obtain rfl := Option.some.inj h
    exact W.iret (v := (0 : Int32)) hx hb hr (fun t ht hW => ⟨⟨(0 : Int32), (), rfl, rfl, by rw [ht]; exact hP, hD⟩, hS.F ht⟩) hS.2.2 dX4_inverse_25
  · intro K4
    refine W_lp (body := (fun (st : Int32) => fX4_inverse_L2 p2 p1 st)) (P := fun (st : Int32) H locs ls => va_P D vwCl [] H ∧ va_D A [] ∧ va_S A s.heap H locs ∧ lv_has ls 3 [(2, .int st), (0, .int p1), (1, .int p2)]) (g := fun _ ls => F0 m 2 ls []) (r := u2) ?_ fu_ (1 : Int32) _ _ _ e3 ⟨hP, hD, hS, lv_sub hl [0, 1, 2] rfl⟩
    intro v1 xx10 H locs ls h hq ih9 hR8
    obtain ⟨hP, hD, hS, hl⟩ := hq
    have hl : lv_has ls 3 [(2, .int v1), (0, .int p1), (1, .int p2)] := hl
    have h : fX4_inverse_L2 p2 p1 v1 = some xx10 := h
    unfold fX4_inverse_L2 at h
    refine lv_iload_n hx hb dX4_inverse_2 rfl (lv_at hl 0 rfl) ?_
    refine lv_iload_n hx hb dX4_inverse_3 rfl (lv_at hl 2 rfl) ?_
    refine lv_icmp_ge (tgt := 24) hx hb dX4_inverse_4 (by decide) (fun c11 => ?_) (fun c11 => ?_)
    · have h := (if_pos c11).symm.trans h
      exact K4 _ _ _ _ ⟨(hR8 _ (Option.some.inj h).symm).symm, hP, hD, hS, lv_sub hl [0, 1, 2] rfl⟩
    · have h := (if_neg c11).symm.trans h
      refine lv_iload_n hx hb dX4_inverse_7 rfl (lv_at hl 1 rfl) ?_
      refine lv_iload_n hx hb dX4_inverse_8 rfl (lv_at hl 0 rfl) ?_
      refine lv_imul hx hb dX4_inverse_9 ?_
      refine lv_iload_n hx hb dX4_inverse_10 rfl (lv_at hl 2 rfl) ?_
      obtain ⟨i12, h⟩ := ck_some h
      refine lv_irem hx hb dX4_inverse_11 i12 ?_
      refine lv_iconst (v := (1 : Int32)) hx hb dX4_inverse_12 (by decide) ?_
      refine lv_icmp_ne (tgt := 18) hx hb dX4_inverse_13 (by decide) (fun c13 => ?_) (fun c13 => ?_)
      · have h := (if_neg c13).symm.trans h
        refine lv_iinc (v := (v1 + (1 : Int32))) (lv' := [(2, .int (v1 + (1 : Int32))), (0, .int p1), (1, .int p2)]) hx hb dX4_inverse_18 hl (k := 0) rfl rfl (by decide) rfl (fun ls hl => ?_)
        refine lv_goto (tgt := 2) hx hb dX4_inverse_21 (by decide) ?_
        exact ih9 _ _ _ _ (Option.some.inj h).symm ⟨hP, hD, hS, lv_sub hl [0, 1, 2] rfl⟩
      · have h := (if_pos c13).symm.trans h
        refine lv_iload_n hx hb dX4_inverse_16 rfl (lv_at hl 0 rfl) ?_
        have hu := KR5 _ (hR8 _ (Option.some.inj h).symm)
        subst hu
        exact W.iret (v := v1) hx hb hr (fun t ht hW => ⟨⟨v1, (), rfl, rfl, by rw [ht]; exact hP, hD⟩, hS.F ht⟩) hS.2.2 dX4_inverse_17

-- X6_in
set_option maxHeartbeats 8000000 in
set_option maxRecDepth 100000 in
theorem kX6_in (l : Launch) (D : va_G) (cI cJ cZ : ClassId) (tP sz : Nat)  (p1 : Int32) (p2 : Int32) (p3 : Int32) (uu : Int32) (h : fX6_in p1 p2 p3 = some uu) : Met l yX6_in wsX6_in ({ frames := 0, cells := 0, slots := 0, locals := 0 }) (cPre D cI cJ cZ tP [] sz [.int p1, .int p2, .int p3]) (cQi D (va_A [] sz) [] uu) 0 0 (va_A [] sz) := by
  refine Met.ofW (cc := cX6_in) (maxL := 3) (ret := (some .boolean)) (by decide) rfl ?_
  intro p e s m args below meth c s₁ B hml hv
  obtain ⟨rfl, hsz, hP, hK, hN, hD0, hZ⟩ := hv
  have hx := B.exec
  have hb := B.bytes
  have hr := B.returns
  have hts := atoms_spec (ws := wsX6_in) B.pre
  have hown : s.vm.findClass RX6 = some m.cls := findClass_of_methodNamed B.named
  have hlocks := B.notSynchronized
  subst hsz
  have hD := hD0.self (sz := s.heap.size)
  generalize hAe : va_A [] s.heap.size = A at hD hZ ⊢
  have hA : ∀ q : Nat, s.heap.size ≤ q → A q := fun q h => by rw [← hAe]; exact Or.inr h
  have hS : va_S A s.heap s.heap [] := va_S.rf
  have hl := lv_entry ([.int p1, .int p2, .int p3]) (n := 3) (Nat.le_of_ble_eq_true rfl)
  rw [lg_entry_eq]
  generalize (lg_sl ([.int p1, .int p2, .int p3]) ++ List.replicate (3 - (lg_sl ([.int p1, .int p2, .int p3])).length) Slot.unset).toArray = ls at hl ⊢
  have hl : lv_has ls 3 [(0, .int p1), (1, .int p2), (2, .int p3)] := hl
  unfold fX6_in at h
  refine lv_iload_n hx hb dX6_in_0 rfl (lv_at hl 0 rfl) ?_
  refine lv_iload_n hx hb dX6_in_1 rfl (lv_at hl 1 rfl) ?_
  refine lv_icmp_lt (tgt := 14) hx hb dX6_in_2 (by decide) (fun c1 => ?_) (fun c1 => ?_)
  · have h := (if_pos c1).symm.trans h
    refine lv_iconst (v := (0 : Int32)) hx hb dX6_in_14 (by decide) ?_
    obtain rfl := Option.some.inj h
    exact W.zret (v := (0 : Int32)) hx hb hr (by decide) (fun t ht hW => ⟨⟨(0 : Int32), (), rfl, rfl, by rw [ht]; exact hP, hD⟩, hS.F ht⟩) hS.2.2 dX6_in_15
  · have h := (if_neg c1).symm.trans h
    refine lv_iload_n hx hb dX6_in_5 rfl (lv_at hl 0 rfl) ?_
    refine lv_iload_n hx hb dX6_in_6 rfl (lv_at hl 2 rfl) ?_
    refine lv_icmp_gt (tgt := 14) hx hb dX6_in_7 (by decide) (fun c2 => ?_) (fun c2 => ?_)
    · have h := (if_pos c2).symm.trans h
      refine lv_iconst (v := (0 : Int32)) hx hb dX6_in_14 (by decide) ?_
      obtain rfl := Option.some.inj h
      exact W.zret (v := (0 : Int32)) hx hb hr (by decide) (fun t ht hW => ⟨⟨(0 : Int32), (), rfl, rfl, by rw [ht]; exact hP, hD⟩, hS.F ht⟩) hS.2.2 dX6_in_15
    · have h := (if_neg c2).symm.trans h
      refine lv_iconst (v := (1 : Int32)) hx hb dX6_in_10 (by decide) ?_
      refine lv_goto (tgt := 15) hx hb dX6_in_11 (by decide) ?_
      obtain rfl := Option.some.inj h
      exact W.zret (v := (1 : Int32)) hx hb hr (by decide) (fun t ht hW => ⟨⟨(1 : Int32), (), rfl, rfl, by rw [ht]; exact hP, hD⟩, hS.F ht⟩) hS.2.2 dX6_in_15

-- X6_power
set_option maxHeartbeats 8000000 in
set_option maxRecDepth 100000 in
theorem kX6_power (l : Launch) (D : va_G) (cI cJ cZ : ClassId) (tP sz : Nat)  (p1 : Int32) (uu : Int32) (h : fX6_power p1 = some uu) : Met l yX6_power wsX6_power ({ frames := 0, cells := 0, slots := 0, locals := 0 }) (cPre D cI cJ cZ tP [] sz [.int p1]) (cQi D (va_A [] sz) [] uu) 0 0 (va_A [] sz) := by
  refine Met.ofW (cc := cX6_power) (maxL := 3) (ret := (some .int)) (by decide) rfl ?_
  intro p e s m args below meth c s₁ B hml hv
  obtain ⟨rfl, hsz, hP, hK, hN, hD0, hZ⟩ := hv
  have hx := B.exec
  have hb := B.bytes
  have hr := B.returns
  have hts := atoms_spec (ws := wsX6_power) B.pre
  have hown : s.vm.findClass RX6 = some m.cls := findClass_of_methodNamed B.named
  have hlocks := B.notSynchronized
  subst hsz
  have hD := hD0.self (sz := s.heap.size)
  generalize hAe : va_A [] s.heap.size = A at hD hZ ⊢
  have hA : ∀ q : Nat, s.heap.size ≤ q → A q := fun q h => by rw [← hAe]; exact Or.inr h
  have hS : va_S A s.heap s.heap [] := va_S.rf
  have hl := lv_entry ([.int p1]) (n := 3) (Nat.le_of_ble_eq_true rfl)
  rw [lg_entry_eq]
  generalize (lg_sl ([.int p1]) ++ List.replicate (3 - (lg_sl ([.int p1])).length) Slot.unset).toArray = ls at hl ⊢
  have hl : lv_has ls 3 [(0, .int p1)] := hl
  unfold fX6_power at h
  refine lv_iconst (v := (1 : Int32)) hx hb dX6_power_0 (by decide) ?_
  refine lv_istore_n (lv' := [(1, .int (1 : Int32)), (0, .int p1)]) hx hb dX6_power_1 rfl hl (by decide) rfl (fun ls hl => ?_)
  refine lv_iconst (v := (0 : Int32)) hx hb dX6_power_2 (by decide) ?_
  refine lv_istore_n (lv' := [(2, .int (0 : Int32)), (1, .int (1 : Int32)), (0, .int p1)]) hx hb dX6_power_3 rfl hl (by decide) rfl (fun ls hl => ?_)
  obtain ⟨u3, e4, h⟩ := bd_some h
  refine W_leave (P := fun (y : (Int32 × Int32)) H locs ls => u3 = y ∧ va_P D vwCl [] H ∧ va_D A [] ∧ va_S A s.heap H locs ∧ lv_has ls 3 [(2, .int y.1), (1, .int y.2), (0, .int p1)]) (g := fun ls => F0 m 19 ls []) ?_ ?_
  · intro y H locs ls hq
    obtain ⟨hy, hP, hD, hS, hl⟩ := hq
    subst hy
    have hl : lv_has ls 3 [(2, .int u3.1), (1, .int u3.2), (0, .int p1)] := hl
    refine lv_iload_n hx hb dX6_power_19 rfl (lv_at hl 1 rfl) ?_
    obtain rfl := Option.some.inj h
    exact W.iret (v := u3.2) hx hb hr (fun t ht hW => ⟨⟨u3.2, (), rfl, rfl, by rw [ht]; exact hP, hD⟩, hS.F ht⟩) hS.2.2 dX6_power_20
  · intro K5
    refine W_lp (body := (fun (st : (Int32 × Int32)) => fX6_power_L4 p1 st.1 st.2)) (P := fun (st : (Int32 × Int32)) H locs ls => va_P D vwCl [] H ∧ va_D A [] ∧ va_S A s.heap H locs ∧ lv_has ls 3 [(2, .int st.1), (1, .int st.2), (0, .int p1)]) (g := fun _ ls => F0 m 4 ls []) (r := u3) ?_ fu_ ((0 : Int32), (1 : Int32)) _ _ _ e4 ⟨hP, hD, hS, lv_sub hl [0, 1, 2] rfl⟩
    intro st xx9 H locs ls h hq ih8 hR7
    obtain ⟨hP, hD, hS, hl⟩ := hq
    obtain ⟨v1, v2⟩ := st
    have hl : lv_has ls 3 [(2, .int v1), (1, .int v2), (0, .int p1)] := hl
    have h : fX6_power_L4 p1 v1 v2 = some xx9 := h
    unfold fX6_power_L4 at h
    refine lv_iload_n hx hb dX6_power_4 rfl (lv_at hl 0 rfl) ?_
    refine lv_iload_n hx hb dX6_power_5 rfl (lv_at hl 2 rfl) ?_
    refine lv_icmp_ge (tgt := 19) hx hb dX6_power_6 (by decide) (fun c10 => ?_) (fun c10 => ?_)
    · have h := (if_pos c10).symm.trans h
      exact K5 _ _ _ _ ⟨(hR7 _ (Option.some.inj h).symm).symm, hP, hD, hS, lv_sub hl [0, 1, 2] rfl⟩
    · have h := (if_neg c10).symm.trans h
      refine lv_iload_n hx hb dX6_power_9 rfl (lv_at hl 1 rfl) ?_
      refine lv_iconst (v := (3 : Int32)) hx hb dX6_power_10 (by decide) ?_
      refine lv_imul hx hb dX6_power_11 ?_
      refine lv_istore_n (lv' := [(1, .int (v2 * (3 : Int32))), (2, .int v1), (0, .int p1)]) hx hb dX6_power_12 rfl hl (by decide) rfl (fun ls hl => ?_)
      refine lv_iinc (v := (v1 + (1 : Int32))) (lv' := [(2, .int (v1 + (1 : Int32))), (1, .int (v2 * (3 : Int32))), (0, .int p1)]) hx hb dX6_power_13 hl (k := 1) rfl rfl (by decide) rfl (fun ls hl => ?_)
      refine lv_goto (tgt := 4) hx hb dX6_power_16 (by decide) ?_
      exact ih8 _ _ _ _ (Option.some.inj h).symm ⟨hP, hD, hS, lv_sub hl [0, 1, 2] rfl⟩

-- X6_sign
set_option maxHeartbeats 8000000 in
set_option maxRecDepth 100000 in
theorem kX6_sign (l : Launch) (D : va_G) (cI cJ cZ : ClassId) (tP sz : Nat)  (p1 : Int32) (p2 : Int32) (uu : Int32) (h : fX6_sign p1 p2 = some uu) : Met l yX6_sign wsX6_sign ({ frames := 1, cells := 0, slots := 0, locals := 22 }) (cPre D cI cJ cZ tP [] sz [.int p1, .int p2]) (cQi D (va_A [] sz) [] uu) 0 0 (va_A [] sz) := by
  refine Met.ofW (cc := cX6_sign) (maxL := 2) (ret := (some .int)) (by decide) rfl ?_
  intro p e s m args below meth c s₁ B hml hv
  obtain ⟨rfl, hsz, hP, hK, hN, hD0, hZ⟩ := hv
  have hx := B.exec
  have hb := B.bytes
  have hr := B.returns
  have hts := atoms_spec (ws := wsX6_sign) B.pre
  have hown : s.vm.findClass RX6 = some m.cls := findClass_of_methodNamed B.named
  have hlocks := B.notSynchronized
  subst hsz
  have hD := hD0.self (sz := s.heap.size)
  generalize hAe : va_A [] s.heap.size = A at hD hZ ⊢
  have hA : ∀ q : Nat, s.heap.size ≤ q → A q := fun q h => by rw [← hAe]; exact Or.inr h
  have hS : va_S A s.heap s.heap [] := va_S.rf
  have hl := lv_entry ([.int p1, .int p2]) (n := 2) (Nat.le_of_ble_eq_true rfl)
  rw [lg_entry_eq]
  generalize (lg_sl ([.int p1, .int p2]) ++ List.replicate (2 - (lg_sl ([.int p1, .int p2])).length) Slot.unset).toArray = ls at hl ⊢
  have hl : lv_has ls 2 [(0, .int p1), (1, .int p2)] := hl
  unfold fX6_sign at h
  refine lv_iload_n hx hb dX6_sign_0 rfl (lv_at hl 0 rfl) ?_
  refine lv_iload_n hx hb dX6_sign_1 rfl (lv_at hl 1 rfl) ?_
  obtain ⟨u1, e2, h⟩ := bd_some h
  refine k_i0 (va_runS (As := [.int p2]) (rest := [.int p1]) ⟨hx, hb, hml, hown, hts⟩ (kX6_power l D cI cJ cZ tP s.heap.size  p2 u1 e2) (va_cwS 1 hts gX6_sign_X6_power rfl rfl rfl (by decide +kernel) ⟨Nat.le_of_ble_eq_true rfl, Nat.le_of_ble_eq_true rfl⟩) ⟨cPre_blind, cPre_at0 hK hN hS hA hZ⟩ rfl rfl hl.1 rfl (lv_room (Nat.le_of_ble_eq_true rfl)) dX6_sign_2 ⟨Nat.le_of_ble_eq_true rfl, Nat.le_of_ble_eq_true rfl⟩) hP hS hA (fun H locs hP hS => ?_)
  obtain ⟨i3, h⟩ := ck_some h
  refine lv_idiv hx hb dX6_sign_5 i3 ?_
  refine lv_iconst (v := (3 : Int32)) hx hb dX6_sign_6 (by decide) ?_
  refine lv_irem hx hb dX6_sign_7 (by decide) ?_
  obtain rfl := Option.some.inj h
  exact W.iret (v := ((p1 / u1) - (p1 / u1) / (3 : Int32) * (3 : Int32))) hx hb hr (fun t ht hW => ⟨⟨((p1 / u1) - (p1 / u1) / (3 : Int32) * (3 : Int32)), (), rfl, rfl, by rw [ht]; exact hP, hD⟩, hS.F ht⟩) hS.2.2 dX6_sign_8

-- X6_odd
set_option maxHeartbeats 8000000 in
set_option maxRecDepth 100000 in
theorem kX6_odd (l : Launch) (D : va_G) (cI cJ cZ : ClassId) (tP sz : Nat)  (p1 : Int32) (uu : Int32) (h : fX6_odd p1 = some uu) : Met l yX6_odd wsX6_odd ({ frames := 0, cells := 0, slots := 0, locals := 0 }) (cPre D cI cJ cZ tP [] sz [.int p1]) (cQi D (va_A [] sz) [] uu) 0 0 (va_A [] sz) := by
  refine Met.ofW (cc := cX6_odd) (maxL := 3) (ret := (some .int)) (by decide) rfl ?_
  intro p e s m args below meth c s₁ B hml hv
  obtain ⟨rfl, hsz, hP, hK, hN, hD0, hZ⟩ := hv
  have hx := B.exec
  have hb := B.bytes
  have hr := B.returns
  have hts := atoms_spec (ws := wsX6_odd) B.pre
  have hown : s.vm.findClass RX6 = some m.cls := findClass_of_methodNamed B.named
  have hlocks := B.notSynchronized
  subst hsz
  have hD := hD0.self (sz := s.heap.size)
  generalize hAe : va_A [] s.heap.size = A at hD hZ ⊢
  have hA : ∀ q : Nat, s.heap.size ≤ q → A q := fun q h => by rw [← hAe]; exact Or.inr h
  have hS : va_S A s.heap s.heap [] := va_S.rf
  have hl := lv_entry ([.int p1]) (n := 3) (Nat.le_of_ble_eq_true rfl)
  rw [lg_entry_eq]
  generalize (lg_sl ([.int p1]) ++ List.replicate (3 - (lg_sl ([.int p1])).length) Slot.unset).toArray = ls at hl ⊢
  have hl : lv_has ls 3 [(0, .int p1)] := hl
  unfold fX6_odd at h
  refine lv_iconst (v := (0 : Int32)) hx hb dX6_odd_0 (by decide) ?_
  refine lv_istore_n (lv' := [(1, .int (0 : Int32)), (0, .int p1)]) hx hb dX6_odd_1 rfl hl (by decide) rfl (fun ls hl => ?_)
  refine lv_iconst (v := (0 : Int32)) hx hb dX6_odd_2 (by decide) ?_
  refine lv_istore_n (lv' := [(2, .int (0 : Int32)), (1, .int (0 : Int32)), (0, .int p1)]) hx hb dX6_odd_3 rfl hl (by decide) rfl (fun ls hl => ?_)
  obtain ⟨u3, e4, h⟩ := bd_some h
  refine W_leave (P := fun (y : (Int32 × Int32)) H locs ls => u3 = y ∧ va_P D vwCl [] H ∧ va_D A [] ∧ va_S A s.heap H locs ∧ lv_has ls 3 [(2, .int y.1), (1, .int y.2), (0, .int p1)]) (g := fun ls => F0 m 24 ls []) ?_ ?_
  · intro y H locs ls hq
    obtain ⟨hy, hP, hD, hS, hl⟩ := hq
    subst hy
    have hl : lv_has ls 3 [(2, .int u3.1), (1, .int u3.2), (0, .int p1)] := hl
    refine lv_iload_n hx hb dX6_odd_24 rfl (lv_at hl 1 rfl) ?_
    refine lv_iconst (v := (2 : Int32)) hx hb dX6_odd_25 (by decide) ?_
    refine lv_irem hx hb dX6_odd_26 (by decide) ?_
    refine lv_if_ne (tgt := 34) hx hb dX6_odd_27 (by decide) (fun c7 => ?_) (fun c7 => ?_)
    · have h := (if_neg c7).symm.trans h
      refine lv_iconst (v := (-1 : Int32)) hx hb dX6_odd_34 (by decide) ?_
      obtain rfl := Option.some.inj h
      exact W.iret (v := (-1 : Int32)) hx hb hr (fun t ht hW => ⟨⟨(-1 : Int32), (), rfl, rfl, by rw [ht]; exact hP, hD⟩, hS.F ht⟩) hS.2.2 dX6_odd_35
    · have h := (if_pos c7).symm.trans h
      refine lv_iconst (v := (1 : Int32)) hx hb dX6_odd_30 (by decide) ?_
      refine lv_goto (tgt := 35) hx hb dX6_odd_31 (by decide) ?_
      obtain rfl := Option.some.inj h
      exact W.iret (v := (1 : Int32)) hx hb hr (fun t ht hW => ⟨⟨(1 : Int32), (), rfl, rfl, by rw [ht]; exact hP, hD⟩, hS.F ht⟩) hS.2.2 dX6_odd_35
  · intro K5
    refine W_lp (body := (fun (st : (Int32 × Int32)) => fX6_odd_L4 p1 st.1 st.2)) (P := fun (st : (Int32 × Int32)) H locs ls => va_P D vwCl [] H ∧ va_D A [] ∧ va_S A s.heap H locs ∧ lv_has ls 3 [(2, .int st.1), (1, .int st.2), (0, .int p1)]) (g := fun _ ls => F0 m 4 ls []) (r := u3) ?_ fu_ ((0 : Int32), (0 : Int32)) _ _ _ e4 ⟨hP, hD, hS, lv_sub hl [0, 1, 2] rfl⟩
    intro st xx10 H locs ls h hq ih9 hR8
    obtain ⟨hP, hD, hS, hl⟩ := hq
    obtain ⟨v1, v2⟩ := st
    have hl : lv_has ls 3 [(2, .int v1), (1, .int v2), (0, .int p1)] := hl
    have h : fX6_odd_L4 p1 v1 v2 = some xx10 := h
    unfold fX6_odd_L4 at h
    refine lv_iload_n hx hb dX6_odd_4 rfl (lv_at hl 0 rfl) ?_
    refine lv_bipush (v := (8 : Int32)) hx hb dX6_odd_5 (by decide) ?_
    refine lv_icmp_ge (tgt := 24) hx hb dX6_odd_7 (by decide) (fun c11 => ?_) (fun c11 => ?_)
    · have h := (if_pos c11).symm.trans h
      exact K5 _ _ _ _ ⟨(hR8 _ (Option.some.inj h).symm).symm, hP, hD, hS, lv_sub hl [0, 1, 2] rfl⟩
    · have h := (if_neg c11).symm.trans h
      refine lv_iload_n hx hb dX6_odd_10 rfl (lv_at hl 1 rfl) ?_
      refine lv_iload_n hx hb dX6_odd_11 rfl (lv_at hl 2 rfl) ?_
      refine lv_iload_n hx hb dX6_odd_12 rfl (lv_at hl 0 rfl) ?_
      refine lv_ishr hx hb dX6_odd_13 ?_
      refine lv_iconst (v := (1 : Int32)) hx hb dX6_odd_14 (by decide) ?_
      refine lv_iand hx hb dX6_odd_15 ?_
      refine lv_iadd hx hb dX6_odd_16 ?_
      refine lv_istore_n (lv' := [(1, .int (v2 + ((p1 >>> (v1 &&& 31)) &&& (1 : Int32)))), (2, .int v1), (0, .int p1)]) hx hb dX6_odd_17 rfl hl (by decide) rfl (fun ls hl => ?_)
      refine lv_iinc (v := (v1 + (1 : Int32))) (lv' := [(2, .int (v1 + (1 : Int32))), (1, .int (v2 + ((p1 >>> (v1 &&& 31)) &&& (1 : Int32)))), (0, .int p1)]) hx hb dX6_odd_18 hl (k := 1) rfl rfl (by decide) rfl (fun ls hl => ?_)
      refine lv_goto (tgt := 4) hx hb dX6_odd_21 (by decide) ?_
      exact ih9 _ _ _ _ (Option.some.inj h).symm ⟨hP, hD, hS, lv_sub hl [0, 1, 2] rfl⟩

-- X6_across
set_option maxHeartbeats 8000000 in
set_option maxRecDepth 100000 in
theorem kX6_across (l : Launch) (D : va_G) (cI cJ cZ : ClassId) (tP sz : Nat)  (p1 : Int32) (p2 : Int32) (uu : Int32) (h : fX6_across p1 p2 = some uu) : Met l yX6_across wsX6_across ({ frames := 2, cells := 0, slots := 0, locals := 43 }) (cPre D cI cJ cZ tP [] sz [.int p1, .int p2]) (cQi D (va_A [] sz) [] uu) 0 0 (va_A [] sz) := by
  refine Met.ofW (cc := cX6_across) (maxL := 2) (ret := (some .int)) (by decide) rfl ?_
  intro p e s m args below meth c s₁ B hml hv
  obtain ⟨rfl, hsz, hP, hK, hN, hD0, hZ⟩ := hv
  have hx := B.exec
  have hb := B.bytes
  have hr := B.returns
  have hts := atoms_spec (ws := wsX6_across) B.pre
  have hown : s.vm.findClass RX6 = some m.cls := findClass_of_methodNamed B.named
  have hlocks := B.notSynchronized
  subst hsz
  have hD := hD0.self (sz := s.heap.size)
  generalize hAe : va_A [] s.heap.size = A at hD hZ ⊢
  have hA : ∀ q : Nat, s.heap.size ≤ q → A q := fun q h => by rw [← hAe]; exact Or.inr h
  have hS : va_S A s.heap s.heap [] := va_S.rf
  have hl := lv_entry ([.int p1, .int p2]) (n := 2) (Nat.le_of_ble_eq_true rfl)
  rw [lg_entry_eq]
  generalize (lg_sl ([.int p1, .int p2]) ++ List.replicate (2 - (lg_sl ([.int p1, .int p2])).length) Slot.unset).toArray = ls at hl ⊢
  have hl : lv_has ls 2 [(0, .int p1), (1, .int p2)] := hl
  unfold fX6_across at h
  refine lv_iload_n hx hb dX6_across_0 rfl (lv_at hl 0 rfl) ?_
  refine lv_iload_n hx hb dX6_across_1 rfl (lv_at hl 1 rfl) ?_
  obtain ⟨u1, e2, h⟩ := bd_some h
  refine k_i0 (va_runS (As := [.int p2]) (rest := [.int p1]) ⟨hx, hb, hml, hown, hts⟩ (kX6_power l D cI cJ cZ tP s.heap.size  p2 u1 e2) (va_cwS 1 hts gX6_across_X6_power rfl rfl rfl (by decide +kernel) ⟨Nat.le_of_ble_eq_true rfl, Nat.le_of_ble_eq_true rfl⟩) ⟨cPre_blind, cPre_at0 hK hN hS hA hZ⟩ rfl rfl hl.1 rfl (lv_room (Nat.le_of_ble_eq_true rfl)) dX6_across_2 ⟨Nat.le_of_ble_eq_true rfl, Nat.le_of_ble_eq_true rfl⟩) hP hS hA (fun H locs hP hS => ?_)
  refine lv_iconst (v := (2 : Int32)) hx hb dX6_across_5 (by decide) ?_
  refine lv_iconst (v := (2 : Int32)) hx hb dX6_across_6 (by decide) ?_
  refine lv_iload_n hx hb dX6_across_7 rfl (lv_at hl 0 rfl) ?_
  refine lv_iload_n hx hb dX6_across_8 rfl (lv_at hl 1 rfl) ?_
  obtain ⟨u3, e4, h⟩ := bd_some h
  refine k_i0 (va_runS (As := [.int p1, .int p2]) (rest := [.int (2 : Int32), .int (2 : Int32), .int u1, .int p1]) ⟨hx, hb, hml, hown, hts⟩ (kX6_sign l D cI cJ cZ tP H.size  p1 p2 u3 e4) (va_cwS 2 hts gX6_across_X6_sign rfl rfl rfl (by decide +kernel) ⟨Nat.le_of_ble_eq_true rfl, Nat.le_of_ble_eq_true rfl⟩) ⟨cPre_blind, cPre_at0 hK hN hS hA hZ⟩ rfl rfl hl.1 rfl (lv_room (Nat.le_of_ble_eq_true rfl)) dX6_across_9 ⟨Nat.le_of_ble_eq_true rfl, Nat.le_of_ble_eq_true rfl⟩) hP hS hA (fun H locs hP hS => ?_)
  refine lv_imul hx hb dX6_across_12 ?_
  refine lv_isub hx hb dX6_across_13 ?_
  refine lv_imul hx hb dX6_across_14 ?_
  refine lv_iadd hx hb dX6_across_15 ?_
  obtain rfl := Option.some.inj h
  exact W.iret (v := (p1 + (u1 * ((2 : Int32) - ((2 : Int32) * u3))))) hx hb hr (fun t ht hW => ⟨⟨(p1 + (u1 * ((2 : Int32) - ((2 : Int32) * u3)))), (), rfl, rfl, by rw [ht]; exact hP, hD⟩, hS.F ht⟩) hS.2.2 dX6_across_16

-- X6_bits
set_option maxHeartbeats 8000000 in
set_option maxRecDepth 100000 in
theorem kX6_bits (l : Launch) (D : va_G) (cI cJ cZ : ClassId) (tP sz : Nat)  (p1 : Int32) (uu : Int32) (h : fX6_bits p1 = some uu) : Met l yX6_bits wsX6_bits ({ frames := 0, cells := 0, slots := 0, locals := 0 }) (cPre D cI cJ cZ tP [] sz [.int p1]) (cQi D (va_A [] sz) [] uu) 0 0 (va_A [] sz) := by
  refine Met.ofW (cc := cX6_bits) (maxL := 3) (ret := (some .int)) (by decide) rfl ?_
  intro p e s m args below meth c s₁ B hml hv
  obtain ⟨rfl, hsz, hP, hK, hN, hD0, hZ⟩ := hv
  have hx := B.exec
  have hb := B.bytes
  have hr := B.returns
  have hts := atoms_spec (ws := wsX6_bits) B.pre
  have hown : s.vm.findClass RX6 = some m.cls := findClass_of_methodNamed B.named
  have hlocks := B.notSynchronized
  subst hsz
  have hD := hD0.self (sz := s.heap.size)
  generalize hAe : va_A [] s.heap.size = A at hD hZ ⊢
  have hA : ∀ q : Nat, s.heap.size ≤ q → A q := fun q h => by rw [← hAe]; exact Or.inr h
  have hS : va_S A s.heap s.heap [] := va_S.rf
  have hl := lv_entry ([.int p1]) (n := 3) (Nat.le_of_ble_eq_true rfl)
  rw [lg_entry_eq]
  generalize (lg_sl ([.int p1]) ++ List.replicate (3 - (lg_sl ([.int p1])).length) Slot.unset).toArray = ls at hl ⊢
  have hl : lv_has ls 3 [(0, .int p1)] := hl
  unfold fX6_bits at h
  refine lv_iconst (v := (0 : Int32)) hx hb dX6_bits_0 (by decide) ?_
  refine lv_istore_n (lv' := [(1, .int (0 : Int32)), (0, .int p1)]) hx hb dX6_bits_1 rfl hl (by decide) rfl (fun ls hl => ?_)
  refine lv_iconst (v := (0 : Int32)) hx hb dX6_bits_2 (by decide) ?_
  refine lv_istore_n (lv' := [(2, .int (0 : Int32)), (1, .int (0 : Int32)), (0, .int p1)]) hx hb dX6_bits_3 rfl hl (by decide) rfl (fun ls hl => ?_)
  obtain ⟨u3, e4, h⟩ := bd_some h
  refine W_leave (P := fun (y : (Int32 × Int32)) H locs ls => u3 = y ∧ va_P D vwCl [] H ∧ va_D A [] ∧ va_S A s.heap H locs ∧ lv_has ls 3 [(2, .int y.1), (1, .int y.2), (0, .int p1)]) (g := fun ls => F0 m 24 ls []) ?_ ?_
  · intro y H locs ls hq
    obtain ⟨hy, hP, hD, hS, hl⟩ := hq
    subst hy
    have hl : lv_has ls 3 [(2, .int u3.1), (1, .int u3.2), (0, .int p1)] := hl
    refine lv_iload_n hx hb dX6_bits_24 rfl (lv_at hl 1 rfl) ?_
    obtain rfl := Option.some.inj h
    exact W.iret (v := u3.2) hx hb hr (fun t ht hW => ⟨⟨u3.2, (), rfl, rfl, by rw [ht]; exact hP, hD⟩, hS.F ht⟩) hS.2.2 dX6_bits_25
  · intro K5
    refine W_lp (body := (fun (st : (Int32 × Int32)) => fX6_bits_L4 p1 st.1 st.2)) (P := fun (st : (Int32 × Int32)) H locs ls => va_P D vwCl [] H ∧ va_D A [] ∧ va_S A s.heap H locs ∧ lv_has ls 3 [(2, .int st.1), (1, .int st.2), (0, .int p1)]) (g := fun _ ls => F0 m 4 ls []) (r := u3) ?_ fu_ ((0 : Int32), (0 : Int32)) _ _ _ e4 ⟨hP, hD, hS, lv_sub hl [0, 1, 2] rfl⟩
    intro st xx9 H locs ls h hq ih8 hR7
    obtain ⟨hP, hD, hS, hl⟩ := hq
    obtain ⟨v1, v2⟩ := st
    have hl : lv_has ls 3 [(2, .int v1), (1, .int v2), (0, .int p1)] := hl
    have h : fX6_bits_L4 p1 v1 v2 = some xx9 := h
    unfold fX6_bits_L4 at h
    refine lv_iload_n hx hb dX6_bits_4 rfl (lv_at hl 0 rfl) ?_
    refine lv_bipush (v := (8 : Int32)) hx hb dX6_bits_5 (by decide) ?_
    refine lv_icmp_ge (tgt := 24) hx hb dX6_bits_7 (by decide) (fun c10 => ?_) (fun c10 => ?_)
    · have h := (if_pos c10).symm.trans h
      exact K5 _ _ _ _ ⟨(hR7 _ (Option.some.inj h).symm).symm, hP, hD, hS, lv_sub hl [0, 1, 2] rfl⟩
    · have h := (if_neg c10).symm.trans h
      refine lv_iload_n hx hb dX6_bits_10 rfl (lv_at hl 1 rfl) ?_
      refine lv_iload_n hx hb dX6_bits_11 rfl (lv_at hl 2 rfl) ?_
      refine lv_iload_n hx hb dX6_bits_12 rfl (lv_at hl 0 rfl) ?_
      refine lv_ishr hx hb dX6_bits_13 ?_
      refine lv_iconst (v := (1 : Int32)) hx hb dX6_bits_14 (by decide) ?_
      refine lv_iand hx hb dX6_bits_15 ?_
      refine lv_iadd hx hb dX6_bits_16 ?_
      refine lv_istore_n (lv' := [(1, .int (v2 + ((p1 >>> (v1 &&& 31)) &&& (1 : Int32)))), (2, .int v1), (0, .int p1)]) hx hb dX6_bits_17 rfl hl (by decide) rfl (fun ls hl => ?_)
      refine lv_iinc (v := (v1 + (1 : Int32))) (lv' := [(2, .int (v1 + (1 : Int32))), (1, .int (v2 + ((p1 >>> (v1 &&& 31)) &&& (1 : Int32)))), (0, .int p1)]) hx hb dX6_bits_18 hl (k := 1) rfl rfl (by decide) rfl (fun ls hl => ?_)
      refine lv_goto (tgt := 4) hx hb dX6_bits_21 (by decide) ?_
      exact ih8 _ _ _ _ (Option.some.inj h).symm ⟨hP, hD, hS, lv_sub hl [0, 1, 2] rfl⟩

-- X6_size
set_option maxHeartbeats 8000000 in
set_option maxRecDepth 100000 in
theorem kX6_size (l : Launch) (D : va_G) (cI cJ cZ : ClassId) (tP sz : Nat)  (p1 : Int64) (uu : Int64) (h : fX6_size p1 = some uu) : Met l yX6_size wsX6_size ({ frames := 0, cells := 0, slots := 0, locals := 0 }) (cPre D cI cJ cZ tP [] sz [.long p1]) (cQl D (va_A [] sz) [] uu) 0 0 (va_A [] sz) := by
  refine Met.ofW (cc := cX6_size) (maxL := 2) (ret := (some .long)) (by decide) rfl ?_
  intro p e s m args below meth c s₁ B hml hv
  obtain ⟨rfl, hsz, hP, hK, hN, hD0, hZ⟩ := hv
  have hx := B.exec
  have hb := B.bytes
  have hr := B.returns
  have hts := atoms_spec (ws := wsX6_size) B.pre
  have hown : s.vm.findClass RX6 = some m.cls := findClass_of_methodNamed B.named
  have hlocks := B.notSynchronized
  subst hsz
  have hD := hD0.self (sz := s.heap.size)
  generalize hAe : va_A [] s.heap.size = A at hD hZ ⊢
  have hA : ∀ q : Nat, s.heap.size ≤ q → A q := fun q h => by rw [← hAe]; exact Or.inr h
  have hS : va_S A s.heap s.heap [] := va_S.rf
  have hl := lv_entry ([.long p1]) (n := 2) (Nat.le_of_ble_eq_true rfl)
  rw [lg_entry_eq]
  generalize (lg_sl ([.long p1]) ++ List.replicate (2 - (lg_sl ([.long p1])).length) Slot.unset).toArray = ls at hl ⊢
  have hl : lv_has ls 2 [(0, .long p1)] := hl
  unfold fX6_size at h
  refine lv_lload_n hx hb dX6_size_0 rfl (lv_at hl 0 rfl) ?_
  refine lv_lconst (v := (0 : Int64)) hx hb dX6_size_1 (by decide) ?_
  refine W.lcmp hx hb dX6_size_2 ?_
  refine lv_if_ge (tgt := 11) hx hb dX6_size_3 (by decide) (fun c1 => ?_) (fun c1 => ?_)
  · have h := (if_pos c1).symm.trans h
    refine lv_lload_n hx hb dX6_size_11 rfl (lv_at hl 0 rfl) ?_
    obtain rfl := Option.some.inj h
    exact W.lret (v := p1) hx hb hr (fun t ht hW => ⟨⟨p1, (), rfl, rfl, by rw [ht]; exact hP, hD⟩, hS.F ht⟩) hS.2.2 dX6_size_12
  · have h := (if_neg c1).symm.trans h
    refine lv_lload_n hx hb dX6_size_6 rfl (lv_at hl 0 rfl) ?_
    refine lv_lneg hx hb dX6_size_7 ?_
    refine lv_goto (tgt := 12) hx hb dX6_size_8 (by decide) ?_
    obtain rfl := Option.some.inj h
    exact W.lret (v := (-p1)) hx hb hr (fun t ht hW => ⟨⟨(-p1), (), rfl, rfl, by rw [ht]; exact hP, hD⟩, hS.F ht⟩) hS.2.2 dX6_size_12
