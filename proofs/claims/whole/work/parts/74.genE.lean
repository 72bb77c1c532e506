-- J7_fill_53178
set_option maxHeartbeats 8000000 in
set_option maxRecDepth 100000 in
theorem kJ7_fill_53178 (l : Launch) (D : va_G) (q : Nat → Nat) (cI cJ cZ : ClassId) (tP sz : Nat) (vnum : Int32) (vsz : Int32) (vfr : Int32) (vfo : Int32) (vli : Int32) (va : (Nat → Int32)) (vb : (Nat → Int32)) (vc : (Nat → Int32)) (ve : (Nat → Int32)) (vth : (Nat → Int32)) (vrk : (Nat → Int32)) (vcm : (Nat → Int32)) (vkx : (Nat → Int32)) (vky : (Nat → Int32)) (vkz : (Nat → Int32)) (vmk : (Nat → Int32)) (vre : (Nat → Int32)) (vro : (Nat → Int32)) (vwi : (Nat → Int32)) (vla : (Nat → Int32)) (vlb : (Nat → Int32)) (vtu : (Nat → Int32)) (k0x : Int32) (k0y : Int32) (k0z : Int32) (k1x : Int32) (k1y : Int32) (k1z : Int32) (k2x : Int32) (k2y : Int32) (k2z : Int32) (k3x : Int32) (k3y : Int32) (k3z : Int32) (p1 : Int32) (uu : (Nat → Int32)) (h : fJ7_fill_53178 vmk p1 = some uu) : Met l yJ7_fill_53178 wsJ7_fill_53178 ({ frames := 0, cells := 0, slots := 0, locals := 0 }) (cPre D cI cJ cZ tP (WC_ q cI cZ vnum vsz vfr vfo vli va vb vc ve vth vrk vcm vkx vky vkz vmk vre vro vwi vla vlb vtu k0x k0y k0z k1x k1y k1z k2x k2y k2z k3x k3y k3z) sz [.ref (q 15), .int p1]) (cQv D (va_A (WC_ q cI cZ vnum vsz vfr vfo vli va vb vc ve vth vrk vcm vkx vky vkz vmk vre vro vwi vla vlb vtu k0x k0y k0z k1x k1y k1z k2x k2y k2z k3x k3y k3z) sz) (WC_ q cI cZ vnum vsz vfr vfo vli va vb vc ve vth vrk vcm vkx vky vkz uu vre vro vwi vla vlb vtu k0x k0y k0z k1x k1y k1z k2x k2y k2z k3x k3y k3z)) 0 0 (va_A (WC_ q cI cZ vnum vsz vfr vfo vli va vb vc ve vth vrk vcm vkx vky vkz vmk vre vro vwi vla vlb vtu k0x k0y k0z k1x k1y k1z k2x k2y k2z k3x k3y k3z) sz) := by
  refine va_MetF (cc := cJ7_fill_53178) (maxL := 4) (ret := none) (by decide +kernel) rfl ?_
  intro p e s m args below meth c s₁ B hml hv
  obtain ⟨rfl, hsz, hP, hK, hN, hD0, hZ⟩ := hv
  have hx := B.exec
  have hb := B.bytes
  have hr := B.returns
  have hts := atoms_spec (ws := wsJ7_fill_53178) B.pre
  have hown : s.vm.findClass RJ7 = some m.cls := findClass_of_methodNamed B.named
  have hlocks := B.notSynchronized
  subst hsz
  have hD := hD0.self (sz := s.heap.size)
  generalize hAe : va_A (WC_ q cI cZ vnum vsz vfr vfo vli va vb vc ve vth vrk vcm vkx vky vkz vmk vre vro vwi vla vlb vtu k0x k0y k0z k1x k1y k1z k2x k2y k2z k3x k3y k3z) s.heap.size = A at hD hZ ⊢
  have hA : ∀ q : Nat, s.heap.size ≤ q → A q := fun q h => by rw [← hAe]; exact Or.inr h
  have hS : va_S A s.heap s.heap [] := va_S.rf
  have hl := lv_entry ([.ref (q 15), .int p1]) (n := 4) (Nat.le_of_ble_eq_true rfl)
  rw [lg_entry_eq]
  generalize (lg_sl ([.ref (q 15), .int p1]) ++ List.replicate (4 - (lg_sl ([.ref (q 15), .int p1])).length) Slot.unset).toArray = ls at hl ⊢
  have hl : lv_has ls 4 [(0, .ref (q 15)), (1, .int p1)] := hl
  unfold fJ7_fill_53178 at h
  refine lv_iconst (v := (0 : Int32)) hx hb dJ7_fill_53178_0 (by decide) ?_
  refine lv_istore_n (lv' := [(2, .int (0 : Int32)), (0, .ref (q 15)), (1, .int p1)]) hx hb dJ7_fill_53178_1 rfl hl (by decide) rfl (fun ls hl => ?_)
  refine lv_aload_n hx hb dJ7_fill_53178_2 rfl (lv_at hl 1 rfl) ?_
  refine va_alen (v := (206 : Int32)) hx hb hK hP 15 0 rfl rfl rfl dJ7_fill_53178_3 ?_
  refine lv_istore_n (lv' := [(3, .int (206 : Int32)), (2, .int (0 : Int32)), (0, .ref (q 15)), (1, .int p1)]) hx hb dJ7_fill_53178_4 rfl hl (by decide) rfl (fun ls hl => ?_)
  obtain ⟨u3, e4, h⟩ := bd_some h
  refine W_leave (P := fun (y : (Int32 × (Nat → Int32))) H locs ls => u3 = y ∧ va_P D vwCl (WC_ q cI cZ vnum vsz vfr vfo vli va vb vc ve vth vrk vcm vkx vky vkz y.2 vre vro vwi vla vlb vtu k0x k0y k0z k1x k1y k1z k2x k2y k2z k3x k3y k3z) H ∧ va_D A (WC_ q cI cZ vnum vsz vfr vfo vli va vb vc ve vth vrk vcm vkx vky vkz y.2 vre vro vwi vla vlb vtu k0x k0y k0z k1x k1y k1z k2x k2y k2z k3x k3y k3z) ∧ va_S A s.heap H locs ∧ lv_has ls 4 [(3, .int (206 : Int32)), (2, .int y.1), (0, .ref (q 15)), (1, .int p1)]) (g := fun ls => F0 m 20 ls []) ?_ ?_
  · intro y H locs ls hq
    obtain ⟨hy, hP, hD, hS, hl⟩ := hq
    subst hy
    have hl : lv_has ls 4 [(3, .int (206 : Int32)), (2, .int u3.1), (0, .ref (q 15)), (1, .int p1)] := hl
    obtain rfl := Option.some.inj h
    exact W.vret hx hb hr (fun t ht hW => ⟨⟨(), rfl, trivial, by rw [ht]; exact hP, hD⟩, hS.F ht⟩) hS.2.2 dJ7_fill_53178_20
  · intro K5
    refine W_lp (body := (fun (st : (Int32 × (Nat → Int32))) => fJ7_fill_53178_L5 p1 st.1 st.2)) (P := fun (st : (Int32 × (Nat → Int32))) H locs ls => va_P D vwCl (WC_ q cI cZ vnum vsz vfr vfo vli va vb vc ve vth vrk vcm vkx vky vkz st.2 vre vro vwi vla vlb vtu k0x k0y k0z k1x k1y k1z k2x k2y k2z k3x k3y k3z) H ∧ va_D A (WC_ q cI cZ vnum vsz vfr vfo vli va vb vc ve vth vrk vcm vkx vky vkz st.2 vre vro vwi vla vlb vtu k0x k0y k0z k1x k1y k1z k2x k2y k2z k3x k3y k3z) ∧ va_S A s.heap H locs ∧ lv_has ls 4 [(3, .int (206 : Int32)), (2, .int st.1), (0, .ref (q 15)), (1, .int p1)]) (g := fun _ ls => F0 m 5 ls []) (r := u3) ?_ fu_ ((0 : Int32), vmk) _ _ _ e4 ⟨hP, hD, hS, lv_sub hl [0, 1, 2, 3] rfl⟩
    intro st xx9 H locs ls h hq ih8 hR7
    obtain ⟨hP, hD, hS, hl⟩ := hq
    obtain ⟨v1, v2⟩ := st
    have hP : va_P D vwCl (WC_ q cI cZ vnum vsz vfr vfo vli va vb vc ve vth vrk vcm vkx vky vkz v2 vre vro vwi vla vlb vtu k0x k0y k0z k1x k1y k1z k2x k2y k2z k3x k3y k3z) H := hP
    have hD : va_D A (WC_ q cI cZ vnum vsz vfr vfo vli va vb vc ve vth vrk vcm vkx vky vkz v2 vre vro vwi vla vlb vtu k0x k0y k0z k1x k1y k1z k2x k2y k2z k3x k3y k3z) := hD
    have hl : lv_has ls 4 [(3, .int (206 : Int32)), (2, .int v1), (0, .ref (q 15)), (1, .int p1)] := hl
    have h : fJ7_fill_53178_L5 p1 v1 v2 = some xx9 := h
    unfold fJ7_fill_53178_L5 at h
    refine lv_iload_n hx hb dJ7_fill_53178_5 rfl (lv_at hl 1 rfl) ?_
    refine lv_iload_n hx hb dJ7_fill_53178_6 rfl (lv_at hl 0 rfl) ?_
    refine lv_icmp_ge (tgt := 20) hx hb dJ7_fill_53178_7 (by decide) (fun c10 => ?_) (fun c10 => ?_)
    · have h := (if_pos c10).symm.trans h
      exact K5 _ _ _ _ ⟨(hR7 _ (Option.some.inj h).symm).symm, hP, hD, hS, lv_sub hl [0, 1, 2, 3] rfl⟩
    · have h := (if_neg c10).symm.trans h
      refine lv_aload_n hx hb dJ7_fill_53178_10 rfl (lv_at hl 2 rfl) ?_
      refine lv_iload_n hx hb dJ7_fill_53178_11 rfl (lv_at hl 1 rfl) ?_
      refine lv_iload_n hx hb dJ7_fill_53178_12 rfl (lv_at hl 3 rfl) ?_
      obtain ⟨i11, h⟩ := ck_some h
      refine va_iast hx hb hK hP hD hS 15 0 rfl rfl i11 dJ7_fill_53178_13 (fun H locs hP hD hS => ?_)
      have hP : va_P D vwCl (WC_ q cI cZ vnum vsz vfr vfo vli va vb vc ve vth vrk vcm vkx vky vkz (upd v2 v1.toNatClampNeg p1) vre vro vwi vla vlb vtu k0x k0y k0z k1x k1y k1z k2x k2y k2z k3x k3y k3z) H := hP
      have hD : va_D A (WC_ q cI cZ vnum vsz vfr vfo vli va vb vc ve vth vrk vcm vkx vky vkz (upd v2 v1.toNatClampNeg p1) vre vro vwi vla vlb vtu k0x k0y k0z k1x k1y k1z k2x k2y k2z k3x k3y k3z) := hD
      refine lv_iinc (v := (v1 + (1 : Int32))) (lv' := [(2, .int (v1 + (1 : Int32))), (3, .int (206 : Int32)), (0, .ref (q 15)), (1, .int p1)]) hx hb dJ7_fill_53178_14 hl (k := 1) rfl rfl (by decide) rfl (fun ls hl => ?_)
      refine lv_goto (tgt := 5) hx hb dJ7_fill_53178_17 (by decide) ?_
      exact ih8 _ _ _ _ (Option.some.inj h).symm ⟨hP, hD, hS, lv_sub hl [1, 0, 2, 3] rfl⟩

-- X1_isMarked
theorem wmX1_isMarked_0 : (.fieldLink RX1 9 "SpaceWalls$Cut" "marks" "[I" : Cond) ∈ wsX1_isMarked := by decide +kernel
theorem wiX1_isMarked_X1 : ∀ w ∈ u_ws RX1 TX1 13, w ∈ wsX1_isMarked := by decide +kernel
set_option maxHeartbeats 8000000 in
set_option maxRecDepth 100000 in
theorem kX1_isMarked (l : Launch) (D : va_G) (q : Nat → Nat) (cI cJ cZ : ClassId) (tP sz : Nat) (vnum : Int32) (vsz : Int32) (vfr : Int32) (vfo : Int32) (vli : Int32) (va : (Nat → Int32)) (vb : (Nat → Int32)) (vc : (Nat → Int32)) (ve : (Nat → Int32)) (vth : (Nat → Int32)) (vrk : (Nat → Int32)) (vcm : (Nat → Int32)) (vkx : (Nat → Int32)) (vky : (Nat → Int32)) (vkz : (Nat → Int32)) (vmk : (Nat → Int32)) (vre : (Nat → Int32)) (vro : (Nat → Int32)) (vwi : (Nat → Int32)) (vla : (Nat → Int32)) (vlb : (Nat → Int32)) (vtu : (Nat → Int32)) (k0x : Int32) (k0y : Int32) (k0z : Int32) (k1x : Int32) (k1y : Int32) (k1z : Int32) (k2x : Int32) (k2y : Int32) (k2z : Int32) (k3x : Int32) (k3y : Int32) (k3z : Int32) (p1 : Int32) (uu : Int32) (h : fX1_isMarked vmk p1 = some uu) : Met l yX1_isMarked wsX1_isMarked ({ frames := 0, cells := 0, slots := 0, locals := 0 }) (cPre D cI cJ cZ tP (WC_ q cI cZ vnum vsz vfr vfo vli va vb vc ve vth vrk vcm vkx vky vkz vmk vre vro vwi vla vlb vtu k0x k0y k0z k1x k1y k1z k2x k2y k2z k3x k3y k3z) sz [.ref (q 14), .int p1]) (cQi D (va_A (WC_ q cI cZ vnum vsz vfr vfo vli va vb vc ve vth vrk vcm vkx vky vkz vmk vre vro vwi vla vlb vtu k0x k0y k0z k1x k1y k1z k2x k2y k2z k3x k3y k3z) sz) (WC_ q cI cZ vnum vsz vfr vfo vli va vb vc ve vth vrk vcm vkx vky vkz vmk vre vro vwi vla vlb vtu k0x k0y k0z k1x k1y k1z k2x k2y k2z k3x k3y k3z) uu) 0 0 (va_A (WC_ q cI cZ vnum vsz vfr vfo vli va vb vc ve vth vrk vcm vkx vky vkz vmk vre vro vwi vla vlb vtu k0x k0y k0z k1x k1y k1z k2x k2y k2z k3x k3y k3z) sz) := by
  refine Met.ofW (cc := cX1_isMarked) (maxL := 2) (ret := (some .boolean)) (by decide) rfl ?_
  intro p e s m args below meth c s₁ B hml hv
  obtain ⟨rfl, hsz, hP, hK, hN, hD0, hZ⟩ := hv
  have hx := B.exec
  have hb := B.bytes
  have hr := B.returns
  have hts := atoms_spec (ws := wsX1_isMarked) B.pre
  have hown : s.vm.findClass RX1 = some m.cls := findClass_of_methodNamed B.named
  have hlocks := B.notSynchronized
  subst hsz
  have hD := hD0.self (sz := s.heap.size)
  generalize hAe : va_A (WC_ q cI cZ vnum vsz vfr vfo vli va vb vc ve vth vrk vcm vkx vky vkz vmk vre vro vwi vla vlb vtu k0x k0y k0z k1x k1y k1z k2x k2y k2z k3x k3y k3z) s.heap.size = A at hD hZ ⊢
  have hA : ∀ q : Nat, s.heap.size ≤ q → A q := fun q h => by rw [← hAe]; exact Or.inr h
  have hS : va_S A s.heap s.heap [] := va_S.rf
  have hl := lv_entry ([.ref (q 14), .int p1]) (n := 2) (Nat.le_of_ble_eq_true rfl)
  rw [lg_entry_eq]
  generalize (lg_sl ([.ref (q 14), .int p1]) ++ List.replicate (2 - (lg_sl ([.ref (q 14), .int p1])).length) Slot.unset).toArray = ls at hl ⊢
  have hl : lv_has ls 2 [(0, .ref (q 14)), (1, .int p1)] := hl
  unfold fX1_isMarked at h
  refine lv_aload_n hx hb dX1_isMarked_0 rfl (lv_at hl 0 rfl) ?_
  refine va_get (D := D) (ci := 1) (v := .ref (q 15)) (C := RX1) (T := TX1) (N := 13) hx hb hts wiX1_isMarked_X1 hown hK hP 14 rfl rfl 2 (by decide) (hts _ wmX1_isMarked_0) (fun _ h9 => h9) rfl dX1_isMarked_1 ?_
  refine lv_iload_n hx hb dX1_isMarked_4 rfl (lv_at hl 1 rfl) ?_
  refine lv_iconst (v := (5 : Int32)) hx hb dX1_isMarked_5 (by decide) ?_
  refine lv_ishr hx hb dX1_isMarked_6 ?_
  obtain ⟨i1, h⟩ := ck_some h
  refine va_iald hx hb hK hP 15 0 rfl rfl i1 dX1_isMarked_7 ?_
  refine lv_iload_n hx hb dX1_isMarked_8 rfl (lv_at hl 1 rfl) ?_
  refine lv_bipush (v := (31 : Int32)) hx hb dX1_isMarked_9 (by decide) ?_
  refine lv_iand hx hb dX1_isMarked_11 ?_
  refine lv_iushr (v := ((vmk (p1 >>> ((5 : Int32) &&& 31)).toNatClampNeg).toUInt32 >>> ((p1 &&& (31 : Int32)).toUInt32 &&& Int32.toUInt32 31)).toInt32) hx hb dX1_isMarked_12 rfl ?_
  refine lv_iconst (v := (1 : Int32)) hx hb dX1_isMarked_13 (by decide) ?_
  refine lv_iand hx hb dX1_isMarked_14 ?_
  refine lv_iconst (v := (1 : Int32)) hx hb dX1_isMarked_15 (by decide) ?_
  refine lv_icmp_ne (tgt := 23) hx hb dX1_isMarked_16 (by decide) (fun c2 => ?_) (fun c2 => ?_)
  · have h := (if_neg c2).symm.trans h
    refine lv_iconst (v := (0 : Int32)) hx hb dX1_isMarked_23 (by decide) ?_
    obtain rfl := Option.some.inj h
    exact W.zret (v := (0 : Int32)) hx hb hr (by decide) (fun t ht hW => ⟨⟨(0 : Int32), (), rfl, rfl, by rw [ht]; exact hP, hD⟩, hS.F ht⟩) hS.2.2 dX1_isMarked_24
  · have h := (if_pos c2).symm.trans h
    refine lv_iconst (v := (1 : Int32)) hx hb dX1_isMarked_19 (by decide) ?_
    refine lv_goto (tgt := 24) hx hb dX1_isMarked_20 (by decide) ?_
    obtain rfl := Option.some.inj h
    exact W.zret (v := (1 : Int32)) hx hb hr (by decide) (fun t ht hW => ⟨⟨(1 : Int32), (), rfl, rfl, by rw [ht]; exact hP, hD⟩, hS.F ht⟩) hS.2.2 dX1_isMarked_24

-- X1_reach
theorem wmX1_reach_0 : (.fieldLink RX1 43 "SpaceWalls$Cut" "planes" "LSpaceWalls$Planes;" : Cond) ∈ wsX1_reach := by decide +kernel
theorem wmX1_reach_1 : (.fieldLink RX1 51 "SpaceWalls$Cut" "found" "I" : Cond) ∈ wsX1_reach := by decide +kernel
theorem wmX1_reach_2 : (.fieldLink RX1 9 "SpaceWalls$Cut" "marks" "[I" : Cond) ∈ wsX1_reach := by decide +kernel
theorem wmX1_reach_3 : (.fieldLink RX1 15 "SpaceWalls$Cut" "reached" "[I" : Cond) ∈ wsX1_reach := by decide +kernel
theorem wmX1_reach_4 : (.fieldLink RX1 47 "SpaceWalls$Cut" "heaps" "LSpaceWalls$Heaps;" : Cond) ∈ wsX1_reach := by decide +kernel
theorem wmX1_reach_5 : (.initialized RX5 : Cond) ∈ wsX1_reach := by decide +kernel
theorem wmX1_reach_6 : (.static yX5_onMask : Cond) ∈ wsX1_reach := by decide +kernel
theorem wiX1_reach_X1 : ∀ w ∈ u_ws RX1 TX1 13, w ∈ wsX1_reach := by decide +kernel
theorem wiX1_reach_X2 : ∀ w ∈ u_ws RX2 TX2 7, w ∈ wsX1_reach := by decide +kernel
set_option maxHeartbeats 8000000 in
set_option maxRecDepth 100000 in
theorem kX1_reach (l : Launch) (D : va_G) (q : Nat → Nat) (cI cJ cZ : ClassId) (tP sz : Nat) (vnum : Int32) (vsz : Int32) (vfr : Int32) (vfo : Int32) (vli : Int32) (va : (Nat → Int32)) (vb : (Nat → Int32)) (vc : (Nat → Int32)) (ve : (Nat → Int32)) (vth : (Nat → Int32)) (vrk : (Nat → Int32)) (vcm : (Nat → Int32)) (vkx : (Nat → Int32)) (vky : (Nat → Int32)) (vkz : (Nat → Int32)) (vmk : (Nat → Int32)) (vre : (Nat → Int32)) (vro : (Nat → Int32)) (vwi : (Nat → Int32)) (vla : (Nat → Int32)) (vlb : (Nat → Int32)) (vtu : (Nat → Int32)) (k0x : Int32) (k0y : Int32) (k0z : Int32) (k1x : Int32) (k1y : Int32) (k1z : Int32) (k2x : Int32) (k2y : Int32) (k2z : Int32) (k3x : Int32) (k3y : Int32) (k3z : Int32) (p1 : Int32) (uu : (Int32 × (Nat → Int32) × (Nat → Int32) × (Nat → Int32))) (h : fX1_reach vfo vth vcm vmk vre p1 = some uu) : Met l yX1_reach wsX1_reach ({ frames := 2, cells := 0, slots := 0, locals := 41 }) (cPre D cI cJ cZ tP (WC_ q cI cZ vnum vsz vfr vfo vli va vb vc ve vth vrk vcm vkx vky vkz vmk vre vro vwi vla vlb vtu k0x k0y k0z k1x k1y k1z k2x k2y k2z k3x k3y k3z) sz [.ref (q 14), .int p1]) (cQv D (va_A (WC_ q cI cZ vnum vsz vfr vfo vli va vb vc ve vth vrk vcm vkx vky vkz vmk vre vro vwi vla vlb vtu k0x k0y k0z k1x k1y k1z k2x k2y k2z k3x k3y k3z) sz) (WC_ q cI cZ vnum vsz vfr uu.1 vli va vb vc ve vth vrk uu.2.1 vkx vky vkz uu.2.2.1 uu.2.2.2 vro vwi vla vlb vtu k0x k0y k0z k1x k1y k1z k2x k2y k2z k3x k3y k3z)) 0 0 (va_A (WC_ q cI cZ vnum vsz vfr vfo vli va vb vc ve vth vrk vcm vkx vky vkz vmk vre vro vwi vla vlb vtu k0x k0y k0z k1x k1y k1z k2x k2y k2z k3x k3y k3z) sz) := by
  refine Met.ofW (cc := cX1_reach) (maxL := 3) (ret := none) (by decide) rfl ?_
  intro p e s m args below meth c s₁ B hml hv
  obtain ⟨rfl, hsz, hP, hK, hN, hD0, hZ⟩ := hv
  have hx := B.exec
  have hb := B.bytes
  have hr := B.returns
  have hts := atoms_spec (ws := wsX1_reach) B.pre
  have hown : s.vm.findClass RX1 = some m.cls := findClass_of_methodNamed B.named
  have hlocks := B.notSynchronized
  subst hsz
  have hD := hD0.self (sz := s.heap.size)
  generalize hAe : va_A (WC_ q cI cZ vnum vsz vfr vfo vli va vb vc ve vth vrk vcm vkx vky vkz vmk vre vro vwi vla vlb vtu k0x k0y k0z k1x k1y k1z k2x k2y k2z k3x k3y k3z) s.heap.size = A at hD hZ ⊢
  have hA : ∀ q : Nat, s.heap.size ≤ q → A q := fun q h => by rw [← hAe]; exact Or.inr h
  have hS : va_S A s.heap s.heap [] := va_S.rf
  have hl := lv_entry ([.ref (q 14), .int p1]) (n := 3) (Nat.le_of_ble_eq_true rfl)
  rw [lg_entry_eq]
  generalize (lg_sl ([.ref (q 14), .int p1]) ++ List.replicate (3 - (lg_sl ([.ref (q 14), .int p1])).length) Slot.unset).toArray = ls at hl ⊢
  have hl : lv_has ls 3 [(0, .ref (q 14)), (1, .int p1)] := hl
  unfold fX1_reach at h
  refine lv_aload_n hx hb dX1_reach_0 rfl (lv_at hl 0 rfl) ?_
  refine va_get (D := D) (ci := 1) (v := .ref (q 1)) (C := RX1) (T := TX1) (N := 13) hx hb hts wiX1_reach_X1 hown hK hP 14 rfl rfl 0 (by decide) (hts _ wmX1_reach_0) (fun _ h9 => h9) rfl dX1_reach_1 ?_
  refine lv_iload_n hx hb dX1_reach_4 rfl (lv_at hl 1 rfl) ?_
  obtain ⟨u1, e2, h⟩ := bd_some h
  refine k_i (va_runV (As := [.int p1]) (rest := []) ⟨hx, hb, hml, hown, hts⟩ (kX3_rowOf l D q cI cJ cZ tP s.heap.size vnum vsz vfr vfo vli va vb vc ve vth vrk vcm vkx vky vkz vmk vre vro vwi vla vlb vtu k0x k0y k0z k1x k1y k1z k2x k2y k2z k3x k3y k3z p1 u1 e2) (cwV 1 hts gX1_reach_X3_rowOf rfl rfl rfl (by decide +kernel) ⟨Nat.le_of_ble_eq_true rfl, Nat.le_of_ble_eq_true rfl⟩) ⟨cPre_blind, va_recv hK hP (ci := 3) (q0 := 1) rfl rfl, cPre_at hP hK hN hD hS hA hZ⟩ rfl rfl hl.1 rfl (lv_room (Nat.le_of_ble_eq_true rfl)) dX1_reach_5 ⟨Nat.le_of_ble_eq_true rfl, Nat.le_of_ble_eq_true rfl⟩) hD hS hA (fun H locs hP hD hS => ?_)
  refine lv_istore_n (lv' := [(2, .int u1), (0, .ref (q 14)), (1, .int p1)]) hx hb dX1_reach_8 rfl hl (by decide) rfl (fun ls hl => ?_)
  refine lv_aload_n hx hb dX1_reach_9 rfl (lv_at hl 1 rfl) ?_
  refine lv_iload_n hx hb dX1_reach_10 rfl (lv_at hl 0 rfl) ?_
  obtain ⟨u3, e4, h⟩ := bd_some h
  refine k_i (va_runV (As := [.int u1]) (rest := []) ⟨hx, hb, hml, hown, hts⟩ (kX1_isMarked l D q cI cJ cZ tP H.size vnum vsz vfr vfo vli va vb vc ve vth vrk vcm vkx vky vkz vmk vre vro vwi vla vlb vtu k0x k0y k0z k1x k1y k1z k2x k2y k2z k3x k3y k3z u1 u3 e4) (cwV 1 hts gX1_reach_X1_isMarked rfl rfl rfl (by decide +kernel) ⟨Nat.le_of_ble_eq_true rfl, Nat.le_of_ble_eq_true rfl⟩) ⟨cPre_blind, va_recv hK hP (ci := 1) (q0 := 14) rfl rfl, cPre_at hP hK hN hD hS hA hZ⟩ rfl rfl hl.1 rfl (lv_room (Nat.le_of_ble_eq_true rfl)) dX1_reach_11 ⟨Nat.le_of_ble_eq_true rfl, Nat.le_of_ble_eq_true rfl⟩) hD hS hA (fun H locs hP hD hS => ?_)
  refine lv_if_ne (tgt := 27) hx hb dX1_reach_14 (by decide) (fun c5 => ?_) (fun c5 => ?_)
  · have h := (if_neg c5).symm.trans h
    obtain rfl := Option.some.inj h
    exact W.vret hx hb hr (fun t ht hW => ⟨⟨(), rfl, trivial, by rw [ht]; exact hP, hD⟩, hS.F ht⟩) hS.2.2 dX1_reach_27
  · have h := (if_pos c5).symm.trans h
    refine lv_aload_n hx hb dX1_reach_17 rfl (lv_at hl 1 rfl) ?_
    refine va_get (D := D) (ci := 1) (v := .int vfo) (C := RX1) (T := TX1) (N := 13) hx hb hts wiX1_reach_X1 hown hK hP 14 rfl rfl 11 (by decide) (hts _ wmX1_reach_1) (fun _ h9 => h9) rfl dX1_reach_18 ?_
    refine lv_sipush (v := (577 : Int32)) hx hb dX1_reach_21 (by decide) ?_
    refine lv_icmp_lt (tgt := 28) hx hb dX1_reach_24 (by decide) (fun c6 => ?_) (fun c6 => ?_)
    · have h := (if_pos c6).symm.trans h
      refine lv_aload_n hx hb dX1_reach_28 rfl (lv_at hl 1 rfl) ?_
      refine va_get (D := D) (ci := 1) (v := .ref (q 15)) (C := RX1) (T := TX1) (N := 13) hx hb hts wiX1_reach_X1 hown hK hP 14 rfl rfl 2 (by decide) (hts _ wmX1_reach_2) (fun _ h9 => h9) rfl dX1_reach_29 ?_
      refine lv_iload_n hx hb dX1_reach_32 rfl (lv_at hl 0 rfl) ?_
      refine lv_iconst (v := (5 : Int32)) hx hb dX1_reach_33 (by decide) ?_
      refine lv_ishr hx hb dX1_reach_34 ?_
      refine lv_dup2_11 hx hb dX1_reach_35 rfl rfl ?_
      obtain ⟨i7, h⟩ := ck_some h
      refine va_iald hx hb hK hP 15 0 rfl rfl i7 dX1_reach_36 ?_
      refine lv_iconst (v := (1 : Int32)) hx hb dX1_reach_37 (by decide) ?_
      refine lv_iload_n hx hb dX1_reach_38 rfl (lv_at hl 0 rfl) ?_
      refine lv_bipush (v := (31 : Int32)) hx hb dX1_reach_39 (by decide) ?_
      refine lv_iand hx hb dX1_reach_41 ?_
      refine lv_ishl hx hb dX1_reach_42 ?_
      refine lv_ior hx hb dX1_reach_43 ?_
      obtain ⟨i8, h⟩ := ck_some h
      refine va_iast hx hb hK hP hD hS 15 0 rfl rfl i8 dX1_reach_44 (fun H locs hP hD hS => ?_)
      have hP : va_P D vwCl (WC_ q cI cZ vnum vsz vfr vfo vli va vb vc ve vth vrk vcm vkx vky vkz (upd vmk (u1 >>> ((5 : Int32) &&& 31)).toNatClampNeg ((vmk (u1 >>> ((5 : Int32) &&& 31)).toNatClampNeg) ||| ((1 : Int32) <<< ((u1 &&& (31 : Int32)) &&& 31)))) vre vro vwi vla vlb vtu k0x k0y k0z k1x k1y k1z k2x k2y k2z k3x k3y k3z) H := hP
      have hD : va_D A (WC_ q cI cZ vnum vsz vfr vfo vli va vb vc ve vth vrk vcm vkx vky vkz (upd vmk (u1 >>> ((5 : Int32) &&& 31)).toNatClampNeg ((vmk (u1 >>> ((5 : Int32) &&& 31)).toNatClampNeg) ||| ((1 : Int32) <<< ((u1 &&& (31 : Int32)) &&& 31)))) vre vro vwi vla vlb vtu k0x k0y k0z k1x k1y k1z k2x k2y k2z k3x k3y k3z) := hD
      refine lv_aload_n hx hb dX1_reach_45 rfl (lv_at hl 1 rfl) ?_
      refine va_get (D := D) (ci := 1) (v := .ref (q 16)) (C := RX1) (T := TX1) (N := 13) hx hb hts wiX1_reach_X1 hown hK hP 14 rfl rfl 3 (by decide) (hts _ wmX1_reach_3) (fun _ h9 => h9) rfl dX1_reach_46 ?_
      refine lv_aload_n hx hb dX1_reach_49 rfl (lv_at hl 1 rfl) ?_
      refine va_get (D := D) (ci := 1) (v := .int vfo) (C := RX1) (T := TX1) (N := 13) hx hb hts wiX1_reach_X1 hown hK hP 14 rfl rfl 11 (by decide) (hts _ wmX1_reach_1) (fun _ h9 => h9) rfl dX1_reach_50 ?_
      refine lv_iload_n hx hb dX1_reach_53 rfl (lv_at hl 2 rfl) ?_
      obtain ⟨i9, h⟩ := ck_some h
      refine va_iast hx hb hK hP hD hS 16 0 rfl rfl i9 dX1_reach_54 (fun H locs hP hD hS => ?_)
      have hP : va_P D vwCl (WC_ q cI cZ vnum vsz vfr vfo vli va vb vc ve vth vrk vcm vkx vky vkz (upd vmk (u1 >>> ((5 : Int32) &&& 31)).toNatClampNeg ((vmk (u1 >>> ((5 : Int32) &&& 31)).toNatClampNeg) ||| ((1 : Int32) <<< ((u1 &&& (31 : Int32)) &&& 31)))) (upd vre vfo.toNatClampNeg p1) vro vwi vla vlb vtu k0x k0y k0z k1x k1y k1z k2x k2y k2z k3x k3y k3z) H := hP
      have hD : va_D A (WC_ q cI cZ vnum vsz vfr vfo vli va vb vc ve vth vrk vcm vkx vky vkz (upd vmk (u1 >>> ((5 : Int32) &&& 31)).toNatClampNeg ((vmk (u1 >>> ((5 : Int32) &&& 31)).toNatClampNeg) ||| ((1 : Int32) <<< ((u1 &&& (31 : Int32)) &&& 31)))) (upd vre vfo.toNatClampNeg p1) vro vwi vla vlb vtu k0x k0y k0z k1x k1y k1z k2x k2y k2z k3x k3y k3z) := hD
      refine lv_aload_n hx hb dX1_reach_55 rfl (lv_at hl 1 rfl) ?_
      refine lv_dup hx hb dX1_reach_56 rfl ?_
      refine va_get (D := D) (ci := 1) (v := .int vfo) (C := RX1) (T := TX1) (N := 13) hx hb hts wiX1_reach_X1 hown hK hP 14 rfl rfl 11 (by decide) (hts _ wmX1_reach_1) (fun _ h9 => h9) rfl dX1_reach_57 ?_
      refine lv_iconst (v := (1 : Int32)) hx hb dX1_reach_60 (by decide) ?_
      refine lv_iadd hx hb dX1_reach_61 ?_
      refine va_put (D := D) (ci := 1) (v := .int (vfo + (1 : Int32))) (ty := .int) (C := RX1) (T := TX1) (N := 13) hx hb hts wiX1_reach_X1 tyX1 tyX1_ok nmX1 hown hK hP hD hS 14 rfl rfl 11 (by decide) (hts _ wmX1_reach_1) (fun _ h9 => h9) rfl (by decide +kernel) rfl rfl (Nat.le_of_ble_eq_true rfl) dX1_reach_62 (fun H locs hP hD hS => ?_)
      have hP : va_P D vwCl (WC_ q cI cZ vnum vsz vfr (vfo + (1 : Int32)) vli va vb vc ve vth vrk vcm vkx vky vkz (upd vmk (u1 >>> ((5 : Int32) &&& 31)).toNatClampNeg ((vmk (u1 >>> ((5 : Int32) &&& 31)).toNatClampNeg) ||| ((1 : Int32) <<< ((u1 &&& (31 : Int32)) &&& 31)))) (upd vre vfo.toNatClampNeg p1) vro vwi vla vlb vtu k0x k0y k0z k1x k1y k1z k2x k2y k2z k3x k3y k3z) H := hP
      have hD : va_D A (WC_ q cI cZ vnum vsz vfr (vfo + (1 : Int32)) vli va vb vc ve vth vrk vcm vkx vky vkz (upd vmk (u1 >>> ((5 : Int32) &&& 31)).toNatClampNeg ((vmk (u1 >>> ((5 : Int32) &&& 31)).toNatClampNeg) ||| ((1 : Int32) <<< ((u1 &&& (31 : Int32)) &&& 31)))) (upd vre vfo.toNatClampNeg p1) vro vwi vla vlb vtu k0x k0y k0z k1x k1y k1z k2x k2y k2z k3x k3y k3z) := hD
      refine lv_aload_n hx hb dX1_reach_65 rfl (lv_at hl 1 rfl) ?_
      refine va_get (D := D) (ci := 1) (v := .ref (q 7)) (C := RX1) (T := TX1) (N := 13) hx hb hts wiX1_reach_X1 hown hK hP 14 rfl rfl 1 (by decide) (hts _ wmX1_reach_4) (fun _ h9 => h9) rfl dX1_reach_66 ?_
      refine va_getN (D := D) (ci := 2) (v := .ref (q 9)) (C := RX2) (T := TX2) (N := 7) hx hb hts wiX1_reach_X2 hown hK hP 7 rfl rfl 2 (by decide) (NW_f hN 15 rfl) (fun _ h9 => h9) rfl dX1_reach_69 ?_
      refine lv_iload_n hx hb dX1_reach_72 rfl (lv_at hl 2 rfl) ?_
      obtain ⟨u10, e11, h⟩ := bd_some h
      refine k_i0 (va_runSN (As := [.int p1]) (rest := [.ref (q 9)]) ⟨hx, hb, hml, hown, hts⟩ (kX5_onMask l D cI cJ cZ tP H.size  p1 u10 e11) ⟨va_cnB 1 hts gX1_reach_X5_onMask_n126 rfl rfl rfl (NW_m hN 0 rfl) (hts _ wmX1_reach_5) (by decide +kernel) ⟨Nat.le_of_ble_eq_true rfl, Nat.le_of_ble_eq_true rfl⟩, (hts _ wmX1_reach_6), trivial⟩ ⟨cPre_blind, cPre_at0 hK hN hS hA hZ⟩ rfl rfl hl.1 rfl (lv_room (Nat.le_of_ble_eq_true rfl)) dX1_reach_73 ⟨Nat.le_of_ble_eq_true rfl, Nat.le_of_ble_eq_true rfl⟩) hP hS hA (fun H locs hP hS => ?_)
      refine lv_iconst (v := (1 : Int32)) hx hb dX1_reach_76 (by decide) ?_
      obtain ⟨i12, h⟩ := ck_some h
      refine va_zast hx hb hK hP hD hS 9 2 rfl rfl i12 dX1_reach_77 (fun H locs hP hD hS => ?_)
      have hP : va_P D vwCl (WC_ q cI cZ vnum vsz vfr (vfo + (1 : Int32)) vli va vb vc ve vth vrk (upd vcm u10.toNatClampNeg (vp_nar .boolean (1 : Int32))) vkx vky vkz (upd vmk (u1 >>> ((5 : Int32) &&& 31)).toNatClampNeg ((vmk (u1 >>> ((5 : Int32) &&& 31)).toNatClampNeg) ||| ((1 : Int32) <<< ((u1 &&& (31 : Int32)) &&& 31)))) (upd vre vfo.toNatClampNeg p1) vro vwi vla vlb vtu k0x k0y k0z k1x k1y k1z k2x k2y k2z k3x k3y k3z) H := hP
      have hD : va_D A (WC_ q cI cZ vnum vsz vfr (vfo + (1 : Int32)) vli va vb vc ve vth vrk (upd vcm u10.toNatClampNeg (vp_nar .boolean (1 : Int32))) vkx vky vkz (upd vmk (u1 >>> ((5 : Int32) &&& 31)).toNatClampNeg ((vmk (u1 >>> ((5 : Int32) &&& 31)).toNatClampNeg) ||| ((1 : Int32) <<< ((u1 &&& (31 : Int32)) &&& 31)))) (upd vre vfo.toNatClampNeg p1) vro vwi vla vlb vtu k0x k0y k0z k1x k1y k1z k2x k2y k2z k3x k3y k3z) := hD
      obtain rfl := Option.some.inj h
      exact W.vret hx hb hr (fun t ht hW => ⟨⟨(), rfl, trivial, by rw [ht]; exact hP, hD⟩, hS.F ht⟩) hS.2.2 dX1_reach_78
    · have h := (if_neg c6).symm.trans h
      obtain rfl := Option.some.inj h
      exact W.vret hx hb hr (fun t ht hW => ⟨⟨(), rfl, trivial, by rw [ht]; exact hP, hD⟩, hS.F ht⟩) hS.2.2 dX1_reach_27

-- X1_noteLine
theorem wmX1_noteLine_0 : (.fieldLink RX1 43 "SpaceWalls$Cut" "planes" "LSpaceWalls$Planes;" : Cond) ∈ wsX1_noteLine := by decide +kernel
theorem wmX1_noteLine_1 : (.fieldLink RX1 33 "SpaceWalls$Cut" "first" "LSpaceWalls$Arrow;" : Cond) ∈ wsX1_noteLine := by decide +kernel
theorem wmX1_noteLine_2 : (.initialized RX5 : Cond) ∈ wsX1_noteLine := by decide +kernel
theorem wmX1_noteLine_3 : (.static yX5_onMask : Cond) ∈ wsX1_noteLine := by decide +kernel
theorem wmX1_noteLine_4 : (.static yX5_aboveMask : Cond) ∈ wsX1_noteLine := by decide +kernel
theorem wmX1_noteLine_5 : (.fieldLink RX1 55 "SpaceWalls$Cut" "lines" "I" : Cond) ∈ wsX1_noteLine := by decide +kernel
theorem wmX1_noteLine_6 : (.fieldLink RX1 24 "SpaceWalls$Cut" "lineAbove" "[I" : Cond) ∈ wsX1_noteLine := by decide +kernel
theorem wmX1_noteLine_7 : (.fieldLink RX1 27 "SpaceWalls$Cut" "lineBelow" "[I" : Cond) ∈ wsX1_noteLine := by decide +kernel
theorem wiX1_noteLine_X1 : ∀ w ∈ u_ws RX1 TX1 13, w ∈ wsX1_noteLine := by decide +kernel
theorem wiX1_noteLine_X3 : ∀ w ∈ u_ws RX3 TX3 7, w ∈ wsX1_noteLine := by decide +kernel
theorem wiX1_noteLine_X0 : ∀ w ∈ u_ws RX0 TX0 3, w ∈ wsX1_noteLine := by decide +kernel
set_option maxHeartbeats 8000000 in
set_option maxRecDepth 100000 in
theorem kX1_noteLine (l : Launch) (D : va_G) (q : Nat → Nat) (cI cJ cZ : ClassId) (tP sz : Nat) (vnum : Int32) (vsz : Int32) (vfr : Int32) (vfo : Int32) (vli : Int32) (va : (Nat → Int32)) (vb : (Nat → Int32)) (vc : (Nat → Int32)) (ve : (Nat → Int32)) (vth : (Nat → Int32)) (vrk : (Nat → Int32)) (vcm : (Nat → Int32)) (vkx : (Nat → Int32)) (vky : (Nat → Int32)) (vkz : (Nat → Int32)) (vmk : (Nat → Int32)) (vre : (Nat → Int32)) (vro : (Nat → Int32)) (vwi : (Nat → Int32)) (vla : (Nat → Int32)) (vlb : (Nat → Int32)) (vtu : (Nat → Int32)) (k0x : Int32) (k0y : Int32) (k0z : Int32) (k1x : Int32) (k1y : Int32) (k1z : Int32) (k2x : Int32) (k2y : Int32) (k2z : Int32) (k3x : Int32) (k3y : Int32) (k3z : Int32)  (uu : (Int32 × (Nat → Int32) × (Nat → Int32))) (h : fX1_noteLine vsz vli va vb vc ve vla vlb k1x k1y k1z = some uu) : Met l yX1_noteLine wsX1_noteLine ({ frames := 1, cells := 0, slots := 0, locals := 27 }) (cPre D cI cJ cZ tP (WC_ q cI cZ vnum vsz vfr vfo vli va vb vc ve vth vrk vcm vkx vky vkz vmk vre vro vwi vla vlb vtu k0x k0y k0z k1x k1y k1z k2x k2y k2z k3x k3y k3z) sz [.ref (q 14)]) (cQv D (va_A (WC_ q cI cZ vnum vsz vfr vfo vli va vb vc ve vth vrk vcm vkx vky vkz vmk vre vro vwi vla vlb vtu k0x k0y k0z k1x k1y k1z k2x k2y k2z k3x k3y k3z) sz) (WC_ q cI cZ vnum vsz vfr vfo uu.1 va vb vc ve vth vrk vcm vkx vky vkz vmk vre vro vwi uu.2.1 uu.2.2 vtu k0x k0y k0z k1x k1y k1z k2x k2y k2z k3x k3y k3z)) 0 0 (va_A (WC_ q cI cZ vnum vsz vfr vfo vli va vb vc ve vth vrk vcm vkx vky vkz vmk vre vro vwi vla vlb vtu k0x k0y k0z k1x k1y k1z k2x k2y k2z k3x k3y k3z) sz) := by
  refine Met.ofW (cc := cX1_noteLine) (maxL := 5) (ret := none) (by decide) rfl ?_
  intro p e s m args below meth c s₁ B hml hv
  obtain ⟨rfl, hsz, hP, hK, hN, hD0, hZ⟩ := hv
  have hx := B.exec
  have hb := B.bytes
  have hr := B.returns
  have hts := atoms_spec (ws := wsX1_noteLine) B.pre
  have hown : s.vm.findClass RX1 = some m.cls := findClass_of_methodNamed B.named
  have hlocks := B.notSynchronized
  subst hsz
  have hD := hD0.self (sz := s.heap.size)
  generalize hAe : va_A (WC_ q cI cZ vnum vsz vfr vfo vli va vb vc ve vth vrk vcm vkx vky vkz vmk vre vro vwi vla vlb vtu k0x k0y k0z k1x k1y k1z k2x k2y k2z k3x k3y k3z) s.heap.size = A at hD hZ ⊢
  have hA : ∀ q : Nat, s.heap.size ≤ q → A q := fun q h => by rw [← hAe]; exact Or.inr h
  have hS : va_S A s.heap s.heap [] := va_S.rf
  have hl := lv_entry ([.ref (q 14)]) (n := 5) (Nat.le_of_ble_eq_true rfl)
  rw [lg_entry_eq]
  generalize (lg_sl ([.ref (q 14)]) ++ List.replicate (5 - (lg_sl ([.ref (q 14)])).length) Slot.unset).toArray = ls at hl ⊢
  have hl : lv_has ls 5 [(0, .ref (q 14))] := hl
  unfold fX1_noteLine at h
  refine lv_iconst (v := (1 : Int32)) hx hb dX1_noteLine_0 (by decide) ?_
  refine lv_aload_n hx hb dX1_noteLine_1 rfl (lv_at hl 0 rfl) ?_
  refine va_get (D := D) (ci := 1) (v := .ref (q 1)) (C := RX1) (T := TX1) (N := 13) hx hb hts wiX1_noteLine_X1 hown hK hP 14 rfl rfl 0 (by decide) (hts _ wmX1_noteLine_0) (fun _ h9 => h9) rfl dX1_noteLine_2 ?_
  refine va_getN (D := D) (ci := 3) (v := .int vsz) (C := RX3) (T := TX3) (N := 7) hx hb hts wiX1_noteLine_X3 hown hK hP 1 rfl rfl 6 (by decide) (NW_f hN 18 rfl) (fun _ h9 => h9) rfl dX1_noteLine_5 ?_
  refine lv_ishl hx hb dX1_noteLine_8 ?_
  refine lv_iconst (v := (1 : Int32)) hx hb dX1_noteLine_9 (by decide) ?_
  refine lv_isub hx hb dX1_noteLine_10 ?_
  refine lv_istore_n (lv' := [(1, .int (((1 : Int32) <<< (vsz &&& 31)) - (1 : Int32))), (0, .ref (q 14))]) hx hb dX1_noteLine_11 rfl hl (by decide) rfl (fun ls hl => ?_)
  refine lv_aload_n hx hb dX1_noteLine_12 rfl (lv_at hl 1 rfl) ?_
  refine va_get (D := D) (ci := 1) (v := .ref (q 1)) (C := RX1) (T := TX1) (N := 13) hx hb hts wiX1_noteLine_X1 hown hK hP 14 rfl rfl 0 (by decide) (hts _ wmX1_noteLine_0) (fun _ h9 => h9) rfl dX1_noteLine_13 ?_
  refine lv_aload_n hx hb dX1_noteLine_16 rfl (lv_at hl 1 rfl) ?_
  refine va_get (D := D) (ci := 1) (v := .ref (q 21)) (C := RX1) (T := TX1) (N := 13) hx hb hts wiX1_noteLine_X1 hown hK hP 14 rfl rfl 8 (by decide) (hts _ wmX1_noteLine_1) (fun _ h9 => h9) rfl dX1_noteLine_17 ?_
  refine va_getN (D := D) (ci := 0) (v := .int k1x) (C := RX0) (T := TX0) (N := 3) hx hb hts wiX1_noteLine_X0 hown hK hP 21 rfl rfl 0 (by decide) (NW_f hN 11 rfl) (fun _ h9 => h9) rfl dX1_noteLine_20 ?_
  refine lv_aload_n hx hb dX1_noteLine_23 rfl (lv_at hl 1 rfl) ?_
  refine va_get (D := D) (ci := 1) (v := .ref (q 21)) (C := RX1) (T := TX1) (N := 13) hx hb hts wiX1_noteLine_X1 hown hK hP 14 rfl rfl 8 (by decide) (hts _ wmX1_noteLine_1) (fun _ h9 => h9) rfl dX1_noteLine_24 ?_
  refine va_getN (D := D) (ci := 0) (v := .int k1y) (C := RX0) (T := TX0) (N := 3) hx hb hts wiX1_noteLine_X0 hown hK hP 21 rfl rfl 1 (by decide) (NW_f hN 12 rfl) (fun _ h9 => h9) rfl dX1_noteLine_27 ?_
  refine lv_aload_n hx hb dX1_noteLine_30 rfl (lv_at hl 1 rfl) ?_
  refine va_get (D := D) (ci := 1) (v := .ref (q 21)) (C := RX1) (T := TX1) (N := 13) hx hb hts wiX1_noteLine_X1 hown hK hP 14 rfl rfl 8 (by decide) (hts _ wmX1_noteLine_1) (fun _ h9 => h9) rfl dX1_noteLine_31 ?_
  refine va_getN (D := D) (ci := 0) (v := .int k1z) (C := RX0) (T := TX0) (N := 3) hx hb hts wiX1_noteLine_X0 hown hK hP 21 rfl rfl 2 (by decide) (NW_f hN 13 rfl) (fun _ h9 => h9) rfl dX1_noteLine_34 ?_
  refine lv_iconst (v := (0 : Int32)) hx hb dX1_noteLine_37 (by decide) ?_
  obtain ⟨u1, e2, h⟩ := bd_some h
  refine k_i (va_runV (As := [.int k1x, .int k1y, .int k1z, .int (0 : Int32)]) (rest := []) ⟨hx, hb, hml, hown, hts⟩ (kX3_signs l D q cI cJ cZ tP s.heap.size vnum vsz vfr vfo vli va vb vc ve vth vrk vcm vkx vky vkz vmk vre vro vwi vla vlb vtu k0x k0y k0z k1x k1y k1z k2x k2y k2z k3x k3y k3z k1x k1y k1z (0 : Int32) u1 e2) (cwV 4 hts gX1_noteLine_X3_signs rfl rfl rfl (by decide +kernel) ⟨Nat.le_of_ble_eq_true rfl, Nat.le_of_ble_eq_true rfl⟩) ⟨cPre_blind, va_recv hK hP (ci := 3) (q0 := 1) rfl rfl, cPre_at hP hK hN hD hS hA hZ⟩ rfl rfl hl.1 rfl (lv_room (Nat.le_of_ble_eq_true rfl)) dX1_noteLine_38 ⟨Nat.le_of_ble_eq_true rfl, Nat.le_of_ble_eq_true rfl⟩) hD hS hA (fun H locs hP hD hS => ?_)
  refine lv_istore_n (lv' := [(2, .int u1), (1, .int (((1 : Int32) <<< (vsz &&& 31)) - (1 : Int32))), (0, .ref (q 14))]) hx hb dX1_noteLine_41 rfl hl (by decide) rfl (fun ls hl => ?_)
  refine lv_iload_n hx hb dX1_noteLine_42 rfl (lv_at hl 0 rfl) ?_
  obtain ⟨u3, e4, h⟩ := bd_some h
  refine k_i0 (va_runSN (As := [.int u1]) (rest := []) ⟨hx, hb, hml, hown, hts⟩ (kX5_onMask l D cI cJ cZ tP H.size  u1 u3 e4) ⟨va_cnB 1 hts gX1_noteLine_X5_onMask_n126 rfl rfl rfl (NW_m hN 0 rfl) (hts _ wmX1_noteLine_2) (by decide +kernel) ⟨Nat.le_of_ble_eq_true rfl, Nat.le_of_ble_eq_true rfl⟩, (hts _ wmX1_noteLine_3), trivial⟩ ⟨cPre_blind, cPre_at0 hK hN hS hA hZ⟩ rfl rfl hl.1 rfl (lv_room (Nat.le_of_ble_eq_true rfl)) dX1_noteLine_43 ⟨Nat.le_of_ble_eq_true rfl, Nat.le_of_ble_eq_true rfl⟩) hP hS hA (fun H locs hP hS => ?_)
  refine lv_istore_n (lv' := [(3, .int u3), (2, .int u1), (1, .int (((1 : Int32) <<< (vsz &&& 31)) - (1 : Int32))), (0, .ref (q 14))]) hx hb dX1_noteLine_46 rfl hl (by decide) rfl (fun ls hl => ?_)
  refine lv_iload_n hx hb dX1_noteLine_47 rfl (lv_at hl 1 rfl) ?_
  obtain ⟨u5, e6, h⟩ := bd_some h
  refine k_i0 (va_runSN (As := [.int u1]) (rest := []) ⟨hx, hb, hml, hown, hts⟩ (kX5_aboveMask l D cI cJ cZ tP H.size  u1 u5 e6) ⟨va_cnB 1 hts gX1_noteLine_X5_aboveMask_n129 rfl rfl rfl (NW_m hN 1 rfl) (hts _ wmX1_noteLine_2) (by decide +kernel) ⟨Nat.le_of_ble_eq_true rfl, Nat.le_of_ble_eq_true rfl⟩, (hts _ wmX1_noteLine_4), trivial⟩ ⟨cPre_blind, cPre_at0 hK hN hS hA hZ⟩ rfl rfl hl.1 rfl (lv_room (Nat.le_of_ble_eq_true rfl)) dX1_noteLine_48 ⟨Nat.le_of_ble_eq_true rfl, Nat.le_of_ble_eq_true rfl⟩) hP hS hA (fun H locs hP hS => ?_)
  refine lv_istore (lv' := [(4, .int u5), (3, .int u3), (2, .int u1), (1, .int (((1 : Int32) <<< (vsz &&& 31)) - (1 : Int32))), (0, .ref (q 14))]) hx hb dX1_noteLine_51 hl (by decide) rfl (fun ls hl => ?_)
  refine lv_iload_n hx hb dX1_noteLine_53 rfl (lv_at hl 1 rfl) ?_
  refine lv_iload_n hx hb dX1_noteLine_54 rfl (lv_at hl 3 rfl) ?_
  refine lv_icmp_eq (tgt := 67) hx hb dX1_noteLine_55 (by decide) (fun c7 => ?_) (fun c7 => ?_)
  · have h := (if_pos c7).symm.trans h
    obtain rfl := Option.some.inj h
    exact W.vret hx hb hr (fun t ht hW => ⟨⟨(), rfl, trivial, by rw [ht]; exact hP, hD⟩, hS.F ht⟩) hS.2.2 dX1_noteLine_67
  · have h := (if_neg c7).symm.trans h
    refine lv_aload_n hx hb dX1_noteLine_58 rfl (lv_at hl 4 rfl) ?_
    refine va_get (D := D) (ci := 1) (v := .int vli) (C := RX1) (T := TX1) (N := 13) hx hb hts wiX1_noteLine_X1 hown hK hP 14 rfl rfl 12 (by decide) (hts _ wmX1_noteLine_5) (fun _ h9 => h9) rfl dX1_noteLine_59 ?_
    refine lv_bipush (v := (55 : Int32)) hx hb dX1_noteLine_62 (by decide) ?_
    refine lv_icmp_lt (tgt := 68) hx hb dX1_noteLine_64 (by decide) (fun c8 => ?_) (fun c8 => ?_)
    · have h := (if_pos c8).symm.trans h
      refine lv_aload_n hx hb dX1_noteLine_68 rfl (lv_at hl 4 rfl) ?_
      refine va_get (D := D) (ci := 1) (v := .ref (q 19)) (C := RX1) (T := TX1) (N := 13) hx hb hts wiX1_noteLine_X1 hown hK hP 14 rfl rfl 6 (by decide) (hts _ wmX1_noteLine_6) (fun _ h9 => h9) rfl dX1_noteLine_69 ?_
      refine lv_aload_n hx hb dX1_noteLine_72 rfl (lv_at hl 4 rfl) ?_
      refine va_get (D := D) (ci := 1) (v := .int vli) (C := RX1) (T := TX1) (N := 13) hx hb hts wiX1_noteLine_X1 hown hK hP 14 rfl rfl 12 (by decide) (hts _ wmX1_noteLine_5) (fun _ h9 => h9) rfl dX1_noteLine_73 ?_
      refine lv_iload hx hb dX1_noteLine_76 (lv_at hl 0 rfl) ?_
      obtain ⟨i9, h⟩ := ck_some h
      refine va_iast hx hb hK hP hD hS 19 0 rfl rfl i9 dX1_noteLine_78 (fun H locs hP hD hS => ?_)
      have hP : va_P D vwCl (WC_ q cI cZ vnum vsz vfr vfo vli va vb vc ve vth vrk vcm vkx vky vkz vmk vre vro vwi (upd vla vli.toNatClampNeg u5) vlb vtu k0x k0y k0z k1x k1y k1z k2x k2y k2z k3x k3y k3z) H := hP
      have hD : va_D A (WC_ q cI cZ vnum vsz vfr vfo vli va vb vc ve vth vrk vcm vkx vky vkz vmk vre vro vwi (upd vla vli.toNatClampNeg u5) vlb vtu k0x k0y k0z k1x k1y k1z k2x k2y k2z k3x k3y k3z) := hD
      refine lv_aload_n hx hb dX1_noteLine_79 rfl (lv_at hl 4 rfl) ?_
      refine va_get (D := D) (ci := 1) (v := .ref (q 20)) (C := RX1) (T := TX1) (N := 13) hx hb hts wiX1_noteLine_X1 hown hK hP 14 rfl rfl 7 (by decide) (hts _ wmX1_noteLine_7) (fun _ h9 => h9) rfl dX1_noteLine_80 ?_
      refine lv_aload_n hx hb dX1_noteLine_83 rfl (lv_at hl 4 rfl) ?_
      refine va_get (D := D) (ci := 1) (v := .int vli) (C := RX1) (T := TX1) (N := 13) hx hb hts wiX1_noteLine_X1 hown hK hP 14 rfl rfl 12 (by decide) (hts _ wmX1_noteLine_5) (fun _ h9 => h9) rfl dX1_noteLine_84 ?_
      refine lv_iload_n hx hb dX1_noteLine_87 rfl (lv_at hl 3 rfl) ?_
      refine lv_iload_n hx hb dX1_noteLine_88 rfl (lv_at hl 1 rfl) ?_
      refine lv_iconst (v := (-1 : Int32)) hx hb dX1_noteLine_89 (by decide) ?_
      refine lv_ixor hx hb dX1_noteLine_90 ?_
      refine lv_iand hx hb dX1_noteLine_91 ?_
      refine lv_iload hx hb dX1_noteLine_92 (lv_at hl 0 rfl) ?_
      refine lv_iconst (v := (-1 : Int32)) hx hb dX1_noteLine_94 (by decide) ?_
      refine lv_ixor hx hb dX1_noteLine_95 ?_
      refine lv_iand hx hb dX1_noteLine_96 ?_
      obtain ⟨i10, h⟩ := ck_some h
      refine va_iast hx hb hK hP hD hS 20 0 rfl rfl i10 dX1_noteLine_97 (fun H locs hP hD hS => ?_)
      have hP : va_P D vwCl (WC_ q cI cZ vnum vsz vfr vfo vli va vb vc ve vth vrk vcm vkx vky vkz vmk vre vro vwi (upd vla vli.toNatClampNeg u5) (upd vlb vli.toNatClampNeg (((((1 : Int32) <<< (vsz &&& 31)) - (1 : Int32)) &&& (u3 ^^^ (-1 : Int32))) &&& (u5 ^^^ (-1 : Int32)))) vtu k0x k0y k0z k1x k1y k1z k2x k2y k2z k3x k3y k3z) H := hP
      have hD : va_D A (WC_ q cI cZ vnum vsz vfr vfo vli va vb vc ve vth vrk vcm vkx vky vkz vmk vre vro vwi (upd vla vli.toNatClampNeg u5) (upd vlb vli.toNatClampNeg (((((1 : Int32) <<< (vsz &&& 31)) - (1 : Int32)) &&& (u3 ^^^ (-1 : Int32))) &&& (u5 ^^^ (-1 : Int32)))) vtu k0x k0y k0z k1x k1y k1z k2x k2y k2z k3x k3y k3z) := hD
      refine lv_aload_n hx hb dX1_noteLine_98 rfl (lv_at hl 4 rfl) ?_
      refine lv_dup hx hb dX1_noteLine_99 rfl ?_
      refine va_get (D := D) (ci := 1) (v := .int vli) (C := RX1) (T := TX1) (N := 13) hx hb hts wiX1_noteLine_X1 hown hK hP 14 rfl rfl 12 (by decide) (hts _ wmX1_noteLine_5) (fun _ h9 => h9) rfl dX1_noteLine_100 ?_
      refine lv_iconst (v := (1 : Int32)) hx hb dX1_noteLine_103 (by decide) ?_
      refine lv_iadd hx hb dX1_noteLine_104 ?_
      refine va_put (D := D) (ci := 1) (v := .int (vli + (1 : Int32))) (ty := .int) (C := RX1) (T := TX1) (N := 13) hx hb hts wiX1_noteLine_X1 tyX1 tyX1_ok nmX1 hown hK hP hD hS 14 rfl rfl 12 (by decide) (hts _ wmX1_noteLine_5) (fun _ h9 => h9) rfl (by decide +kernel) rfl rfl (Nat.le_of_ble_eq_true rfl) dX1_noteLine_105 (fun H locs hP hD hS => ?_)
      have hP : va_P D vwCl (WC_ q cI cZ vnum vsz vfr vfo (vli + (1 : Int32)) va vb vc ve vth vrk vcm vkx vky vkz vmk vre vro vwi (upd vla vli.toNatClampNeg u5) (upd vlb vli.toNatClampNeg (((((1 : Int32) <<< (vsz &&& 31)) - (1 : Int32)) &&& (u3 ^^^ (-1 : Int32))) &&& (u5 ^^^ (-1 : Int32)))) vtu k0x k0y k0z k1x k1y k1z k2x k2y k2z k3x k3y k3z) H := hP
      have hD : va_D A (WC_ q cI cZ vnum vsz vfr vfo (vli + (1 : Int32)) va vb vc ve vth vrk vcm vkx vky vkz vmk vre vro vwi (upd vla vli.toNatClampNeg u5) (upd vlb vli.toNatClampNeg (((((1 : Int32) <<< (vsz &&& 31)) - (1 : Int32)) &&& (u3 ^^^ (-1 : Int32))) &&& (u5 ^^^ (-1 : Int32)))) vtu k0x k0y k0z k1x k1y k1z k2x k2y k2z k3x k3y k3z) := hD
      obtain rfl := Option.some.inj h
      exact W.vret hx hb hr (fun t ht hW => ⟨⟨(), rfl, trivial, by rw [ht]; exact hP, hD⟩, hS.F ht⟩) hS.2.2 dX1_noteLine_108
    · have h := (if_neg c8).symm.trans h
      obtain rfl := Option.some.inj h
      exact W.vret hx hb hr (fun t ht hW => ⟨⟨(), rfl, trivial, by rw [ht]; exact hP, hD⟩, hS.F ht⟩) hS.2.2 dX1_noteLine_67

-- X1_noteCorner
theorem wmX1_noteCorner_0 : (.fieldLink RX1 33 "SpaceWalls$Cut" "first" "LSpaceWalls$Arrow;" : Cond) ∈ wsX1_noteCorner := by decide +kernel
theorem wmX1_noteCorner_1 : (.fieldLink RX1 43 "SpaceWalls$Cut" "planes" "LSpaceWalls$Planes;" : Cond) ∈ wsX1_noteCorner := by decide +kernel
theorem wmX1_noteCorner_2 : (.fieldLink RX1 37 "SpaceWalls$Cut" "second" "LSpaceWalls$Arrow;" : Cond) ∈ wsX1_noteCorner := by decide +kernel
theorem wmX1_noteCorner_3 : (.fieldLink RX1 40 "SpaceWalls$Cut" "third" "LSpaceWalls$Arrow;" : Cond) ∈ wsX1_noteCorner := by decide +kernel
theorem wiX1_noteCorner_X1 : ∀ w ∈ u_ws RX1 TX1 13, w ∈ wsX1_noteCorner := by decide +kernel
theorem wiX1_noteCorner_X3 : ∀ w ∈ u_ws RX3 TX3 7, w ∈ wsX1_noteCorner := by decide +kernel
theorem wiX1_noteCorner_X0 : ∀ w ∈ u_ws RX0 TX0 3, w ∈ wsX1_noteCorner := by decide +kernel
set_option maxHeartbeats 8000000 in
set_option maxRecDepth 100000 in
theorem kX1_noteCorner (l : Launch) (D : va_G) (q : Nat → Nat) (cI cJ cZ : ClassId) (tP sz : Nat) (vnum : Int32) (vsz : Int32) (vfr : Int32) (vfo : Int32) (vli : Int32) (va : (Nat → Int32)) (vb : (Nat → Int32)) (vc : (Nat → Int32)) (ve : (Nat → Int32)) (vth : (Nat → Int32)) (vrk : (Nat → Int32)) (vcm : (Nat → Int32)) (vkx : (Nat → Int32)) (vky : (Nat → Int32)) (vkz : (Nat → Int32)) (vmk : (Nat → Int32)) (vre : (Nat → Int32)) (vro : (Nat → Int32)) (vwi : (Nat → Int32)) (vla : (Nat → Int32)) (vlb : (Nat → Int32)) (vtu : (Nat → Int32)) (k0x : Int32) (k0y : Int32) (k0z : Int32) (k1x : Int32) (k1y : Int32) (k1z : Int32) (k2x : Int32) (k2y : Int32) (k2z : Int32) (k3x : Int32) (k3y : Int32) (k3z : Int32) (p1 : Int32) (p2 : Int32) (p3 : Int32) (uu : (Int32 × (Nat → Int32) × (Nat → Int32) × (Nat → Int32) × Int32 × Int32 × Int32 × Int32 × Int32 × Int32)) (h : fX1_noteCorner vsz vfo va vb vc ve vth vcm vmk vre k1x k1y k1z k2x k2y k2z k3x k3y k3z p1 p2 p3 = some uu) : Met l yX1_noteCorner wsX1_noteCorner ({ frames := 3, cells := 0, slots := 0, locals := 71 }) (cPre D cI cJ cZ tP (WC_ q cI cZ vnum vsz vfr vfo vli va vb vc ve vth vrk vcm vkx vky vkz vmk vre vro vwi vla vlb vtu k0x k0y k0z k1x k1y k1z k2x k2y k2z k3x k3y k3z) sz [.ref (q 14), .int p1, .int p2, .int p3]) (cQv D (va_A (WC_ q cI cZ vnum vsz vfr vfo vli va vb vc ve vth vrk vcm vkx vky vkz vmk vre vro vwi vla vlb vtu k0x k0y k0z k1x k1y k1z k2x k2y k2z k3x k3y k3z) sz) (WC_ q cI cZ vnum vsz vfr uu.1 vli va vb vc ve vth vrk uu.2.1 vkx vky vkz uu.2.2.1 uu.2.2.2.1 vro vwi vla vlb vtu k0x k0y k0z k1x k1y k1z uu.2.2.2.2.1 uu.2.2.2.2.2.1 uu.2.2.2.2.2.2.1 uu.2.2.2.2.2.2.2.1 uu.2.2.2.2.2.2.2.2.1 uu.2.2.2.2.2.2.2.2.2)) 0 0 (va_A (WC_ q cI cZ vnum vsz vfr vfo vli va vb vc ve vth vrk vcm vkx vky vkz vmk vre vro vwi vla vlb vtu k0x k0y k0z k1x k1y k1z k2x k2y k2z k3x k3y k3z) sz) := by
  refine Met.ofW (cc := cX1_noteCorner) (maxL := 12) (ret := none) (by decide) rfl ?_
  intro p e s m args below meth c s₁ B hml hv
  obtain ⟨rfl, hsz, hP, hK, hN, hD0, hZ⟩ := hv
  have hx := B.exec
  have hb := B.bytes
  have hr := B.returns
  have hts := atoms_spec (ws := wsX1_noteCorner) B.pre
  have hown : s.vm.findClass RX1 = some m.cls := findClass_of_methodNamed B.named
  have hlocks := B.notSynchronized
  subst hsz
  have hD := hD0.self (sz := s.heap.size)
  generalize hAe : va_A (WC_ q cI cZ vnum vsz vfr vfo vli va vb vc ve vth vrk vcm vkx vky vkz vmk vre vro vwi vla vlb vtu k0x k0y k0z k1x k1y k1z k2x k2y k2z k3x k3y k3z) s.heap.size = A at hD hZ ⊢
  have hA : ∀ q : Nat, s.heap.size ≤ q → A q := fun q h => by rw [← hAe]; exact Or.inr h
  have hS : va_S A s.heap s.heap [] := va_S.rf
  have hl := lv_entry ([.ref (q 14), .int p1, .int p2, .int p3]) (n := 12) (Nat.le_of_ble_eq_true rfl)
  rw [lg_entry_eq]
  generalize (lg_sl ([.ref (q 14), .int p1, .int p2, .int p3]) ++ List.replicate (12 - (lg_sl ([.ref (q 14), .int p1, .int p2, .int p3])).length) Slot.unset).toArray = ls at hl ⊢
  have hl : lv_has ls 12 [(0, .ref (q 14)), (1, .int p1), (2, .int p2), (3, .int p3)] := hl
  unfold fX1_noteCorner at h
  refine lv_aload_n hx hb dX1_noteCorner_0 rfl (lv_at hl 0 rfl) ?_
  refine va_get (D := D) (ci := 1) (v := .ref (q 21)) (C := RX1) (T := TX1) (N := 13) hx hb hts wiX1_noteCorner_X1 hown hK hP 14 rfl rfl 8 (by decide) (hts _ wmX1_noteCorner_0) (fun _ h9 => h9) rfl dX1_noteCorner_1 ?_
  refine lv_aload_n hx hb dX1_noteCorner_4 rfl (lv_at hl 0 rfl) ?_
  refine va_get (D := D) (ci := 1) (v := .ref (q 1)) (C := RX1) (T := TX1) (N := 13) hx hb hts wiX1_noteCorner_X1 hown hK hP 14 rfl rfl 0 (by decide) (hts _ wmX1_noteCorner_1) (fun _ h9 => h9) rfl dX1_noteCorner_5 ?_
  refine lv_iload_n hx hb dX1_noteCorner_8 rfl (lv_at hl 3 rfl) ?_
  obtain ⟨u1, e2, h⟩ := bd_some h
  refine k_i (va_runV (As := [.ref (q 1), .int p3]) (rest := []) ⟨hx, hb, hml, hown, hts⟩ (kX0_climb_r1 l D q cI cJ cZ tP s.heap.size vnum vsz vfr vfo vli va vb vc ve vth vrk vcm vkx vky vkz vmk vre vro vwi vla vlb vtu k0x k0y k0z k1x k1y k1z k2x k2y k2z k3x k3y k3z p3 u1 e2) (cwV 2 hts gX1_noteCorner_X0_climb rfl rfl rfl (by decide +kernel) ⟨Nat.le_of_ble_eq_true rfl, Nat.le_of_ble_eq_true rfl⟩) ⟨cPre_blind, va_recv hK hP (ci := 0) (q0 := 21) rfl rfl, cPre_at hP hK hN hD hS hA hZ⟩ rfl rfl hl.1 rfl (lv_room (Nat.le_of_ble_eq_true rfl)) dX1_noteCorner_9 ⟨Nat.le_of_ble_eq_true rfl, Nat.le_of_ble_eq_true rfl⟩) hD hS hA (fun H locs hP hD hS => ?_)
  refine lv_istore (lv' := [(4, .int u1), (0, .ref (q 14)), (1, .int p1), (2, .int p2), (3, .int p3)]) hx hb dX1_noteCorner_12 hl (by decide) rfl (fun ls hl => ?_)
  refine lv_iload hx hb dX1_noteCorner_14 (lv_at hl 0 rfl) ?_
  refine lv_if_ne (tgt := 20) hx hb dX1_noteCorner_16 (by decide) (fun c3 => ?_) (fun c3 => ?_)
  · have h := (if_neg c3).symm.trans h
    refine lv_aload_n hx hb dX1_noteCorner_20 rfl (lv_at hl 1 rfl) ?_
    refine va_get (D := D) (ci := 1) (v := .ref (q 22)) (C := RX1) (T := TX1) (N := 13) hx hb hts wiX1_noteCorner_X1 hown hK hP 14 rfl rfl 9 (by decide) (hts _ wmX1_noteCorner_2) (fun _ h9 => h9) rfl dX1_noteCorner_21 ?_
    refine lv_aload_n hx hb dX1_noteCorner_24 rfl (lv_at hl 1 rfl) ?_
    refine va_get (D := D) (ci := 1) (v := .ref (q 1)) (C := RX1) (T := TX1) (N := 13) hx hb hts wiX1_noteCorner_X1 hown hK hP 14 rfl rfl 0 (by decide) (hts _ wmX1_noteCorner_1) (fun _ h9 => h9) rfl dX1_noteCorner_25 ?_
    refine lv_iload_n hx hb dX1_noteCorner_28 rfl (lv_at hl 3 rfl) ?_
    refine lv_iload_n hx hb dX1_noteCorner_29 rfl (lv_at hl 4 rfl) ?_
    obtain ⟨u4, e5, h⟩ := bd_some h
    refine k_v (va_runV (As := [.ref (q 1), .int p2, .int p3]) (rest := []) ⟨hx, hb, hml, hown, hts⟩ (kX0_alongBoth_r2 l D q cI cJ cZ tP H.size vnum vsz vfr vfo vli va vb vc ve vth vrk vcm vkx vky vkz vmk vre vro vwi vla vlb vtu k0x k0y k0z k1x k1y k1z k2x k2y k2z k3x k3y k3z p2 p3 u4 e5) (cwV 3 hts gX1_noteCorner_X0_alongBoth rfl rfl rfl (by decide +kernel) ⟨Nat.le_of_ble_eq_true rfl, Nat.le_of_ble_eq_true rfl⟩) ⟨cPre_blind, va_recv hK hP (ci := 0) (q0 := 22) rfl rfl, cPre_at hP hK hN hD hS hA hZ⟩ rfl rfl hl.1 rfl (lv_room (Nat.le_of_ble_eq_true rfl)) dX1_noteCorner_30 ⟨Nat.le_of_ble_eq_true rfl, Nat.le_of_ble_eq_true rfl⟩) hD hS hA (fun H locs hP hD hS => ?_)
    refine lv_aload_n hx hb dX1_noteCorner_33 rfl (lv_at hl 1 rfl) ?_
    refine va_get (D := D) (ci := 1) (v := .ref (q 23)) (C := RX1) (T := TX1) (N := 13) hx hb hts wiX1_noteCorner_X1 hown hK hP 14 rfl rfl 10 (by decide) (hts _ wmX1_noteCorner_3) (fun _ h9 => h9) rfl dX1_noteCorner_34 ?_
    refine lv_aload_n hx hb dX1_noteCorner_37 rfl (lv_at hl 1 rfl) ?_
    refine va_get (D := D) (ci := 1) (v := .ref (q 1)) (C := RX1) (T := TX1) (N := 13) hx hb hts wiX1_noteCorner_X1 hown hK hP 14 rfl rfl 0 (by decide) (hts _ wmX1_noteCorner_1) (fun _ h9 => h9) rfl dX1_noteCorner_38 ?_
    refine lv_iload_n hx hb dX1_noteCorner_41 rfl (lv_at hl 4 rfl) ?_
    refine lv_iload_n hx hb dX1_noteCorner_42 rfl (lv_at hl 2 rfl) ?_
    obtain ⟨u6, e7, h⟩ := bd_some h
    refine k_v (va_runV (As := [.ref (q 1), .int p3, .int p1]) (rest := []) ⟨hx, hb, hml, hown, hts⟩ (kX0_alongBoth_r3 l D q cI cJ cZ tP H.size vnum vsz vfr vfo vli va vb vc ve vth vrk vcm vkx vky vkz vmk vre vro vwi vla vlb vtu k0x k0y k0z k1x k1y k1z u4.1 u4.2.1 u4.2.2 k3x k3y k3z p3 p1 u6 e7) (cwV 3 hts gX1_noteCorner_X0_alongBoth rfl rfl rfl (by decide +kernel) ⟨Nat.le_of_ble_eq_true rfl, Nat.le_of_ble_eq_true rfl⟩) ⟨cPre_blind, va_recv hK hP (ci := 0) (q0 := 23) rfl rfl, cPre_at hP hK hN hD hS hA hZ⟩ rfl rfl hl.1 rfl (lv_room (Nat.le_of_ble_eq_true rfl)) dX1_noteCorner_43 ⟨Nat.le_of_ble_eq_true rfl, Nat.le_of_ble_eq_true rfl⟩) hD hS hA (fun H locs hP hD hS => ?_)
    refine lv_iload hx hb dX1_noteCorner_46 (lv_at hl 0 rfl) ?_
    obtain ⟨u8, e9, h⟩ := bd_some h
    refine W_join (P := fun H locs ls => va_P D vwCl (WC_ q cI cZ vnum vsz vfr vfo vli va vb vc ve vth vrk vcm vkx vky vkz vmk vre vro vwi vla vlb vtu k0x k0y k0z k1x k1y k1z u4.1 u4.2.1 u4.2.2 u6.1 u6.2.1 u6.2.2) H ∧ va_D A (WC_ q cI cZ vnum vsz vfr vfo vli va vb vc ve vth vrk vcm vkx vky vkz vmk vre vro vwi vla vlb vtu k0x k0y k0z k1x k1y k1z u4.1 u4.2.1 u4.2.2 u6.1 u6.2.1 u6.2.2) ∧ va_S A s.heap H locs ∧ lv_has ls 12 [(4, .int u1), (0, .ref (q 14)), (1, .int p1), (2, .int p2), (3, .int p3)]) (g := fun ls => F0 m 56 ls [.int u8]) ?_ ?_
    · intro H locs ls hq
      obtain ⟨hP, hD, hS, hl⟩ := hq
      refine lv_istore (lv' := [(5, .int u8), (4, .int u1), (0, .ref (q 14)), (1, .int p1), (2, .int p2), (3, .int p3)]) hx hb dX1_noteCorner_56 hl (by decide) rfl (fun ls hl => ?_)
      refine lv_iload hx hb dX1_noteCorner_58 (lv_at hl 0 rfl) ?_
      refine lv_aload_n hx hb dX1_noteCorner_60 rfl (lv_at hl 2 rfl) ?_
      refine va_get (D := D) (ci := 1) (v := .ref (q 1)) (C := RX1) (T := TX1) (N := 13) hx hb hts wiX1_noteCorner_X1 hown hK hP 14 rfl rfl 0 (by decide) (hts _ wmX1_noteCorner_1) (fun _ h9 => h9) rfl dX1_noteCorner_61 ?_
      refine va_getN (D := D) (ci := 3) (v := .ref (q 5)) (C := RX3) (T := TX3) (N := 7) hx hb hts wiX1_noteCorner_X3 hown hK hP 1 rfl rfl 4 (by decide) (NW_f hN 14 rfl) (fun _ h9 => h9) rfl dX1_noteCorner_64 ?_
      refine lv_iload_n hx hb dX1_noteCorner_67 rfl (lv_at hl 3 rfl) ?_
      obtain ⟨i11, h⟩ := ck_some h
      refine va_iald hx hb hK hP 5 0 rfl rfl i11 dX1_noteCorner_68 ?_
      refine lv_imul hx hb dX1_noteCorner_69 ?_
      refine lv_istore (lv' := [(6, .int (u8 * (ve p1.toNatClampNeg))), (5, .int u8), (4, .int u1), (0, .ref (q 14)), (1, .int p1), (2, .int p2), (3, .int p3)]) hx hb dX1_noteCorner_70 hl (by decide) rfl (fun ls hl => ?_)
      refine lv_iload hx hb dX1_noteCorner_72 (lv_at hl 1 rfl) ?_
      refine lv_aload_n hx hb dX1_noteCorner_74 rfl (lv_at hl 3 rfl) ?_
      refine va_get (D := D) (ci := 1) (v := .ref (q 1)) (C := RX1) (T := TX1) (N := 13) hx hb hts wiX1_noteCorner_X1 hown hK hP 14 rfl rfl 0 (by decide) (hts _ wmX1_noteCorner_1) (fun _ h9 => h9) rfl dX1_noteCorner_75 ?_
      refine va_getN (D := D) (ci := 3) (v := .ref (q 5)) (C := RX3) (T := TX3) (N := 7) hx hb hts wiX1_noteCorner_X3 hown hK hP 1 rfl rfl 4 (by decide) (NW_f hN 14 rfl) (fun _ h9 => h9) rfl dX1_noteCorner_78 ?_
      refine lv_iload_n hx hb dX1_noteCorner_81 rfl (lv_at hl 5 rfl) ?_
      obtain ⟨i12, h⟩ := ck_some h
      refine va_iald hx hb hK hP 5 0 rfl rfl i12 dX1_noteCorner_82 ?_
      refine lv_imul hx hb dX1_noteCorner_83 ?_
      refine lv_istore (lv' := [(7, .int (u8 * (ve p2.toNatClampNeg))), (6, .int (u8 * (ve p1.toNatClampNeg))), (5, .int u8), (4, .int u1), (0, .ref (q 14)), (1, .int p1), (2, .int p2), (3, .int p3)]) hx hb dX1_noteCorner_84 hl (by decide) rfl (fun ls hl => ?_)
      refine lv_iload hx hb dX1_noteCorner_86 (lv_at hl 2 rfl) ?_
      refine lv_aload_n hx hb dX1_noteCorner_88 rfl (lv_at hl 4 rfl) ?_
      refine va_get (D := D) (ci := 1) (v := .ref (q 1)) (C := RX1) (T := TX1) (N := 13) hx hb hts wiX1_noteCorner_X1 hown hK hP 14 rfl rfl 0 (by decide) (hts _ wmX1_noteCorner_1) (fun _ h9 => h9) rfl dX1_noteCorner_89 ?_
      refine va_getN (D := D) (ci := 3) (v := .ref (q 5)) (C := RX3) (T := TX3) (N := 7) hx hb hts wiX1_noteCorner_X3 hown hK hP 1 rfl rfl 4 (by decide) (NW_f hN 14 rfl) (fun _ h9 => h9) rfl dX1_noteCorner_92 ?_
      refine lv_iload_n hx hb dX1_noteCorner_95 rfl (lv_at hl 7 rfl) ?_
      obtain ⟨i13, h⟩ := ck_some h
      refine va_iald hx hb hK hP 5 0 rfl rfl i13 dX1_noteCorner_96 ?_
      refine lv_imul hx hb dX1_noteCorner_97 ?_
      refine lv_istore (lv' := [(8, .int (u8 * (ve p3.toNatClampNeg))), (7, .int (u8 * (ve p2.toNatClampNeg))), (6, .int (u8 * (ve p1.toNatClampNeg))), (5, .int u8), (4, .int u1), (0, .ref (q 14)), (1, .int p1), (2, .int p2), (3, .int p3)]) hx hb dX1_noteCorner_98 hl (by decide) rfl (fun ls hl => ?_)
      refine lv_iload hx hb dX1_noteCorner_100 (lv_at hl 2 rfl) ?_
      refine lv_aload_n hx hb dX1_noteCorner_102 rfl (lv_at hl 5 rfl) ?_
      refine va_get (D := D) (ci := 1) (v := .ref (q 22)) (C := RX1) (T := TX1) (N := 13) hx hb hts wiX1_noteCorner_X1 hown hK hP 14 rfl rfl 9 (by decide) (hts _ wmX1_noteCorner_2) (fun _ h9 => h9) rfl dX1_noteCorner_103 ?_
      refine va_getN (D := D) (ci := 0) (v := .int u4.1) (C := RX0) (T := TX0) (N := 3) hx hb hts wiX1_noteCorner_X0 hown hK hP 22 rfl rfl 0 (by decide) (NW_f hN 11 rfl) (fun _ h9 => h9) rfl dX1_noteCorner_106 ?_
      refine lv_imul hx hb dX1_noteCorner_109 ?_
      refine lv_iload hx hb dX1_noteCorner_110 (lv_at hl 1 rfl) ?_
      refine lv_aload_n hx hb dX1_noteCorner_112 rfl (lv_at hl 5 rfl) ?_
      refine va_get (D := D) (ci := 1) (v := .ref (q 23)) (C := RX1) (T := TX1) (N := 13) hx hb hts wiX1_noteCorner_X1 hown hK hP 14 rfl rfl 10 (by decide) (hts _ wmX1_noteCorner_3) (fun _ h9 => h9) rfl dX1_noteCorner_113 ?_
      refine va_getN (D := D) (ci := 0) (v := .int u6.1) (C := RX0) (T := TX0) (N := 3) hx hb hts wiX1_noteCorner_X0 hown hK hP 23 rfl rfl 0 (by decide) (NW_f hN 11 rfl) (fun _ h9 => h9) rfl dX1_noteCorner_116 ?_
      refine lv_imul hx hb dX1_noteCorner_119 ?_
      refine lv_iadd hx hb dX1_noteCorner_120 ?_
      refine lv_iload hx hb dX1_noteCorner_121 (lv_at hl 0 rfl) ?_
      refine lv_aload_n hx hb dX1_noteCorner_123 rfl (lv_at hl 5 rfl) ?_
      refine va_get (D := D) (ci := 1) (v := .ref (q 21)) (C := RX1) (T := TX1) (N := 13) hx hb hts wiX1_noteCorner_X1 hown hK hP 14 rfl rfl 8 (by decide) (hts _ wmX1_noteCorner_0) (fun _ h9 => h9) rfl dX1_noteCorner_124 ?_
      refine va_getN (D := D) (ci := 0) (v := .int k1x) (C := RX0) (T := TX0) (N := 3) hx hb hts wiX1_noteCorner_X0 hown hK hP 21 rfl rfl 0 (by decide) (NW_f hN 11 rfl) (fun _ h9 => h9) rfl dX1_noteCorner_127 ?_
      refine lv_imul hx hb dX1_noteCorner_130 ?_
      refine lv_iadd hx hb dX1_noteCorner_131 ?_
      refine lv_topi (fun n14 en14 => ?_)
      have h := nm_some en14 h
      refine lv_istore (lv' := [(9, .int n14), (8, .int (u8 * (ve p3.toNatClampNeg))), (7, .int (u8 * (ve p2.toNatClampNeg))), (6, .int (u8 * (ve p1.toNatClampNeg))), (5, .int u8), (4, .int u1), (0, .ref (q 14)), (1, .int p1), (2, .int p2), (3, .int p3)]) hx hb dX1_noteCorner_132 hl (by decide) rfl (fun ls hl => ?_)
      refine lv_iload hx hb dX1_noteCorner_134 (lv_at hl 3 rfl) ?_
      refine lv_aload_n hx hb dX1_noteCorner_136 rfl (lv_at hl 6 rfl) ?_
      refine va_get (D := D) (ci := 1) (v := .ref (q 22)) (C := RX1) (T := TX1) (N := 13) hx hb hts wiX1_noteCorner_X1 hown hK hP 14 rfl rfl 9 (by decide) (hts _ wmX1_noteCorner_2) (fun _ h9 => h9) rfl dX1_noteCorner_137 ?_
      refine va_getN (D := D) (ci := 0) (v := .int u4.2.1) (C := RX0) (T := TX0) (N := 3) hx hb hts wiX1_noteCorner_X0 hown hK hP 22 rfl rfl 1 (by decide) (NW_f hN 12 rfl) (fun _ h9 => h9) rfl dX1_noteCorner_140 ?_
      refine lv_imul hx hb dX1_noteCorner_143 ?_
      refine lv_iload hx hb dX1_noteCorner_144 (lv_at hl 2 rfl) ?_
      refine lv_aload_n hx hb dX1_noteCorner_146 rfl (lv_at hl 6 rfl) ?_
      refine va_get (D := D) (ci := 1) (v := .ref (q 23)) (C := RX1) (T := TX1) (N := 13) hx hb hts wiX1_noteCorner_X1 hown hK hP 14 rfl rfl 10 (by decide) (hts _ wmX1_noteCorner_3) (fun _ h9 => h9) rfl dX1_noteCorner_147 ?_
      refine va_getN (D := D) (ci := 0) (v := .int u6.2.1) (C := RX0) (T := TX0) (N := 3) hx hb hts wiX1_noteCorner_X0 hown hK hP 23 rfl rfl 1 (by decide) (NW_f hN 12 rfl) (fun _ h9 => h9) rfl dX1_noteCorner_150 ?_
      refine lv_imul hx hb dX1_noteCorner_153 ?_
      refine lv_iadd hx hb dX1_noteCorner_154 ?_
      refine lv_iload hx hb dX1_noteCorner_155 (lv_at hl 1 rfl) ?_
      refine lv_aload_n hx hb dX1_noteCorner_157 rfl (lv_at hl 6 rfl) ?_
      refine va_get (D := D) (ci := 1) (v := .ref (q 21)) (C := RX1) (T := TX1) (N := 13) hx hb hts wiX1_noteCorner_X1 hown hK hP 14 rfl rfl 8 (by decide) (hts _ wmX1_noteCorner_0) (fun _ h9 => h9) rfl dX1_noteCorner_158 ?_
      refine va_getN (D := D) (ci := 0) (v := .int k1y) (C := RX0) (T := TX0) (N := 3) hx hb hts wiX1_noteCorner_X0 hown hK hP 21 rfl rfl 1 (by decide) (NW_f hN 12 rfl) (fun _ h9 => h9) rfl dX1_noteCorner_161 ?_
      refine lv_imul hx hb dX1_noteCorner_164 ?_
      refine lv_iadd hx hb dX1_noteCorner_165 ?_
      refine lv_topi (fun n15 en15 => ?_)
      have h := nm_some en15 h
      refine lv_istore (lv' := [(10, .int n15), (9, .int n14), (8, .int (u8 * (ve p3.toNatClampNeg))), (7, .int (u8 * (ve p2.toNatClampNeg))), (6, .int (u8 * (ve p1.toNatClampNeg))), (5, .int u8), (4, .int u1), (0, .ref (q 14)), (1, .int p1), (2, .int p2), (3, .int p3)]) hx hb dX1_noteCorner_166 hl (by decide) rfl (fun ls hl => ?_)
      refine lv_iload hx hb dX1_noteCorner_168 (lv_at hl 4 rfl) ?_
      refine lv_aload_n hx hb dX1_noteCorner_170 rfl (lv_at hl 7 rfl) ?_
      refine va_get (D := D) (ci := 1) (v := .ref (q 22)) (C := RX1) (T := TX1) (N := 13) hx hb hts wiX1_noteCorner_X1 hown hK hP 14 rfl rfl 9 (by decide) (hts _ wmX1_noteCorner_2) (fun _ h9 => h9) rfl dX1_noteCorner_171 ?_
      refine va_getN (D := D) (ci := 0) (v := .int u4.2.2) (C := RX0) (T := TX0) (N := 3) hx hb hts wiX1_noteCorner_X0 hown hK hP 22 rfl rfl 2 (by decide) (NW_f hN 13 rfl) (fun _ h9 => h9) rfl dX1_noteCorner_174 ?_
      refine lv_imul hx hb dX1_noteCorner_177 ?_
      refine lv_iload hx hb dX1_noteCorner_178 (lv_at hl 3 rfl) ?_
      refine lv_aload_n hx hb dX1_noteCorner_180 rfl (lv_at hl 7 rfl) ?_
      refine va_get (D := D) (ci := 1) (v := .ref (q 23)) (C := RX1) (T := TX1) (N := 13) hx hb hts wiX1_noteCorner_X1 hown hK hP 14 rfl rfl 10 (by decide) (hts _ wmX1_noteCorner_3) (fun _ h9 => h9) rfl dX1_noteCorner_181 ?_
      refine va_getN (D := D) (ci := 0) (v := .int u6.2.2) (C := RX0) (T := TX0) (N := 3) hx hb hts wiX1_noteCorner_X0 hown hK hP 23 rfl rfl 2 (by decide) (NW_f hN 13 rfl) (fun _ h9 => h9) rfl dX1_noteCorner_184 ?_
      refine lv_imul hx hb dX1_noteCorner_187 ?_
      refine lv_iadd hx hb dX1_noteCorner_188 ?_
      refine lv_iload hx hb dX1_noteCorner_189 (lv_at hl 2 rfl) ?_
      refine lv_aload_n hx hb dX1_noteCorner_191 rfl (lv_at hl 7 rfl) ?_
      refine va_get (D := D) (ci := 1) (v := .ref (q 21)) (C := RX1) (T := TX1) (N := 13) hx hb hts wiX1_noteCorner_X1 hown hK hP 14 rfl rfl 8 (by decide) (hts _ wmX1_noteCorner_0) (fun _ h9 => h9) rfl dX1_noteCorner_192 ?_
      refine va_getN (D := D) (ci := 0) (v := .int k1z) (C := RX0) (T := TX0) (N := 3) hx hb hts wiX1_noteCorner_X0 hown hK hP 21 rfl rfl 2 (by decide) (NW_f hN 13 rfl) (fun _ h9 => h9) rfl dX1_noteCorner_195 ?_
      refine lv_imul hx hb dX1_noteCorner_198 ?_
      refine lv_iadd hx hb dX1_noteCorner_199 ?_
      refine lv_topi (fun n16 en16 => ?_)
      have h := nm_some en16 h
      refine lv_istore (lv' := [(11, .int n16), (10, .int n15), (9, .int n14), (8, .int (u8 * (ve p3.toNatClampNeg))), (7, .int (u8 * (ve p2.toNatClampNeg))), (6, .int (u8 * (ve p1.toNatClampNeg))), (5, .int u8), (4, .int u1), (0, .ref (q 14)), (1, .int p1), (2, .int p2), (3, .int p3)]) hx hb dX1_noteCorner_200 hl (by decide) rfl (fun ls hl => ?_)
      refine lv_aload_n hx hb dX1_noteCorner_202 rfl (lv_at hl 8 rfl) ?_
      refine lv_aload_n hx hb dX1_noteCorner_203 rfl (lv_at hl 8 rfl) ?_
      refine va_get (D := D) (ci := 1) (v := .ref (q 1)) (C := RX1) (T := TX1) (N := 13) hx hb hts wiX1_noteCorner_X1 hown hK hP 14 rfl rfl 0 (by decide) (hts _ wmX1_noteCorner_1) (fun _ h9 => h9) rfl dX1_noteCorner_204 ?_
      refine lv_iload hx hb dX1_noteCorner_207 (lv_at hl 2 rfl) ?_
      refine lv_iload hx hb dX1_noteCorner_209 (lv_at hl 1 rfl) ?_
      refine lv_iload hx hb dX1_noteCorner_211 (lv_at hl 0 rfl) ?_
      refine lv_iload hx hb dX1_noteCorner_213 (lv_at hl 6 rfl) ?_
      refine lv_iload hx hb dX1_noteCorner_215 (lv_at hl 7 rfl) ?_
      refine lv_imul hx hb dX1_noteCorner_217 ?_
      obtain ⟨u17, e18, h⟩ := bd_some h
      refine k_i (va_runV (As := [.int n14, .int n15, .int n16, .int (u8 * u1)]) (rest := [.ref (q 14)]) ⟨hx, hb, hml, hown, hts⟩ (kX3_signs l D q cI cJ cZ tP H.size vnum vsz vfr vfo vli va vb vc ve vth vrk vcm vkx vky vkz vmk vre vro vwi vla vlb vtu k0x k0y k0z k1x k1y k1z u4.1 u4.2.1 u4.2.2 u6.1 u6.2.1 u6.2.2 n14 n15 n16 (u8 * u1) u17 e18) (cwV 4 hts gX1_noteCorner_X3_signs rfl rfl rfl (by decide +kernel) ⟨Nat.le_of_ble_eq_true rfl, Nat.le_of_ble_eq_true rfl⟩) ⟨cPre_blind, va_recv hK hP (ci := 3) (q0 := 1) rfl rfl, cPre_at hP hK hN hD hS hA hZ⟩ rfl rfl hl.1 rfl (lv_room (Nat.le_of_ble_eq_true rfl)) dX1_noteCorner_218 ⟨Nat.le_of_ble_eq_true rfl, Nat.le_of_ble_eq_true rfl⟩) hD hS hA (fun H locs hP hD hS => ?_)
      obtain ⟨u19, e20, h⟩ := bd_some h
      refine k_v (va_runV (As := [.int u17]) (rest := []) ⟨hx, hb, hml, hown, hts⟩ (kX1_reach l D q cI cJ cZ tP H.size vnum vsz vfr vfo vli va vb vc ve vth vrk vcm vkx vky vkz vmk vre vro vwi vla vlb vtu k0x k0y k0z k1x k1y k1z u4.1 u4.2.1 u4.2.2 u6.1 u6.2.1 u6.2.2 u17 u19 e20) (cwV 1 hts gX1_noteCorner_X1_reach rfl rfl rfl (by decide +kernel) ⟨Nat.le_of_ble_eq_true rfl, Nat.le_of_ble_eq_true rfl⟩) ⟨cPre_blind, va_recv hK hP (ci := 1) (q0 := 14) rfl rfl, cPre_at hP hK hN hD hS hA hZ⟩ rfl rfl hl.1 rfl (lv_room (Nat.le_of_ble_eq_true rfl)) dX1_noteCorner_221 ⟨Nat.le_of_ble_eq_true rfl, Nat.le_of_ble_eq_true rfl⟩) hD hS hA (fun H locs hP hD hS => ?_)
      obtain rfl := Option.some.inj h
      exact W.vret hx hb hr (fun t ht hW => ⟨⟨(), rfl, trivial, by rw [ht]; exact hP, hD⟩, hS.F ht⟩) hS.2.2 dX1_noteCorner_224
    · intro J10
      have h := e9
      refine lv_if_ge (tgt := 55) hx hb dX1_noteCorner_48 (by decide) (fun c21 => ?_) (fun c21 => ?_)
      · have h := (if_pos c21).symm.trans h
        refine lv_iconst (v := (1 : Int32)) hx hb dX1_noteCorner_55 (by decide) ?_
        obtain rfl := Option.some.inj h
        exact J10 _ _ _ ⟨hP, hD, hS, lv_sub hl [0, 1, 2, 3, 4] rfl⟩
      · have h := (if_neg c21).symm.trans h
        refine lv_iconst (v := (-1 : Int32)) hx hb dX1_noteCorner_51 (by decide) ?_
        refine lv_goto (tgt := 56) hx hb dX1_noteCorner_52 (by decide) ?_
        obtain rfl := Option.some.inj h
        exact J10 _ _ _ ⟨hP, hD, hS, lv_sub hl [0, 1, 2, 3, 4] rfl⟩
  · have h := (if_pos c3).symm.trans h
    obtain rfl := Option.some.inj h
    exact W.vret hx hb hr (fun t ht hW => ⟨⟨(), rfl, trivial, by rw [ht]; exact hP, hD⟩, hS.F ht⟩) hS.2.2 dX1_noteCorner_19

-- X1_crossPlanes
theorem wmX1_crossPlanes_0 : (.fieldLink RX1 47 "SpaceWalls$Cut" "heaps" "LSpaceWalls$Heaps;" : Cond) ∈ wsX1_crossPlanes := by decide +kernel
theorem wmX1_crossPlanes_1 : (.fieldLink RX1 43 "SpaceWalls$Cut" "planes" "LSpaceWalls$Planes;" : Cond) ∈ wsX1_crossPlanes := by decide +kernel
theorem wmX1_crossPlanes_2 : (.fieldLink RX1 33 "SpaceWalls$Cut" "first" "LSpaceWalls$Arrow;" : Cond) ∈ wsX1_crossPlanes := by decide +kernel
theorem wiX1_crossPlanes_X1 : ∀ w ∈ u_ws RX1 TX1 13, w ∈ wsX1_crossPlanes := by decide +kernel
theorem wiX1_crossPlanes_X3 : ∀ w ∈ u_ws RX3 TX3 7, w ∈ wsX1_crossPlanes := by decide +kernel
set_option maxHeartbeats 8000000 in
set_option maxRecDepth 100000 in
theorem kX1_crossPlanes (l : Launch) (D : va_G) (q : Nat → Nat) (cI cJ cZ : ClassId) (tP sz : Nat) (vnum : Int32) (vsz : Int32) (vfr : Int32) (vfo : Int32) (vli : Int32) (va : (Nat → Int32)) (vb : (Nat → Int32)) (vc : (Nat → Int32)) (ve : (Nat → Int32)) (vth : (Nat → Int32)) (vrk : (Nat → Int32)) (vcm : (Nat → Int32)) (vkx : (Nat → Int32)) (vky : (Nat → Int32)) (vkz : (Nat → Int32)) (vmk : (Nat → Int32)) (vre : (Nat → Int32)) (vro : (Nat → Int32)) (vwi : (Nat → Int32)) (vla : (Nat → Int32)) (vlb : (Nat → Int32)) (vtu : (Nat → Int32)) (k0x : Int32) (k0y : Int32) (k0z : Int32) (k1x : Int32) (k1y : Int32) (k1z : Int32) (k2x : Int32) (k2y : Int32) (k2z : Int32) (k3x : Int32) (k3y : Int32) (k3z : Int32)  (uu : (Int32 × Int32 × (Nat → Int32) × (Nat → Int32) × (Nat → Int32) × (Nat → Int32) × (Nat → Int32) × Int32 × Int32 × Int32 × Int32 × Int32 × Int32 × Int32 × Int32 × Int32)) (h : fX1_crossPlanes vsz vfo vli va vb vc ve vth vrk vcm vmk vre vla vlb k1x k1y k1z k2x k2y k2z k3x k3y k3z = some uu) : Met l yX1_crossPlanes wsX1_crossPlanes ({ frames := 4, cells := 0, slots := 0, locals := 102 }) (cPre D cI cJ cZ tP (WC_ q cI cZ vnum vsz vfr vfo vli va vb vc ve vth vrk vcm vkx vky vkz vmk vre vro vwi vla vlb vtu k0x k0y k0z k1x k1y k1z k2x k2y k2z k3x k3y k3z) sz [.ref (q 14)]) (cQv D (va_A (WC_ q cI cZ vnum vsz vfr vfo vli va vb vc ve vth vrk vcm vkx vky vkz vmk vre vro vwi vla vlb vtu k0x k0y k0z k1x k1y k1z k2x k2y k2z k3x k3y k3z) sz) (WC_ q cI cZ vnum vsz vfr uu.1 uu.2.1 va vb vc ve vth vrk uu.2.2.1 vkx vky vkz uu.2.2.2.1 uu.2.2.2.2.1 vro vwi uu.2.2.2.2.2.1 uu.2.2.2.2.2.2.1 vtu k0x k0y k0z uu.2.2.2.2.2.2.2.1 uu.2.2.2.2.2.2.2.2.1 uu.2.2.2.2.2.2.2.2.2.1 uu.2.2.2.2.2.2.2.2.2.2.1 uu.2.2.2.2.2.2.2.2.2.2.2.1 uu.2.2.2.2.2.2.2.2.2.2.2.2.1 uu.2.2.2.2.2.2.2.2.2.2.2.2.2.1 uu.2.2.2.2.2.2.2.2.2.2.2.2.2.2.1 uu.2.2.2.2.2.2.2.2.2.2.2.2.2.2.2)) 0 0 (va_A (WC_ q cI cZ vnum vsz vfr vfo vli va vb vc ve vth vrk vcm vkx vky vkz vmk vre vro vwi vla vlb vtu k0x k0y k0z k1x k1y k1z k2x k2y k2z k3x k3y k3z) sz) := by
  refine Met.ofW (cc := cX1_crossPlanes) (maxL := 5) (ret := none) (by decide) rfl ?_
  intro p e s m args below meth c s₁ B hml hv
  obtain ⟨rfl, hsz, hP, hK, hN, hD0, hZ⟩ := hv
  have hx := B.exec
  have hb := B.bytes
  have hr := B.returns
  have hts := atoms_spec (ws := wsX1_crossPlanes) B.pre
  have hown : s.vm.findClass RX1 = some m.cls := findClass_of_methodNamed B.named
  have hlocks := B.notSynchronized
  subst hsz
  have hD := hD0.self (sz := s.heap.size)
  generalize hAe : va_A (WC_ q cI cZ vnum vsz vfr vfo vli va vb vc ve vth vrk vcm vkx vky vkz vmk vre vro vwi vla vlb vtu k0x k0y k0z k1x k1y k1z k2x k2y k2z k3x k3y k3z) s.heap.size = A at hD hZ ⊢
  have hA : ∀ q : Nat, s.heap.size ≤ q → A q := fun q h => by rw [← hAe]; exact Or.inr h
  have hS : va_S A s.heap s.heap [] := va_S.rf
  have hl := lv_entry ([.ref (q 14)]) (n := 5) (Nat.le_of_ble_eq_true rfl)
  rw [lg_entry_eq]
  generalize (lg_sl ([.ref (q 14)]) ++ List.replicate (5 - (lg_sl ([.ref (q 14)])).length) Slot.unset).toArray = ls at hl ⊢
  have hl : lv_has ls 5 [(0, .ref (q 14))] := hl
  unfold fX1_crossPlanes at h
  refine lv_aload_n hx hb dX1_crossPlanes_0 rfl (lv_at hl 0 rfl) ?_
  refine va_get (D := D) (ci := 1) (v := .ref (q 7)) (C := RX1) (T := TX1) (N := 13) hx hb hts wiX1_crossPlanes_X1 hown hK hP 14 rfl rfl 1 (by decide) (hts _ wmX1_crossPlanes_0) (fun _ h9 => h9) rfl dX1_crossPlanes_1 ?_
  obtain ⟨u1, e2, h⟩ := bd_some h
  refine k_i (va_runV (As := []) (rest := []) ⟨hx, hb, hml, hown, hts⟩ (kX2_rankOfAll l D q cI cJ cZ tP s.heap.size vnum vsz vfr vfo vli va vb vc ve vth vrk vcm vkx vky vkz vmk vre vro vwi vla vlb vtu k0x k0y k0z k1x k1y k1z k2x k2y k2z k3x k3y k3z  u1 e2) (cwV 0 hts gX1_crossPlanes_X2_rankOfAll rfl rfl rfl (by decide +kernel) ⟨Nat.le_of_ble_eq_true rfl, Nat.le_of_ble_eq_true rfl⟩) ⟨cPre_blind, va_recv hK hP (ci := 2) (q0 := 7) rfl rfl, cPre_at hP hK hN hD hS hA hZ⟩ rfl rfl hl.1 rfl (lv_room (Nat.le_of_ble_eq_true rfl)) dX1_crossPlanes_4 ⟨Nat.le_of_ble_eq_true rfl, Nat.le_of_ble_eq_true rfl⟩) hD hS hA (fun H locs hP hD hS => ?_)
  refine lv_iconst (v := (3 : Int32)) hx hb dX1_crossPlanes_7 (by decide) ?_
  obtain ⟨u3, e4, h⟩ := bd_some h
  refine W_join (P := fun H locs ls => va_P D vwCl (WC_ q cI cZ vnum vsz vfr vfo vli va vb vc ve vth vrk vcm vkx vky vkz vmk vre vro vwi vla vlb vtu k0x k0y k0z k1x k1y k1z k2x k2y k2z k3x k3y k3z) H ∧ va_D A (WC_ q cI cZ vnum vsz vfr vfo vli va vb vc ve vth vrk vcm vkx vky vkz vmk vre vro vwi vla vlb vtu k0x k0y k0z k1x k1y k1z k2x k2y k2z k3x k3y k3z) ∧ va_S A s.heap H locs ∧ lv_has ls 5 [(0, .ref (q 14))]) (g := fun ls => F0 m 30 ls [.int u3]) ?_ ?_
  · intro H locs ls hq
    obtain ⟨hP, hD, hS, hl⟩ := hq
    refine lv_istore_n (lv' := [(1, .int u3), (0, .ref (q 14))]) hx hb dX1_crossPlanes_30 rfl hl (by decide) rfl (fun ls hl => ?_)
    refine lv_iconst (v := (0 : Int32)) hx hb dX1_crossPlanes_31 (by decide) ?_
    refine lv_istore_n (lv' := [(2, .int (0 : Int32)), (1, .int u3), (0, .ref (q 14))]) hx hb dX1_crossPlanes_32 rfl hl (by decide) rfl (fun ls hl => ?_)
    obtain ⟨u23, e24, h⟩ := bd_some h
    refine W_leave (P := fun (y : (Int32 × Int32 × Int32 × (Nat → Int32) × (Nat → Int32) × (Nat → Int32) × (Nat → Int32) × (Nat → Int32) × Int32 × Int32 × Int32 × Int32 × Int32 × Int32 × Int32 × Int32 × Int32)) H locs ls => u23 = y ∧ va_P D vwCl (WC_ q cI cZ vnum vsz vfr y.2.1 y.2.2.1 va vb vc ve vth vrk y.2.2.2.1 vkx vky vkz y.2.2.2.2.1 y.2.2.2.2.2.1 vro vwi y.2.2.2.2.2.2.1 y.2.2.2.2.2.2.2.1 vtu k0x k0y k0z y.2.2.2.2.2.2.2.2.1 y.2.2.2.2.2.2.2.2.2.1 y.2.2.2.2.2.2.2.2.2.2.1 y.2.2.2.2.2.2.2.2.2.2.2.1 y.2.2.2.2.2.2.2.2.2.2.2.2.1 y.2.2.2.2.2.2.2.2.2.2.2.2.2.1 y.2.2.2.2.2.2.2.2.2.2.2.2.2.2.1 y.2.2.2.2.2.2.2.2.2.2.2.2.2.2.2.1 y.2.2.2.2.2.2.2.2.2.2.2.2.2.2.2.2) H ∧ va_D A (WC_ q cI cZ vnum vsz vfr y.2.1 y.2.2.1 va vb vc ve vth vrk y.2.2.2.1 vkx vky vkz y.2.2.2.2.1 y.2.2.2.2.2.1 vro vwi y.2.2.2.2.2.2.1 y.2.2.2.2.2.2.2.1 vtu k0x k0y k0z y.2.2.2.2.2.2.2.2.1 y.2.2.2.2.2.2.2.2.2.1 y.2.2.2.2.2.2.2.2.2.2.1 y.2.2.2.2.2.2.2.2.2.2.2.1 y.2.2.2.2.2.2.2.2.2.2.2.2.1 y.2.2.2.2.2.2.2.2.2.2.2.2.2.1 y.2.2.2.2.2.2.2.2.2.2.2.2.2.2.1 y.2.2.2.2.2.2.2.2.2.2.2.2.2.2.2.1 y.2.2.2.2.2.2.2.2.2.2.2.2.2.2.2.2) ∧ va_S A s.heap H locs ∧ lv_has ls 5 [(2, .int y.1), (1, .int u3), (0, .ref (q 14))]) (g := fun ls => F0 m 149 ls []) ?_ ?_
    · intro y H locs ls hq
      obtain ⟨hy, hP, hD, hS, hl⟩ := hq
      subst hy
      have hl : lv_has ls 5 [(2, .int u23.1), (1, .int u3), (0, .ref (q 14))] := hl
      obtain rfl := Option.some.inj h
      exact W.vret hx hb hr (fun t ht hW => ⟨⟨(), rfl, trivial, by rw [ht]; exact hP, hD⟩, hS.F ht⟩) hS.2.2 dX1_crossPlanes_149
    · intro K25
      refine W_lp (body := (fun (st : (Int32 × Int32 × Int32 × (Nat → Int32) × (Nat → Int32) × (Nat → Int32) × (Nat → Int32) × (Nat → Int32) × Int32 × Int32 × Int32 × Int32 × Int32 × Int32 × Int32 × Int32 × Int32)) => fX1_crossPlanes_L33 u3 vsz va vb vc ve vth st.1 st.2.1 st.2.2.1 st.2.2.2.1 st.2.2.2.2.1 st.2.2.2.2.2.1 st.2.2.2.2.2.2.1 st.2.2.2.2.2.2.2.1 st.2.2.2.2.2.2.2.2.1 st.2.2.2.2.2.2.2.2.2.1 st.2.2.2.2.2.2.2.2.2.2.1 st.2.2.2.2.2.2.2.2.2.2.2.1 st.2.2.2.2.2.2.2.2.2.2.2.2.1 st.2.2.2.2.2.2.2.2.2.2.2.2.2.1 st.2.2.2.2.2.2.2.2.2.2.2.2.2.2.1 st.2.2.2.2.2.2.2.2.2.2.2.2.2.2.2.1 st.2.2.2.2.2.2.2.2.2.2.2.2.2.2.2.2)) (P := fun (st : (Int32 × Int32 × Int32 × (Nat → Int32) × (Nat → Int32) × (Nat → Int32) × (Nat → Int32) × (Nat → Int32) × Int32 × Int32 × Int32 × Int32 × Int32 × Int32 × Int32 × Int32 × Int32)) H locs ls => va_P D vwCl (WC_ q cI cZ vnum vsz vfr st.2.1 st.2.2.1 va vb vc ve vth vrk st.2.2.2.1 vkx vky vkz st.2.2.2.2.1 st.2.2.2.2.2.1 vro vwi st.2.2.2.2.2.2.1 st.2.2.2.2.2.2.2.1 vtu k0x k0y k0z st.2.2.2.2.2.2.2.2.1 st.2.2.2.2.2.2.2.2.2.1 st.2.2.2.2.2.2.2.2.2.2.1 st.2.2.2.2.2.2.2.2.2.2.2.1 st.2.2.2.2.2.2.2.2.2.2.2.2.1 st.2.2.2.2.2.2.2.2.2.2.2.2.2.1 st.2.2.2.2.2.2.2.2.2.2.2.2.2.2.1 st.2.2.2.2.2.2.2.2.2.2.2.2.2.2.2.1 st.2.2.2.2.2.2.2.2.2.2.2.2.2.2.2.2) H ∧ va_D A (WC_ q cI cZ vnum vsz vfr st.2.1 st.2.2.1 va vb vc ve vth vrk st.2.2.2.1 vkx vky vkz st.2.2.2.2.1 st.2.2.2.2.2.1 vro vwi st.2.2.2.2.2.2.1 st.2.2.2.2.2.2.2.1 vtu k0x k0y k0z st.2.2.2.2.2.2.2.2.1 st.2.2.2.2.2.2.2.2.2.1 st.2.2.2.2.2.2.2.2.2.2.1 st.2.2.2.2.2.2.2.2.2.2.2.1 st.2.2.2.2.2.2.2.2.2.2.2.2.1 st.2.2.2.2.2.2.2.2.2.2.2.2.2.1 st.2.2.2.2.2.2.2.2.2.2.2.2.2.2.1 st.2.2.2.2.2.2.2.2.2.2.2.2.2.2.2.1 st.2.2.2.2.2.2.2.2.2.2.2.2.2.2.2.2) ∧ va_S A s.heap H locs ∧ lv_has ls 5 [(2, .int st.1), (1, .int u3), (0, .ref (q 14))]) (g := fun _ ls => F0 m 33 ls []) (r := u23) ?_ fu_ ((0 : Int32), vfo, vli, vcm, vmk, vre, vla, vlb, k1x, k1y, k1z, k2x, k2y, k2z, k3x, k3y, k3z) _ _ _ e24 ⟨hP, hD, hS, lv_sub hl [0, 1, 2] rfl⟩
      intro st xx29 H locs ls h hq ih28 hR27
      obtain ⟨hP, hD, hS, hl⟩ := hq
      obtain ⟨v6, v7, v8, v9, v10, v11, v12, v13, v14, v15, v16, v17, v18, v19, v20, v21, v22⟩ := st
      have hP : va_P D vwCl (WC_ q cI cZ vnum vsz vfr v7 v8 va vb vc ve vth vrk v9 vkx vky vkz v10 v11 vro vwi v12 v13 vtu k0x k0y k0z v14 v15 v16 v17 v18 v19 v20 v21 v22) H := hP
      have hD : va_D A (WC_ q cI cZ vnum vsz vfr v7 v8 va vb vc ve vth vrk v9 vkx vky vkz v10 v11 vro vwi v12 v13 vtu k0x k0y k0z v14 v15 v16 v17 v18 v19 v20 v21 v22) := hD
      have hl : lv_has ls 5 [(2, .int v6), (1, .int u3), (0, .ref (q 14))] := hl
      have h : fX1_crossPlanes_L33 u3 vsz va vb vc ve vth v6 v7 v8 v9 v10 v11 v12 v13 v14 v15 v16 v17 v18 v19 v20 v21 v22 = some xx29 := h
      unfold fX1_crossPlanes_L33 at h
      refine lv_iload_n hx hb dX1_crossPlanes_33 rfl (lv_at hl 0 rfl) ?_
      refine lv_iload_n hx hb dX1_crossPlanes_34 rfl (lv_at hl 1 rfl) ?_
      refine lv_icmp_ge (tgt := 149) hx hb dX1_crossPlanes_35 (by decide) (fun c30 => ?_) (fun c30 => ?_)
      · have h := (if_pos c30).symm.trans h
        exact K25 _ _ _ _ ⟨(hR27 _ (Option.some.inj h).symm).symm, hP, hD, hS, lv_sub hl [0, 1, 2] rfl⟩
      · have h := (if_neg c30).symm.trans h
        refine lv_iload_n hx hb dX1_crossPlanes_38 rfl (lv_at hl 0 rfl) ?_
        refine lv_iconst (v := (1 : Int32)) hx hb dX1_crossPlanes_39 (by decide) ?_
        refine lv_iadd hx hb dX1_crossPlanes_40 ?_
        refine lv_istore_n (lv' := [(3, .int (v6 + (1 : Int32))), (2, .int v6), (1, .int u3), (0, .ref (q 14))]) hx hb dX1_crossPlanes_41 rfl hl (by decide) rfl (fun ls hl => ?_)
        obtain ⟨u48, e49, h⟩ := bd_some h
        refine W_leave (P := fun (y : (Int32 × Int32 × Int32 × (Nat → Int32) × (Nat → Int32) × (Nat → Int32) × (Nat → Int32) × (Nat → Int32) × Int32 × Int32 × Int32 × Int32 × Int32 × Int32 × Int32 × Int32 × Int32)) H locs ls => u48 = y ∧ va_P D vwCl (WC_ q cI cZ vnum vsz vfr y.2.1 y.2.2.1 va vb vc ve vth vrk y.2.2.2.1 vkx vky vkz y.2.2.2.2.1 y.2.2.2.2.2.1 vro vwi y.2.2.2.2.2.2.1 y.2.2.2.2.2.2.2.1 vtu k0x k0y k0z y.2.2.2.2.2.2.2.2.1 y.2.2.2.2.2.2.2.2.2.1 y.2.2.2.2.2.2.2.2.2.2.1 y.2.2.2.2.2.2.2.2.2.2.2.1 y.2.2.2.2.2.2.2.2.2.2.2.2.1 y.2.2.2.2.2.2.2.2.2.2.2.2.2.1 y.2.2.2.2.2.2.2.2.2.2.2.2.2.2.1 y.2.2.2.2.2.2.2.2.2.2.2.2.2.2.2.1 y.2.2.2.2.2.2.2.2.2.2.2.2.2.2.2.2) H ∧ va_D A (WC_ q cI cZ vnum vsz vfr y.2.1 y.2.2.1 va vb vc ve vth vrk y.2.2.2.1 vkx vky vkz y.2.2.2.2.1 y.2.2.2.2.2.1 vro vwi y.2.2.2.2.2.2.1 y.2.2.2.2.2.2.2.1 vtu k0x k0y k0z y.2.2.2.2.2.2.2.2.1 y.2.2.2.2.2.2.2.2.2.1 y.2.2.2.2.2.2.2.2.2.2.1 y.2.2.2.2.2.2.2.2.2.2.2.1 y.2.2.2.2.2.2.2.2.2.2.2.2.1 y.2.2.2.2.2.2.2.2.2.2.2.2.2.1 y.2.2.2.2.2.2.2.2.2.2.2.2.2.2.1 y.2.2.2.2.2.2.2.2.2.2.2.2.2.2.2.1 y.2.2.2.2.2.2.2.2.2.2.2.2.2.2.2.2) ∧ va_S A s.heap H locs ∧ lv_has ls 5 [(3, .int y.1), (2, .int v6), (1, .int u3), (0, .ref (q 14))]) (g := fun ls => F0 m 143 ls []) ?_ ?_
        · intro y H locs ls hq
          obtain ⟨hy, hP, hD, hS, hl⟩ := hq
          subst hy
          have hl : lv_has ls 5 [(3, .int u48.1), (2, .int v6), (1, .int u3), (0, .ref (q 14))] := hl
          refine lv_iinc (v := (v6 + (1 : Int32))) (lv' := [(2, .int (v6 + (1 : Int32))), (3, .int u48.1), (1, .int u3), (0, .ref (q 14))]) hx hb dX1_crossPlanes_143 hl (k := 1) rfl rfl (by decide) rfl (fun ls hl => ?_)
          refine lv_goto (tgt := 33) hx hb dX1_crossPlanes_146 (by decide) ?_
          exact ih28 _ _ _ _ (Option.some.inj h).symm ⟨hP, hD, hS, lv_sub hl [0, 2, 3] rfl⟩
        · intro K50
          refine W_lp (body := (fun (st : (Int32 × Int32 × Int32 × (Nat → Int32) × (Nat → Int32) × (Nat → Int32) × (Nat → Int32) × (Nat → Int32) × Int32 × Int32 × Int32 × Int32 × Int32 × Int32 × Int32 × Int32 × Int32)) => fX1_crossPlanes_L42 u3 vsz v6 va vb vc ve vth st.1 st.2.1 st.2.2.1 st.2.2.2.1 st.2.2.2.2.1 st.2.2.2.2.2.1 st.2.2.2.2.2.2.1 st.2.2.2.2.2.2.2.1 st.2.2.2.2.2.2.2.2.1 st.2.2.2.2.2.2.2.2.2.1 st.2.2.2.2.2.2.2.2.2.2.1 st.2.2.2.2.2.2.2.2.2.2.2.1 st.2.2.2.2.2.2.2.2.2.2.2.2.1 st.2.2.2.2.2.2.2.2.2.2.2.2.2.1 st.2.2.2.2.2.2.2.2.2.2.2.2.2.2.1 st.2.2.2.2.2.2.2.2.2.2.2.2.2.2.2.1 st.2.2.2.2.2.2.2.2.2.2.2.2.2.2.2.2)) (P := fun (st : (Int32 × Int32 × Int32 × (Nat → Int32) × (Nat → Int32) × (Nat → Int32) × (Nat → Int32) × (Nat → Int32) × Int32 × Int32 × Int32 × Int32 × Int32 × Int32 × Int32 × Int32 × Int32)) H locs ls => va_P D vwCl (WC_ q cI cZ vnum vsz vfr st.2.1 st.2.2.1 va vb vc ve vth vrk st.2.2.2.1 vkx vky vkz st.2.2.2.2.1 st.2.2.2.2.2.1 vro vwi st.2.2.2.2.2.2.1 st.2.2.2.2.2.2.2.1 vtu k0x k0y k0z st.2.2.2.2.2.2.2.2.1 st.2.2.2.2.2.2.2.2.2.1 st.2.2.2.2.2.2.2.2.2.2.1 st.2.2.2.2.2.2.2.2.2.2.2.1 st.2.2.2.2.2.2.2.2.2.2.2.2.1 st.2.2.2.2.2.2.2.2.2.2.2.2.2.1 st.2.2.2.2.2.2.2.2.2.2.2.2.2.2.1 st.2.2.2.2.2.2.2.2.2.2.2.2.2.2.2.1 st.2.2.2.2.2.2.2.2.2.2.2.2.2.2.2.2) H ∧ va_D A (WC_ q cI cZ vnum vsz vfr st.2.1 st.2.2.1 va vb vc ve vth vrk st.2.2.2.1 vkx vky vkz st.2.2.2.2.1 st.2.2.2.2.2.1 vro vwi st.2.2.2.2.2.2.1 st.2.2.2.2.2.2.2.1 vtu k0x k0y k0z st.2.2.2.2.2.2.2.2.1 st.2.2.2.2.2.2.2.2.2.1 st.2.2.2.2.2.2.2.2.2.2.1 st.2.2.2.2.2.2.2.2.2.2.2.1 st.2.2.2.2.2.2.2.2.2.2.2.2.1 st.2.2.2.2.2.2.2.2.2.2.2.2.2.1 st.2.2.2.2.2.2.2.2.2.2.2.2.2.2.1 st.2.2.2.2.2.2.2.2.2.2.2.2.2.2.2.1 st.2.2.2.2.2.2.2.2.2.2.2.2.2.2.2.2) ∧ va_S A s.heap H locs ∧ lv_has ls 5 [(3, .int st.1), (2, .int v6), (1, .int u3), (0, .ref (q 14))]) (g := fun _ ls => F0 m 42 ls []) (r := u48) ?_ fu_ ((v6 + (1 : Int32)), v7, v8, v9, v10, v11, v12, v13, v14, v15, v16, v17, v18, v19, v20, v21, v22) _ _ _ e49 ⟨hP, hD, hS, lv_sub hl [0, 1, 2, 3] rfl⟩
          intro st xx54 H locs ls h hq ih53 hR52
          obtain ⟨hP, hD, hS, hl⟩ := hq
          obtain ⟨v31, v32, v33, v34, v35, v36, v37, v38, v39, v40, v41, v42, v43, v44, v45, v46, v47⟩ := st
          have hP : va_P D vwCl (WC_ q cI cZ vnum vsz vfr v32 v33 va vb vc ve vth vrk v34 vkx vky vkz v35 v36 vro vwi v37 v38 vtu k0x k0y k0z v39 v40 v41 v42 v43 v44 v45 v46 v47) H := hP
          have hD : va_D A (WC_ q cI cZ vnum vsz vfr v32 v33 va vb vc ve vth vrk v34 vkx vky vkz v35 v36 vro vwi v37 v38 vtu k0x k0y k0z v39 v40 v41 v42 v43 v44 v45 v46 v47) := hD
          have hl : lv_has ls 5 [(3, .int v31), (2, .int v6), (1, .int u3), (0, .ref (q 14))] := hl
          have h : fX1_crossPlanes_L42 u3 vsz v6 va vb vc ve vth v31 v32 v33 v34 v35 v36 v37 v38 v39 v40 v41 v42 v43 v44 v45 v46 v47 = some xx54 := h
          unfold fX1_crossPlanes_L42 at h
          refine lv_iload_n hx hb dX1_crossPlanes_42 rfl (lv_at hl 0 rfl) ?_
          refine lv_iload_n hx hb dX1_crossPlanes_43 rfl (lv_at hl 2 rfl) ?_
          refine lv_icmp_ge (tgt := 143) hx hb dX1_crossPlanes_44 (by decide) (fun c55 => ?_) (fun c55 => ?_)
          · have h := (if_pos c55).symm.trans h
            exact K50 _ _ _ _ ⟨(hR52 _ (Option.some.inj h).symm).symm, hP, hD, hS, lv_sub hl [0, 1, 2, 3] rfl⟩
          · have h := (if_neg c55).symm.trans h
            refine lv_aload_n hx hb dX1_crossPlanes_47 rfl (lv_at hl 3 rfl) ?_
            refine va_get (D := D) (ci := 1) (v := .ref (q 21)) (C := RX1) (T := TX1) (N := 13) hx hb hts wiX1_crossPlanes_X1 hown hK hP 14 rfl rfl 8 (by decide) (hts _ wmX1_crossPlanes_2) (fun _ h9 => h9) rfl dX1_crossPlanes_48 ?_
            refine lv_aload_n hx hb dX1_crossPlanes_51 rfl (lv_at hl 3 rfl) ?_
            refine va_get (D := D) (ci := 1) (v := .ref (q 1)) (C := RX1) (T := TX1) (N := 13) hx hb hts wiX1_crossPlanes_X1 hown hK hP 14 rfl rfl 0 (by decide) (hts _ wmX1_crossPlanes_1) (fun _ h9 => h9) rfl dX1_crossPlanes_52 ?_
            refine lv_aload_n hx hb dX1_crossPlanes_55 rfl (lv_at hl 3 rfl) ?_
            refine va_get (D := D) (ci := 1) (v := .ref (q 1)) (C := RX1) (T := TX1) (N := 13) hx hb hts wiX1_crossPlanes_X1 hown hK hP 14 rfl rfl 0 (by decide) (hts _ wmX1_crossPlanes_1) (fun _ h9 => h9) rfl dX1_crossPlanes_56 ?_
            refine lv_iload_n hx hb dX1_crossPlanes_59 rfl (lv_at hl 1 rfl) ?_
            obtain ⟨u56, e57, h⟩ := bd_some h
            refine k_i (va_runV (As := [.int v6]) (rest := [.ref (q 1), .ref (q 21)]) ⟨hx, hb, hml, hown, hts⟩ (kX3_indexOf l D q cI cJ cZ tP H.size vnum vsz vfr v32 v33 va vb vc ve vth vrk v34 vkx vky vkz v35 v36 vro vwi v37 v38 vtu k0x k0y k0z v39 v40 v41 v42 v43 v44 v45 v46 v47 v6 u56 e57) (cwV 1 hts gX1_crossPlanes_X3_indexOf rfl rfl rfl (by decide +kernel) ⟨Nat.le_of_ble_eq_true rfl, Nat.le_of_ble_eq_true rfl⟩) ⟨cPre_blind, va_recv hK hP (ci := 3) (q0 := 1) rfl rfl, cPre_at hP hK hN hD hS hA hZ⟩ rfl rfl hl.1 rfl (lv_room (Nat.le_of_ble_eq_true rfl)) dX1_crossPlanes_60 ⟨Nat.le_of_ble_eq_true rfl, Nat.le_of_ble_eq_true rfl⟩) hD hS hA (fun H locs hP hD hS => ?_)
            refine lv_aload_n hx hb dX1_crossPlanes_63 rfl (lv_at hl 3 rfl) ?_
            refine va_get (D := D) (ci := 1) (v := .ref (q 1)) (C := RX1) (T := TX1) (N := 13) hx hb hts wiX1_crossPlanes_X1 hown hK hP 14 rfl rfl 0 (by decide) (hts _ wmX1_crossPlanes_1) (fun _ h9 => h9) rfl dX1_crossPlanes_64 ?_
            refine lv_iload_n hx hb dX1_crossPlanes_67 rfl (lv_at hl 0 rfl) ?_
            obtain ⟨u58, e59, h⟩ := bd_some h
            refine k_i (va_runV (As := [.int v31]) (rest := [.int u56, .ref (q 1), .ref (q 21)]) ⟨hx, hb, hml, hown, hts⟩ (kX3_indexOf l D q cI cJ cZ tP H.size vnum vsz vfr v32 v33 va vb vc ve vth vrk v34 vkx vky vkz v35 v36 vro vwi v37 v38 vtu k0x k0y k0z v39 v40 v41 v42 v43 v44 v45 v46 v47 v31 u58 e59) (cwV 1 hts gX1_crossPlanes_X3_indexOf rfl rfl rfl (by decide +kernel) ⟨Nat.le_of_ble_eq_true rfl, Nat.le_of_ble_eq_true rfl⟩) ⟨cPre_blind, va_recv hK hP (ci := 3) (q0 := 1) rfl rfl, cPre_at hP hK hN hD hS hA hZ⟩ rfl rfl hl.1 rfl (lv_room (Nat.le_of_ble_eq_true rfl)) dX1_crossPlanes_68 ⟨Nat.le_of_ble_eq_true rfl, Nat.le_of_ble_eq_true rfl⟩) hD hS hA (fun H locs hP hD hS => ?_)
            obtain ⟨u60, e61, h⟩ := bd_some h
            refine k_v (va_runV (As := [.ref (q 1), .int u56, .int u58]) (rest := []) ⟨hx, hb, hml, hown, hts⟩ (kX0_alongBoth_r1 l D q cI cJ cZ tP H.size vnum vsz vfr v32 v33 va vb vc ve vth vrk v34 vkx vky vkz v35 v36 vro vwi v37 v38 vtu k0x k0y k0z v39 v40 v41 v42 v43 v44 v45 v46 v47 u56 u58 u60 e61) (cwV 3 hts gX1_crossPlanes_X0_alongBoth rfl rfl rfl (by decide +kernel) ⟨Nat.le_of_ble_eq_true rfl, Nat.le_of_ble_eq_true rfl⟩) ⟨cPre_blind, va_recv hK hP (ci := 0) (q0 := 21) rfl rfl, cPre_at hP hK hN hD hS hA hZ⟩ rfl rfl hl.1 rfl (lv_room (Nat.le_of_ble_eq_true rfl)) dX1_crossPlanes_71 ⟨Nat.le_of_ble_eq_true rfl, Nat.le_of_ble_eq_true rfl⟩) hD hS hA (fun H locs hP hD hS => ?_)
            refine lv_aload_n hx hb dX1_crossPlanes_74 rfl (lv_at hl 3 rfl) ?_
            refine va_get (D := D) (ci := 1) (v := .ref (q 21)) (C := RX1) (T := TX1) (N := 13) hx hb hts wiX1_crossPlanes_X1 hown hK hP 14 rfl rfl 8 (by decide) (hts _ wmX1_crossPlanes_2) (fun _ h9 => h9) rfl dX1_crossPlanes_75 ?_
            obtain ⟨u62, e63, h⟩ := bd_some h
            refine k_i (va_runV (As := []) (rest := []) ⟨hx, hb, hml, hown, hts⟩ (kX0_isNothing_r1 l D q cI cJ cZ tP H.size vnum vsz vfr v32 v33 va vb vc ve vth vrk v34 vkx vky vkz v35 v36 vro vwi v37 v38 vtu k0x k0y k0z u60.1 u60.2.1 u60.2.2 v42 v43 v44 v45 v46 v47  u62 e63) (cwV 0 hts gX1_crossPlanes_X0_isNothing rfl rfl rfl (by decide +kernel) ⟨Nat.le_of_ble_eq_true rfl, Nat.le_of_ble_eq_true rfl⟩) ⟨cPre_blind, va_recv hK hP (ci := 0) (q0 := 21) rfl rfl, cPre_at hP hK hN hD hS hA hZ⟩ rfl rfl hl.1 rfl (lv_room (Nat.le_of_ble_eq_true rfl)) dX1_crossPlanes_78 ⟨Nat.le_of_ble_eq_true rfl, Nat.le_of_ble_eq_true rfl⟩) hD hS hA (fun H locs hP hD hS => ?_)
            refine lv_if_eq (tgt := 87) hx hb dX1_crossPlanes_81 (by decide) (fun c64 => ?_) (fun c64 => ?_)
            · have h := (if_pos c64).symm.trans h
              refine lv_aload_n hx hb dX1_crossPlanes_87 rfl (lv_at hl 3 rfl) ?_
              obtain ⟨u65, e66, h⟩ := bd_some h
              refine k_v (va_runV (As := []) (rest := []) ⟨hx, hb, hml, hown, hts⟩ (kX1_noteLine l D q cI cJ cZ tP H.size vnum vsz vfr v32 v33 va vb vc ve vth vrk v34 vkx vky vkz v35 v36 vro vwi v37 v38 vtu k0x k0y k0z u60.1 u60.2.1 u60.2.2 v42 v43 v44 v45 v46 v47  u65 e66) (cwV 0 hts gX1_crossPlanes_X1_noteLine rfl rfl rfl (by decide +kernel) ⟨Nat.le_of_ble_eq_true rfl, Nat.le_of_ble_eq_true rfl⟩) ⟨cPre_blind, va_recv hK hP (ci := 1) (q0 := 14) rfl rfl, cPre_at hP hK hN hD hS hA hZ⟩ rfl rfl hl.1 rfl (lv_room (Nat.le_of_ble_eq_true rfl)) dX1_crossPlanes_88 ⟨Nat.le_of_ble_eq_true rfl, Nat.le_of_ble_eq_true rfl⟩) hD hS hA (fun H locs hP hD hS => ?_)
              refine lv_iload_n hx hb dX1_crossPlanes_91 rfl (lv_at hl 0 rfl) ?_
              refine lv_iconst (v := (1 : Int32)) hx hb dX1_crossPlanes_92 (by decide) ?_
              refine lv_iadd hx hb dX1_crossPlanes_93 ?_
              refine lv_istore (lv' := [(4, .int (v31 + (1 : Int32))), (3, .int v31), (2, .int v6), (1, .int u3), (0, .ref (q 14))]) hx hb dX1_crossPlanes_94 hl (by decide) rfl (fun ls hl => ?_)
              obtain ⟨u78, e79, h⟩ := bd_some h
              refine W_leave (P := fun (y : (Int32 × Int32 × (Nat → Int32) × (Nat → Int32) × (Nat → Int32) × Int32 × Int32 × Int32 × Int32 × Int32 × Int32)) H locs ls => u78 = y ∧ va_P D vwCl (WC_ q cI cZ vnum vsz vfr y.2.1 u65.1 va vb vc ve vth vrk y.2.2.1 vkx vky vkz y.2.2.2.1 y.2.2.2.2.1 vro vwi u65.2.1 u65.2.2 vtu k0x k0y k0z u60.1 u60.2.1 u60.2.2 y.2.2.2.2.2.1 y.2.2.2.2.2.2.1 y.2.2.2.2.2.2.2.1 y.2.2.2.2.2.2.2.2.1 y.2.2.2.2.2.2.2.2.2.1 y.2.2.2.2.2.2.2.2.2.2) H ∧ va_D A (WC_ q cI cZ vnum vsz vfr y.2.1 u65.1 va vb vc ve vth vrk y.2.2.1 vkx vky vkz y.2.2.2.1 y.2.2.2.2.1 vro vwi u65.2.1 u65.2.2 vtu k0x k0y k0z u60.1 u60.2.1 u60.2.2 y.2.2.2.2.2.1 y.2.2.2.2.2.2.1 y.2.2.2.2.2.2.2.1 y.2.2.2.2.2.2.2.2.1 y.2.2.2.2.2.2.2.2.2.1 y.2.2.2.2.2.2.2.2.2.2) ∧ va_S A s.heap H locs ∧ lv_has ls 5 [(4, .int y.1), (3, .int v31), (2, .int v6), (1, .int u3), (0, .ref (q 14))]) (g := fun ls => F0 m 137 ls []) ?_ ?_
              · intro y H locs ls hq
                obtain ⟨hy, hP, hD, hS, hl⟩ := hq
                subst hy
                have hl : lv_has ls 5 [(4, .int u78.1), (3, .int v31), (2, .int v6), (1, .int u3), (0, .ref (q 14))] := hl
                refine lv_iinc (v := (v31 + (1 : Int32))) (lv' := [(3, .int (v31 + (1 : Int32))), (4, .int u78.1), (2, .int v6), (1, .int u3), (0, .ref (q 14))]) hx hb dX1_crossPlanes_137 hl (k := 1) rfl rfl (by decide) rfl (fun ls hl => ?_)
                refine lv_goto (tgt := 42) hx hb dX1_crossPlanes_140 (by decide) ?_
                exact ih53 _ _ _ _ (Option.some.inj h).symm ⟨hP, hD, hS, lv_sub hl [0, 2, 3, 4] rfl⟩
              · intro K80
                refine W_lp (body := (fun (st : (Int32 × Int32 × (Nat → Int32) × (Nat → Int32) × (Nat → Int32) × Int32 × Int32 × Int32 × Int32 × Int32 × Int32)) => fX1_crossPlanes_L96 u3 vsz v6 v31 va vb vc ve vth u60 st.1 st.2.1 st.2.2.1 st.2.2.2.1 st.2.2.2.2.1 st.2.2.2.2.2.1 st.2.2.2.2.2.2.1 st.2.2.2.2.2.2.2.1 st.2.2.2.2.2.2.2.2.1 st.2.2.2.2.2.2.2.2.2.1 st.2.2.2.2.2.2.2.2.2.2)) (P := fun (st : (Int32 × Int32 × (Nat → Int32) × (Nat → Int32) × (Nat → Int32) × Int32 × Int32 × Int32 × Int32 × Int32 × Int32)) H locs ls => va_P D vwCl (WC_ q cI cZ vnum vsz vfr st.2.1 u65.1 va vb vc ve vth vrk st.2.2.1 vkx vky vkz st.2.2.2.1 st.2.2.2.2.1 vro vwi u65.2.1 u65.2.2 vtu k0x k0y k0z u60.1 u60.2.1 u60.2.2 st.2.2.2.2.2.1 st.2.2.2.2.2.2.1 st.2.2.2.2.2.2.2.1 st.2.2.2.2.2.2.2.2.1 st.2.2.2.2.2.2.2.2.2.1 st.2.2.2.2.2.2.2.2.2.2) H ∧ va_D A (WC_ q cI cZ vnum vsz vfr st.2.1 u65.1 va vb vc ve vth vrk st.2.2.1 vkx vky vkz st.2.2.2.1 st.2.2.2.2.1 vro vwi u65.2.1 u65.2.2 vtu k0x k0y k0z u60.1 u60.2.1 u60.2.2 st.2.2.2.2.2.1 st.2.2.2.2.2.2.1 st.2.2.2.2.2.2.2.1 st.2.2.2.2.2.2.2.2.1 st.2.2.2.2.2.2.2.2.2.1 st.2.2.2.2.2.2.2.2.2.2) ∧ va_S A s.heap H locs ∧ lv_has ls 5 [(4, .int st.1), (3, .int v31), (2, .int v6), (1, .int u3), (0, .ref (q 14))]) (g := fun _ ls => F0 m 96 ls []) (r := u78) ?_ fu_ ((v31 + (1 : Int32)), v32, v34, v35, v36, v42, v43, v44, v45, v46, v47) _ _ _ e79 ⟨hP, hD, hS, lv_sub hl [0, 1, 2, 3, 4] rfl⟩
                intro st xx84 H locs ls h hq ih83 hR82
                obtain ⟨hP, hD, hS, hl⟩ := hq
                obtain ⟨v67, v68, v69, v70, v71, v72, v73, v74, v75, v76, v77⟩ := st
                have hP : va_P D vwCl (WC_ q cI cZ vnum vsz vfr v68 u65.1 va vb vc ve vth vrk v69 vkx vky vkz v70 v71 vro vwi u65.2.1 u65.2.2 vtu k0x k0y k0z u60.1 u60.2.1 u60.2.2 v72 v73 v74 v75 v76 v77) H := hP
                have hD : va_D A (WC_ q cI cZ vnum vsz vfr v68 u65.1 va vb vc ve vth vrk v69 vkx vky vkz v70 v71 vro vwi u65.2.1 u65.2.2 vtu k0x k0y k0z u60.1 u60.2.1 u60.2.2 v72 v73 v74 v75 v76 v77) := hD
                have hl : lv_has ls 5 [(4, .int v67), (3, .int v31), (2, .int v6), (1, .int u3), (0, .ref (q 14))] := hl
                have h : fX1_crossPlanes_L96 u3 vsz v6 v31 va vb vc ve vth u60 v67 v68 v69 v70 v71 v72 v73 v74 v75 v76 v77 = some xx84 := h
                unfold fX1_crossPlanes_L96 at h
                refine lv_iload hx hb dX1_crossPlanes_96 (lv_at hl 0 rfl) ?_
                refine lv_iload_n hx hb dX1_crossPlanes_98 rfl (lv_at hl 3 rfl) ?_
                refine lv_icmp_ge (tgt := 137) hx hb dX1_crossPlanes_99 (by decide) (fun c85 => ?_) (fun c85 => ?_)
                · have h := (if_pos c85).symm.trans h
                  exact K80 _ _ _ _ ⟨(hR82 _ (Option.some.inj h).symm).symm, hP, hD, hS, lv_sub hl [0, 1, 2, 3, 4] rfl⟩
                · have h := (if_neg c85).symm.trans h
                  refine lv_aload_n hx hb dX1_crossPlanes_102 rfl (lv_at hl 4 rfl) ?_
                  refine lv_aload_n hx hb dX1_crossPlanes_103 rfl (lv_at hl 4 rfl) ?_
                  refine va_get (D := D) (ci := 1) (v := .ref (q 1)) (C := RX1) (T := TX1) (N := 13) hx hb hts wiX1_crossPlanes_X1 hown hK hP 14 rfl rfl 0 (by decide) (hts _ wmX1_crossPlanes_1) (fun _ h9 => h9) rfl dX1_crossPlanes_104 ?_
                  refine lv_iload_n hx hb dX1_crossPlanes_107 rfl (lv_at hl 2 rfl) ?_
                  obtain ⟨u86, e87, h⟩ := bd_some h
                  refine k_i (va_runV (As := [.int v6]) (rest := [.ref (q 14)]) ⟨hx, hb, hml, hown, hts⟩ (kX3_indexOf l D q cI cJ cZ tP H.size vnum vsz vfr v68 u65.1 va vb vc ve vth vrk v69 vkx vky vkz v70 v71 vro vwi u65.2.1 u65.2.2 vtu k0x k0y k0z u60.1 u60.2.1 u60.2.2 v72 v73 v74 v75 v76 v77 v6 u86 e87) (cwV 1 hts gX1_crossPlanes_X3_indexOf rfl rfl rfl (by decide +kernel) ⟨Nat.le_of_ble_eq_true rfl, Nat.le_of_ble_eq_true rfl⟩) ⟨cPre_blind, va_recv hK hP (ci := 3) (q0 := 1) rfl rfl, cPre_at hP hK hN hD hS hA hZ⟩ rfl rfl hl.1 rfl (lv_room (Nat.le_of_ble_eq_true rfl)) dX1_crossPlanes_108 ⟨Nat.le_of_ble_eq_true rfl, Nat.le_of_ble_eq_true rfl⟩) hD hS hA (fun H locs hP hD hS => ?_)
                  refine lv_aload_n hx hb dX1_crossPlanes_111 rfl (lv_at hl 4 rfl) ?_
                  refine va_get (D := D) (ci := 1) (v := .ref (q 1)) (C := RX1) (T := TX1) (N := 13) hx hb hts wiX1_crossPlanes_X1 hown hK hP 14 rfl rfl 0 (by decide) (hts _ wmX1_crossPlanes_1) (fun _ h9 => h9) rfl dX1_crossPlanes_112 ?_
                  refine lv_iload_n hx hb dX1_crossPlanes_115 rfl (lv_at hl 1 rfl) ?_
                  obtain ⟨u88, e89, h⟩ := bd_some h
                  refine k_i (va_runV (As := [.int v31]) (rest := [.int u86, .ref (q 14)]) ⟨hx, hb, hml, hown, hts⟩ (kX3_indexOf l D q cI cJ cZ tP H.size vnum vsz vfr v68 u65.1 va vb vc ve vth vrk v69 vkx vky vkz v70 v71 vro vwi u65.2.1 u65.2.2 vtu k0x k0y k0z u60.1 u60.2.1 u60.2.2 v72 v73 v74 v75 v76 v77 v31 u88 e89) (cwV 1 hts gX1_crossPlanes_X3_indexOf rfl rfl rfl (by decide +kernel) ⟨Nat.le_of_ble_eq_true rfl, Nat.le_of_ble_eq_true rfl⟩) ⟨cPre_blind, va_recv hK hP (ci := 3) (q0 := 1) rfl rfl, cPre_at hP hK hN hD hS hA hZ⟩ rfl rfl hl.1 rfl (lv_room (Nat.le_of_ble_eq_true rfl)) dX1_crossPlanes_116 ⟨Nat.le_of_ble_eq_true rfl, Nat.le_of_ble_eq_true rfl⟩) hD hS hA (fun H locs hP hD hS => ?_)
                  refine lv_aload_n hx hb dX1_crossPlanes_119 rfl (lv_at hl 4 rfl) ?_
                  refine va_get (D := D) (ci := 1) (v := .ref (q 1)) (C := RX1) (T := TX1) (N := 13) hx hb hts wiX1_crossPlanes_X1 hown hK hP 14 rfl rfl 0 (by decide) (hts _ wmX1_crossPlanes_1) (fun _ h9 => h9) rfl dX1_crossPlanes_120 ?_
                  refine lv_iload hx hb dX1_crossPlanes_123 (lv_at hl 0 rfl) ?_
                  obtain ⟨u90, e91, h⟩ := bd_some h
                  refine k_i (va_runV (As := [.int v67]) (rest := [.int u88, .int u86, .ref (q 14)]) ⟨hx, hb, hml, hown, hts⟩ (kX3_indexOf l D q cI cJ cZ tP H.size vnum vsz vfr v68 u65.1 va vb vc ve vth vrk v69 vkx vky vkz v70 v71 vro vwi u65.2.1 u65.2.2 vtu k0x k0y k0z u60.1 u60.2.1 u60.2.2 v72 v73 v74 v75 v76 v77 v67 u90 e91) (cwV 1 hts gX1_crossPlanes_X3_indexOf rfl rfl rfl (by decide +kernel) ⟨Nat.le_of_ble_eq_true rfl, Nat.le_of_ble_eq_true rfl⟩) ⟨cPre_blind, va_recv hK hP (ci := 3) (q0 := 1) rfl rfl, cPre_at hP hK hN hD hS hA hZ⟩ rfl rfl hl.1 rfl (lv_room (Nat.le_of_ble_eq_true rfl)) dX1_crossPlanes_125 ⟨Nat.le_of_ble_eq_true rfl, Nat.le_of_ble_eq_true rfl⟩) hD hS hA (fun H locs hP hD hS => ?_)
                  obtain ⟨u92, e93, h⟩ := bd_some h
                  refine k_v (va_runV (As := [.int u86, .int u88, .int u90]) (rest := []) ⟨hx, hb, hml, hown, hts⟩ (kX1_noteCorner l D q cI cJ cZ tP H.size vnum vsz vfr v68 u65.1 va vb vc ve vth vrk v69 vkx vky vkz v70 v71 vro vwi u65.2.1 u65.2.2 vtu k0x k0y k0z u60.1 u60.2.1 u60.2.2 v72 v73 v74 v75 v76 v77 u86 u88 u90 u92 e93) (cwV 3 hts gX1_crossPlanes_X1_noteCorner rfl rfl rfl (by decide +kernel) ⟨Nat.le_of_ble_eq_true rfl, Nat.le_of_ble_eq_true rfl⟩) ⟨cPre_blind, va_recv hK hP (ci := 1) (q0 := 14) rfl rfl, cPre_at hP hK hN hD hS hA hZ⟩ rfl rfl hl.1 rfl (lv_room (Nat.le_of_ble_eq_true rfl)) dX1_crossPlanes_128 ⟨Nat.le_of_ble_eq_true rfl, Nat.le_of_ble_eq_true rfl⟩) hD hS hA (fun H locs hP hD hS => ?_)
                  refine lv_iinc (v := (v67 + (1 : Int32))) (lv' := [(4, .int (v67 + (1 : Int32))), (3, .int v31), (2, .int v6), (1, .int u3), (0, .ref (q 14))]) hx hb dX1_crossPlanes_131 hl (k := 0) rfl rfl (by decide) rfl (fun ls hl => ?_)
                  refine lv_goto (tgt := 96) hx hb dX1_crossPlanes_134 (by decide) ?_
                  exact ih83 _ _ _ _ (Option.some.inj h).symm ⟨hP, hD, hS, lv_sub hl [0, 1, 2, 3, 4] rfl⟩
            · have h := (if_neg c64).symm.trans h
              refine lv_goto (tgt := 137) hx hb dX1_crossPlanes_84 (by decide) ?_
              refine lv_iinc (v := (v31 + (1 : Int32))) (lv' := [(3, .int (v31 + (1 : Int32))), (2, .int v6), (1, .int u3), (0, .ref (q 14))]) hx hb dX1_crossPlanes_137 hl (k := 0) rfl rfl (by decide) rfl (fun ls hl => ?_)
              refine lv_goto (tgt := 42) hx hb dX1_crossPlanes_140 (by decide) ?_
              exact ih53 _ _ _ _ (Option.some.inj h).symm ⟨hP, hD, hS, lv_sub hl [0, 1, 2, 3] rfl⟩
  · intro J5
    have h := e4
    refine lv_icmp_ne (tgt := 21) hx hb dX1_crossPlanes_8 (by decide) (fun c94 => ?_) (fun c94 => ?_)
    · have h := (if_neg c94).symm.trans h
      refine lv_aload_n hx hb dX1_crossPlanes_21 rfl (lv_at hl 0 rfl) ?_
      refine va_get (D := D) (ci := 1) (v := .ref (q 1)) (C := RX1) (T := TX1) (N := 13) hx hb hts wiX1_crossPlanes_X1 hown hK hP 14 rfl rfl 0 (by decide) (hts _ wmX1_crossPlanes_1) (fun _ h9 => h9) rfl dX1_crossPlanes_22 ?_
      refine va_getN (D := D) (ci := 3) (v := .int vsz) (C := RX3) (T := TX3) (N := 7) hx hb hts wiX1_crossPlanes_X3 hown hK hP 1 rfl rfl 6 (by decide) (NW_f hN 18 rfl) (fun _ h9 => h9) rfl dX1_crossPlanes_25 ?_
      refine lv_iconst (v := (3 : Int32)) hx hb dX1_crossPlanes_28 (by decide) ?_
      refine lv_iadd hx hb dX1_crossPlanes_29 ?_
      obtain rfl := Option.some.inj h
      exact J5 _ _ _ ⟨hP, hD, hS, lv_sub hl [0] rfl⟩
    · have h := (if_pos c94).symm.trans h
      refine lv_aload_n hx hb dX1_crossPlanes_11 rfl (lv_at hl 0 rfl) ?_
      refine va_get (D := D) (ci := 1) (v := .ref (q 1)) (C := RX1) (T := TX1) (N := 13) hx hb hts wiX1_crossPlanes_X1 hown hK hP 14 rfl rfl 0 (by decide) (hts _ wmX1_crossPlanes_1) (fun _ h9 => h9) rfl dX1_crossPlanes_12 ?_
      refine va_getN (D := D) (ci := 3) (v := .int vsz) (C := RX3) (T := TX3) (N := 7) hx hb hts wiX1_crossPlanes_X3 hown hK hP 1 rfl rfl 6 (by decide) (NW_f hN 18 rfl) (fun _ h9 => h9) rfl dX1_crossPlanes_15 ?_
      refine lv_goto (tgt := 30) hx hb dX1_crossPlanes_18 (by decide) ?_
      obtain rfl := Option.some.inj h
      exact J5 _ _ _ ⟨hP, hD, hS, lv_sub hl [0] rfl⟩

-- X1_moveFrom
theorem wmX1_moveFrom_0 : (.initialized RX5 : Cond) ∈ wsX1_moveFrom := by decide +kernel
theorem wmX1_moveFrom_1 : (.static yX5_onMask : Cond) ∈ wsX1_moveFrom := by decide +kernel
theorem wmX1_moveFrom_2 : (.static yX5_aboveMask : Cond) ∈ wsX1_moveFrom := by decide +kernel
theorem wmX1_moveFrom_3 : (.fieldLink RX1 55 "SpaceWalls$Cut" "lines" "I" : Cond) ∈ wsX1_moveFrom := by decide +kernel
theorem wmX1_moveFrom_4 : (.fieldLink RX1 24 "SpaceWalls$Cut" "lineAbove" "[I" : Cond) ∈ wsX1_moveFrom := by decide +kernel
theorem wmX1_moveFrom_5 : (.fieldLink RX1 27 "SpaceWalls$Cut" "lineBelow" "[I" : Cond) ∈ wsX1_moveFrom := by decide +kernel
theorem wmX1_moveFrom_6 : (.fieldLink RX1 47 "SpaceWalls$Cut" "heaps" "LSpaceWalls$Heaps;" : Cond) ∈ wsX1_moveFrom := by decide +kernel
theorem wiX1_moveFrom_X1 : ∀ w ∈ u_ws RX1 TX1 13, w ∈ wsX1_moveFrom := by decide +kernel
theorem wiX1_moveFrom_X2 : ∀ w ∈ u_ws RX2 TX2 7, w ∈ wsX1_moveFrom := by decide +kernel
set_option maxHeartbeats 8000000 in
set_option maxRecDepth 100000 in
theorem kX1_moveFrom (l : Launch) (D : va_G) (q : Nat → Nat) (cI cJ cZ : ClassId) (tP sz : Nat) (vnum : Int32) (vsz : Int32) (vfr : Int32) (vfo : Int32) (vli : Int32) (va : (Nat → Int32)) (vb : (Nat → Int32)) (vc : (Nat → Int32)) (ve : (Nat → Int32)) (vth : (Nat → Int32)) (vrk : (Nat → Int32)) (vcm : (Nat → Int32)) (vkx : (Nat → Int32)) (vky : (Nat → Int32)) (vkz : (Nat → Int32)) (vmk : (Nat → Int32)) (vre : (Nat → Int32)) (vro : (Nat → Int32)) (vwi : (Nat → Int32)) (vla : (Nat → Int32)) (vlb : (Nat → Int32)) (vtu : (Nat → Int32)) (k0x : Int32) (k0y : Int32) (k0z : Int32) (k1x : Int32) (k1y : Int32) (k1z : Int32) (k2x : Int32) (k2y : Int32) (k2z : Int32) (k3x : Int32) (k3y : Int32) (k3z : Int32) (p1 : Int32) (uu : (Int32 × (Nat → Int32) × (Nat → Int32) × (Nat → Int32))) (h : fX1_moveFrom vfo vli vth vrk vcm vmk vre vla vlb p1 = some uu) : Met l yX1_moveFrom wsX1_moveFrom ({ frames := 3, cells := 0, slots := 0, locals := 63 }) (cPre D cI cJ cZ tP (WC_ q cI cZ vnum vsz vfr vfo vli va vb vc ve vth vrk vcm vkx vky vkz vmk vre vro vwi vla vlb vtu k0x k0y k0z k1x k1y k1z k2x k2y k2z k3x k3y k3z) sz [.ref (q 14), .int p1]) (cQv D (va_A (WC_ q cI cZ vnum vsz vfr vfo vli va vb vc ve vth vrk vcm vkx vky vkz vmk vre vro vwi vla vlb vtu k0x k0y k0z k1x k1y k1z k2x k2y k2z k3x k3y k3z) sz) (WC_ q cI cZ vnum vsz vfr uu.1 vli va vb vc ve vth vrk uu.2.1 vkx vky vkz uu.2.2.1 uu.2.2.2 vro vwi vla vlb vtu k0x k0y k0z k1x k1y k1z k2x k2y k2z k3x k3y k3z)) 0 0 (va_A (WC_ q cI cZ vnum vsz vfr vfo vli va vb vc ve vth vrk vcm vkx vky vkz vmk vre vro vwi vla vlb vtu k0x k0y k0z k1x k1y k1z k2x k2y k2z k3x k3y k3z) sz) := by
  refine Met.ofW (cc := cX1_moveFrom) (maxL := 6) (ret := none) (by decide) rfl ?_
  intro p e s m args below meth c s₁ B hml hv
  obtain ⟨rfl, hsz, hP, hK, hN, hD0, hZ⟩ := hv
  have hx := B.exec
  have hb := B.bytes
  have hr := B.returns
  have hts := atoms_spec (ws := wsX1_moveFrom) B.pre
  have hown : s.vm.findClass RX1 = some m.cls := findClass_of_methodNamed B.named
  have hlocks := B.notSynchronized
  subst hsz
  have hD := hD0.self (sz := s.heap.size)
  generalize hAe : va_A (WC_ q cI cZ vnum vsz vfr vfo vli va vb vc ve vth vrk vcm vkx vky vkz vmk vre vro vwi vla vlb vtu k0x k0y k0z k1x k1y k1z k2x k2y k2z k3x k3y k3z) s.heap.size = A at hD hZ ⊢
  have hA : ∀ q : Nat, s.heap.size ≤ q → A q := fun q h => by rw [← hAe]; exact Or.inr h
  have hS : va_S A s.heap s.heap [] := va_S.rf
  have hl := lv_entry ([.ref (q 14), .int p1]) (n := 6) (Nat.le_of_ble_eq_true rfl)
  rw [lg_entry_eq]
  generalize (lg_sl ([.ref (q 14), .int p1]) ++ List.replicate (6 - (lg_sl ([.ref (q 14), .int p1])).length) Slot.unset).toArray = ls at hl ⊢
  have hl : lv_has ls 6 [(0, .ref (q 14)), (1, .int p1)] := hl
  unfold fX1_moveFrom at h
  refine lv_iload_n hx hb dX1_moveFrom_0 rfl (lv_at hl 1 rfl) ?_
  obtain ⟨u1, e2, h⟩ := bd_some h
  refine k_i0 (va_runSN (As := [.int p1]) (rest := []) ⟨hx, hb, hml, hown, hts⟩ (kX5_onMask l D cI cJ cZ tP s.heap.size  p1 u1 e2) ⟨va_cnB 1 hts gX1_moveFrom_X5_onMask_n126 rfl rfl rfl (NW_m hN 0 rfl) (hts _ wmX1_moveFrom_0) (by decide +kernel) ⟨Nat.le_of_ble_eq_true rfl, Nat.le_of_ble_eq_true rfl⟩, (hts _ wmX1_moveFrom_1), trivial⟩ ⟨cPre_blind, cPre_at0 hK hN hS hA hZ⟩ rfl rfl hl.1 rfl (lv_room (Nat.le_of_ble_eq_true rfl)) dX1_moveFrom_1 ⟨Nat.le_of_ble_eq_true rfl, Nat.le_of_ble_eq_true rfl⟩) hP hS hA (fun H locs hP hS => ?_)
  refine lv_istore_n (lv' := [(2, .int u1), (0, .ref (q 14)), (1, .int p1)]) hx hb dX1_moveFrom_4 rfl hl (by decide) rfl (fun ls hl => ?_)
  refine lv_iload_n hx hb dX1_moveFrom_5 rfl (lv_at hl 2 rfl) ?_
  obtain ⟨u3, e4, h⟩ := bd_some h
  refine k_i0 (va_runSN (As := [.int p1]) (rest := []) ⟨hx, hb, hml, hown, hts⟩ (kX5_aboveMask l D cI cJ cZ tP H.size  p1 u3 e4) ⟨va_cnB 1 hts gX1_moveFrom_X5_aboveMask_n129 rfl rfl rfl (NW_m hN 1 rfl) (hts _ wmX1_moveFrom_0) (by decide +kernel) ⟨Nat.le_of_ble_eq_true rfl, Nat.le_of_ble_eq_true rfl⟩, (hts _ wmX1_moveFrom_2), trivial⟩ ⟨cPre_blind, cPre_at0 hK hN hS hA hZ⟩ rfl rfl hl.1 rfl (lv_room (Nat.le_of_ble_eq_true rfl)) dX1_moveFrom_6 ⟨Nat.le_of_ble_eq_true rfl, Nat.le_of_ble_eq_true rfl⟩) hP hS hA (fun H locs hP hS => ?_)
  refine lv_istore_n (lv' := [(3, .int u3), (2, .int u1), (0, .ref (q 14)), (1, .int p1)]) hx hb dX1_moveFrom_9 rfl hl (by decide) rfl (fun ls hl => ?_)
  refine lv_iload_n hx hb dX1_moveFrom_10 rfl (lv_at hl 1 rfl) ?_
  refine lv_if_ne (tgt := 15) hx hb dX1_moveFrom_11 (by decide) (fun c5 => ?_) (fun c5 => ?_)
  · have h := (if_neg c5).symm.trans h
    refine lv_iconst (v := (0 : Int32)) hx hb dX1_moveFrom_15 (by decide) ?_
    refine lv_istore (lv' := [(4, .int (0 : Int32)), (3, .int u3), (2, .int u1), (0, .ref (q 14)), (1, .int p1)]) hx hb dX1_moveFrom_16 hl (by decide) rfl (fun ls hl => ?_)
    obtain ⟨u11, e12, h⟩ := bd_some h
    have KR14 : ∀ y16, Sum.inr y16 = u11 → y16 = uu := by
      intro y16 hy
      subst hy
      have h := se_inr h
      exact Option.some.inj h
    refine W_leave (P := fun (y : (Int32 × Int32 × (Nat → Int32) × (Nat → Int32) × (Nat → Int32))) H locs ls => u11 = Sum.inl y ∧ va_P D vwCl (WC_ q cI cZ vnum vsz vfr y.2.1 vli va vb vc ve vth vrk y.2.2.1 vkx vky vkz y.2.2.2.1 y.2.2.2.2 vro vwi vla vlb vtu k0x k0y k0z k1x k1y k1z k2x k2y k2z k3x k3y k3z) H ∧ va_D A (WC_ q cI cZ vnum vsz vfr y.2.1 vli va vb vc ve vth vrk y.2.2.1 vkx vky vkz y.2.2.2.1 y.2.2.2.2 vro vwi vla vlb vtu k0x k0y k0z k1x k1y k1z k2x k2y k2z k3x k3y k3z) ∧ va_S A s.heap H locs ∧ lv_has ls 6 [(4, .int y.1), (3, .int u3), (2, .int u1), (0, .ref (q 14)), (1, .int p1)]) (g := fun ls => F0 m 129 ls []) ?_ ?_
    · intro x15 H locs ls hq
      obtain ⟨hy, hP, hD, hS, hl⟩ := hq
      subst hy
      have h := se_inl h
      obtain rfl := Option.some.inj h
      exact W.vret hx hb hr (fun t ht hW => ⟨⟨(), rfl, trivial, by rw [ht]; exact hP, hD⟩, hS.F ht⟩) hS.2.2 dX1_moveFrom_129
    · intro K13
      refine W_lp (body := (fun (st : (Int32 × Int32 × (Nat → Int32) × (Nat → Int32) × (Nat → Int32))) => fX1_moveFrom_L18 vli u1 vla vlb vrk vth u3 st.1 st.2.1 st.2.2.1 st.2.2.2.1 st.2.2.2.2)) (P := fun (st : (Int32 × Int32 × (Nat → Int32) × (Nat → Int32) × (Nat → Int32))) H locs ls => va_P D vwCl (WC_ q cI cZ vnum vsz vfr st.2.1 vli va vb vc ve vth vrk st.2.2.1 vkx vky vkz st.2.2.2.1 st.2.2.2.2 vro vwi vla vlb vtu k0x k0y k0z k1x k1y k1z k2x k2y k2z k3x k3y k3z) H ∧ va_D A (WC_ q cI cZ vnum vsz vfr st.2.1 vli va vb vc ve vth vrk st.2.2.1 vkx vky vkz st.2.2.2.1 st.2.2.2.2 vro vwi vla vlb vtu k0x k0y k0z k1x k1y k1z k2x k2y k2z k3x k3y k3z) ∧ va_S A s.heap H locs ∧ lv_has ls 6 [(4, .int st.1), (3, .int u3), (2, .int u1), (0, .ref (q 14)), (1, .int p1)]) (g := fun _ ls => F0 m 18 ls []) (r := u11) ?_ fu_ ((0 : Int32), vfo, vcm, vmk, vre) _ _ _ e12 ⟨hP, hD, hS, lv_sub hl [0, 1, 2, 3, 4] rfl⟩
      intro st xx19 H locs ls h hq ih18 hR17
      obtain ⟨hP, hD, hS, hl⟩ := hq
      obtain ⟨v6, v7, v8, v9, v10⟩ := st
      have hP : va_P D vwCl (WC_ q cI cZ vnum vsz vfr v7 vli va vb vc ve vth vrk v8 vkx vky vkz v9 v10 vro vwi vla vlb vtu k0x k0y k0z k1x k1y k1z k2x k2y k2z k3x k3y k3z) H := hP
      have hD : va_D A (WC_ q cI cZ vnum vsz vfr v7 vli va vb vc ve vth vrk v8 vkx vky vkz v9 v10 vro vwi vla vlb vtu k0x k0y k0z k1x k1y k1z k2x k2y k2z k3x k3y k3z) := hD
      have hl : lv_has ls 6 [(4, .int v6), (3, .int u3), (2, .int u1), (0, .ref (q 14)), (1, .int p1)] := hl
      have h : fX1_moveFrom_L18 vli u1 vla vlb vrk vth u3 v6 v7 v8 v9 v10 = some xx19 := h
      unfold fX1_moveFrom_L18 at h
      refine lv_iload hx hb dX1_moveFrom_18 (lv_at hl 0 rfl) ?_
      refine lv_aload_n hx hb dX1_moveFrom_20 rfl (lv_at hl 3 rfl) ?_
      refine va_get (D := D) (ci := 1) (v := .int vli) (C := RX1) (T := TX1) (N := 13) hx hb hts wiX1_moveFrom_X1 hown hK hP 14 rfl rfl 12 (by decide) (hts _ wmX1_moveFrom_3) (fun _ h9 => h9) rfl dX1_moveFrom_21 ?_
      refine lv_icmp_ge (tgt := 129) hx hb dX1_moveFrom_24 (by decide) (fun c20 => ?_) (fun c20 => ?_)
      · have h := (if_pos c20).symm.trans h
        exact K13 _ _ _ _ ⟨(hR17 _ (Option.some.inj h).symm).symm, hP, hD, hS, lv_sub hl [0, 1, 2, 3, 4] rfl⟩
      · have h := (if_neg c20).symm.trans h
        refine lv_iload_n hx hb dX1_moveFrom_27 rfl (lv_at hl 2 rfl) ?_
        refine lv_aload_n hx hb dX1_moveFrom_28 rfl (lv_at hl 3 rfl) ?_
        refine va_get (D := D) (ci := 1) (v := .ref (q 19)) (C := RX1) (T := TX1) (N := 13) hx hb hts wiX1_moveFrom_X1 hown hK hP 14 rfl rfl 6 (by decide) (hts _ wmX1_moveFrom_4) (fun _ h9 => h9) rfl dX1_moveFrom_29 ?_
        refine lv_iload hx hb dX1_moveFrom_32 (lv_at hl 0 rfl) ?_
        obtain ⟨i21, h⟩ := ck_some h
        refine va_iald hx hb hK hP 19 0 rfl rfl i21 dX1_moveFrom_34 ?_
        refine lv_aload_n hx hb dX1_moveFrom_35 rfl (lv_at hl 3 rfl) ?_
        refine va_get (D := D) (ci := 1) (v := .ref (q 20)) (C := RX1) (T := TX1) (N := 13) hx hb hts wiX1_moveFrom_X1 hown hK hP 14 rfl rfl 7 (by decide) (hts _ wmX1_moveFrom_5) (fun _ h9 => h9) rfl dX1_moveFrom_36 ?_
        refine lv_iload hx hb dX1_moveFrom_39 (lv_at hl 0 rfl) ?_
        obtain ⟨i22, h⟩ := ck_some h
        refine va_iald hx hb hK hP 20 0 rfl rfl i22 dX1_moveFrom_41 ?_
        refine lv_ior hx hb dX1_moveFrom_42 ?_
        refine lv_iconst (v := (-1 : Int32)) hx hb dX1_moveFrom_43 (by decide) ?_
        refine lv_ixor hx hb dX1_moveFrom_44 ?_
        refine lv_iand hx hb dX1_moveFrom_45 ?_
        refine lv_istore (lv' := [(5, .int (u1 &&& (((vla v6.toNatClampNeg) ||| (vlb v6.toNatClampNeg)) ^^^ (-1 : Int32)))), (4, .int v6), (3, .int u3), (2, .int u1), (0, .ref (q 14)), (1, .int p1)]) hx hb dX1_moveFrom_46 hl (by decide) rfl (fun ls hl => ?_)
        refine lv_aload_n hx hb dX1_moveFrom_48 rfl (lv_at hl 4 rfl) ?_
        refine va_get (D := D) (ci := 1) (v := .ref (q 7)) (C := RX1) (T := TX1) (N := 13) hx hb hts wiX1_moveFrom_X1 hown hK hP 14 rfl rfl 1 (by decide) (hts _ wmX1_moveFrom_6) (fun _ h9 => h9) rfl dX1_moveFrom_49 ?_
        refine va_getN (D := D) (ci := 2) (v := .ref (q 8)) (C := RX2) (T := TX2) (N := 7) hx hb hts wiX1_moveFrom_X2 hown hK hP 7 rfl rfl 1 (by decide) (NW_f hN 16 rfl) (fun _ h9 => h9) rfl dX1_moveFrom_52 ?_
        refine lv_iload hx hb dX1_moveFrom_55 (lv_at hl 0 rfl) ?_
        obtain ⟨i23, h⟩ := ck_some h
        refine va_iald hx hb hK hP 8 0 rfl rfl i23 dX1_moveFrom_57 ?_
        refine lv_aload_n hx hb dX1_moveFrom_58 rfl (lv_at hl 4 rfl) ?_
        refine va_get (D := D) (ci := 1) (v := .ref (q 7)) (C := RX1) (T := TX1) (N := 13) hx hb hts wiX1_moveFrom_X1 hown hK hP 14 rfl rfl 1 (by decide) (hts _ wmX1_moveFrom_6) (fun _ h9 => h9) rfl dX1_moveFrom_59 ?_
        refine va_getN (D := D) (ci := 2) (v := .ref (q 8)) (C := RX2) (T := TX2) (N := 7) hx hb hts wiX1_moveFrom_X2 hown hK hP 7 rfl rfl 1 (by decide) (NW_f hN 16 rfl) (fun _ h9 => h9) rfl dX1_moveFrom_62 ?_
        refine lv_iload_n hx hb dX1_moveFrom_65 rfl (lv_at hl 3 rfl) ?_
        obtain ⟨i24, h⟩ := ck_some h
        refine va_iald hx hb hK hP 8 0 rfl rfl i24 dX1_moveFrom_66 ?_
        refine lv_iconst (v := (1 : Int32)) hx hb dX1_moveFrom_67 (by decide) ?_
        refine lv_isub hx hb dX1_moveFrom_68 ?_
        refine lv_icmp_eq (tgt := 75) hx hb dX1_moveFrom_69 (by decide) (fun c25 => ?_) (fun c25 => ?_)
        · have h := (if_pos c25).symm.trans h
          refine lv_aload_n hx hb dX1_moveFrom_75 rfl (lv_at hl 4 rfl) ?_
          refine lv_iload_n hx hb dX1_moveFrom_76 rfl (lv_at hl 2 rfl) ?_
          refine lv_iload_n hx hb dX1_moveFrom_77 rfl (lv_at hl 3 rfl) ?_
          refine lv_aload_n hx hb dX1_moveFrom_78 rfl (lv_at hl 4 rfl) ?_
          refine va_get (D := D) (ci := 1) (v := .ref (q 19)) (C := RX1) (T := TX1) (N := 13) hx hb hts wiX1_moveFrom_X1 hown hK hP 14 rfl rfl 6 (by decide) (hts _ wmX1_moveFrom_4) (fun _ h9 => h9) rfl dX1_moveFrom_79 ?_
          refine lv_iload hx hb dX1_moveFrom_82 (lv_at hl 1 rfl) ?_
          obtain ⟨i26, h⟩ := ck_some h
          refine va_iald hx hb hK hP 19 0 rfl rfl i26 dX1_moveFrom_84 ?_
          refine lv_iand hx hb dX1_moveFrom_85 ?_
          refine lv_ior hx hb dX1_moveFrom_86 ?_
          refine lv_bipush (v := (8 : Int32)) hx hb dX1_moveFrom_87 (by decide) ?_
          refine lv_ishl hx hb dX1_moveFrom_89 ?_
          refine lv_iload hx hb dX1_moveFrom_90 (lv_at hl 0 rfl) ?_
          refine lv_ior hx hb dX1_moveFrom_92 ?_
          obtain ⟨u27, e28, h⟩ := bd_some h
          refine k_v (va_runV (As := [.int (((u3 ||| (u1 &&& (vla v6.toNatClampNeg))) <<< ((8 : Int32) &&& 31)) ||| (u1 &&& (((vla v6.toNatClampNeg) ||| (vlb v6.toNatClampNeg)) ^^^ (-1 : Int32))))]) (rest := []) ⟨hx, hb, hml, hown, hts⟩ (kX1_reach l D q cI cJ cZ tP H.size vnum vsz vfr v7 vli va vb vc ve vth vrk v8 vkx vky vkz v9 v10 vro vwi vla vlb vtu k0x k0y k0z k1x k1y k1z k2x k2y k2z k3x k3y k3z (((u3 ||| (u1 &&& (vla v6.toNatClampNeg))) <<< ((8 : Int32) &&& 31)) ||| (u1 &&& (((vla v6.toNatClampNeg) ||| (vlb v6.toNatClampNeg)) ^^^ (-1 : Int32)))) u27 e28) (cwV 1 hts gX1_moveFrom_X1_reach rfl rfl rfl (by decide +kernel) ⟨Nat.le_of_ble_eq_true rfl, Nat.le_of_ble_eq_true rfl⟩) ⟨cPre_blind, va_recv hK hP (ci := 1) (q0 := 14) rfl rfl, cPre_at hP hK hN hD hS hA hZ⟩ rfl rfl hl.1 rfl (lv_room (Nat.le_of_ble_eq_true rfl)) dX1_moveFrom_93 ⟨Nat.le_of_ble_eq_true rfl, Nat.le_of_ble_eq_true rfl⟩) hD hS hA (fun H locs hP hD hS => ?_)
          refine lv_aload_n hx hb dX1_moveFrom_96 rfl (lv_at hl 4 rfl) ?_
          refine lv_iload_n hx hb dX1_moveFrom_97 rfl (lv_at hl 2 rfl) ?_
          refine lv_iload_n hx hb dX1_moveFrom_98 rfl (lv_at hl 3 rfl) ?_
          refine lv_aload_n hx hb dX1_moveFrom_99 rfl (lv_at hl 4 rfl) ?_
          refine va_get (D := D) (ci := 1) (v := .ref (q 20)) (C := RX1) (T := TX1) (N := 13) hx hb hts wiX1_moveFrom_X1 hown hK hP 14 rfl rfl 7 (by decide) (hts _ wmX1_moveFrom_5) (fun _ h9 => h9) rfl dX1_moveFrom_100 ?_
          refine lv_iload hx hb dX1_moveFrom_103 (lv_at hl 1 rfl) ?_
          obtain ⟨i29, h⟩ := ck_some h
          refine va_iald hx hb hK hP 20 0 rfl rfl i29 dX1_moveFrom_105 ?_
          refine lv_iand hx hb dX1_moveFrom_106 ?_
          refine lv_ior hx hb dX1_moveFrom_107 ?_
          refine lv_bipush (v := (8 : Int32)) hx hb dX1_moveFrom_108 (by decide) ?_
          refine lv_ishl hx hb dX1_moveFrom_110 ?_
          refine lv_iload hx hb dX1_moveFrom_111 (lv_at hl 0 rfl) ?_
          refine lv_ior hx hb dX1_moveFrom_113 ?_
          obtain ⟨u30, e31, h⟩ := bd_some h
          refine k_v (va_runV (As := [.int (((u3 ||| (u1 &&& (vlb v6.toNatClampNeg))) <<< ((8 : Int32) &&& 31)) ||| (u1 &&& (((vla v6.toNatClampNeg) ||| (vlb v6.toNatClampNeg)) ^^^ (-1 : Int32))))]) (rest := []) ⟨hx, hb, hml, hown, hts⟩ (kX1_reach l D q cI cJ cZ tP H.size vnum vsz vfr u27.1 vli va vb vc ve vth vrk u27.2.1 vkx vky vkz u27.2.2.1 u27.2.2.2 vro vwi vla vlb vtu k0x k0y k0z k1x k1y k1z k2x k2y k2z k3x k3y k3z (((u3 ||| (u1 &&& (vlb v6.toNatClampNeg))) <<< ((8 : Int32) &&& 31)) ||| (u1 &&& (((vla v6.toNatClampNeg) ||| (vlb v6.toNatClampNeg)) ^^^ (-1 : Int32)))) u30 e31) (cwV 1 hts gX1_moveFrom_X1_reach rfl rfl rfl (by decide +kernel) ⟨Nat.le_of_ble_eq_true rfl, Nat.le_of_ble_eq_true rfl⟩) ⟨cPre_blind, va_recv hK hP (ci := 1) (q0 := 14) rfl rfl, cPre_at hP hK hN hD hS hA hZ⟩ rfl rfl hl.1 rfl (lv_room (Nat.le_of_ble_eq_true rfl)) dX1_moveFrom_114 ⟨Nat.le_of_ble_eq_true rfl, Nat.le_of_ble_eq_true rfl⟩) hD hS hA (fun H locs hP hD hS => ?_)
          refine lv_iload hx hb dX1_moveFrom_117 (lv_at hl 0 rfl) ?_
          refine lv_if_ne (tgt := 123) hx hb dX1_moveFrom_119 (by decide) (fun c32 => ?_) (fun c32 => ?_)
          · have h := (if_neg c32).symm.trans h
            refine lv_iinc (v := (v6 + (1 : Int32))) (lv' := [(4, .int (v6 + (1 : Int32))), (5, .int (u1 &&& (((vla v6.toNatClampNeg) ||| (vlb v6.toNatClampNeg)) ^^^ (-1 : Int32)))), (3, .int u3), (2, .int u1), (0, .ref (q 14)), (1, .int p1)]) hx hb dX1_moveFrom_123 hl (k := 1) rfl rfl (by decide) rfl (fun ls hl => ?_)
            refine lv_goto (tgt := 18) hx hb dX1_moveFrom_126 (by decide) ?_
            exact ih18 _ _ _ _ (Option.some.inj h).symm ⟨hP, hD, hS, lv_sub hl [0, 2, 3, 4, 5] rfl⟩
          · have h := (if_pos c32).symm.trans h
            have hu := KR14 _ (hR17 _ (Option.some.inj h).symm)
            subst hu
            exact W.vret hx hb hr (fun t ht hW => ⟨⟨(), rfl, trivial, by rw [ht]; exact hP, hD⟩, hS.F ht⟩) hS.2.2 dX1_moveFrom_122
        · have h := (if_neg c25).symm.trans h
          refine lv_goto (tgt := 123) hx hb dX1_moveFrom_72 (by decide) ?_
          refine lv_iinc (v := (v6 + (1 : Int32))) (lv' := [(4, .int (v6 + (1 : Int32))), (5, .int (u1 &&& (((vla v6.toNatClampNeg) ||| (vlb v6.toNatClampNeg)) ^^^ (-1 : Int32)))), (3, .int u3), (2, .int u1), (0, .ref (q 14)), (1, .int p1)]) hx hb dX1_moveFrom_123 hl (k := 1) rfl rfl (by decide) rfl (fun ls hl => ?_)
          refine lv_goto (tgt := 18) hx hb dX1_moveFrom_126 (by decide) ?_
          exact ih18 _ _ _ _ (Option.some.inj h).symm ⟨hP, hD, hS, lv_sub hl [0, 2, 3, 4, 5] rfl⟩
  · have h := (if_pos c5).symm.trans h
    obtain rfl := Option.some.inj h
    exact W.vret hx hb hr (fun t ht hW => ⟨⟨(), rfl, trivial, by rw [ht]; exact hP, hD⟩, hS.F ht⟩) hS.2.2 dX1_moveFrom_14

-- X1_sortRows
theorem wmX1_sortRows_0 : (.fieldLink RX1 51 "SpaceWalls$Cut" "found" "I" : Cond) ∈ wsX1_sortRows := by decide +kernel
theorem wmX1_sortRows_1 : (.fieldLink RX1 18 "SpaceWalls$Cut" "rows" "[I" : Cond) ∈ wsX1_sortRows := by decide +kernel
theorem wmX1_sortRows_2 : (.fieldLink RX1 21 "SpaceWalls$Cut" "widths" "[I" : Cond) ∈ wsX1_sortRows := by decide +kernel
theorem wmX1_sortRows_3 : (.fieldLink RX1 43 "SpaceWalls$Cut" "planes" "LSpaceWalls$Planes;" : Cond) ∈ wsX1_sortRows := by decide +kernel
theorem wmX1_sortRows_4 : (.fieldLink RX1 47 "SpaceWalls$Cut" "heaps" "LSpaceWalls$Heaps;" : Cond) ∈ wsX1_sortRows := by decide +kernel
theorem wmX1_sortRows_5 : (.initialized RX5 : Cond) ∈ wsX1_sortRows := by decide +kernel
theorem wmX1_sortRows_6 : (.static yX5_maskOf : Cond) ∈ wsX1_sortRows := by decide +kernel
theorem wiX1_sortRows_X1 : ∀ w ∈ u_ws RX1 TX1 13, w ∈ wsX1_sortRows := by decide +kernel
theorem wiX1_sortRows_X3 : ∀ w ∈ u_ws RX3 TX3 7, w ∈ wsX1_sortRows := by decide +kernel
theorem wiX1_sortRows_X2 : ∀ w ∈ u_ws RX2 TX2 7, w ∈ wsX1_sortRows := by decide +kernel
set_option maxHeartbeats 8000000 in
set_option maxRecDepth 100000 in
theorem kX1_sortRows (l : Launch) (D : va_G) (q : Nat → Nat) (cI cJ cZ : ClassId) (tP sz : Nat) (vnum : Int32) (vsz : Int32) (vfr : Int32) (vfo : Int32) (vli : Int32) (va : (Nat → Int32)) (vb : (Nat → Int32)) (vc : (Nat → Int32)) (ve : (Nat → Int32)) (vth : (Nat → Int32)) (vrk : (Nat → Int32)) (vcm : (Nat → Int32)) (vkx : (Nat → Int32)) (vky : (Nat → Int32)) (vkz : (Nat → Int32)) (vmk : (Nat → Int32)) (vre : (Nat → Int32)) (vro : (Nat → Int32)) (vwi : (Nat → Int32)) (vla : (Nat → Int32)) (vlb : (Nat → Int32)) (vtu : (Nat → Int32)) (k0x : Int32) (k0y : Int32) (k0z : Int32) (k1x : Int32) (k1y : Int32) (k1z : Int32) (k2x : Int32) (k2y : Int32) (k2z : Int32) (k3x : Int32) (k3y : Int32) (k3z : Int32)  (uu : ((Nat → Int32) × (Nat → Int32))) (h : fX1_sortRows vnum vfo vrk vmk vro vwi = some uu) : Met l yX1_sortRows wsX1_sortRows ({ frames := 1, cells := 0, slots := 0, locals := 24 }) (cPre D cI cJ cZ tP (WC_ q cI cZ vnum vsz vfr vfo vli va vb vc ve vth vrk vcm vkx vky vkz vmk vre vro vwi vla vlb vtu k0x k0y k0z k1x k1y k1z k2x k2y k2z k3x k3y k3z) sz [.ref (q 14)]) (cQv D (va_A (WC_ q cI cZ vnum vsz vfr vfo vli va vb vc ve vth vrk vcm vkx vky vkz vmk vre vro vwi vla vlb vtu k0x k0y k0z k1x k1y k1z k2x k2y k2z k3x k3y k3z) sz) (WC_ q cI cZ vnum vsz vfr vfo vli va vb vc ve vth vrk vcm vkx vky vkz vmk vre uu.1 uu.2 vla vlb vtu k0x k0y k0z k1x k1y k1z k2x k2y k2z k3x k3y k3z)) 0 0 (va_A (WC_ q cI cZ vnum vsz vfr vfo vli va vb vc ve vth vrk vcm vkx vky vkz vmk vre vro vwi vla vlb vtu k0x k0y k0z k1x k1y k1z k2x k2y k2z k3x k3y k3z) sz) := by
  refine Met.ofW (cc := cX1_sortRows) (maxL := 3) (ret := none) (by decide) rfl ?_
  intro p e s m args below meth c s₁ B hml hv
  obtain ⟨rfl, hsz, hP, hK, hN, hD0, hZ⟩ := hv
  have hx := B.exec
  have hb := B.bytes
  have hr := B.returns
  have hts := atoms_spec (ws := wsX1_sortRows) B.pre
  have hown : s.vm.findClass RX1 = some m.cls := findClass_of_methodNamed B.named
  have hlocks := B.notSynchronized
  subst hsz
  have hD := hD0.self (sz := s.heap.size)
  generalize hAe : va_A (WC_ q cI cZ vnum vsz vfr vfo vli va vb vc ve vth vrk vcm vkx vky vkz vmk vre vro vwi vla vlb vtu k0x k0y k0z k1x k1y k1z k2x k2y k2z k3x k3y k3z) s.heap.size = A at hD hZ ⊢
  have hA : ∀ q : Nat, s.heap.size ≤ q → A q := fun q h => by rw [← hAe]; exact Or.inr h
  have hS : va_S A s.heap s.heap [] := va_S.rf
  have hl := lv_entry ([.ref (q 14)]) (n := 3) (Nat.le_of_ble_eq_true rfl)
  rw [lg_entry_eq]
  generalize (lg_sl ([.ref (q 14)]) ++ List.replicate (3 - (lg_sl ([.ref (q 14)])).length) Slot.unset).toArray = ls at hl ⊢
  have hl : lv_has ls 3 [(0, .ref (q 14))] := hl
  unfold fX1_sortRows at h
  refine lv_iconst (v := (0 : Int32)) hx hb dX1_sortRows_0 (by decide) ?_
  refine lv_istore_n (lv' := [(1, .int (0 : Int32)), (0, .ref (q 14))]) hx hb dX1_sortRows_1 rfl hl (by decide) rfl (fun ls hl => ?_)
  refine lv_iconst (v := (0 : Int32)) hx hb dX1_sortRows_2 (by decide) ?_
  refine lv_istore_n (lv' := [(2, .int (0 : Int32)), (1, .int (0 : Int32)), (0, .ref (q 14))]) hx hb dX1_sortRows_3 rfl hl (by decide) rfl (fun ls hl => ?_)
  obtain ⟨u5, e6, h⟩ := bd_some h
  refine W_leave (P := fun (y : (Int32 × Int32 × (Nat → Int32) × (Nat → Int32))) H locs ls => u5 = y ∧ va_P D vwCl (WC_ q cI cZ vnum vsz vfr vfo vli va vb vc ve vth vrk vcm vkx vky vkz vmk vre y.2.2.1 y.2.2.2 vla vlb vtu k0x k0y k0z k1x k1y k1z k2x k2y k2z k3x k3y k3z) H ∧ va_D A (WC_ q cI cZ vnum vsz vfr vfo vli va vb vc ve vth vrk vcm vkx vky vkz vmk vre y.2.2.1 y.2.2.2 vla vlb vtu k0x k0y k0z k1x k1y k1z k2x k2y k2z k3x k3y k3z) ∧ va_S A s.heap H locs ∧ lv_has ls 3 [(2, .int y.1), (1, .int y.2.1), (0, .ref (q 14))]) (g := fun ls => F0 m 70 ls []) ?_ ?_
  · intro y H locs ls hq
    obtain ⟨hy, hP, hD, hS, hl⟩ := hq
    subst hy
    have hl : lv_has ls 3 [(2, .int u5.1), (1, .int u5.2.1), (0, .ref (q 14))] := hl
    obtain rfl := Option.some.inj h
    exact W.vret hx hb hr (fun t ht hW => ⟨⟨(), rfl, trivial, by rw [ht]; exact hP, hD⟩, hS.F ht⟩) hS.2.2 dX1_sortRows_70
  · intro K7
    refine W_lp (body := (fun (st : (Int32 × Int32 × (Nat → Int32) × (Nat → Int32))) => fX1_sortRows_L4 vfo vmk vnum vrk st.1 st.2.1 st.2.2.1 st.2.2.2)) (P := fun (st : (Int32 × Int32 × (Nat → Int32) × (Nat → Int32))) H locs ls => va_P D vwCl (WC_ q cI cZ vnum vsz vfr vfo vli va vb vc ve vth vrk vcm vkx vky vkz vmk vre st.2.2.1 st.2.2.2 vla vlb vtu k0x k0y k0z k1x k1y k1z k2x k2y k2z k3x k3y k3z) H ∧ va_D A (WC_ q cI cZ vnum vsz vfr vfo vli va vb vc ve vth vrk vcm vkx vky vkz vmk vre st.2.2.1 st.2.2.2 vla vlb vtu k0x k0y k0z k1x k1y k1z k2x k2y k2z k3x k3y k3z) ∧ va_S A s.heap H locs ∧ lv_has ls 3 [(2, .int st.1), (1, .int st.2.1), (0, .ref (q 14))]) (g := fun _ ls => F0 m 4 ls []) (r := u5) ?_ fu_ ((0 : Int32), (0 : Int32), vro, vwi) _ _ _ e6 ⟨hP, hD, hS, lv_sub hl [0, 1, 2] rfl⟩
    intro st xx11 H locs ls h hq ih10 hR9
    obtain ⟨hP, hD, hS, hl⟩ := hq
    obtain ⟨v1, v2, v3, v4⟩ := st
    have hP : va_P D vwCl (WC_ q cI cZ vnum vsz vfr vfo vli va vb vc ve vth vrk vcm vkx vky vkz vmk vre v3 v4 vla vlb vtu k0x k0y k0z k1x k1y k1z k2x k2y k2z k3x k3y k3z) H := hP
    have hD : va_D A (WC_ q cI cZ vnum vsz vfr vfo vli va vb vc ve vth vrk vcm vkx vky vkz vmk vre v3 v4 vla vlb vtu k0x k0y k0z k1x k1y k1z k2x k2y k2z k3x k3y k3z) := hD
    have hl : lv_has ls 3 [(2, .int v1), (1, .int v2), (0, .ref (q 14))] := hl
    have h : fX1_sortRows_L4 vfo vmk vnum vrk v1 v2 v3 v4 = some xx11 := h
    unfold fX1_sortRows_L4 at h
    refine lv_iload_n hx hb dX1_sortRows_4 rfl (lv_at hl 0 rfl) ?_
    refine lv_sipush (v := (6561 : Int32)) hx hb dX1_sortRows_5 (by decide) ?_
    refine lv_icmp_ge (tgt := 70) hx hb dX1_sortRows_8 (by decide) (fun c12 => ?_) (fun c12 => ?_)
    · have h := (if_pos c12).symm.trans h
      exact K7 _ _ _ _ ⟨(hR9 _ (Option.some.inj h).symm).symm, hP, hD, hS, lv_sub hl [0, 1, 2] rfl⟩
    · have h := (if_neg c12).symm.trans h
      refine lv_iload_n hx hb dX1_sortRows_11 rfl (lv_at hl 1 rfl) ?_
      refine lv_aload_n hx hb dX1_sortRows_12 rfl (lv_at hl 2 rfl) ?_
      refine va_get (D := D) (ci := 1) (v := .int vfo) (C := RX1) (T := TX1) (N := 13) hx hb hts wiX1_sortRows_X1 hown hK hP 14 rfl rfl 11 (by decide) (hts _ wmX1_sortRows_0) (fun _ h9 => h9) rfl dX1_sortRows_13 ?_
      refine lv_icmp_ge (tgt := 70) hx hb dX1_sortRows_16 (by decide) (fun c13 => ?_) (fun c13 => ?_)
      · have h := (if_pos c13).symm.trans h
        exact K7 _ _ _ _ ⟨(hR9 _ (Option.some.inj h).symm).symm, hP, hD, hS, lv_sub hl [0, 1, 2] rfl⟩
      · have h := (if_neg c13).symm.trans h
        refine lv_aload_n hx hb dX1_sortRows_19 rfl (lv_at hl 2 rfl) ?_
        refine lv_iload_n hx hb dX1_sortRows_20 rfl (lv_at hl 0 rfl) ?_
        obtain ⟨u14, e15, h⟩ := bd_some h
        refine k_i (va_runV (As := [.int v1]) (rest := []) ⟨hx, hb, hml, hown, hts⟩ (kX1_isMarked l D q cI cJ cZ tP H.size vnum vsz vfr vfo vli va vb vc ve vth vrk vcm vkx vky vkz vmk vre v3 v4 vla vlb vtu k0x k0y k0z k1x k1y k1z k2x k2y k2z k3x k3y k3z v1 u14 e15) (cwV 1 hts gX1_sortRows_X1_isMarked rfl rfl rfl (by decide +kernel) ⟨Nat.le_of_ble_eq_true rfl, Nat.le_of_ble_eq_true rfl⟩) ⟨cPre_blind, va_recv hK hP (ci := 1) (q0 := 14) rfl rfl, cPre_at hP hK hN hD hS hA hZ⟩ rfl rfl hl.1 rfl (lv_room (Nat.le_of_ble_eq_true rfl)) dX1_sortRows_21 ⟨Nat.le_of_ble_eq_true rfl, Nat.le_of_ble_eq_true rfl⟩) hD hS hA (fun H locs hP hD hS => ?_)
        refine lv_if_eq (tgt := 64) hx hb dX1_sortRows_24 (by decide) (fun c16 => ?_) (fun c16 => ?_)
        · have h := (if_pos c16).symm.trans h
          refine lv_iinc (v := (v1 + (1 : Int32))) (lv' := [(2, .int (v1 + (1 : Int32))), (1, .int v2), (0, .ref (q 14))]) hx hb dX1_sortRows_64 hl (k := 0) rfl rfl (by decide) rfl (fun ls hl => ?_)
          refine lv_goto (tgt := 4) hx hb dX1_sortRows_67 (by decide) ?_
          exact ih10 _ _ _ _ (Option.some.inj h).symm ⟨hP, hD, hS, lv_sub hl [0, 1, 2] rfl⟩
        · have h := (if_neg c16).symm.trans h
          refine lv_aload_n hx hb dX1_sortRows_27 rfl (lv_at hl 2 rfl) ?_
          refine va_get (D := D) (ci := 1) (v := .ref (q 17)) (C := RX1) (T := TX1) (N := 13) hx hb hts wiX1_sortRows_X1 hown hK hP 14 rfl rfl 4 (by decide) (hts _ wmX1_sortRows_1) (fun _ h9 => h9) rfl dX1_sortRows_28 ?_
          refine lv_iload_n hx hb dX1_sortRows_31 rfl (lv_at hl 1 rfl) ?_
          refine lv_iload_n hx hb dX1_sortRows_32 rfl (lv_at hl 0 rfl) ?_
          obtain ⟨i17, h⟩ := ck_some h
          refine va_iast hx hb hK hP hD hS 17 0 rfl rfl i17 dX1_sortRows_33 (fun H locs hP hD hS => ?_)
          have hP : va_P D vwCl (WC_ q cI cZ vnum vsz vfr vfo vli va vb vc ve vth vrk vcm vkx vky vkz vmk vre (upd v3 v2.toNatClampNeg v1) v4 vla vlb vtu k0x k0y k0z k1x k1y k1z k2x k2y k2z k3x k3y k3z) H := hP
          have hD : va_D A (WC_ q cI cZ vnum vsz vfr vfo vli va vb vc ve vth vrk vcm vkx vky vkz vmk vre (upd v3 v2.toNatClampNeg v1) v4 vla vlb vtu k0x k0y k0z k1x k1y k1z k2x k2y k2z k3x k3y k3z) := hD
          refine lv_aload_n hx hb dX1_sortRows_34 rfl (lv_at hl 2 rfl) ?_
          refine va_get (D := D) (ci := 1) (v := .ref (q 18)) (C := RX1) (T := TX1) (N := 13) hx hb hts wiX1_sortRows_X1 hown hK hP 14 rfl rfl 5 (by decide) (hts _ wmX1_sortRows_2) (fun _ h9 => h9) rfl dX1_sortRows_35 ?_
          refine lv_iload_n hx hb dX1_sortRows_38 rfl (lv_at hl 1 rfl) ?_
          refine lv_aload_n hx hb dX1_sortRows_39 rfl (lv_at hl 2 rfl) ?_
          refine va_get (D := D) (ci := 1) (v := .ref (q 1)) (C := RX1) (T := TX1) (N := 13) hx hb hts wiX1_sortRows_X1 hown hK hP 14 rfl rfl 0 (by decide) (hts _ wmX1_sortRows_3) (fun _ h9 => h9) rfl dX1_sortRows_40 ?_
          refine va_getN (D := D) (ci := 3) (v := .int vnum) (C := RX3) (T := TX3) (N := 7) hx hb hts wiX1_sortRows_X3 hown hK hP 1 rfl rfl 0 (by decide) (NW_f hN 17 rfl) (fun _ h9 => h9) rfl dX1_sortRows_43 ?_
          refine lv_aload_n hx hb dX1_sortRows_46 rfl (lv_at hl 2 rfl) ?_
          refine va_get (D := D) (ci := 1) (v := .ref (q 7)) (C := RX1) (T := TX1) (N := 13) hx hb hts wiX1_sortRows_X1 hown hK hP 14 rfl rfl 1 (by decide) (hts _ wmX1_sortRows_4) (fun _ h9 => h9) rfl dX1_sortRows_47 ?_
          refine va_getN (D := D) (ci := 2) (v := .ref (q 8)) (C := RX2) (T := TX2) (N := 7) hx hb hts wiX1_sortRows_X2 hown hK hP 7 rfl rfl 1 (by decide) (NW_f hN 16 rfl) (fun _ h9 => h9) rfl dX1_sortRows_50 ?_
          refine lv_iload_n hx hb dX1_sortRows_53 rfl (lv_at hl 0 rfl) ?_
          refine lv_iconst (v := (1 : Int32)) hx hb dX1_sortRows_54 (by decide) ?_
          obtain ⟨u18, e19, h⟩ := bd_some h
          refine k_i0 (va_runSN (As := [.int v1, .int (1 : Int32)]) (rest := [.ref (q 8), .int vnum, .int v2, .ref (q 18)]) ⟨hx, hb, hml, hown, hts⟩ (kX5_maskOf l D cI cJ cZ tP H.size  v1 (1 : Int32) u18 e19) ⟨va_cnB 2 hts gX1_sortRows_X5_maskOf_n159 rfl rfl rfl (NW_m hN 2 rfl) (hts _ wmX1_sortRows_5) (by decide +kernel) ⟨Nat.le_of_ble_eq_true rfl, Nat.le_of_ble_eq_true rfl⟩, (hts _ wmX1_sortRows_6), trivial⟩ ⟨cPre_blind, cPre_at0 hK hN hS hA hZ⟩ rfl rfl hl.1 rfl (lv_room (Nat.le_of_ble_eq_true rfl)) dX1_sortRows_55 ⟨Nat.le_of_ble_eq_true rfl, Nat.le_of_ble_eq_true rfl⟩) hP hS hA (fun H locs hP hS => ?_)
          obtain ⟨i20, h⟩ := ck_some h
          refine va_iald hx hb hK hP 8 0 rfl rfl i20 dX1_sortRows_58 ?_
          refine lv_isub hx hb dX1_sortRows_59 ?_
          obtain ⟨i21, h⟩ := ck_some h
          refine va_iast hx hb hK hP hD hS 18 0 rfl rfl i21 dX1_sortRows_60 (fun H locs hP hD hS => ?_)
          have hP : va_P D vwCl (WC_ q cI cZ vnum vsz vfr vfo vli va vb vc ve vth vrk vcm vkx vky vkz vmk vre (upd v3 v2.toNatClampNeg v1) (upd v4 v2.toNatClampNeg (vnum - (vrk u18.toNatClampNeg))) vla vlb vtu k0x k0y k0z k1x k1y k1z k2x k2y k2z k3x k3y k3z) H := hP
          have hD : va_D A (WC_ q cI cZ vnum vsz vfr vfo vli va vb vc ve vth vrk vcm vkx vky vkz vmk vre (upd v3 v2.toNatClampNeg v1) (upd v4 v2.toNatClampNeg (vnum - (vrk u18.toNatClampNeg))) vla vlb vtu k0x k0y k0z k1x k1y k1z k2x k2y k2z k3x k3y k3z) := hD
          refine lv_iinc (v := (v2 + (1 : Int32))) (lv' := [(1, .int (v2 + (1 : Int32))), (2, .int v1), (0, .ref (q 14))]) hx hb dX1_sortRows_61 hl (k := 1) rfl rfl (by decide) rfl (fun ls hl => ?_)
          refine lv_iinc (v := (v1 + (1 : Int32))) (lv' := [(2, .int (v1 + (1 : Int32))), (1, .int (v2 + (1 : Int32))), (0, .ref (q 14))]) hx hb dX1_sortRows_64 hl (k := 1) rfl rfl (by decide) rfl (fun ls hl => ?_)
          refine lv_goto (tgt := 4) hx hb dX1_sortRows_67 (by decide) ?_
          exact ih10 _ _ _ _ (Option.some.inj h).symm ⟨hP, hD, hS, lv_sub hl [0, 1, 2] rfl⟩

-- X1_cutAnew
theorem wmX1_cutAnew_0 : (.fieldLink RX1 9 "SpaceWalls$Cut" "marks" "[I" : Cond) ∈ wsX1_cutAnew := by decide +kernel
theorem wmX1_cutAnew_1 : (.fieldLink RX1 51 "SpaceWalls$Cut" "found" "I" : Cond) ∈ wsX1_cutAnew := by decide +kernel
theorem wmX1_cutAnew_2 : (.fieldLink RX1 55 "SpaceWalls$Cut" "lines" "I" : Cond) ∈ wsX1_cutAnew := by decide +kernel
theorem wmX1_cutAnew_3 : (.fieldLink RX1 47 "SpaceWalls$Cut" "heaps" "LSpaceWalls$Heaps;" : Cond) ∈ wsX1_cutAnew := by decide +kernel
theorem wmX1_cutAnew_4 : (.fieldLink RX1 15 "SpaceWalls$Cut" "reached" "[I" : Cond) ∈ wsX1_cutAnew := by decide +kernel
theorem wiX1_cutAnew_X1 : ∀ w ∈ u_ws RX1 TX1 13, w ∈ wsX1_cutAnew := by decide +kernel
set_option maxHeartbeats 8000000 in
set_option maxRecDepth 100000 in
theorem kX1_cutAnew (l : Launch) (D : va_G) (q : Nat → Nat) (cI cJ cZ : ClassId) (tP sz : Nat) (vnum : Int32) (vsz : Int32) (vfr : Int32) (vfo : Int32) (vli : Int32) (va : (Nat → Int32)) (vb : (Nat → Int32)) (vc : (Nat → Int32)) (ve : (Nat → Int32)) (vth : (Nat → Int32)) (vrk : (Nat → Int32)) (vcm : (Nat → Int32)) (vkx : (Nat → Int32)) (vky : (Nat → Int32)) (vkz : (Nat → Int32)) (vmk : (Nat → Int32)) (vre : (Nat → Int32)) (vro : (Nat → Int32)) (vwi : (Nat → Int32)) (vla : (Nat → Int32)) (vlb : (Nat → Int32)) (vtu : (Nat → Int32)) (k0x : Int32) (k0y : Int32) (k0z : Int32) (k1x : Int32) (k1y : Int32) (k1z : Int32) (k2x : Int32) (k2y : Int32) (k2z : Int32) (k3x : Int32) (k3y : Int32) (k3z : Int32)  (uu : (Int32 × Int32 × (Nat → Int32) × (Nat → Int32) × (Nat → Int32) × (Nat → Int32) × (Nat → Int32) × (Nat → Int32) × (Nat → Int32) × (Nat → Int32) × (Nat → Int32) × (Nat → Int32) × (Nat → Int32) × Int32 × Int32 × Int32 × Int32 × Int32 × Int32 × Int32 × Int32 × Int32 × Int32 × Int32 × Int32)) (h : fX1_cutAnew vnum vsz va vb vc ve vth vrk vcm vkx vky vkz vmk vre vro vwi vla vlb k0x k0y k0z k1x k1y k1z k2x k2y k2z k3x k3y k3z = some uu) : Met l yX1_cutAnew wsX1_cutAnew ({ frames := 5, cells := 0, slots := 0, locals := 126 }) (cPre D cI cJ cZ tP (WC_ q cI cZ vnum vsz vfr vfo vli va vb vc ve vth vrk vcm vkx vky vkz vmk vre vro vwi vla vlb vtu k0x k0y k0z k1x k1y k1z k2x k2y k2z k3x k3y k3z) sz [.ref (q 14)]) (cQv D (va_A (WC_ q cI cZ vnum vsz vfr vfo vli va vb vc ve vth vrk vcm vkx vky vkz vmk vre vro vwi vla vlb vtu k0x k0y k0z k1x k1y k1z k2x k2y k2z k3x k3y k3z) sz) (WC_ q cI cZ vnum vsz vfr uu.1 uu.2.1 va vb vc ve vth uu.2.2.1 uu.2.2.2.1 uu.2.2.2.2.1 uu.2.2.2.2.2.1 uu.2.2.2.2.2.2.1 uu.2.2.2.2.2.2.2.1 uu.2.2.2.2.2.2.2.2.1 uu.2.2.2.2.2.2.2.2.2.1 uu.2.2.2.2.2.2.2.2.2.2.1 uu.2.2.2.2.2.2.2.2.2.2.2.1 uu.2.2.2.2.2.2.2.2.2.2.2.2.1 vtu uu.2.2.2.2.2.2.2.2.2.2.2.2.2.1 uu.2.2.2.2.2.2.2.2.2.2.2.2.2.2.1 uu.2.2.2.2.2.2.2.2.2.2.2.2.2.2.2.1 uu.2.2.2.2.2.2.2.2.2.2.2.2.2.2.2.2.1 uu.2.2.2.2.2.2.2.2.2.2.2.2.2.2.2.2.2.1 uu.2.2.2.2.2.2.2.2.2.2.2.2.2.2.2.2.2.2.1 uu.2.2.2.2.2.2.2.2.2.2.2.2.2.2.2.2.2.2.2.1 uu.2.2.2.2.2.2.2.2.2.2.2.2.2.2.2.2.2.2.2.2.1 uu.2.2.2.2.2.2.2.2.2.2.2.2.2.2.2.2.2.2.2.2.2.1 uu.2.2.2.2.2.2.2.2.2.2.2.2.2.2.2.2.2.2.2.2.2.2.1 uu.2.2.2.2.2.2.2.2.2.2.2.2.2.2.2.2.2.2.2.2.2.2.2.1 uu.2.2.2.2.2.2.2.2.2.2.2.2.2.2.2.2.2.2.2.2.2.2.2.2)) 0 0 (va_A (WC_ q cI cZ vnum vsz vfr vfo vli va vb vc ve vth vrk vcm vkx vky vkz vmk vre vro vwi vla vlb vtu k0x k0y k0z k1x k1y k1z k2x k2y k2z k3x k3y k3z) sz) := by
  refine Met.ofW (cc := cX1_cutAnew) (maxL := 2) (ret := none) (by decide) rfl ?_
  intro p e s m args below meth c s₁ B hml hv
  obtain ⟨rfl, hsz, hP, hK, hN, hD0, hZ⟩ := hv
  have hx := B.exec
  have hb := B.bytes
  have hr := B.returns
  have hts := atoms_spec (ws := wsX1_cutAnew) B.pre
  have hown : s.vm.findClass RX1 = some m.cls := findClass_of_methodNamed B.named
  have hlocks := B.notSynchronized
  subst hsz
  have hD := hD0.self (sz := s.heap.size)
  generalize hAe : va_A (WC_ q cI cZ vnum vsz vfr vfo vli va vb vc ve vth vrk vcm vkx vky vkz vmk vre vro vwi vla vlb vtu k0x k0y k0z k1x k1y k1z k2x k2y k2z k3x k3y k3z) s.heap.size = A at hD hZ ⊢
  have hA : ∀ q : Nat, s.heap.size ≤ q → A q := fun q h => by rw [← hAe]; exact Or.inr h
  have hS : va_S A s.heap s.heap [] := va_S.rf
  have hl := lv_entry ([.ref (q 14)]) (n := 2) (Nat.le_of_ble_eq_true rfl)
  rw [lg_entry_eq]
  generalize (lg_sl ([.ref (q 14)]) ++ List.replicate (2 - (lg_sl ([.ref (q 14)])).length) Slot.unset).toArray = ls at hl ⊢
  have hl : lv_has ls 2 [(0, .ref (q 14))] := hl
  unfold fX1_cutAnew at h
  refine lv_aload_n hx hb dX1_cutAnew_0 rfl (lv_at hl 0 rfl) ?_
  refine va_get (D := D) (ci := 1) (v := .ref (q 15)) (C := RX1) (T := TX1) (N := 13) hx hb hts wiX1_cutAnew_X1 hown hK hP 14 rfl rfl 2 (by decide) (hts _ wmX1_cutAnew_0) (fun _ h9 => h9) rfl dX1_cutAnew_1 ?_
  refine lv_iconst (v := (0 : Int32)) hx hb dX1_cutAnew_4 (by decide) ?_
  obtain ⟨u1, e2, h⟩ := bd_some h
  refine k_v (va_runS (As := [.ref (q 15), .int (0 : Int32)]) (rest := []) ⟨hx, hb, hml, hown, hts⟩ (kJ7_fill_53178 l D q cI cJ cZ tP s.heap.size vnum vsz vfr vfo vli va vb vc ve vth vrk vcm vkx vky vkz vmk vre vro vwi vla vlb vtu k0x k0y k0z k1x k1y k1z k2x k2y k2z k3x k3y k3z (0 : Int32) u1 e2) (va_cwS 2 hts gX1_cutAnew_J7_fill_53178 rfl rfl rfl (by decide +kernel) ⟨Nat.le_of_ble_eq_true rfl, Nat.le_of_ble_eq_true rfl⟩) ⟨cPre_blind, cPre_at hP hK hN hD hS hA hZ⟩ rfl rfl hl.1 rfl (lv_room (Nat.le_of_ble_eq_true rfl)) dX1_cutAnew_5 ⟨Nat.le_of_ble_eq_true rfl, Nat.le_of_ble_eq_true rfl⟩) hD hS hA (fun H locs hP hD hS => ?_)
  refine lv_aload_n hx hb dX1_cutAnew_8 rfl (lv_at hl 0 rfl) ?_
  refine lv_iconst (v := (0 : Int32)) hx hb dX1_cutAnew_9 (by decide) ?_
  refine va_put (D := D) (ci := 1) (v := .int (0 : Int32)) (ty := .int) (C := RX1) (T := TX1) (N := 13) hx hb hts wiX1_cutAnew_X1 tyX1 tyX1_ok nmX1 hown hK hP hD hS 14 rfl rfl 11 (by decide) (hts _ wmX1_cutAnew_1) (fun _ h9 => h9) rfl (by decide +kernel) rfl rfl (Nat.le_of_ble_eq_true rfl) dX1_cutAnew_10 (fun H locs hP hD hS => ?_)
  have hP : va_P D vwCl (WC_ q cI cZ vnum vsz vfr (0 : Int32) vli va vb vc ve vth vrk vcm vkx vky vkz u1 vre vro vwi vla vlb vtu k0x k0y k0z k1x k1y k1z k2x k2y k2z k3x k3y k3z) H := hP
  have hD : va_D A (WC_ q cI cZ vnum vsz vfr (0 : Int32) vli va vb vc ve vth vrk vcm vkx vky vkz u1 vre vro vwi vla vlb vtu k0x k0y k0z k1x k1y k1z k2x k2y k2z k3x k3y k3z) := hD
  refine lv_aload_n hx hb dX1_cutAnew_13 rfl (lv_at hl 0 rfl) ?_
  refine lv_iconst (v := (0 : Int32)) hx hb dX1_cutAnew_14 (by decide) ?_
  refine va_put (D := D) (ci := 1) (v := .int (0 : Int32)) (ty := .int) (C := RX1) (T := TX1) (N := 13) hx hb hts wiX1_cutAnew_X1 tyX1 tyX1_ok nmX1 hown hK hP hD hS 14 rfl rfl 12 (by decide) (hts _ wmX1_cutAnew_2) (fun _ h9 => h9) rfl (by decide +kernel) rfl rfl (Nat.le_of_ble_eq_true rfl) dX1_cutAnew_15 (fun H locs hP hD hS => ?_)
  have hP : va_P D vwCl (WC_ q cI cZ vnum vsz vfr (0 : Int32) (0 : Int32) va vb vc ve vth vrk vcm vkx vky vkz u1 vre vro vwi vla vlb vtu k0x k0y k0z k1x k1y k1z k2x k2y k2z k3x k3y k3z) H := hP
  have hD : va_D A (WC_ q cI cZ vnum vsz vfr (0 : Int32) (0 : Int32) va vb vc ve vth vrk vcm vkx vky vkz u1 vre vro vwi vla vlb vtu k0x k0y k0z k1x k1y k1z k2x k2y k2z k3x k3y k3z) := hD
  refine lv_aload_n hx hb dX1_cutAnew_18 rfl (lv_at hl 0 rfl) ?_
  refine va_get (D := D) (ci := 1) (v := .ref (q 7)) (C := RX1) (T := TX1) (N := 13) hx hb hts wiX1_cutAnew_X1 hown hK hP 14 rfl rfl 1 (by decide) (hts _ wmX1_cutAnew_3) (fun _ h9 => h9) rfl dX1_cutAnew_19 ?_
  obtain ⟨u3, e4, h⟩ := bd_some h
  refine k_v (va_runV (As := []) (rest := []) ⟨hx, hb, hml, hown, hts⟩ (kX2_forgetCommon l D q cI cJ cZ tP H.size vnum vsz vfr (0 : Int32) (0 : Int32) va vb vc ve vth vrk vcm vkx vky vkz u1 vre vro vwi vla vlb vtu k0x k0y k0z k1x k1y k1z k2x k2y k2z k3x k3y k3z  u3 e4) (cwV 0 hts gX1_cutAnew_X2_forgetCommon rfl rfl rfl (by decide +kernel) ⟨Nat.le_of_ble_eq_true rfl, Nat.le_of_ble_eq_true rfl⟩) ⟨cPre_blind, va_recv hK hP (ci := 2) (q0 := 7) rfl rfl, cPre_at hP hK hN hD hS hA hZ⟩ rfl rfl hl.1 rfl (lv_room (Nat.le_of_ble_eq_true rfl)) dX1_cutAnew_22 ⟨Nat.le_of_ble_eq_true rfl, Nat.le_of_ble_eq_true rfl⟩) hD hS hA (fun H locs hP hD hS => ?_)
  refine lv_aload_n hx hb dX1_cutAnew_25 rfl (lv_at hl 0 rfl) ?_
  refine va_get (D := D) (ci := 1) (v := .ref (q 7)) (C := RX1) (T := TX1) (N := 13) hx hb hts wiX1_cutAnew_X1 hown hK hP 14 rfl rfl 1 (by decide) (hts _ wmX1_cutAnew_3) (fun _ h9 => h9) rfl dX1_cutAnew_26 ?_
  obtain ⟨u5, e6, h⟩ := bd_some h
  refine k_v (va_runV (As := []) (rest := []) ⟨hx, hb, hml, hown, hts⟩ (kX2_rankAnew l D q cI cJ cZ tP H.size vnum vsz vfr (0 : Int32) (0 : Int32) va vb vc ve vth vrk u3 vkx vky vkz u1 vre vro vwi vla vlb vtu k0x k0y k0z k1x k1y k1z k2x k2y k2z k3x k3y k3z  u5 e6) (cwV 0 hts gX1_cutAnew_X2_rankAnew rfl rfl rfl (by decide +kernel) ⟨Nat.le_of_ble_eq_true rfl, Nat.le_of_ble_eq_true rfl⟩) ⟨cPre_blind, va_recv hK hP (ci := 2) (q0 := 7) rfl rfl, cPre_at hP hK hN hD hS hA hZ⟩ rfl rfl hl.1 rfl (lv_room (Nat.le_of_ble_eq_true rfl)) dX1_cutAnew_29 ⟨Nat.le_of_ble_eq_true rfl, Nat.le_of_ble_eq_true rfl⟩) hD hS hA (fun H locs hP hD hS => ?_)
  refine lv_aload_n hx hb dX1_cutAnew_32 rfl (lv_at hl 0 rfl) ?_
  obtain ⟨u7, e8, h⟩ := bd_some h
  refine k_v (va_runV (As := []) (rest := []) ⟨hx, hb, hml, hown, hts⟩ (kX1_crossPlanes l D q cI cJ cZ tP H.size vnum vsz vfr (0 : Int32) (0 : Int32) va vb vc ve vth u5.1 u3 u5.2.1 u5.2.2.1 u5.2.2.2.1 u1 vre vro vwi vla vlb vtu u5.2.2.2.2.1 u5.2.2.2.2.2.1 u5.2.2.2.2.2.2 k1x k1y k1z k2x k2y k2z k3x k3y k3z  u7 e8) (cwV 0 hts gX1_cutAnew_X1_crossPlanes rfl rfl rfl (by decide +kernel) ⟨Nat.le_of_ble_eq_true rfl, Nat.le_of_ble_eq_true rfl⟩) ⟨cPre_blind, va_recv hK hP (ci := 1) (q0 := 14) rfl rfl, cPre_at hP hK hN hD hS hA hZ⟩ rfl rfl hl.1 rfl (lv_room (Nat.le_of_ble_eq_true rfl)) dX1_cutAnew_33 ⟨Nat.le_of_ble_eq_true rfl, Nat.le_of_ble_eq_true rfl⟩) hD hS hA (fun H locs hP hD hS => ?_)
  refine lv_iconst (v := (0 : Int32)) hx hb dX1_cutAnew_36 (by decide) ?_
  refine lv_istore_n (lv' := [(1, .int (0 : Int32)), (0, .ref (q 14))]) hx hb dX1_cutAnew_37 rfl hl (by decide) rfl (fun ls hl => ?_)
  obtain ⟨u14, e15, h⟩ := bd_some h
  refine W_leave (P := fun (y : (Int32 × Int32 × (Nat → Int32) × (Nat → Int32) × (Nat → Int32))) H locs ls => u14 = y ∧ va_P D vwCl (WC_ q cI cZ vnum vsz vfr y.2.1 u7.2.1 va vb vc ve vth u5.1 y.2.2.1 u5.2.1 u5.2.2.1 u5.2.2.2.1 y.2.2.2.1 y.2.2.2.2 vro vwi u7.2.2.2.2.2.1 u7.2.2.2.2.2.2.1 vtu u5.2.2.2.2.1 u5.2.2.2.2.2.1 u5.2.2.2.2.2.2 u7.2.2.2.2.2.2.2.1 u7.2.2.2.2.2.2.2.2.1 u7.2.2.2.2.2.2.2.2.2.1 u7.2.2.2.2.2.2.2.2.2.2.1 u7.2.2.2.2.2.2.2.2.2.2.2.1 u7.2.2.2.2.2.2.2.2.2.2.2.2.1 u7.2.2.2.2.2.2.2.2.2.2.2.2.2.1 u7.2.2.2.2.2.2.2.2.2.2.2.2.2.2.1 u7.2.2.2.2.2.2.2.2.2.2.2.2.2.2.2) H ∧ va_D A (WC_ q cI cZ vnum vsz vfr y.2.1 u7.2.1 va vb vc ve vth u5.1 y.2.2.1 u5.2.1 u5.2.2.1 u5.2.2.2.1 y.2.2.2.1 y.2.2.2.2 vro vwi u7.2.2.2.2.2.1 u7.2.2.2.2.2.2.1 vtu u5.2.2.2.2.1 u5.2.2.2.2.2.1 u5.2.2.2.2.2.2 u7.2.2.2.2.2.2.2.1 u7.2.2.2.2.2.2.2.2.1 u7.2.2.2.2.2.2.2.2.2.1 u7.2.2.2.2.2.2.2.2.2.2.1 u7.2.2.2.2.2.2.2.2.2.2.2.1 u7.2.2.2.2.2.2.2.2.2.2.2.2.1 u7.2.2.2.2.2.2.2.2.2.2.2.2.2.1 u7.2.2.2.2.2.2.2.2.2.2.2.2.2.2.1 u7.2.2.2.2.2.2.2.2.2.2.2.2.2.2.2) ∧ va_S A s.heap H locs ∧ lv_has ls 2 [(1, .int y.1), (0, .ref (q 14))]) (g := fun ls => F0 m 69 ls []) ?_ ?_
  · intro y H locs ls hq
    obtain ⟨hy, hP, hD, hS, hl⟩ := hq
    subst hy
    have hl : lv_has ls 2 [(1, .int u14.1), (0, .ref (q 14))] := hl
    refine lv_aload_n hx hb dX1_cutAnew_69 rfl (lv_at hl 1 rfl) ?_
    obtain ⟨u18, e19, h⟩ := bd_some h
    refine k_v (va_runV (As := []) (rest := []) ⟨hx, hb, hml, hown, hts⟩ (kX1_sortRows l D q cI cJ cZ tP H.size vnum vsz vfr u14.2.1 u7.2.1 va vb vc ve vth u5.1 u14.2.2.1 u5.2.1 u5.2.2.1 u5.2.2.2.1 u14.2.2.2.1 u14.2.2.2.2 vro vwi u7.2.2.2.2.2.1 u7.2.2.2.2.2.2.1 vtu u5.2.2.2.2.1 u5.2.2.2.2.2.1 u5.2.2.2.2.2.2 u7.2.2.2.2.2.2.2.1 u7.2.2.2.2.2.2.2.2.1 u7.2.2.2.2.2.2.2.2.2.1 u7.2.2.2.2.2.2.2.2.2.2.1 u7.2.2.2.2.2.2.2.2.2.2.2.1 u7.2.2.2.2.2.2.2.2.2.2.2.2.1 u7.2.2.2.2.2.2.2.2.2.2.2.2.2.1 u7.2.2.2.2.2.2.2.2.2.2.2.2.2.2.1 u7.2.2.2.2.2.2.2.2.2.2.2.2.2.2.2  u18 e19) (cwV 0 hts gX1_cutAnew_X1_sortRows rfl rfl rfl (by decide +kernel) ⟨Nat.le_of_ble_eq_true rfl, Nat.le_of_ble_eq_true rfl⟩) ⟨cPre_blind, va_recv hK hP (ci := 1) (q0 := 14) rfl rfl, cPre_at hP hK hN hD hS hA hZ⟩ rfl rfl hl.1 rfl (lv_room (Nat.le_of_ble_eq_true rfl)) dX1_cutAnew_70 ⟨Nat.le_of_ble_eq_true rfl, Nat.le_of_ble_eq_true rfl⟩) hD hS hA (fun H locs hP hD hS => ?_)
    refine lv_aload_n hx hb dX1_cutAnew_73 rfl (lv_at hl 1 rfl) ?_
    refine va_get (D := D) (ci := 1) (v := .ref (q 7)) (C := RX1) (T := TX1) (N := 13) hx hb hts wiX1_cutAnew_X1 hown hK hP 14 rfl rfl 1 (by decide) (hts _ wmX1_cutAnew_3) (fun _ h9 => h9) rfl dX1_cutAnew_74 ?_
    obtain ⟨u20, e21, h⟩ := bd_some h
    refine k_v (va_runV (As := []) (rest := []) ⟨hx, hb, hml, hown, hts⟩ (kX2_shareDown l D q cI cJ cZ tP H.size vnum vsz vfr u14.2.1 u7.2.1 va vb vc ve vth u5.1 u14.2.2.1 u5.2.1 u5.2.2.1 u5.2.2.2.1 u14.2.2.2.1 u14.2.2.2.2 u18.1 u18.2 u7.2.2.2.2.2.1 u7.2.2.2.2.2.2.1 vtu u5.2.2.2.2.1 u5.2.2.2.2.2.1 u5.2.2.2.2.2.2 u7.2.2.2.2.2.2.2.1 u7.2.2.2.2.2.2.2.2.1 u7.2.2.2.2.2.2.2.2.2.1 u7.2.2.2.2.2.2.2.2.2.2.1 u7.2.2.2.2.2.2.2.2.2.2.2.1 u7.2.2.2.2.2.2.2.2.2.2.2.2.1 u7.2.2.2.2.2.2.2.2.2.2.2.2.2.1 u7.2.2.2.2.2.2.2.2.2.2.2.2.2.2.1 u7.2.2.2.2.2.2.2.2.2.2.2.2.2.2.2  u20 e21) (cwV 0 hts gX1_cutAnew_X2_shareDown rfl rfl rfl (by decide +kernel) ⟨Nat.le_of_ble_eq_true rfl, Nat.le_of_ble_eq_true rfl⟩) ⟨cPre_blind, va_recv hK hP (ci := 2) (q0 := 7) rfl rfl, cPre_at hP hK hN hD hS hA hZ⟩ rfl rfl hl.1 rfl (lv_room (Nat.le_of_ble_eq_true rfl)) dX1_cutAnew_77 ⟨Nat.le_of_ble_eq_true rfl, Nat.le_of_ble_eq_true rfl⟩) hD hS hA (fun H locs hP hD hS => ?_)
    obtain rfl := Option.some.inj h
    exact W.vret hx hb hr (fun t ht hW => ⟨⟨(), rfl, trivial, by rw [ht]; exact hP, hD⟩, hS.F ht⟩) hS.2.2 dX1_cutAnew_80
  · intro K16
    refine W_lp (body := (fun (st : (Int32 × Int32 × (Nat → Int32) × (Nat → Int32) × (Nat → Int32))) => fX1_cutAnew_L38 u7 vth u5 st.1 st.2.1 st.2.2.1 st.2.2.2.1 st.2.2.2.2)) (P := fun (st : (Int32 × Int32 × (Nat → Int32) × (Nat → Int32) × (Nat → Int32))) H locs ls => va_P D vwCl (WC_ q cI cZ vnum vsz vfr st.2.1 u7.2.1 va vb vc ve vth u5.1 st.2.2.1 u5.2.1 u5.2.2.1 u5.2.2.2.1 st.2.2.2.1 st.2.2.2.2 vro vwi u7.2.2.2.2.2.1 u7.2.2.2.2.2.2.1 vtu u5.2.2.2.2.1 u5.2.2.2.2.2.1 u5.2.2.2.2.2.2 u7.2.2.2.2.2.2.2.1 u7.2.2.2.2.2.2.2.2.1 u7.2.2.2.2.2.2.2.2.2.1 u7.2.2.2.2.2.2.2.2.2.2.1 u7.2.2.2.2.2.2.2.2.2.2.2.1 u7.2.2.2.2.2.2.2.2.2.2.2.2.1 u7.2.2.2.2.2.2.2.2.2.2.2.2.2.1 u7.2.2.2.2.2.2.2.2.2.2.2.2.2.2.1 u7.2.2.2.2.2.2.2.2.2.2.2.2.2.2.2) H ∧ va_D A (WC_ q cI cZ vnum vsz vfr st.2.1 u7.2.1 va vb vc ve vth u5.1 st.2.2.1 u5.2.1 u5.2.2.1 u5.2.2.2.1 st.2.2.2.1 st.2.2.2.2 vro vwi u7.2.2.2.2.2.1 u7.2.2.2.2.2.2.1 vtu u5.2.2.2.2.1 u5.2.2.2.2.2.1 u5.2.2.2.2.2.2 u7.2.2.2.2.2.2.2.1 u7.2.2.2.2.2.2.2.2.1 u7.2.2.2.2.2.2.2.2.2.1 u7.2.2.2.2.2.2.2.2.2.2.1 u7.2.2.2.2.2.2.2.2.2.2.2.1 u7.2.2.2.2.2.2.2.2.2.2.2.2.1 u7.2.2.2.2.2.2.2.2.2.2.2.2.2.1 u7.2.2.2.2.2.2.2.2.2.2.2.2.2.2.1 u7.2.2.2.2.2.2.2.2.2.2.2.2.2.2.2) ∧ va_S A s.heap H locs ∧ lv_has ls 2 [(1, .int st.1), (0, .ref (q 14))]) (g := fun _ ls => F0 m 38 ls []) (r := u14) ?_ fu_ ((0 : Int32), u7.1, u7.2.2.1, u7.2.2.2.1, u7.2.2.2.2.1) _ _ _ e15 ⟨hP, hD, hS, lv_sub hl [0, 1] rfl⟩
    intro st xx24 H locs ls h hq ih23 hR22
    obtain ⟨hP, hD, hS, hl⟩ := hq
    obtain ⟨v9, v10, v11, v12, v13⟩ := st
    have hP : va_P D vwCl (WC_ q cI cZ vnum vsz vfr v10 u7.2.1 va vb vc ve vth u5.1 v11 u5.2.1 u5.2.2.1 u5.2.2.2.1 v12 v13 vro vwi u7.2.2.2.2.2.1 u7.2.2.2.2.2.2.1 vtu u5.2.2.2.2.1 u5.2.2.2.2.2.1 u5.2.2.2.2.2.2 u7.2.2.2.2.2.2.2.1 u7.2.2.2.2.2.2.2.2.1 u7.2.2.2.2.2.2.2.2.2.1 u7.2.2.2.2.2.2.2.2.2.2.1 u7.2.2.2.2.2.2.2.2.2.2.2.1 u7.2.2.2.2.2.2.2.2.2.2.2.2.1 u7.2.2.2.2.2.2.2.2.2.2.2.2.2.1 u7.2.2.2.2.2.2.2.2.2.2.2.2.2.2.1 u7.2.2.2.2.2.2.2.2.2.2.2.2.2.2.2) H := hP
    have hD : va_D A (WC_ q cI cZ vnum vsz vfr v10 u7.2.1 va vb vc ve vth u5.1 v11 u5.2.1 u5.2.2.1 u5.2.2.2.1 v12 v13 vro vwi u7.2.2.2.2.2.1 u7.2.2.2.2.2.2.1 vtu u5.2.2.2.2.1 u5.2.2.2.2.2.1 u5.2.2.2.2.2.2 u7.2.2.2.2.2.2.2.1 u7.2.2.2.2.2.2.2.2.1 u7.2.2.2.2.2.2.2.2.2.1 u7.2.2.2.2.2.2.2.2.2.2.1 u7.2.2.2.2.2.2.2.2.2.2.2.1 u7.2.2.2.2.2.2.2.2.2.2.2.2.1 u7.2.2.2.2.2.2.2.2.2.2.2.2.2.1 u7.2.2.2.2.2.2.2.2.2.2.2.2.2.2.1 u7.2.2.2.2.2.2.2.2.2.2.2.2.2.2.2) := hD
    have hl : lv_has ls 2 [(1, .int v9), (0, .ref (q 14))] := hl
    have h : fX1_cutAnew_L38 u7 vth u5 v9 v10 v11 v12 v13 = some xx24 := h
    unfold fX1_cutAnew_L38 at h
    refine lv_iload_n hx hb dX1_cutAnew_38 rfl (lv_at hl 0 rfl) ?_
    refine lv_sipush (v := (577 : Int32)) hx hb dX1_cutAnew_39 (by decide) ?_
    refine lv_icmp_ge (tgt := 69) hx hb dX1_cutAnew_42 (by decide) (fun c25 => ?_) (fun c25 => ?_)
    · have h := (if_pos c25).symm.trans h
      exact K16 _ _ _ _ ⟨(hR22 _ (Option.some.inj h).symm).symm, hP, hD, hS, lv_sub hl [0, 1] rfl⟩
    · have h := (if_neg c25).symm.trans h
      refine lv_iload_n hx hb dX1_cutAnew_45 rfl (lv_at hl 0 rfl) ?_
      refine lv_aload_n hx hb dX1_cutAnew_46 rfl (lv_at hl 1 rfl) ?_
      refine va_get (D := D) (ci := 1) (v := .int v10) (C := RX1) (T := TX1) (N := 13) hx hb hts wiX1_cutAnew_X1 hown hK hP 14 rfl rfl 11 (by decide) (hts _ wmX1_cutAnew_1) (fun _ h9 => h9) rfl dX1_cutAnew_47 ?_
      refine lv_icmp_ge (tgt := 69) hx hb dX1_cutAnew_50 (by decide) (fun c26 => ?_) (fun c26 => ?_)
      · have h := (if_pos c26).symm.trans h
        exact K16 _ _ _ _ ⟨(hR22 _ (Option.some.inj h).symm).symm, hP, hD, hS, lv_sub hl [0, 1] rfl⟩
      · have h := (if_neg c26).symm.trans h
        refine lv_aload_n hx hb dX1_cutAnew_53 rfl (lv_at hl 1 rfl) ?_
        refine lv_aload_n hx hb dX1_cutAnew_54 rfl (lv_at hl 1 rfl) ?_
        refine va_get (D := D) (ci := 1) (v := .ref (q 16)) (C := RX1) (T := TX1) (N := 13) hx hb hts wiX1_cutAnew_X1 hown hK hP 14 rfl rfl 3 (by decide) (hts _ wmX1_cutAnew_4) (fun _ h9 => h9) rfl dX1_cutAnew_55 ?_
        refine lv_iload_n hx hb dX1_cutAnew_58 rfl (lv_at hl 0 rfl) ?_
        obtain ⟨i27, h⟩ := ck_some h
        refine va_iald hx hb hK hP 16 0 rfl rfl i27 dX1_cutAnew_59 ?_
        obtain ⟨u28, e29, h⟩ := bd_some h
        refine k_v (va_runV (As := [.int (v13 v9.toNatClampNeg)]) (rest := []) ⟨hx, hb, hml, hown, hts⟩ (kX1_moveFrom l D q cI cJ cZ tP H.size vnum vsz vfr v10 u7.2.1 va vb vc ve vth u5.1 v11 u5.2.1 u5.2.2.1 u5.2.2.2.1 v12 v13 vro vwi u7.2.2.2.2.2.1 u7.2.2.2.2.2.2.1 vtu u5.2.2.2.2.1 u5.2.2.2.2.2.1 u5.2.2.2.2.2.2 u7.2.2.2.2.2.2.2.1 u7.2.2.2.2.2.2.2.2.1 u7.2.2.2.2.2.2.2.2.2.1 u7.2.2.2.2.2.2.2.2.2.2.1 u7.2.2.2.2.2.2.2.2.2.2.2.1 u7.2.2.2.2.2.2.2.2.2.2.2.2.1 u7.2.2.2.2.2.2.2.2.2.2.2.2.2.1 u7.2.2.2.2.2.2.2.2.2.2.2.2.2.2.1 u7.2.2.2.2.2.2.2.2.2.2.2.2.2.2.2 (v13 v9.toNatClampNeg) u28 e29) (cwV 1 hts gX1_cutAnew_X1_moveFrom rfl rfl rfl (by decide +kernel) ⟨Nat.le_of_ble_eq_true rfl, Nat.le_of_ble_eq_true rfl⟩) ⟨cPre_blind, va_recv hK hP (ci := 1) (q0 := 14) rfl rfl, cPre_at hP hK hN hD hS hA hZ⟩ rfl rfl hl.1 rfl (lv_room (Nat.le_of_ble_eq_true rfl)) dX1_cutAnew_60 ⟨Nat.le_of_ble_eq_true rfl, Nat.le_of_ble_eq_true rfl⟩) hD hS hA (fun H locs hP hD hS => ?_)
        refine lv_iinc (v := (v9 + (1 : Int32))) (lv' := [(1, .int (v9 + (1 : Int32))), (0, .ref (q 14))]) hx hb dX1_cutAnew_63 hl (k := 0) rfl rfl (by decide) rfl (fun ls hl => ?_)
        refine lv_goto (tgt := 38) hx hb dX1_cutAnew_66 (by decide) ?_
        exact ih23 _ _ _ _ (Option.some.inj h).symm ⟨hP, hD, hS, lv_sub hl [0, 1] rfl⟩

-- X1_hasFace
set_option maxHeartbeats 8000000 in
set_option maxRecDepth 100000 in
theorem kX1_hasFace (l : Launch) (D : va_G) (q : Nat → Nat) (cI cJ cZ : ClassId) (tP sz : Nat) (vnum : Int32) (vsz : Int32) (vfr : Int32) (vfo : Int32) (vli : Int32) (va : (Nat → Int32)) (vb : (Nat → Int32)) (vc : (Nat → Int32)) (ve : (Nat → Int32)) (vth : (Nat → Int32)) (vrk : (Nat → Int32)) (vcm : (Nat → Int32)) (vkx : (Nat → Int32)) (vky : (Nat → Int32)) (vkz : (Nat → Int32)) (vmk : (Nat → Int32)) (vre : (Nat → Int32)) (vro : (Nat → Int32)) (vwi : (Nat → Int32)) (vla : (Nat → Int32)) (vlb : (Nat → Int32)) (vtu : (Nat → Int32)) (k0x : Int32) (k0y : Int32) (k0z : Int32) (k1x : Int32) (k1y : Int32) (k1z : Int32) (k2x : Int32) (k2y : Int32) (k2z : Int32) (k3x : Int32) (k3y : Int32) (k3z : Int32) (p1 : Int32) (uu : Int32) (h : fX1_hasFace vmk p1 = some uu) : Met l yX1_hasFace wsX1_hasFace ({ frames := 1, cells := 0, slots := 0, locals := 21 }) (cPre D cI cJ cZ tP (WC_ q cI cZ vnum vsz vfr vfo vli va vb vc ve vth vrk vcm vkx vky vkz vmk vre vro vwi vla vlb vtu k0x k0y k0z k1x k1y k1z k2x k2y k2z k3x k3y k3z) sz [.ref (q 14), .int p1]) (cQi D (va_A (WC_ q cI cZ vnum vsz vfr vfo vli va vb vc ve vth vrk vcm vkx vky vkz vmk vre vro vwi vla vlb vtu k0x k0y k0z k1x k1y k1z k2x k2y k2z k3x k3y k3z) sz) (WC_ q cI cZ vnum vsz vfr vfo vli va vb vc ve vth vrk vcm vkx vky vkz vmk vre vro vwi vla vlb vtu k0x k0y k0z k1x k1y k1z k2x k2y k2z k3x k3y k3z) uu) 0 0 (va_A (WC_ q cI cZ vnum vsz vfr vfo vli va vb vc ve vth vrk vcm vkx vky vkz vmk vre vro vwi vla vlb vtu k0x k0y k0z k1x k1y k1z k2x k2y k2z k3x k3y k3z) sz) := by
  refine Met.ofW (cc := cX1_hasFace) (maxL := 2) (ret := (some .boolean)) (by decide) rfl ?_
  intro p e s m args below meth c s₁ B hml hv
  obtain ⟨rfl, hsz, hP, hK, hN, hD0, hZ⟩ := hv
  have hx := B.exec
  have hb := B.bytes
  have hr := B.returns
  have hts := atoms_spec (ws := wsX1_hasFace) B.pre
  have hown : s.vm.findClass RX1 = some m.cls := findClass_of_methodNamed B.named
  have hlocks := B.notSynchronized
  subst hsz
  have hD := hD0.self (sz := s.heap.size)
  generalize hAe : va_A (WC_ q cI cZ vnum vsz vfr vfo vli va vb vc ve vth vrk vcm vkx vky vkz vmk vre vro vwi vla vlb vtu k0x k0y k0z k1x k1y k1z k2x k2y k2z k3x k3y k3z) s.heap.size = A at hD hZ ⊢
  have hA : ∀ q : Nat, s.heap.size ≤ q → A q := fun q h => by rw [← hAe]; exact Or.inr h
  have hS : va_S A s.heap s.heap [] := va_S.rf
  have hl := lv_entry ([.ref (q 14), .int p1]) (n := 2) (Nat.le_of_ble_eq_true rfl)
  rw [lg_entry_eq]
  generalize (lg_sl ([.ref (q 14), .int p1]) ++ List.replicate (2 - (lg_sl ([.ref (q 14), .int p1])).length) Slot.unset).toArray = ls at hl ⊢
  have hl : lv_has ls 2 [(0, .ref (q 14)), (1, .int p1)] := hl
  unfold fX1_hasFace at h
  refine lv_iload_n hx hb dX1_hasFace_0 rfl (lv_at hl 1 rfl) ?_
  refine lv_if_lt (tgt := 23) hx hb dX1_hasFace_1 (by decide) (fun c1 => ?_) (fun c1 => ?_)
  · have h := (if_pos c1).symm.trans h
    refine lv_iconst (v := (0 : Int32)) hx hb dX1_hasFace_23 (by decide) ?_
    obtain rfl := Option.some.inj h
    exact W.zret (v := (0 : Int32)) hx hb hr (by decide) (fun t ht hW => ⟨⟨(0 : Int32), (), rfl, rfl, by rw [ht]; exact hP, hD⟩, hS.F ht⟩) hS.2.2 dX1_hasFace_24
  · have h := (if_neg c1).symm.trans h
    refine lv_iload_n hx hb dX1_hasFace_4 rfl (lv_at hl 1 rfl) ?_
    refine lv_sipush (v := (6561 : Int32)) hx hb dX1_hasFace_5 (by decide) ?_
    refine lv_icmp_ge (tgt := 23) hx hb dX1_hasFace_8 (by decide) (fun c2 => ?_) (fun c2 => ?_)
    · have h := (if_pos c2).symm.trans h
      refine lv_iconst (v := (0 : Int32)) hx hb dX1_hasFace_23 (by decide) ?_
      obtain rfl := Option.some.inj h
      exact W.zret (v := (0 : Int32)) hx hb hr (by decide) (fun t ht hW => ⟨⟨(0 : Int32), (), rfl, rfl, by rw [ht]; exact hP, hD⟩, hS.F ht⟩) hS.2.2 dX1_hasFace_24
    · have h := (if_neg c2).symm.trans h
      refine lv_aload_n hx hb dX1_hasFace_11 rfl (lv_at hl 0 rfl) ?_
      refine lv_iload_n hx hb dX1_hasFace_12 rfl (lv_at hl 1 rfl) ?_
      obtain ⟨u3, e4, h⟩ := bd_some h
      refine k_i (va_runV (As := [.int p1]) (rest := []) ⟨hx, hb, hml, hown, hts⟩ (kX1_isMarked l D q cI cJ cZ tP s.heap.size vnum vsz vfr vfo vli va vb vc ve vth vrk vcm vkx vky vkz vmk vre vro vwi vla vlb vtu k0x k0y k0z k1x k1y k1z k2x k2y k2z k3x k3y k3z p1 u3 e4) (cwV 1 hts gX1_hasFace_X1_isMarked rfl rfl rfl (by decide +kernel) ⟨Nat.le_of_ble_eq_true rfl, Nat.le_of_ble_eq_true rfl⟩) ⟨cPre_blind, va_recv hK hP (ci := 1) (q0 := 14) rfl rfl, cPre_at hP hK hN hD hS hA hZ⟩ rfl rfl hl.1 rfl (lv_room (Nat.le_of_ble_eq_true rfl)) dX1_hasFace_13 ⟨Nat.le_of_ble_eq_true rfl, Nat.le_of_ble_eq_true rfl⟩) hD hS hA (fun H locs hP hD hS => ?_)
      refine lv_if_eq (tgt := 23) hx hb dX1_hasFace_16 (by decide) (fun c5 => ?_) (fun c5 => ?_)
      · have h := (if_pos c5).symm.trans h
        refine lv_iconst (v := (0 : Int32)) hx hb dX1_hasFace_23 (by decide) ?_
        obtain rfl := Option.some.inj h
        exact W.zret (v := (0 : Int32)) hx hb hr (by decide) (fun t ht hW => ⟨⟨(0 : Int32), (), rfl, rfl, by rw [ht]; exact hP, hD⟩, hS.F ht⟩) hS.2.2 dX1_hasFace_24
      · have h := (if_neg c5).symm.trans h
        refine lv_iconst (v := (1 : Int32)) hx hb dX1_hasFace_19 (by decide) ?_
        refine lv_goto (tgt := 24) hx hb dX1_hasFace_20 (by decide) ?_
        obtain rfl := Option.some.inj h
        exact W.zret (v := (1 : Int32)) hx hb hr (by decide) (fun t ht hW => ⟨⟨(1 : Int32), (), rfl, rfl, by rw [ht]; exact hP, hD⟩, hS.F ht⟩) hS.2.2 dX1_hasFace_24

-- X1_hasRoom
theorem wmX1_hasRoom_0 : (.initialized RX5 : Cond) ∈ wsX1_hasRoom := by decide +kernel
theorem wmX1_hasRoom_1 : (.static yX5_maskOf : Cond) ∈ wsX1_hasRoom := by decide +kernel
set_option maxHeartbeats 8000000 in
set_option maxRecDepth 100000 in
theorem kX1_hasRoom (l : Launch) (D : va_G) (q : Nat → Nat) (cI cJ cZ : ClassId) (tP sz : Nat) (vnum : Int32) (vsz : Int32) (vfr : Int32) (vfo : Int32) (vli : Int32) (va : (Nat → Int32)) (vb : (Nat → Int32)) (vc : (Nat → Int32)) (ve : (Nat → Int32)) (vth : (Nat → Int32)) (vrk : (Nat → Int32)) (vcm : (Nat → Int32)) (vkx : (Nat → Int32)) (vky : (Nat → Int32)) (vkz : (Nat → Int32)) (vmk : (Nat → Int32)) (vre : (Nat → Int32)) (vro : (Nat → Int32)) (vwi : (Nat → Int32)) (vla : (Nat → Int32)) (vlb : (Nat → Int32)) (vtu : (Nat → Int32)) (k0x : Int32) (k0y : Int32) (k0z : Int32) (k1x : Int32) (k1y : Int32) (k1z : Int32) (k2x : Int32) (k2y : Int32) (k2z : Int32) (k3x : Int32) (k3y : Int32) (k3z : Int32) (p1 : Int32) (uu : Int32) (h : fX1_hasRoom vmk p1 = some uu) : Met l yX1_hasRoom wsX1_hasRoom ({ frames := 2, cells := 0, slots := 0, locals := 42 }) (cPre D cI cJ cZ tP (WC_ q cI cZ vnum vsz vfr vfo vli va vb vc ve vth vrk vcm vkx vky vkz vmk vre vro vwi vla vlb vtu k0x k0y k0z k1x k1y k1z k2x k2y k2z k3x k3y k3z) sz [.ref (q 14), .int p1]) (cQi D (va_A (WC_ q cI cZ vnum vsz vfr vfo vli va vb vc ve vth vrk vcm vkx vky vkz vmk vre vro vwi vla vlb vtu k0x k0y k0z k1x k1y k1z k2x k2y k2z k3x k3y k3z) sz) (WC_ q cI cZ vnum vsz vfr vfo vli va vb vc ve vth vrk vcm vkx vky vkz vmk vre vro vwi vla vlb vtu k0x k0y k0z k1x k1y k1z k2x k2y k2z k3x k3y k3z) uu) 0 0 (va_A (WC_ q cI cZ vnum vsz vfr vfo vli va vb vc ve vth vrk vcm vkx vky vkz vmk vre vro vwi vla vlb vtu k0x k0y k0z k1x k1y k1z k2x k2y k2z k3x k3y k3z) sz) := by
  refine Met.ofW (cc := cX1_hasRoom) (maxL := 2) (ret := (some .boolean)) (by decide) rfl ?_
  intro p e s m args below meth c s₁ B hml hv
  obtain ⟨rfl, hsz, hP, hK, hN, hD0, hZ⟩ := hv
  have hx := B.exec
  have hb := B.bytes
  have hr := B.returns
  have hts := atoms_spec (ws := wsX1_hasRoom) B.pre
  have hown : s.vm.findClass RX1 = some m.cls := findClass_of_methodNamed B.named
  have hlocks := B.notSynchronized
  subst hsz
  have hD := hD0.self (sz := s.heap.size)
  generalize hAe : va_A (WC_ q cI cZ vnum vsz vfr vfo vli va vb vc ve vth vrk vcm vkx vky vkz vmk vre vro vwi vla vlb vtu k0x k0y k0z k1x k1y k1z k2x k2y k2z k3x k3y k3z) s.heap.size = A at hD hZ ⊢
  have hA : ∀ q : Nat, s.heap.size ≤ q → A q := fun q h => by rw [← hAe]; exact Or.inr h
  have hS : va_S A s.heap s.heap [] := va_S.rf
  have hl := lv_entry ([.ref (q 14), .int p1]) (n := 2) (Nat.le_of_ble_eq_true rfl)
  rw [lg_entry_eq]
  generalize (lg_sl ([.ref (q 14), .int p1]) ++ List.replicate (2 - (lg_sl ([.ref (q 14), .int p1])).length) Slot.unset).toArray = ls at hl ⊢
  have hl : lv_has ls 2 [(0, .ref (q 14)), (1, .int p1)] := hl
  unfold fX1_hasRoom at h
  refine lv_aload_n hx hb dX1_hasRoom_0 rfl (lv_at hl 0 rfl) ?_
  refine lv_iload_n hx hb dX1_hasRoom_1 rfl (lv_at hl 1 rfl) ?_
  obtain ⟨u1, e2, h⟩ := bd_some h
  refine k_i (va_runV (As := [.int p1]) (rest := []) ⟨hx, hb, hml, hown, hts⟩ (kX1_hasFace l D q cI cJ cZ tP s.heap.size vnum vsz vfr vfo vli va vb vc ve vth vrk vcm vkx vky vkz vmk vre vro vwi vla vlb vtu k0x k0y k0z k1x k1y k1z k2x k2y k2z k3x k3y k3z p1 u1 e2) (cwV 1 hts gX1_hasRoom_X1_hasFace rfl rfl rfl (by decide +kernel) ⟨Nat.le_of_ble_eq_true rfl, Nat.le_of_ble_eq_true rfl⟩) ⟨cPre_blind, va_recv hK hP (ci := 1) (q0 := 14) rfl rfl, cPre_at hP hK hN hD hS hA hZ⟩ rfl rfl hl.1 rfl (lv_room (Nat.le_of_ble_eq_true rfl)) dX1_hasRoom_2 ⟨Nat.le_of_ble_eq_true rfl, Nat.le_of_ble_eq_true rfl⟩) hD hS hA (fun H locs hP hD hS => ?_)
  refine lv_if_eq (tgt := 20) hx hb dX1_hasRoom_5 (by decide) (fun c3 => ?_) (fun c3 => ?_)
  · have h := (if_pos c3).symm.trans h
    refine lv_iconst (v := (0 : Int32)) hx hb dX1_hasRoom_20 (by decide) ?_
    obtain rfl := Option.some.inj h
    exact W.zret (v := (0 : Int32)) hx hb hr (by decide) (fun t ht hW => ⟨⟨(0 : Int32), (), rfl, rfl, by rw [ht]; exact hP, hD⟩, hS.F ht⟩) hS.2.2 dX1_hasRoom_21
  · have h := (if_neg c3).symm.trans h
    refine lv_iload_n hx hb dX1_hasRoom_8 rfl (lv_at hl 1 rfl) ?_
    refine lv_iconst (v := (1 : Int32)) hx hb dX1_hasRoom_9 (by decide) ?_
    obtain ⟨u4, e5, h⟩ := bd_some h
    refine k_i0 (va_runSN (As := [.int p1, .int (1 : Int32)]) (rest := []) ⟨hx, hb, hml, hown, hts⟩ (kX5_maskOf l D cI cJ cZ tP H.size  p1 (1 : Int32) u4 e5) ⟨va_cnB 2 hts gX1_hasRoom_X5_maskOf_n159 rfl rfl rfl (NW_m hN 2 rfl) (hts _ wmX1_hasRoom_0) (by decide +kernel) ⟨Nat.le_of_ble_eq_true rfl, Nat.le_of_ble_eq_true rfl⟩, (hts _ wmX1_hasRoom_1), trivial⟩ ⟨cPre_blind, cPre_at0 hK hN hS hA hZ⟩ rfl rfl hl.1 rfl (lv_room (Nat.le_of_ble_eq_true rfl)) dX1_hasRoom_10 ⟨Nat.le_of_ble_eq_true rfl, Nat.le_of_ble_eq_true rfl⟩) hP hS hA (fun H locs hP hS => ?_)
    refine lv_if_ne (tgt := 20) hx hb dX1_hasRoom_13 (by decide) (fun c6 => ?_) (fun c6 => ?_)
    · have h := (if_neg c6).symm.trans h
      refine lv_iconst (v := (0 : Int32)) hx hb dX1_hasRoom_20 (by decide) ?_
      obtain rfl := Option.some.inj h
      exact W.zret (v := (0 : Int32)) hx hb hr (by decide) (fun t ht hW => ⟨⟨(0 : Int32), (), rfl, rfl, by rw [ht]; exact hP, hD⟩, hS.F ht⟩) hS.2.2 dX1_hasRoom_21
    · have h := (if_pos c6).symm.trans h
      refine lv_iconst (v := (1 : Int32)) hx hb dX1_hasRoom_16 (by decide) ?_
      refine lv_goto (tgt := 21) hx hb dX1_hasRoom_17 (by decide) ?_
      obtain rfl := Option.some.inj h
      exact W.zret (v := (1 : Int32)) hx hb hr (by decide) (fun t ht hW => ⟨⟨(1 : Int32), (), rfl, rfl, by rw [ht]; exact hP, hD⟩, hS.F ht⟩) hS.2.2 dX1_hasRoom_21

-- X1_countOfWidth
theorem wmX1_countOfWidth_0 : (.fieldLink RX1 51 "SpaceWalls$Cut" "found" "I" : Cond) ∈ wsX1_countOfWidth := by decide +kernel
theorem wmX1_countOfWidth_1 : (.fieldLink RX1 21 "SpaceWalls$Cut" "widths" "[I" : Cond) ∈ wsX1_countOfWidth := by decide +kernel
theorem wiX1_countOfWidth_X1 : ∀ w ∈ u_ws RX1 TX1 13, w ∈ wsX1_countOfWidth := by decide +kernel
set_option maxHeartbeats 8000000 in
set_option maxRecDepth 100000 in
theorem kX1_countOfWidth (l : Launch) (D : va_G) (q : Nat → Nat) (cI cJ cZ : ClassId) (tP sz : Nat) (vnum : Int32) (vsz : Int32) (vfr : Int32) (vfo : Int32) (vli : Int32) (va : (Nat → Int32)) (vb : (Nat → Int32)) (vc : (Nat → Int32)) (ve : (Nat → Int32)) (vth : (Nat → Int32)) (vrk : (Nat → Int32)) (vcm : (Nat → Int32)) (vkx : (Nat → Int32)) (vky : (Nat → Int32)) (vkz : (Nat → Int32)) (vmk : (Nat → Int32)) (vre : (Nat → Int32)) (vro : (Nat → Int32)) (vwi : (Nat → Int32)) (vla : (Nat → Int32)) (vlb : (Nat → Int32)) (vtu : (Nat → Int32)) (k0x : Int32) (k0y : Int32) (k0z : Int32) (k1x : Int32) (k1y : Int32) (k1z : Int32) (k2x : Int32) (k2y : Int32) (k2z : Int32) (k3x : Int32) (k3y : Int32) (k3z : Int32) (p1 : Int32) (uu : Int32) (h : fX1_countOfWidth vfo vwi p1 = some uu) : Met l yX1_countOfWidth wsX1_countOfWidth ({ frames := 0, cells := 0, slots := 0, locals := 0 }) (cPre D cI cJ cZ tP (WC_ q cI cZ vnum vsz vfr vfo vli va vb vc ve vth vrk vcm vkx vky vkz vmk vre vro vwi vla vlb vtu k0x k0y k0z k1x k1y k1z k2x k2y k2z k3x k3y k3z) sz [.ref (q 14), .int p1]) (cQi D (va_A (WC_ q cI cZ vnum vsz vfr vfo vli va vb vc ve vth vrk vcm vkx vky vkz vmk vre vro vwi vla vlb vtu k0x k0y k0z k1x k1y k1z k2x k2y k2z k3x k3y k3z) sz) (WC_ q cI cZ vnum vsz vfr vfo vli va vb vc ve vth vrk vcm vkx vky vkz vmk vre vro vwi vla vlb vtu k0x k0y k0z k1x k1y k1z k2x k2y k2z k3x k3y k3z) uu) 0 0 (va_A (WC_ q cI cZ vnum vsz vfr vfo vli va vb vc ve vth vrk vcm vkx vky vkz vmk vre vro vwi vla vlb vtu k0x k0y k0z k1x k1y k1z k2x k2y k2z k3x k3y k3z) sz) := by
  refine Met.ofW (cc := cX1_countOfWidth) (maxL := 4) (ret := (some .int)) (by decide) rfl ?_
  intro p e s m args below meth c s₁ B hml hv
  obtain ⟨rfl, hsz, hP, hK, hN, hD0, hZ⟩ := hv
  have hx := B.exec
  have hb := B.bytes
  have hr := B.returns
  have hts := atoms_spec (ws := wsX1_countOfWidth) B.pre
  have hown : s.vm.findClass RX1 = some m.cls := findClass_of_methodNamed B.named
  have hlocks := B.notSynchronized
  subst hsz
  have hD := hD0.self (sz := s.heap.size)
  generalize hAe : va_A (WC_ q cI cZ vnum vsz vfr vfo vli va vb vc ve vth vrk vcm vkx vky vkz vmk vre vro vwi vla vlb vtu k0x k0y k0z k1x k1y k1z k2x k2y k2z k3x k3y k3z) s.heap.size = A at hD hZ ⊢
  have hA : ∀ q : Nat, s.heap.size ≤ q → A q := fun q h => by rw [← hAe]; exact Or.inr h
  have hS : va_S A s.heap s.heap [] := va_S.rf
  have hl := lv_entry ([.ref (q 14), .int p1]) (n := 4) (Nat.le_of_ble_eq_true rfl)
  rw [lg_entry_eq]
  generalize (lg_sl ([.ref (q 14), .int p1]) ++ List.replicate (4 - (lg_sl ([.ref (q 14), .int p1])).length) Slot.unset).toArray = ls at hl ⊢
  have hl : lv_has ls 4 [(0, .ref (q 14)), (1, .int p1)] := hl
  unfold fX1_countOfWidth at h
  refine lv_iconst (v := (0 : Int32)) hx hb dX1_countOfWidth_0 (by decide) ?_
  refine lv_istore_n (lv' := [(2, .int (0 : Int32)), (0, .ref (q 14)), (1, .int p1)]) hx hb dX1_countOfWidth_1 rfl hl (by decide) rfl (fun ls hl => ?_)
  refine lv_iconst (v := (0 : Int32)) hx hb dX1_countOfWidth_2 (by decide) ?_
  refine lv_istore_n (lv' := [(3, .int (0 : Int32)), (2, .int (0 : Int32)), (0, .ref (q 14)), (1, .int p1)]) hx hb dX1_countOfWidth_3 rfl hl (by decide) rfl (fun ls hl => ?_)
  obtain ⟨u3, e4, h⟩ := bd_some h
  refine W_leave (P := fun (y : (Int32 × Int32)) H locs ls => u3 = y ∧ va_P D vwCl (WC_ q cI cZ vnum vsz vfr vfo vli va vb vc ve vth vrk vcm vkx vky vkz vmk vre vro vwi vla vlb vtu k0x k0y k0z k1x k1y k1z k2x k2y k2z k3x k3y k3z) H ∧ va_D A (WC_ q cI cZ vnum vsz vfr vfo vli va vb vc ve vth vrk vcm vkx vky vkz vmk vre vro vwi vla vlb vtu k0x k0y k0z k1x k1y k1z k2x k2y k2z k3x k3y k3z) ∧ va_S A s.heap H locs ∧ lv_has ls 4 [(3, .int y.1), (2, .int y.2), (0, .ref (q 14)), (1, .int p1)]) (g := fun ls => F0 m 31 ls []) ?_ ?_
  · intro y H locs ls hq
    obtain ⟨hy, hP, hD, hS, hl⟩ := hq
    subst hy
    have hl : lv_has ls 4 [(3, .int u3.1), (2, .int u3.2), (0, .ref (q 14)), (1, .int p1)] := hl
    refine lv_iload_n hx hb dX1_countOfWidth_31 rfl (lv_at hl 1 rfl) ?_
    obtain rfl := Option.some.inj h
    exact W.iret (v := u3.2) hx hb hr (fun t ht hW => ⟨⟨u3.2, (), rfl, rfl, by rw [ht]; exact hP, hD⟩, hS.F ht⟩) hS.2.2 dX1_countOfWidth_32
  · intro K5
    refine W_lp (body := (fun (st : (Int32 × Int32)) => fX1_countOfWidth_L4 vfo vwi p1 st.1 st.2)) (P := fun (st : (Int32 × Int32)) H locs ls => va_P D vwCl (WC_ q cI cZ vnum vsz vfr vfo vli va vb vc ve vth vrk vcm vkx vky vkz vmk vre vro vwi vla vlb vtu k0x k0y k0z k1x k1y k1z k2x k2y k2z k3x k3y k3z) H ∧ va_D A (WC_ q cI cZ vnum vsz vfr vfo vli va vb vc ve vth vrk vcm vkx vky vkz vmk vre vro vwi vla vlb vtu k0x k0y k0z k1x k1y k1z k2x k2y k2z k3x k3y k3z) ∧ va_S A s.heap H locs ∧ lv_has ls 4 [(3, .int st.1), (2, .int st.2), (0, .ref (q 14)), (1, .int p1)]) (g := fun _ ls => F0 m 4 ls []) (r := u3) ?_ fu_ ((0 : Int32), (0 : Int32)) _ _ _ e4 ⟨hP, hD, hS, lv_sub hl [0, 1, 2, 3] rfl⟩
    intro st xx9 H locs ls h hq ih8 hR7
    obtain ⟨hP, hD, hS, hl⟩ := hq
    obtain ⟨v1, v2⟩ := st
    have hP : va_P D vwCl (WC_ q cI cZ vnum vsz vfr vfo vli va vb vc ve vth vrk vcm vkx vky vkz vmk vre vro vwi vla vlb vtu k0x k0y k0z k1x k1y k1z k2x k2y k2z k3x k3y k3z) H := hP
    have hD : va_D A (WC_ q cI cZ vnum vsz vfr vfo vli va vb vc ve vth vrk vcm vkx vky vkz vmk vre vro vwi vla vlb vtu k0x k0y k0z k1x k1y k1z k2x k2y k2z k3x k3y k3z) := hD
    have hl : lv_has ls 4 [(3, .int v1), (2, .int v2), (0, .ref (q 14)), (1, .int p1)] := hl
    have h : fX1_countOfWidth_L4 vfo vwi p1 v1 v2 = some xx9 := h
    unfold fX1_countOfWidth_L4 at h
    refine lv_iload_n hx hb dX1_countOfWidth_4 rfl (lv_at hl 0 rfl) ?_
    refine lv_aload_n hx hb dX1_countOfWidth_5 rfl (lv_at hl 2 rfl) ?_
    refine va_get (D := D) (ci := 1) (v := .int vfo) (C := RX1) (T := TX1) (N := 13) hx hb hts wiX1_countOfWidth_X1 hown hK hP 14 rfl rfl 11 (by decide) (hts _ wmX1_countOfWidth_0) (fun _ h9 => h9) rfl dX1_countOfWidth_6 ?_
    refine lv_icmp_ge (tgt := 31) hx hb dX1_countOfWidth_9 (by decide) (fun c10 => ?_) (fun c10 => ?_)
    · have h := (if_pos c10).symm.trans h
      exact K5 _ _ _ _ ⟨(hR7 _ (Option.some.inj h).symm).symm, hP, hD, hS, lv_sub hl [0, 1, 2, 3] rfl⟩
    · have h := (if_neg c10).symm.trans h
      refine lv_aload_n hx hb dX1_countOfWidth_12 rfl (lv_at hl 2 rfl) ?_
      refine va_get (D := D) (ci := 1) (v := .ref (q 18)) (C := RX1) (T := TX1) (N := 13) hx hb hts wiX1_countOfWidth_X1 hown hK hP 14 rfl rfl 5 (by decide) (hts _ wmX1_countOfWidth_1) (fun _ h9 => h9) rfl dX1_countOfWidth_13 ?_
      refine lv_iload_n hx hb dX1_countOfWidth_16 rfl (lv_at hl 0 rfl) ?_
      obtain ⟨i11, h⟩ := ck_some h
      refine va_iald hx hb hK hP 18 0 rfl rfl i11 dX1_countOfWidth_17 ?_
      refine lv_iload_n hx hb dX1_countOfWidth_18 rfl (lv_at hl 3 rfl) ?_
      refine lv_icmp_ne (tgt := 25) hx hb dX1_countOfWidth_19 (by decide) (fun c12 => ?_) (fun c12 => ?_)
      · have h := (if_neg c12).symm.trans h
        refine lv_iinc (v := (v1 + (1 : Int32))) (lv' := [(3, .int (v1 + (1 : Int32))), (2, .int v2), (0, .ref (q 14)), (1, .int p1)]) hx hb dX1_countOfWidth_25 hl (k := 0) rfl rfl (by decide) rfl (fun ls hl => ?_)
        refine lv_goto (tgt := 4) hx hb dX1_countOfWidth_28 (by decide) ?_
        exact ih8 _ _ _ _ (Option.some.inj h).symm ⟨hP, hD, hS, lv_sub hl [0, 1, 2, 3] rfl⟩
      · have h := (if_pos c12).symm.trans h
        refine lv_iinc (v := (v2 + (1 : Int32))) (lv' := [(2, .int (v2 + (1 : Int32))), (3, .int v1), (0, .ref (q 14)), (1, .int p1)]) hx hb dX1_countOfWidth_22 hl (k := 1) rfl rfl (by decide) rfl (fun ls hl => ?_)
        refine lv_iinc (v := (v1 + (1 : Int32))) (lv' := [(3, .int (v1 + (1 : Int32))), (2, .int (v2 + (1 : Int32))), (0, .ref (q 14)), (1, .int p1)]) hx hb dX1_countOfWidth_25 hl (k := 1) rfl rfl (by decide) rfl (fun ls hl => ?_)
        refine lv_goto (tgt := 4) hx hb dX1_countOfWidth_28 (by decide) ?_
        exact ih8 _ _ _ _ (Option.some.inj h).symm ⟨hP, hD, hS, lv_sub hl [0, 1, 2, 3] rfl⟩

-- X1_rowOfWidth
theorem wmX1_rowOfWidth_0 : (.fieldLink RX1 51 "SpaceWalls$Cut" "found" "I" : Cond) ∈ wsX1_rowOfWidth := by decide +kernel
theorem wmX1_rowOfWidth_1 : (.fieldLink RX1 21 "SpaceWalls$Cut" "widths" "[I" : Cond) ∈ wsX1_rowOfWidth := by decide +kernel
theorem wmX1_rowOfWidth_2 : (.fieldLink RX1 18 "SpaceWalls$Cut" "rows" "[I" : Cond) ∈ wsX1_rowOfWidth := by decide +kernel
theorem wiX1_rowOfWidth_X1 : ∀ w ∈ u_ws RX1 TX1 13, w ∈ wsX1_rowOfWidth := by decide +kernel
set_option maxHeartbeats 8000000 in
set_option maxRecDepth 100000 in
theorem kX1_rowOfWidth (l : Launch) (D : va_G) (q : Nat → Nat) (cI cJ cZ : ClassId) (tP sz : Nat) (vnum : Int32) (vsz : Int32) (vfr : Int32) (vfo : Int32) (vli : Int32) (va : (Nat → Int32)) (vb : (Nat → Int32)) (vc : (Nat → Int32)) (ve : (Nat → Int32)) (vth : (Nat → Int32)) (vrk : (Nat → Int32)) (vcm : (Nat → Int32)) (vkx : (Nat → Int32)) (vky : (Nat → Int32)) (vkz : (Nat → Int32)) (vmk : (Nat → Int32)) (vre : (Nat → Int32)) (vro : (Nat → Int32)) (vwi : (Nat → Int32)) (vla : (Nat → Int32)) (vlb : (Nat → Int32)) (vtu : (Nat → Int32)) (k0x : Int32) (k0y : Int32) (k0z : Int32) (k1x : Int32) (k1y : Int32) (k1z : Int32) (k2x : Int32) (k2y : Int32) (k2z : Int32) (k3x : Int32) (k3y : Int32) (k3z : Int32) (p1 : Int32) (p2 : Int32) (uu : Int32) (h : fX1_rowOfWidth vfo vro vwi p1 p2 = some uu) : Met l yX1_rowOfWidth wsX1_rowOfWidth ({ frames := 0, cells := 0, slots := 0, locals := 0 }) (cPre D cI cJ cZ tP (WC_ q cI cZ vnum vsz vfr vfo vli va vb vc ve vth vrk vcm vkx vky vkz vmk vre vro vwi vla vlb vtu k0x k0y k0z k1x k1y k1z k2x k2y k2z k3x k3y k3z) sz [.ref (q 14), .int p1, .int p2]) (cQi D (va_A (WC_ q cI cZ vnum vsz vfr vfo vli va vb vc ve vth vrk vcm vkx vky vkz vmk vre vro vwi vla vlb vtu k0x k0y k0z k1x k1y k1z k2x k2y k2z k3x k3y k3z) sz) (WC_ q cI cZ vnum vsz vfr vfo vli va vb vc ve vth vrk vcm vkx vky vkz vmk vre vro vwi vla vlb vtu k0x k0y k0z k1x k1y k1z k2x k2y k2z k3x k3y k3z) uu) 0 0 (va_A (WC_ q cI cZ vnum vsz vfr vfo vli va vb vc ve vth vrk vcm vkx vky vkz vmk vre vro vwi vla vlb vtu k0x k0y k0z k1x k1y k1z k2x k2y k2z k3x k3y k3z) sz) := by
  refine Met.ofW (cc := cX1_rowOfWidth) (maxL := 5) (ret := (some .int)) (by decide) rfl ?_
  intro p e s m args below meth c s₁ B hml hv
  obtain ⟨rfl, hsz, hP, hK, hN, hD0, hZ⟩ := hv
  have hx := B.exec
  have hb := B.bytes
  have hr := B.returns
  have hts := atoms_spec (ws := wsX1_rowOfWidth) B.pre
  have hown : s.vm.findClass RX1 = some m.cls := findClass_of_methodNamed B.named
  have hlocks := B.notSynchronized
  subst hsz
  have hD := hD0.self (sz := s.heap.size)
  generalize hAe : va_A (WC_ q cI cZ vnum vsz vfr vfo vli va vb vc ve vth vrk vcm vkx vky vkz vmk vre vro vwi vla vlb vtu k0x k0y k0z k1x k1y k1z k2x k2y k2z k3x k3y k3z) s.heap.size = A at hD hZ ⊢
  have hA : ∀ q : Nat, s.heap.size ≤ q → A q := fun q h => by rw [← hAe]; exact Or.inr h
  have hS : va_S A s.heap s.heap [] := va_S.rf
  have hl := lv_entry ([.ref (q 14), .int p1, .int p2]) (n := 5) (Nat.le_of_ble_eq_true rfl)
  rw [lg_entry_eq]
  generalize (lg_sl ([.ref (q 14), .int p1, .int p2]) ++ List.replicate (5 - (lg_sl ([.ref (q 14), .int p1, .int p2])).length) Slot.unset).toArray = ls at hl ⊢
  have hl : lv_has ls 5 [(0, .ref (q 14)), (1, .int p1), (2, .int p2)] := hl
  unfold fX1_rowOfWidth at h
  refine lv_iconst (v := (0 : Int32)) hx hb dX1_rowOfWidth_0 (by decide) ?_
  refine lv_istore_n (lv' := [(3, .int (0 : Int32)), (0, .ref (q 14)), (1, .int p1), (2, .int p2)]) hx hb dX1_rowOfWidth_1 rfl hl (by decide) rfl (fun ls hl => ?_)
  refine lv_iconst (v := (0 : Int32)) hx hb dX1_rowOfWidth_2 (by decide) ?_
  refine lv_istore (lv' := [(4, .int (0 : Int32)), (3, .int (0 : Int32)), (0, .ref (q 14)), (1, .int p1), (2, .int p2)]) hx hb dX1_rowOfWidth_3 hl (by decide) rfl (fun ls hl => ?_)
  obtain ⟨u3, e4, h⟩ := bd_some h
  have KR6 : ∀ y8, Sum.inr y8 = u3 → y8 = uu := by
    intro y8 hy
    subst hy
    have h := se_inr h
    exact Option.some.inj h
  refine W_leave (P := fun (y : (Int32 × Int32)) H locs ls => u3 = Sum.inl y ∧ va_P D vwCl (WC_ q cI cZ vnum vsz vfr vfo vli va vb vc ve vth vrk vcm vkx vky vkz vmk vre vro vwi vla vlb vtu k0x k0y k0z k1x k1y k1z k2x k2y k2z k3x k3y k3z) H ∧ va_D A (WC_ q cI cZ vnum vsz vfr vfo vli va vb vc ve vth vrk vcm vkx vky vkz vmk vre vro vwi vla vlb vtu k0x k0y k0z k1x k1y k1z k2x k2y k2z k3x k3y k3z) ∧ va_S A s.heap H locs ∧ lv_has ls 5 [(4, .int y.1), (3, .int y.2), (0, .ref (q 14)), (1, .int p1), (2, .int p2)]) (g := fun ls => F0 m 47 ls []) ?_ ?_
  · intro x7 H locs ls hq
    obtain ⟨hy, hP, hD, hS, hl⟩ := hq
    subst hy
    have h := se_inl h
    refine lv_iconst (v := (-1 : Int32)) hx hb dX1_rowOfWidth_47 (by decide) ?_
    obtain rfl := Option.some.inj h
    exact W.iret (v := (-1 : Int32)) hx hb hr (fun t ht hW => ⟨⟨(-1 : Int32), (), rfl, rfl, by rw [ht]; exact hP, hD⟩, hS.F ht⟩) hS.2.2 dX1_rowOfWidth_48
  · intro K5
    refine W_lp (body := (fun (st : (Int32 × Int32)) => fX1_rowOfWidth_L5 vfo vwi p1 p2 vro st.1 st.2)) (P := fun (st : (Int32 × Int32)) H locs ls => va_P D vwCl (WC_ q cI cZ vnum vsz vfr vfo vli va vb vc ve vth vrk vcm vkx vky vkz vmk vre vro vwi vla vlb vtu k0x k0y k0z k1x k1y k1z k2x k2y k2z k3x k3y k3z) H ∧ va_D A (WC_ q cI cZ vnum vsz vfr vfo vli va vb vc ve vth vrk vcm vkx vky vkz vmk vre vro vwi vla vlb vtu k0x k0y k0z k1x k1y k1z k2x k2y k2z k3x k3y k3z) ∧ va_S A s.heap H locs ∧ lv_has ls 5 [(4, .int st.1), (3, .int st.2), (0, .ref (q 14)), (1, .int p1), (2, .int p2)]) (g := fun _ ls => F0 m 5 ls []) (r := u3) ?_ fu_ ((0 : Int32), (0 : Int32)) _ _ _ e4 ⟨hP, hD, hS, lv_sub hl [0, 1, 2, 3, 4] rfl⟩
    intro st xx11 H locs ls h hq ih10 hR9
    obtain ⟨hP, hD, hS, hl⟩ := hq
    obtain ⟨v1, v2⟩ := st
    have hP : va_P D vwCl (WC_ q cI cZ vnum vsz vfr vfo vli va vb vc ve vth vrk vcm vkx vky vkz vmk vre vro vwi vla vlb vtu k0x k0y k0z k1x k1y k1z k2x k2y k2z k3x k3y k3z) H := hP
    have hD : va_D A (WC_ q cI cZ vnum vsz vfr vfo vli va vb vc ve vth vrk vcm vkx vky vkz vmk vre vro vwi vla vlb vtu k0x k0y k0z k1x k1y k1z k2x k2y k2z k3x k3y k3z) := hD
    have hl : lv_has ls 5 [(4, .int v1), (3, .int v2), (0, .ref (q 14)), (1, .int p1), (2, .int p2)] := hl
    have h : fX1_rowOfWidth_L5 vfo vwi p1 p2 vro v1 v2 = some xx11 := h
    unfold fX1_rowOfWidth_L5 at h
    refine lv_iload hx hb dX1_rowOfWidth_5 (lv_at hl 0 rfl) ?_
    refine lv_aload_n hx hb dX1_rowOfWidth_7 rfl (lv_at hl 2 rfl) ?_
    refine va_get (D := D) (ci := 1) (v := .int vfo) (C := RX1) (T := TX1) (N := 13) hx hb hts wiX1_rowOfWidth_X1 hown hK hP 14 rfl rfl 11 (by decide) (hts _ wmX1_rowOfWidth_0) (fun _ h9 => h9) rfl dX1_rowOfWidth_8 ?_
    refine lv_icmp_ge (tgt := 47) hx hb dX1_rowOfWidth_11 (by decide) (fun c12 => ?_) (fun c12 => ?_)
    · have h := (if_pos c12).symm.trans h
      exact K5 _ _ _ _ ⟨(hR9 _ (Option.some.inj h).symm).symm, hP, hD, hS, lv_sub hl [0, 1, 2, 3, 4] rfl⟩
    · have h := (if_neg c12).symm.trans h
      refine lv_aload_n hx hb dX1_rowOfWidth_14 rfl (lv_at hl 2 rfl) ?_
      refine va_get (D := D) (ci := 1) (v := .ref (q 18)) (C := RX1) (T := TX1) (N := 13) hx hb hts wiX1_rowOfWidth_X1 hown hK hP 14 rfl rfl 5 (by decide) (hts _ wmX1_rowOfWidth_1) (fun _ h9 => h9) rfl dX1_rowOfWidth_15 ?_
      refine lv_iload hx hb dX1_rowOfWidth_18 (lv_at hl 0 rfl) ?_
      obtain ⟨i13, h⟩ := ck_some h
      refine va_iald hx hb hK hP 18 0 rfl rfl i13 dX1_rowOfWidth_20 ?_
      refine lv_iload_n hx hb dX1_rowOfWidth_21 rfl (lv_at hl 3 rfl) ?_
      refine lv_icmp_ne (tgt := 41) hx hb dX1_rowOfWidth_22 (by decide) (fun c14 => ?_) (fun c14 => ?_)
      · have h := (if_neg c14).symm.trans h
        refine lv_iinc (v := (v1 + (1 : Int32))) (lv' := [(4, .int (v1 + (1 : Int32))), (3, .int v2), (0, .ref (q 14)), (1, .int p1), (2, .int p2)]) hx hb dX1_rowOfWidth_41 hl (k := 0) rfl rfl (by decide) rfl (fun ls hl => ?_)
        refine lv_goto (tgt := 5) hx hb dX1_rowOfWidth_44 (by decide) ?_
        exact ih10 _ _ _ _ (Option.some.inj h).symm ⟨hP, hD, hS, lv_sub hl [0, 1, 2, 3, 4] rfl⟩
      · have h := (if_pos c14).symm.trans h
        refine lv_iload_n hx hb dX1_rowOfWidth_25 rfl (lv_at hl 1 rfl) ?_
        refine lv_iload_n hx hb dX1_rowOfWidth_26 rfl (lv_at hl 4 rfl) ?_
        refine lv_icmp_ne (tgt := 38) hx hb dX1_rowOfWidth_27 (by decide) (fun c15 => ?_) (fun c15 => ?_)
        · have h := (if_neg c15).symm.trans h
          refine lv_iinc (v := (v2 + (1 : Int32))) (lv' := [(3, .int (v2 + (1 : Int32))), (4, .int v1), (0, .ref (q 14)), (1, .int p1), (2, .int p2)]) hx hb dX1_rowOfWidth_38 hl (k := 1) rfl rfl (by decide) rfl (fun ls hl => ?_)
          refine lv_iinc (v := (v1 + (1 : Int32))) (lv' := [(4, .int (v1 + (1 : Int32))), (3, .int (v2 + (1 : Int32))), (0, .ref (q 14)), (1, .int p1), (2, .int p2)]) hx hb dX1_rowOfWidth_41 hl (k := 1) rfl rfl (by decide) rfl (fun ls hl => ?_)
          refine lv_goto (tgt := 5) hx hb dX1_rowOfWidth_44 (by decide) ?_
          exact ih10 _ _ _ _ (Option.some.inj h).symm ⟨hP, hD, hS, lv_sub hl [0, 1, 2, 3, 4] rfl⟩
        · have h := (if_pos c15).symm.trans h
          refine lv_aload_n hx hb dX1_rowOfWidth_30 rfl (lv_at hl 2 rfl) ?_
          refine va_get (D := D) (ci := 1) (v := .ref (q 17)) (C := RX1) (T := TX1) (N := 13) hx hb hts wiX1_rowOfWidth_X1 hown hK hP 14 rfl rfl 4 (by decide) (hts _ wmX1_rowOfWidth_2) (fun _ h9 => h9) rfl dX1_rowOfWidth_31 ?_
          refine lv_iload hx hb dX1_rowOfWidth_34 (lv_at hl 0 rfl) ?_
          obtain ⟨i16, h⟩ := ck_some h
          refine va_iald hx hb hK hP 17 0 rfl rfl i16 dX1_rowOfWidth_36 ?_
          have hu := KR6 _ (hR9 _ (Option.some.inj h).symm)
          subst hu
          exact W.iret (v := (vro v1.toNatClampNeg)) hx hb hr (fun t ht hW => ⟨⟨(vro v1.toNatClampNeg), (), rfl, rfl, by rw [ht]; exact hP, hD⟩, hS.F ht⟩) hS.2.2 dX1_rowOfWidth_37

-- X1_wallsOf
theorem wmX1_wallsOf_0 : (.fieldLink RX1 43 "SpaceWalls$Cut" "planes" "LSpaceWalls$Planes;" : Cond) ∈ wsX1_wallsOf := by decide +kernel
theorem wmX1_wallsOf_1 : (.initialized RX5 : Cond) ∈ wsX1_wallsOf := by decide +kernel
theorem wmX1_wallsOf_2 : (.static yX5_across : Cond) ∈ wsX1_wallsOf := by decide +kernel
theorem wiX1_wallsOf_X1 : ∀ w ∈ u_ws RX1 TX1 13, w ∈ wsX1_wallsOf := by decide +kernel
theorem wiX1_wallsOf_X3 : ∀ w ∈ u_ws RX3 TX3 7, w ∈ wsX1_wallsOf := by decide +kernel
set_option maxHeartbeats 8000000 in
set_option maxRecDepth 100000 in
theorem kX1_wallsOf (l : Launch) (D : va_G) (q : Nat → Nat) (cI cJ cZ : ClassId) (tP sz : Nat) (vnum : Int32) (vsz : Int32) (vfr : Int32) (vfo : Int32) (vli : Int32) (va : (Nat → Int32)) (vb : (Nat → Int32)) (vc : (Nat → Int32)) (ve : (Nat → Int32)) (vth : (Nat → Int32)) (vrk : (Nat → Int32)) (vcm : (Nat → Int32)) (vkx : (Nat → Int32)) (vky : (Nat → Int32)) (vkz : (Nat → Int32)) (vmk : (Nat → Int32)) (vre : (Nat → Int32)) (vro : (Nat → Int32)) (vwi : (Nat → Int32)) (vla : (Nat → Int32)) (vlb : (Nat → Int32)) (vtu : (Nat → Int32)) (k0x : Int32) (k0y : Int32) (k0z : Int32) (k1x : Int32) (k1y : Int32) (k1z : Int32) (k2x : Int32) (k2y : Int32) (k2z : Int32) (k3x : Int32) (k3y : Int32) (k3z : Int32) (p1 : Int32) (uu : Int32) (h : fX1_wallsOf vsz vmk p1 = some uu) : Met l yX1_wallsOf wsX1_wallsOf ({ frames := 3, cells := 0, slots := 0, locals := 63 }) (cPre D cI cJ cZ tP (WC_ q cI cZ vnum vsz vfr vfo vli va vb vc ve vth vrk vcm vkx vky vkz vmk vre vro vwi vla vlb vtu k0x k0y k0z k1x k1y k1z k2x k2y k2z k3x k3y k3z) sz [.ref (q 14), .int p1]) (cQi D (va_A (WC_ q cI cZ vnum vsz vfr vfo vli va vb vc ve vth vrk vcm vkx vky vkz vmk vre vro vwi vla vlb vtu k0x k0y k0z k1x k1y k1z k2x k2y k2z k3x k3y k3z) sz) (WC_ q cI cZ vnum vsz vfr vfo vli va vb vc ve vth vrk vcm vkx vky vkz vmk vre vro vwi vla vlb vtu k0x k0y k0z k1x k1y k1z k2x k2y k2z k3x k3y k3z) uu) 0 0 (va_A (WC_ q cI cZ vnum vsz vfr vfo vli va vb vc ve vth vrk vcm vkx vky vkz vmk vre vro vwi vla vlb vtu k0x k0y k0z k1x k1y k1z k2x k2y k2z k3x k3y k3z) sz) := by
  refine Met.ofW (cc := cX1_wallsOf) (maxL := 4) (ret := (some .int)) (by decide) rfl ?_
  intro p e s m args below meth c s₁ B hml hv
  obtain ⟨rfl, hsz, hP, hK, hN, hD0, hZ⟩ := hv
  have hx := B.exec
  have hb := B.bytes
  have hr := B.returns
  have hts := atoms_spec (ws := wsX1_wallsOf) B.pre
  have hown : s.vm.findClass RX1 = some m.cls := findClass_of_methodNamed B.named
  have hlocks := B.notSynchronized
  subst hsz
  have hD := hD0.self (sz := s.heap.size)
  generalize hAe : va_A (WC_ q cI cZ vnum vsz vfr vfo vli va vb vc ve vth vrk vcm vkx vky vkz vmk vre vro vwi vla vlb vtu k0x k0y k0z k1x k1y k1z k2x k2y k2z k3x k3y k3z) s.heap.size = A at hD hZ ⊢
  have hA : ∀ q : Nat, s.heap.size ≤ q → A q := fun q h => by rw [← hAe]; exact Or.inr h
  have hS : va_S A s.heap s.heap [] := va_S.rf
  have hl := lv_entry ([.ref (q 14), .int p1]) (n := 4) (Nat.le_of_ble_eq_true rfl)
  rw [lg_entry_eq]
  generalize (lg_sl ([.ref (q 14), .int p1]) ++ List.replicate (4 - (lg_sl ([.ref (q 14), .int p1])).length) Slot.unset).toArray = ls at hl ⊢
  have hl : lv_has ls 4 [(0, .ref (q 14)), (1, .int p1)] := hl
  unfold fX1_wallsOf at h
  refine lv_iconst (v := (0 : Int32)) hx hb dX1_wallsOf_0 (by decide) ?_
  refine lv_istore_n (lv' := [(2, .int (0 : Int32)), (0, .ref (q 14)), (1, .int p1)]) hx hb dX1_wallsOf_1 rfl hl (by decide) rfl (fun ls hl => ?_)
  refine lv_iconst (v := (0 : Int32)) hx hb dX1_wallsOf_2 (by decide) ?_
  refine lv_istore_n (lv' := [(3, .int (0 : Int32)), (2, .int (0 : Int32)), (0, .ref (q 14)), (1, .int p1)]) hx hb dX1_wallsOf_3 rfl hl (by decide) rfl (fun ls hl => ?_)
  obtain ⟨u3, e4, h⟩ := bd_some h
  refine W_leave (P := fun (y : (Int32 × Int32)) H locs ls => u3 = y ∧ va_P D vwCl (WC_ q cI cZ vnum vsz vfr vfo vli va vb vc ve vth vrk vcm vkx vky vkz vmk vre vro vwi vla vlb vtu k0x k0y k0z k1x k1y k1z k2x k2y k2z k3x k3y k3z) H ∧ va_D A (WC_ q cI cZ vnum vsz vfr vfo vli va vb vc ve vth vrk vcm vkx vky vkz vmk vre vro vwi vla vlb vtu k0x k0y k0z k1x k1y k1z k2x k2y k2z k3x k3y k3z) ∧ va_S A s.heap H locs ∧ lv_has ls 4 [(3, .int y.1), (2, .int y.2), (0, .ref (q 14)), (1, .int p1)]) (g := fun ls => F0 m 39 ls []) ?_ ?_
  · intro y H locs ls hq
    obtain ⟨hy, hP, hD, hS, hl⟩ := hq
    subst hy
    have hl : lv_has ls 4 [(3, .int u3.1), (2, .int u3.2), (0, .ref (q 14)), (1, .int p1)] := hl
    refine lv_iload_n hx hb dX1_wallsOf_39 rfl (lv_at hl 1 rfl) ?_
    obtain rfl := Option.some.inj h
    exact W.iret (v := u3.2) hx hb hr (fun t ht hW => ⟨⟨u3.2, (), rfl, rfl, by rw [ht]; exact hP, hD⟩, hS.F ht⟩) hS.2.2 dX1_wallsOf_40
  · intro K5
    refine W_lp (body := (fun (st : (Int32 × Int32)) => fX1_wallsOf_L4 vsz p1 vmk st.1 st.2)) (P := fun (st : (Int32 × Int32)) H locs ls => va_P D vwCl (WC_ q cI cZ vnum vsz vfr vfo vli va vb vc ve vth vrk vcm vkx vky vkz vmk vre vro vwi vla vlb vtu k0x k0y k0z k1x k1y k1z k2x k2y k2z k3x k3y k3z) H ∧ va_D A (WC_ q cI cZ vnum vsz vfr vfo vli va vb vc ve vth vrk vcm vkx vky vkz vmk vre vro vwi vla vlb vtu k0x k0y k0z k1x k1y k1z k2x k2y k2z k3x k3y k3z) ∧ va_S A s.heap H locs ∧ lv_has ls 4 [(3, .int st.1), (2, .int st.2), (0, .ref (q 14)), (1, .int p1)]) (g := fun _ ls => F0 m 4 ls []) (r := u3) ?_ fu_ ((0 : Int32), (0 : Int32)) _ _ _ e4 ⟨hP, hD, hS, lv_sub hl [0, 1, 2, 3] rfl⟩
    intro st xx9 H locs ls h hq ih8 hR7
    obtain ⟨hP, hD, hS, hl⟩ := hq
    obtain ⟨v1, v2⟩ := st
    have hP : va_P D vwCl (WC_ q cI cZ vnum vsz vfr vfo vli va vb vc ve vth vrk vcm vkx vky vkz vmk vre vro vwi vla vlb vtu k0x k0y k0z k1x k1y k1z k2x k2y k2z k3x k3y k3z) H := hP
    have hD : va_D A (WC_ q cI cZ vnum vsz vfr vfo vli va vb vc ve vth vrk vcm vkx vky vkz vmk vre vro vwi vla vlb vtu k0x k0y k0z k1x k1y k1z k2x k2y k2z k3x k3y k3z) := hD
    have hl : lv_has ls 4 [(3, .int v1), (2, .int v2), (0, .ref (q 14)), (1, .int p1)] := hl
    have h : fX1_wallsOf_L4 vsz p1 vmk v1 v2 = some xx9 := h
    unfold fX1_wallsOf_L4 at h
    refine lv_iload_n hx hb dX1_wallsOf_4 rfl (lv_at hl 0 rfl) ?_
    refine lv_aload_n hx hb dX1_wallsOf_5 rfl (lv_at hl 2 rfl) ?_
    refine va_get (D := D) (ci := 1) (v := .ref (q 1)) (C := RX1) (T := TX1) (N := 13) hx hb hts wiX1_wallsOf_X1 hown hK hP 14 rfl rfl 0 (by decide) (hts _ wmX1_wallsOf_0) (fun _ h9 => h9) rfl dX1_wallsOf_6 ?_
    refine va_getN (D := D) (ci := 3) (v := .int vsz) (C := RX3) (T := TX3) (N := 7) hx hb hts wiX1_wallsOf_X3 hown hK hP 1 rfl rfl 6 (by decide) (NW_f hN 18 rfl) (fun _ h9 => h9) rfl dX1_wallsOf_9 ?_
    refine lv_icmp_ge (tgt := 39) hx hb dX1_wallsOf_12 (by decide) (fun c10 => ?_) (fun c10 => ?_)
    · have h := (if_pos c10).symm.trans h
      exact K5 _ _ _ _ ⟨(hR7 _ (Option.some.inj h).symm).symm, hP, hD, hS, lv_sub hl [0, 1, 2, 3] rfl⟩
    · have h := (if_neg c10).symm.trans h
      refine lv_aload_n hx hb dX1_wallsOf_15 rfl (lv_at hl 2 rfl) ?_
      refine lv_iload_n hx hb dX1_wallsOf_16 rfl (lv_at hl 3 rfl) ?_
      refine lv_iload_n hx hb dX1_wallsOf_17 rfl (lv_at hl 0 rfl) ?_
      obtain ⟨u11, e12, h⟩ := bd_some h
      refine k_i0 (va_runSN (As := [.int p1, .int v1]) (rest := [.ref (q 14)]) ⟨hx, hb, hml, hown, hts⟩ (kX5_across l D cI cJ cZ tP H.size  p1 v1 u11 e12) ⟨va_cnB 2 hts gX1_wallsOf_X5_across_n166 rfl rfl rfl (NW_m hN 3 rfl) (hts _ wmX1_wallsOf_1) (by decide +kernel) ⟨Nat.le_of_ble_eq_true rfl, Nat.le_of_ble_eq_true rfl⟩, (hts _ wmX1_wallsOf_2), trivial⟩ ⟨cPre_blind, cPre_at0 hK hN hS hA hZ⟩ rfl rfl hl.1 rfl (lv_room (Nat.le_of_ble_eq_true rfl)) dX1_wallsOf_18 ⟨Nat.le_of_ble_eq_true rfl, Nat.le_of_ble_eq_true rfl⟩) hP hS hA (fun H locs hP hS => ?_)
      obtain ⟨u13, e14, h⟩ := bd_some h
      refine k_i (va_runV (As := [.int u11]) (rest := []) ⟨hx, hb, hml, hown, hts⟩ (kX1_hasRoom l D q cI cJ cZ tP H.size vnum vsz vfr vfo vli va vb vc ve vth vrk vcm vkx vky vkz vmk vre vro vwi vla vlb vtu k0x k0y k0z k1x k1y k1z k2x k2y k2z k3x k3y k3z u11 u13 e14) (cwV 1 hts gX1_wallsOf_X1_hasRoom rfl rfl rfl (by decide +kernel) ⟨Nat.le_of_ble_eq_true rfl, Nat.le_of_ble_eq_true rfl⟩) ⟨cPre_blind, va_recv hK hP (ci := 1) (q0 := 14) rfl rfl, cPre_at hP hK hN hD hS hA hZ⟩ rfl rfl hl.1 rfl (lv_room (Nat.le_of_ble_eq_true rfl)) dX1_wallsOf_21 ⟨Nat.le_of_ble_eq_true rfl, Nat.le_of_ble_eq_true rfl⟩) hD hS hA (fun H locs hP hD hS => ?_)
      refine lv_if_eq (tgt := 33) hx hb dX1_wallsOf_24 (by decide) (fun c15 => ?_) (fun c15 => ?_)
      · have h := (if_pos c15).symm.trans h
        refine lv_iinc (v := (v1 + (1 : Int32))) (lv' := [(3, .int (v1 + (1 : Int32))), (2, .int v2), (0, .ref (q 14)), (1, .int p1)]) hx hb dX1_wallsOf_33 hl (k := 0) rfl rfl (by decide) rfl (fun ls hl => ?_)
        refine lv_goto (tgt := 4) hx hb dX1_wallsOf_36 (by decide) ?_
        exact ih8 _ _ _ _ (Option.some.inj h).symm ⟨hP, hD, hS, lv_sub hl [0, 1, 2, 3] rfl⟩
      · have h := (if_neg c15).symm.trans h
        refine lv_iload_n hx hb dX1_wallsOf_27 rfl (lv_at hl 1 rfl) ?_
        refine lv_iconst (v := (1 : Int32)) hx hb dX1_wallsOf_28 (by decide) ?_
        refine lv_iload_n hx hb dX1_wallsOf_29 rfl (lv_at hl 0 rfl) ?_
        refine lv_ishl hx hb dX1_wallsOf_30 ?_
        refine lv_ior hx hb dX1_wallsOf_31 ?_
        refine lv_istore_n (lv' := [(2, .int (v2 ||| ((1 : Int32) <<< (v1 &&& 31)))), (3, .int v1), (0, .ref (q 14)), (1, .int p1)]) hx hb dX1_wallsOf_32 rfl hl (by decide) rfl (fun ls hl => ?_)
        refine lv_iinc (v := (v1 + (1 : Int32))) (lv' := [(3, .int (v1 + (1 : Int32))), (2, .int (v2 ||| ((1 : Int32) <<< (v1 &&& 31)))), (0, .ref (q 14)), (1, .int p1)]) hx hb dX1_wallsOf_33 hl (k := 1) rfl rfl (by decide) rfl (fun ls hl => ?_)
        refine lv_goto (tgt := 4) hx hb dX1_wallsOf_36 (by decide) ?_
        exact ih8 _ _ _ _ (Option.some.inj h).symm ⟨hP, hD, hS, lv_sub hl [0, 1, 2, 3] rfl⟩

-- X1_isOpen
theorem wmX1_isOpen_0 : (.fieldLink RX1 55 "SpaceWalls$Cut" "lines" "I" : Cond) ∈ wsX1_isOpen := by decide +kernel
theorem wmX1_isOpen_1 : (.fieldLink RX1 24 "SpaceWalls$Cut" "lineAbove" "[I" : Cond) ∈ wsX1_isOpen := by decide +kernel
theorem wmX1_isOpen_2 : (.fieldLink RX1 27 "SpaceWalls$Cut" "lineBelow" "[I" : Cond) ∈ wsX1_isOpen := by decide +kernel
theorem wiX1_isOpen_X1 : ∀ w ∈ u_ws RX1 TX1 13, w ∈ wsX1_isOpen := by decide +kernel
set_option maxHeartbeats 8000000 in
set_option maxRecDepth 100000 in
theorem kX1_isOpen (l : Launch) (D : va_G) (q : Nat → Nat) (cI cJ cZ : ClassId) (tP sz : Nat) (vnum : Int32) (vsz : Int32) (vfr : Int32) (vfo : Int32) (vli : Int32) (va : (Nat → Int32)) (vb : (Nat → Int32)) (vc : (Nat → Int32)) (ve : (Nat → Int32)) (vth : (Nat → Int32)) (vrk : (Nat → Int32)) (vcm : (Nat → Int32)) (vkx : (Nat → Int32)) (vky : (Nat → Int32)) (vkz : (Nat → Int32)) (vmk : (Nat → Int32)) (vre : (Nat → Int32)) (vro : (Nat → Int32)) (vwi : (Nat → Int32)) (vla : (Nat → Int32)) (vlb : (Nat → Int32)) (vtu : (Nat → Int32)) (k0x : Int32) (k0y : Int32) (k0z : Int32) (k1x : Int32) (k1y : Int32) (k1z : Int32) (k2x : Int32) (k2y : Int32) (k2z : Int32) (k3x : Int32) (k3y : Int32) (k3z : Int32) (p1 : Int32) (uu : Int32) (h : fX1_isOpen vli vla vlb p1 = some uu) : Met l yX1_isOpen wsX1_isOpen ({ frames := 0, cells := 0, slots := 0, locals := 0 }) (cPre D cI cJ cZ tP (WC_ q cI cZ vnum vsz vfr vfo vli va vb vc ve vth vrk vcm vkx vky vkz vmk vre vro vwi vla vlb vtu k0x k0y k0z k1x k1y k1z k2x k2y k2z k3x k3y k3z) sz [.ref (q 14), .int p1]) (cQi D (va_A (WC_ q cI cZ vnum vsz vfr vfo vli va vb vc ve vth vrk vcm vkx vky vkz vmk vre vro vwi vla vlb vtu k0x k0y k0z k1x k1y k1z k2x k2y k2z k3x k3y k3z) sz) (WC_ q cI cZ vnum vsz vfr vfo vli va vb vc ve vth vrk vcm vkx vky vkz vmk vre vro vwi vla vlb vtu k0x k0y k0z k1x k1y k1z k2x k2y k2z k3x k3y k3z) uu) 0 0 (va_A (WC_ q cI cZ vnum vsz vfr vfo vli va vb vc ve vth vrk vcm vkx vky vkz vmk vre vro vwi vla vlb vtu k0x k0y k0z k1x k1y k1z k2x k2y k2z k3x k3y k3z) sz) := by
  refine Met.ofW (cc := cX1_isOpen) (maxL := 5) (ret := (some .boolean)) (by decide) rfl ?_
  intro p e s m args below meth c s₁ B hml hv
  obtain ⟨rfl, hsz, hP, hK, hN, hD0, hZ⟩ := hv
  have hx := B.exec
  have hb := B.bytes
  have hr := B.returns
  have hts := atoms_spec (ws := wsX1_isOpen) B.pre
  have hown : s.vm.findClass RX1 = some m.cls := findClass_of_methodNamed B.named
  have hlocks := B.notSynchronized
  subst hsz
  have hD := hD0.self (sz := s.heap.size)
  generalize hAe : va_A (WC_ q cI cZ vnum vsz vfr vfo vli va vb vc ve vth vrk vcm vkx vky vkz vmk vre vro vwi vla vlb vtu k0x k0y k0z k1x k1y k1z k2x k2y k2z k3x k3y k3z) s.heap.size = A at hD hZ ⊢
  have hA : ∀ q : Nat, s.heap.size ≤ q → A q := fun q h => by rw [← hAe]; exact Or.inr h
  have hS : va_S A s.heap s.heap [] := va_S.rf
  have hl := lv_entry ([.ref (q 14), .int p1]) (n := 5) (Nat.le_of_ble_eq_true rfl)
  rw [lg_entry_eq]
  generalize (lg_sl ([.ref (q 14), .int p1]) ++ List.replicate (5 - (lg_sl ([.ref (q 14), .int p1])).length) Slot.unset).toArray = ls at hl ⊢
  have hl : lv_has ls 5 [(0, .ref (q 14)), (1, .int p1)] := hl
  unfold fX1_isOpen at h
  refine lv_iconst (v := (0 : Int32)) hx hb dX1_isOpen_0 (by decide) ?_
  refine lv_istore_n (lv' := [(2, .int (0 : Int32)), (0, .ref (q 14)), (1, .int p1)]) hx hb dX1_isOpen_1 rfl hl (by decide) rfl (fun ls hl => ?_)
  obtain ⟨u2, e3, h⟩ := bd_some h
  have KR5 : ∀ y7, Sum.inr y7 = u2 → y7 = uu := by
    intro y7 hy
    subst hy
    have h := se_inr h
    exact Option.some.inj h
  refine W_leave (P := fun (y : Int32) H locs ls => u2 = Sum.inl y ∧ va_P D vwCl (WC_ q cI cZ vnum vsz vfr vfo vli va vb vc ve vth vrk vcm vkx vky vkz vmk vre vro vwi vla vlb vtu k0x k0y k0z k1x k1y k1z k2x k2y k2z k3x k3y k3z) H ∧ va_D A (WC_ q cI cZ vnum vsz vfr vfo vli va vb vc ve vth vrk vcm vkx vky vkz vmk vre vro vwi vla vlb vtu k0x k0y k0z k1x k1y k1z k2x k2y k2z k3x k3y k3z) ∧ va_S A s.heap H locs ∧ lv_has ls 5 [(2, .int y), (0, .ref (q 14)), (1, .int p1)]) (g := fun ls => F0 m 88 ls []) ?_ ?_
  · intro x6 H locs ls hq
    obtain ⟨hy, hP, hD, hS, hl⟩ := hq
    subst hy
    have h := se_inl h
    refine lv_iconst (v := (0 : Int32)) hx hb dX1_isOpen_88 (by decide) ?_
    obtain rfl := Option.some.inj h
    exact W.zret (v := (0 : Int32)) hx hb hr (by decide) (fun t ht hW => ⟨⟨(0 : Int32), (), rfl, rfl, by rw [ht]; exact hP, hD⟩, hS.F ht⟩) hS.2.2 dX1_isOpen_89
  · intro K4
    refine W_lp (body := (fun (st : Int32) => fX1_isOpen_L2 vli vla p1 vlb st)) (P := fun (st : Int32) H locs ls => va_P D vwCl (WC_ q cI cZ vnum vsz vfr vfo vli va vb vc ve vth vrk vcm vkx vky vkz vmk vre vro vwi vla vlb vtu k0x k0y k0z k1x k1y k1z k2x k2y k2z k3x k3y k3z) H ∧ va_D A (WC_ q cI cZ vnum vsz vfr vfo vli va vb vc ve vth vrk vcm vkx vky vkz vmk vre vro vwi vla vlb vtu k0x k0y k0z k1x k1y k1z k2x k2y k2z k3x k3y k3z) ∧ va_S A s.heap H locs ∧ lv_has ls 5 [(2, .int st), (0, .ref (q 14)), (1, .int p1)]) (g := fun _ ls => F0 m 2 ls []) (r := u2) ?_ fu_ (0 : Int32) _ _ _ e3 ⟨hP, hD, hS, lv_sub hl [0, 1, 2] rfl⟩
    intro v1 xx10 H locs ls h hq ih9 hR8
    obtain ⟨hP, hD, hS, hl⟩ := hq
    have hP : va_P D vwCl (WC_ q cI cZ vnum vsz vfr vfo vli va vb vc ve vth vrk vcm vkx vky vkz vmk vre vro vwi vla vlb vtu k0x k0y k0z k1x k1y k1z k2x k2y k2z k3x k3y k3z) H := hP
    have hD : va_D A (WC_ q cI cZ vnum vsz vfr vfo vli va vb vc ve vth vrk vcm vkx vky vkz vmk vre vro vwi vla vlb vtu k0x k0y k0z k1x k1y k1z k2x k2y k2z k3x k3y k3z) := hD
    have hl : lv_has ls 5 [(2, .int v1), (0, .ref (q 14)), (1, .int p1)] := hl
    have h : fX1_isOpen_L2 vli vla p1 vlb v1 = some xx10 := h
    unfold fX1_isOpen_L2 at h
    refine lv_iload_n hx hb dX1_isOpen_2 rfl (lv_at hl 0 rfl) ?_
    refine lv_aload_n hx hb dX1_isOpen_3 rfl (lv_at hl 1 rfl) ?_
    refine va_get (D := D) (ci := 1) (v := .int vli) (C := RX1) (T := TX1) (N := 13) hx hb hts wiX1_isOpen_X1 hown hK hP 14 rfl rfl 12 (by decide) (hts _ wmX1_isOpen_0) (fun _ h9 => h9) rfl dX1_isOpen_4 ?_
    refine lv_icmp_ge (tgt := 88) hx hb dX1_isOpen_7 (by decide) (fun c11 => ?_) (fun c11 => ?_)
    · have h := (if_pos c11).symm.trans h
      exact K4 _ _ _ _ ⟨(hR8 _ (Option.some.inj h).symm).symm, hP, hD, hS, lv_sub hl [0, 1, 2] rfl⟩
    · have h := (if_neg c11).symm.trans h
      refine lv_aload_n hx hb dX1_isOpen_10 rfl (lv_at hl 1 rfl) ?_
      refine va_get (D := D) (ci := 1) (v := .ref (q 19)) (C := RX1) (T := TX1) (N := 13) hx hb hts wiX1_isOpen_X1 hown hK hP 14 rfl rfl 6 (by decide) (hts _ wmX1_isOpen_1) (fun _ h9 => h9) rfl dX1_isOpen_11 ?_
      refine lv_iload_n hx hb dX1_isOpen_14 rfl (lv_at hl 0 rfl) ?_
      obtain ⟨i12, h⟩ := ck_some h
      refine va_iald hx hb hK hP 19 0 rfl rfl i12 dX1_isOpen_15 ?_
      refine lv_iload_n hx hb dX1_isOpen_16 rfl (lv_at hl 2 rfl) ?_
      refine lv_iconst (v := (-1 : Int32)) hx hb dX1_isOpen_17 (by decide) ?_
      refine lv_ixor hx hb dX1_isOpen_18 ?_
      refine lv_iand hx hb dX1_isOpen_19 ?_
      refine lv_if_ne (tgt := 38) hx hb dX1_isOpen_20 (by decide) (fun c13 => ?_) (fun c13 => ?_)
      · have h := (if_neg c13).symm.trans h
        refine lv_iconst (v := (0 : Int32)) hx hb dX1_isOpen_38 (by decide) ?_
        refine lv_istore_n (lv' := [(3, .int (0 : Int32)), (2, .int v1), (0, .ref (q 14)), (1, .int p1)]) hx hb dX1_isOpen_39 rfl hl (by decide) rfl (fun ls hl => ?_)
        refine lv_aload_n hx hb dX1_isOpen_40 rfl (lv_at hl 2 rfl) ?_
        refine va_get (D := D) (ci := 1) (v := .ref (q 20)) (C := RX1) (T := TX1) (N := 13) hx hb hts wiX1_isOpen_X1 hown hK hP 14 rfl rfl 7 (by decide) (hts _ wmX1_isOpen_2) (fun _ h9 => h9) rfl dX1_isOpen_41 ?_
        refine lv_iload_n hx hb dX1_isOpen_44 rfl (lv_at hl 1 rfl) ?_
        obtain ⟨i14, h⟩ := ck_some h
        refine va_iald hx hb hK hP 20 0 rfl rfl i14 dX1_isOpen_45 ?_
        refine lv_iload_n hx hb dX1_isOpen_46 rfl (lv_at hl 3 rfl) ?_
        refine lv_iconst (v := (-1 : Int32)) hx hb dX1_isOpen_47 (by decide) ?_
        refine lv_ixor hx hb dX1_isOpen_48 ?_
        refine lv_iand hx hb dX1_isOpen_49 ?_
        refine lv_if_ne (tgt := 68) hx hb dX1_isOpen_50 (by decide) (fun c15 => ?_) (fun c15 => ?_)
        · have h := (if_neg c15).symm.trans h
          refine lv_iconst (v := (0 : Int32)) hx hb dX1_isOpen_68 (by decide) ?_
          refine lv_istore (lv' := [(4, .int (0 : Int32)), (3, .int (0 : Int32)), (2, .int v1), (0, .ref (q 14)), (1, .int p1)]) hx hb dX1_isOpen_69 hl (by decide) rfl (fun ls hl => ?_)
          refine lv_iload_n hx hb dX1_isOpen_71 rfl (lv_at hl 1 rfl) ?_
          refine lv_if_ne (tgt := 80) hx hb dX1_isOpen_72 (by decide) (fun c16 => ?_) (fun c16 => ?_)
          · have h := (if_neg c16).symm.trans h
            refine lv_iconst (v := (1 : Int32)) hx hb dX1_isOpen_80 (by decide) ?_
            have hu := KR5 _ (hR8 _ (Option.some.inj h).symm)
            subst hu
            exact W.zret (v := (1 : Int32)) hx hb hr (by decide) (fun t ht hW => ⟨⟨(1 : Int32), (), rfl, rfl, by rw [ht]; exact hP, hD⟩, hS.F ht⟩) hS.2.2 dX1_isOpen_81
          · have h := (if_pos c16).symm.trans h
            refine lv_iload hx hb dX1_isOpen_75 (lv_at hl 0 rfl) ?_
            refine lv_if_eq (tgt := 82) hx hb dX1_isOpen_77 (by decide) (fun c17 => ?_) (fun c17 => ?_)
            · have h := (if_pos c17).symm.trans h
              refine lv_iinc (v := (v1 + (1 : Int32))) (lv' := [(2, .int (v1 + (1 : Int32))), (4, .int (0 : Int32)), (3, .int (0 : Int32)), (0, .ref (q 14)), (1, .int p1)]) hx hb dX1_isOpen_82 hl (k := 2) rfl rfl (by decide) rfl (fun ls hl => ?_)
              refine lv_goto (tgt := 2) hx hb dX1_isOpen_85 (by decide) ?_
              exact ih9 _ _ _ _ (Option.some.inj h).symm ⟨hP, hD, hS, lv_sub hl [0, 3, 4] rfl⟩
            · have h := (if_neg c17).symm.trans h
              refine lv_iconst (v := (1 : Int32)) hx hb dX1_isOpen_80 (by decide) ?_
              have hu := KR5 _ (hR8 _ (Option.some.inj h).symm)
              subst hu
              exact W.zret (v := (1 : Int32)) hx hb hr (by decide) (fun t ht hW => ⟨⟨(1 : Int32), (), rfl, rfl, by rw [ht]; exact hP, hD⟩, hS.F ht⟩) hS.2.2 dX1_isOpen_81
        · have h := (if_pos c15).symm.trans h
          refine lv_aload_n hx hb dX1_isOpen_53 rfl (lv_at hl 2 rfl) ?_
          refine va_get (D := D) (ci := 1) (v := .ref (q 19)) (C := RX1) (T := TX1) (N := 13) hx hb hts wiX1_isOpen_X1 hown hK hP 14 rfl rfl 6 (by decide) (hts _ wmX1_isOpen_1) (fun _ h9 => h9) rfl dX1_isOpen_54 ?_
          refine lv_iload_n hx hb dX1_isOpen_57 rfl (lv_at hl 1 rfl) ?_
          obtain ⟨i18, h⟩ := ck_some h
          refine va_iald hx hb hK hP 19 0 rfl rfl i18 dX1_isOpen_58 ?_
          refine lv_iload_n hx hb dX1_isOpen_59 rfl (lv_at hl 3 rfl) ?_
          refine lv_iand hx hb dX1_isOpen_60 ?_
          obtain ⟨u19, e20, h⟩ := bd_some h
          refine W_join (P := fun H locs ls => va_P D vwCl (WC_ q cI cZ vnum vsz vfr vfo vli va vb vc ve vth vrk vcm vkx vky vkz vmk vre vro vwi vla vlb vtu k0x k0y k0z k1x k1y k1z k2x k2y k2z k3x k3y k3z) H ∧ va_D A (WC_ q cI cZ vnum vsz vfr vfo vli va vb vc ve vth vrk vcm vkx vky vkz vmk vre vro vwi vla vlb vtu k0x k0y k0z k1x k1y k1z k2x k2y k2z k3x k3y k3z) ∧ va_S A s.heap H locs ∧ lv_has ls 5 [(3, .int (0 : Int32)), (2, .int v1), (0, .ref (q 14)), (1, .int p1)]) (g := fun ls => F0 m 69 ls [.int u19]) ?_ ?_
          · intro H locs ls hq
            obtain ⟨hP, hD, hS, hl⟩ := hq
            refine lv_istore (lv' := [(4, .int u19), (3, .int (0 : Int32)), (2, .int v1), (0, .ref (q 14)), (1, .int p1)]) hx hb dX1_isOpen_69 hl (by decide) rfl (fun ls hl => ?_)
            refine lv_iload_n hx hb dX1_isOpen_71 rfl (lv_at hl 1 rfl) ?_
            refine lv_if_ne (tgt := 80) hx hb dX1_isOpen_72 (by decide) (fun c22 => ?_) (fun c22 => ?_)
            · have h := (if_neg c22).symm.trans h
              refine lv_iconst (v := (1 : Int32)) hx hb dX1_isOpen_80 (by decide) ?_
              have hu := KR5 _ (hR8 _ (Option.some.inj h).symm)
              subst hu
              exact W.zret (v := (1 : Int32)) hx hb hr (by decide) (fun t ht hW => ⟨⟨(1 : Int32), (), rfl, rfl, by rw [ht]; exact hP, hD⟩, hS.F ht⟩) hS.2.2 dX1_isOpen_81
            · have h := (if_pos c22).symm.trans h
              refine lv_iload hx hb dX1_isOpen_75 (lv_at hl 0 rfl) ?_
              refine lv_if_eq (tgt := 82) hx hb dX1_isOpen_77 (by decide) (fun c23 => ?_) (fun c23 => ?_)
              · have h := (if_pos c23).symm.trans h
                refine lv_iinc (v := (v1 + (1 : Int32))) (lv' := [(2, .int (v1 + (1 : Int32))), (4, .int u19), (3, .int (0 : Int32)), (0, .ref (q 14)), (1, .int p1)]) hx hb dX1_isOpen_82 hl (k := 2) rfl rfl (by decide) rfl (fun ls hl => ?_)
                refine lv_goto (tgt := 2) hx hb dX1_isOpen_85 (by decide) ?_
                exact ih9 _ _ _ _ (Option.some.inj h).symm ⟨hP, hD, hS, lv_sub hl [0, 3, 4] rfl⟩
              · have h := (if_neg c23).symm.trans h
                refine lv_iconst (v := (1 : Int32)) hx hb dX1_isOpen_80 (by decide) ?_
                have hu := KR5 _ (hR8 _ (Option.some.inj h).symm)
                subst hu
                exact W.zret (v := (1 : Int32)) hx hb hr (by decide) (fun t ht hW => ⟨⟨(1 : Int32), (), rfl, rfl, by rw [ht]; exact hP, hD⟩, hS.F ht⟩) hS.2.2 dX1_isOpen_81
          · intro J21
            have h := e20
            refine lv_if_ne (tgt := 68) hx hb dX1_isOpen_61 (by decide) (fun c24 => ?_) (fun c24 => ?_)
            · have h := (if_neg c24).symm.trans h
              refine lv_iconst (v := (0 : Int32)) hx hb dX1_isOpen_68 (by decide) ?_
              obtain rfl := Option.some.inj h
              exact J21 _ _ _ ⟨hP, hD, hS, lv_sub hl [0, 1, 2, 3] rfl⟩
            · have h := (if_pos c24).symm.trans h
              refine lv_iconst (v := (1 : Int32)) hx hb dX1_isOpen_64 (by decide) ?_
              refine lv_goto (tgt := 69) hx hb dX1_isOpen_65 (by decide) ?_
              obtain rfl := Option.some.inj h
              exact J21 _ _ _ ⟨hP, hD, hS, lv_sub hl [0, 1, 2, 3] rfl⟩
      · have h := (if_pos c13).symm.trans h
        refine lv_aload_n hx hb dX1_isOpen_23 rfl (lv_at hl 1 rfl) ?_
        refine va_get (D := D) (ci := 1) (v := .ref (q 20)) (C := RX1) (T := TX1) (N := 13) hx hb hts wiX1_isOpen_X1 hown hK hP 14 rfl rfl 7 (by decide) (hts _ wmX1_isOpen_2) (fun _ h9 => h9) rfl dX1_isOpen_24 ?_
        refine lv_iload_n hx hb dX1_isOpen_27 rfl (lv_at hl 0 rfl) ?_
        obtain ⟨i25, h⟩ := ck_some h
        refine va_iald hx hb hK hP 20 0 rfl rfl i25 dX1_isOpen_28 ?_
        refine lv_iload_n hx hb dX1_isOpen_29 rfl (lv_at hl 2 rfl) ?_
        refine lv_iand hx hb dX1_isOpen_30 ?_
        obtain ⟨u26, e27, h⟩ := bd_some h
        refine W_join (P := fun H locs ls => va_P D vwCl (WC_ q cI cZ vnum vsz vfr vfo vli va vb vc ve vth vrk vcm vkx vky vkz vmk vre vro vwi vla vlb vtu k0x k0y k0z k1x k1y k1z k2x k2y k2z k3x k3y k3z) H ∧ va_D A (WC_ q cI cZ vnum vsz vfr vfo vli va vb vc ve vth vrk vcm vkx vky vkz vmk vre vro vwi vla vlb vtu k0x k0y k0z k1x k1y k1z k2x k2y k2z k3x k3y k3z) ∧ va_S A s.heap H locs ∧ lv_has ls 5 [(2, .int v1), (0, .ref (q 14)), (1, .int p1)]) (g := fun ls => F0 m 39 ls [.int u26]) ?_ ?_
        · intro H locs ls hq
          obtain ⟨hP, hD, hS, hl⟩ := hq
          refine lv_istore_n (lv' := [(3, .int u26), (2, .int v1), (0, .ref (q 14)), (1, .int p1)]) hx hb dX1_isOpen_39 rfl hl (by decide) rfl (fun ls hl => ?_)
          refine lv_aload_n hx hb dX1_isOpen_40 rfl (lv_at hl 2 rfl) ?_
          refine va_get (D := D) (ci := 1) (v := .ref (q 20)) (C := RX1) (T := TX1) (N := 13) hx hb hts wiX1_isOpen_X1 hown hK hP 14 rfl rfl 7 (by decide) (hts _ wmX1_isOpen_2) (fun _ h9 => h9) rfl dX1_isOpen_41 ?_
          refine lv_iload_n hx hb dX1_isOpen_44 rfl (lv_at hl 1 rfl) ?_
          obtain ⟨i29, h⟩ := ck_some h
          refine va_iald hx hb hK hP 20 0 rfl rfl i29 dX1_isOpen_45 ?_
          refine lv_iload_n hx hb dX1_isOpen_46 rfl (lv_at hl 3 rfl) ?_
          refine lv_iconst (v := (-1 : Int32)) hx hb dX1_isOpen_47 (by decide) ?_
          refine lv_ixor hx hb dX1_isOpen_48 ?_
          refine lv_iand hx hb dX1_isOpen_49 ?_
          refine lv_if_ne (tgt := 68) hx hb dX1_isOpen_50 (by decide) (fun c30 => ?_) (fun c30 => ?_)
          · have h := (if_neg c30).symm.trans h
            refine lv_iconst (v := (0 : Int32)) hx hb dX1_isOpen_68 (by decide) ?_
            refine lv_istore (lv' := [(4, .int (0 : Int32)), (3, .int u26), (2, .int v1), (0, .ref (q 14)), (1, .int p1)]) hx hb dX1_isOpen_69 hl (by decide) rfl (fun ls hl => ?_)
            refine lv_iload_n hx hb dX1_isOpen_71 rfl (lv_at hl 1 rfl) ?_
            refine lv_if_ne (tgt := 80) hx hb dX1_isOpen_72 (by decide) (fun c31 => ?_) (fun c31 => ?_)
            · have h := (if_neg c31).symm.trans h
              refine lv_iconst (v := (1 : Int32)) hx hb dX1_isOpen_80 (by decide) ?_
              have hu := KR5 _ (hR8 _ (Option.some.inj h).symm)
              subst hu
              exact W.zret (v := (1 : Int32)) hx hb hr (by decide) (fun t ht hW => ⟨⟨(1 : Int32), (), rfl, rfl, by rw [ht]; exact hP, hD⟩, hS.F ht⟩) hS.2.2 dX1_isOpen_81
            · have h := (if_pos c31).symm.trans h
              refine lv_iload hx hb dX1_isOpen_75 (lv_at hl 0 rfl) ?_
              refine lv_if_eq (tgt := 82) hx hb dX1_isOpen_77 (by decide) (fun c32 => ?_) (fun c32 => ?_)
              · have h := (if_pos c32).symm.trans h
                refine lv_iinc (v := (v1 + (1 : Int32))) (lv' := [(2, .int (v1 + (1 : Int32))), (4, .int (0 : Int32)), (3, .int u26), (0, .ref (q 14)), (1, .int p1)]) hx hb dX1_isOpen_82 hl (k := 2) rfl rfl (by decide) rfl (fun ls hl => ?_)
                refine lv_goto (tgt := 2) hx hb dX1_isOpen_85 (by decide) ?_
                exact ih9 _ _ _ _ (Option.some.inj h).symm ⟨hP, hD, hS, lv_sub hl [0, 3, 4] rfl⟩
              · have h := (if_neg c32).symm.trans h
                refine lv_iconst (v := (1 : Int32)) hx hb dX1_isOpen_80 (by decide) ?_
                have hu := KR5 _ (hR8 _ (Option.some.inj h).symm)
                subst hu
                exact W.zret (v := (1 : Int32)) hx hb hr (by decide) (fun t ht hW => ⟨⟨(1 : Int32), (), rfl, rfl, by rw [ht]; exact hP, hD⟩, hS.F ht⟩) hS.2.2 dX1_isOpen_81
          · have h := (if_pos c30).symm.trans h
            refine lv_aload_n hx hb dX1_isOpen_53 rfl (lv_at hl 2 rfl) ?_
            refine va_get (D := D) (ci := 1) (v := .ref (q 19)) (C := RX1) (T := TX1) (N := 13) hx hb hts wiX1_isOpen_X1 hown hK hP 14 rfl rfl 6 (by decide) (hts _ wmX1_isOpen_1) (fun _ h9 => h9) rfl dX1_isOpen_54 ?_
            refine lv_iload_n hx hb dX1_isOpen_57 rfl (lv_at hl 1 rfl) ?_
            obtain ⟨i33, h⟩ := ck_some h
            refine va_iald hx hb hK hP 19 0 rfl rfl i33 dX1_isOpen_58 ?_
            refine lv_iload_n hx hb dX1_isOpen_59 rfl (lv_at hl 3 rfl) ?_
            refine lv_iand hx hb dX1_isOpen_60 ?_
            obtain ⟨u34, e35, h⟩ := bd_some h
            refine W_join (P := fun H locs ls => va_P D vwCl (WC_ q cI cZ vnum vsz vfr vfo vli va vb vc ve vth vrk vcm vkx vky vkz vmk vre vro vwi vla vlb vtu k0x k0y k0z k1x k1y k1z k2x k2y k2z k3x k3y k3z) H ∧ va_D A (WC_ q cI cZ vnum vsz vfr vfo vli va vb vc ve vth vrk vcm vkx vky vkz vmk vre vro vwi vla vlb vtu k0x k0y k0z k1x k1y k1z k2x k2y k2z k3x k3y k3z) ∧ va_S A s.heap H locs ∧ lv_has ls 5 [(3, .int u26), (2, .int v1), (0, .ref (q 14)), (1, .int p1)]) (g := fun ls => F0 m 69 ls [.int u34]) ?_ ?_
            · intro H locs ls hq
              obtain ⟨hP, hD, hS, hl⟩ := hq
              refine lv_istore (lv' := [(4, .int u34), (3, .int u26), (2, .int v1), (0, .ref (q 14)), (1, .int p1)]) hx hb dX1_isOpen_69 hl (by decide) rfl (fun ls hl => ?_)
              refine lv_iload_n hx hb dX1_isOpen_71 rfl (lv_at hl 1 rfl) ?_
              refine lv_if_ne (tgt := 80) hx hb dX1_isOpen_72 (by decide) (fun c37 => ?_) (fun c37 => ?_)
              · have h := (if_neg c37).symm.trans h
                refine lv_iconst (v := (1 : Int32)) hx hb dX1_isOpen_80 (by decide) ?_
                have hu := KR5 _ (hR8 _ (Option.some.inj h).symm)
                subst hu
                exact W.zret (v := (1 : Int32)) hx hb hr (by decide) (fun t ht hW => ⟨⟨(1 : Int32), (), rfl, rfl, by rw [ht]; exact hP, hD⟩, hS.F ht⟩) hS.2.2 dX1_isOpen_81
              · have h := (if_pos c37).symm.trans h
                refine lv_iload hx hb dX1_isOpen_75 (lv_at hl 0 rfl) ?_
                refine lv_if_eq (tgt := 82) hx hb dX1_isOpen_77 (by decide) (fun c38 => ?_) (fun c38 => ?_)
                · have h := (if_pos c38).symm.trans h
                  refine lv_iinc (v := (v1 + (1 : Int32))) (lv' := [(2, .int (v1 + (1 : Int32))), (4, .int u34), (3, .int u26), (0, .ref (q 14)), (1, .int p1)]) hx hb dX1_isOpen_82 hl (k := 2) rfl rfl (by decide) rfl (fun ls hl => ?_)
                  refine lv_goto (tgt := 2) hx hb dX1_isOpen_85 (by decide) ?_
                  exact ih9 _ _ _ _ (Option.some.inj h).symm ⟨hP, hD, hS, lv_sub hl [0, 3, 4] rfl⟩
                · have h := (if_neg c38).symm.trans h
                  refine lv_iconst (v := (1 : Int32)) hx hb dX1_isOpen_80 (by decide) ?_
                  have hu := KR5 _ (hR8 _ (Option.some.inj h).symm)
                  subst hu
                  exact W.zret (v := (1 : Int32)) hx hb hr (by decide) (fun t ht hW => ⟨⟨(1 : Int32), (), rfl, rfl, by rw [ht]; exact hP, hD⟩, hS.F ht⟩) hS.2.2 dX1_isOpen_81
            · intro J36
              have h := e35
              refine lv_if_ne (tgt := 68) hx hb dX1_isOpen_61 (by decide) (fun c39 => ?_) (fun c39 => ?_)
              · have h := (if_neg c39).symm.trans h
                refine lv_iconst (v := (0 : Int32)) hx hb dX1_isOpen_68 (by decide) ?_
                obtain rfl := Option.some.inj h
                exact J36 _ _ _ ⟨hP, hD, hS, lv_sub hl [0, 1, 2, 3] rfl⟩
              · have h := (if_pos c39).symm.trans h
                refine lv_iconst (v := (1 : Int32)) hx hb dX1_isOpen_64 (by decide) ?_
                refine lv_goto (tgt := 69) hx hb dX1_isOpen_65 (by decide) ?_
                obtain rfl := Option.some.inj h
                exact J36 _ _ _ ⟨hP, hD, hS, lv_sub hl [0, 1, 2, 3] rfl⟩
        · intro J28
          have h := e27
          refine lv_if_ne (tgt := 38) hx hb dX1_isOpen_31 (by decide) (fun c40 => ?_) (fun c40 => ?_)
          · have h := (if_neg c40).symm.trans h
            refine lv_iconst (v := (0 : Int32)) hx hb dX1_isOpen_38 (by decide) ?_
            obtain rfl := Option.some.inj h
            exact J28 _ _ _ ⟨hP, hD, hS, lv_sub hl [0, 1, 2] rfl⟩
          · have h := (if_pos c40).symm.trans h
            refine lv_iconst (v := (1 : Int32)) hx hb dX1_isOpen_34 (by decide) ?_
            refine lv_goto (tgt := 39) hx hb dX1_isOpen_35 (by decide) ?_
            obtain rfl := Option.some.inj h
            exact J28 _ _ _ ⟨hP, hD, hS, lv_sub hl [0, 1, 2] rfl⟩
