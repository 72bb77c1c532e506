-- X2_rankOfAll
theorem wmX2_rankOfAll_0 : (.fieldLink RX2 9 "SpaceWalls$Heaps" "rank" "[I" : Cond) ∈ wsX2_rankOfAll := by decide +kernel
theorem wmX2_rankOfAll_1 : (.fieldLink RX2 35 "SpaceWalls$Heaps" "planes" "LSpaceWalls$Planes;" : Cond) ∈ wsX2_rankOfAll := by decide +kernel
theorem wiX2_rankOfAll_X2 : ∀ w ∈ u_ws RX2 TX2 7, w ∈ wsX2_rankOfAll := by decide +kernel
theorem wiX2_rankOfAll_X3 : ∀ w ∈ u_ws RX3 TX3 7, w ∈ wsX2_rankOfAll := by decide +kernel
set_option maxHeartbeats 8000000 in
set_option maxRecDepth 100000 in
theorem kX2_rankOfAll (l : Launch) (D : va_G) (q : Nat → Nat) (cI cJ cZ : ClassId) (tP sz : Nat) (vnum : Int32) (vsz : Int32) (vfr : Int32) (vfo : Int32) (vli : Int32) (va : (Nat → Int32)) (vb : (Nat → Int32)) (vc : (Nat → Int32)) (ve : (Nat → Int32)) (vth : (Nat → Int32)) (vrk : (Nat → Int32)) (vcm : (Nat → Int32)) (vkx : (Nat → Int32)) (vky : (Nat → Int32)) (vkz : (Nat → Int32)) (vmk : (Nat → Int32)) (vre : (Nat → Int32)) (vro : (Nat → Int32)) (vwi : (Nat → Int32)) (vla : (Nat → Int32)) (vlb : (Nat → Int32)) (vtu : (Nat → Int32)) (k0x : Int32) (k0y : Int32) (k0z : Int32) (k1x : Int32) (k1y : Int32) (k1z : Int32) (k2x : Int32) (k2y : Int32) (k2z : Int32) (k3x : Int32) (k3y : Int32) (k3z : Int32)  (uu : Int32) (h : fX2_rankOfAll vsz vrk = some uu) : Met l yX2_rankOfAll wsX2_rankOfAll ({ frames := 0, cells := 0, slots := 0, locals := 0 }) (cPre D cI cJ cZ tP (WC_ q cI cZ vnum vsz vfr vfo vli va vb vc ve vth vrk vcm vkx vky vkz vmk vre vro vwi vla vlb vtu k0x k0y k0z k1x k1y k1z k2x k2y k2z k3x k3y k3z) sz [.ref (q 7)]) (cQi D (va_A (WC_ q cI cZ vnum vsz vfr vfo vli va vb vc ve vth vrk vcm vkx vky vkz vmk vre vro vwi vla vlb vtu k0x k0y k0z k1x k1y k1z k2x k2y k2z k3x k3y k3z) sz) (WC_ q cI cZ vnum vsz vfr vfo vli va vb vc ve vth vrk vcm vkx vky vkz vmk vre vro vwi vla vlb vtu k0x k0y k0z k1x k1y k1z k2x k2y k2z k3x k3y k3z) uu) 0 0 (va_A (WC_ q cI cZ vnum vsz vfr vfo vli va vb vc ve vth vrk vcm vkx vky vkz vmk vre vro vwi vla vlb vtu k0x k0y k0z k1x k1y k1z k2x k2y k2z k3x k3y k3z) sz) := by
  refine Met.ofW (cc := cX2_rankOfAll) (maxL := 1) (ret := (some .int)) (by decide) rfl ?_
  intro p e s m args below meth c s₁ B hml hv
  obtain ⟨rfl, hsz, hP, hK, hN, hD0, hZ⟩ := hv
  have hx := B.exec
  have hb := B.bytes
  have hr := B.returns
  have hts := atoms_spec (ws := wsX2_rankOfAll) B.pre
  have hown : s.vm.findClass RX2 = some m.cls := findClass_of_methodNamed B.named
  have hlocks := B.notSynchronized
  subst hsz
  have hD := hD0.self (sz := s.heap.size)
  generalize hAe : va_A (WC_ q cI cZ vnum vsz vfr vfo vli va vb vc ve vth vrk vcm vkx vky vkz vmk vre vro vwi vla vlb vtu k0x k0y k0z k1x k1y k1z k2x k2y k2z k3x k3y k3z) s.heap.size = A at hD hZ ⊢
  have hA : ∀ q : Nat, s.heap.size ≤ q → A q := fun q h => by rw [← hAe]; exact Or.inr h
  have hS : va_S A s.heap s.heap [] := va_S.rf
  have hl := lv_entry ([.ref (q 7)]) (n := 1) (Nat.le_of_ble_eq_true rfl)
  rw [lg_entry_eq]
  generalize (lg_sl ([.ref (q 7)]) ++ List.replicate (1 - (lg_sl ([.ref (q 7)])).length) Slot.unset).toArray = ls at hl ⊢
  have hl : lv_has ls 1 [(0, .ref (q 7))] := hl
  unfold fX2_rankOfAll at h
  refine lv_aload_n hx hb dX2_rankOfAll_0 rfl (lv_at hl 0 rfl) ?_
  refine va_get (D := D) (ci := 2) (v := .ref (q 8)) (C := RX2) (T := TX2) (N := 7) hx hb hts wiX2_rankOfAll_X2 hown hK hP 7 rfl rfl 1 (by decide) (hts _ wmX2_rankOfAll_0) (fun _ h9 => h9) rfl dX2_rankOfAll_1 ?_
  refine lv_iconst (v := (1 : Int32)) hx hb dX2_rankOfAll_4 (by decide) ?_
  refine lv_aload_n hx hb dX2_rankOfAll_5 rfl (lv_at hl 0 rfl) ?_
  refine va_get (D := D) (ci := 2) (v := .ref (q 1)) (C := RX2) (T := TX2) (N := 7) hx hb hts wiX2_rankOfAll_X2 hown hK hP 7 rfl rfl 0 (by decide) (hts _ wmX2_rankOfAll_1) (fun _ h9 => h9) rfl dX2_rankOfAll_6 ?_
  refine va_getN (D := D) (ci := 3) (v := .int vsz) (C := RX3) (T := TX3) (N := 7) hx hb hts wiX2_rankOfAll_X3 hown hK hP 1 rfl rfl 6 (by decide) (NW_f hN 19 rfl) (fun _ h9 => h9) rfl dX2_rankOfAll_9 ?_
  refine lv_ishl hx hb dX2_rankOfAll_12 ?_
  refine lv_iconst (v := (1 : Int32)) hx hb dX2_rankOfAll_13 (by decide) ?_
  refine lv_isub hx hb dX2_rankOfAll_14 ?_
  obtain ⟨i1, h⟩ := ck_some h
  refine va_iald hx hb hK hP 8 0 rfl rfl i1 dX2_rankOfAll_15 ?_
  obtain rfl := Option.some.inj h
  exact W.iret (v := (vrk (((1 : Int32) <<< (vsz &&& 31)) - (1 : Int32)).toNatClampNeg)) hx hb hr (fun t ht hW => ⟨⟨(vrk (((1 : Int32) <<< (vsz &&& 31)) - (1 : Int32)).toNatClampNeg), (), rfl, rfl, by rw [ht]; exact hP, hD⟩, hS.F ht⟩) hS.2.2 dX2_rankOfAll_16

-- X2_forgetCommon
theorem wmX2_forgetCommon_0 : (.fieldLink RX2 15 "SpaceWalls$Heaps" "common" "[Z" : Cond) ∈ wsX2_forgetCommon := by decide +kernel
theorem wiX2_forgetCommon_X2 : ∀ w ∈ u_ws RX2 TX2 7, w ∈ wsX2_forgetCommon := by decide +kernel
set_option maxHeartbeats 8000000 in
set_option maxRecDepth 100000 in
theorem kX2_forgetCommon (l : Launch) (D : va_G) (q : Nat → Nat) (cI cJ cZ : ClassId) (tP sz : Nat) (vnum : Int32) (vsz : Int32) (vfr : Int32) (vfo : Int32) (vli : Int32) (va : (Nat → Int32)) (vb : (Nat → Int32)) (vc : (Nat → Int32)) (ve : (Nat → Int32)) (vth : (Nat → Int32)) (vrk : (Nat → Int32)) (vcm : (Nat → Int32)) (vkx : (Nat → Int32)) (vky : (Nat → Int32)) (vkz : (Nat → Int32)) (vmk : (Nat → Int32)) (vre : (Nat → Int32)) (vro : (Nat → Int32)) (vwi : (Nat → Int32)) (vla : (Nat → Int32)) (vlb : (Nat → Int32)) (vtu : (Nat → Int32)) (k0x : Int32) (k0y : Int32) (k0z : Int32) (k1x : Int32) (k1y : Int32) (k1z : Int32) (k2x : Int32) (k2y : Int32) (k2z : Int32) (k3x : Int32) (k3y : Int32) (k3z : Int32)  (uu : (Nat → Int32)) (h : fX2_forgetCommon vcm = some uu) : Met l yX2_forgetCommon wsX2_forgetCommon ({ frames := 0, cells := 0, slots := 0, locals := 0 }) (cPre D cI cJ cZ tP (WC_ q cI cZ vnum vsz vfr vfo vli va vb vc ve vth vrk vcm vkx vky vkz vmk vre vro vwi vla vlb vtu k0x k0y k0z k1x k1y k1z k2x k2y k2z k3x k3y k3z) sz [.ref (q 7)]) (cQv D (va_A (WC_ q cI cZ vnum vsz vfr vfo vli va vb vc ve vth vrk vcm vkx vky vkz vmk vre vro vwi vla vlb vtu k0x k0y k0z k1x k1y k1z k2x k2y k2z k3x k3y k3z) sz) (WC_ q cI cZ vnum vsz vfr vfo vli va vb vc ve vth vrk uu vkx vky vkz vmk vre vro vwi vla vlb vtu k0x k0y k0z k1x k1y k1z k2x k2y k2z k3x k3y k3z)) 0 0 (va_A (WC_ q cI cZ vnum vsz vfr vfo vli va vb vc ve vth vrk vcm vkx vky vkz vmk vre vro vwi vla vlb vtu k0x k0y k0z k1x k1y k1z k2x k2y k2z k3x k3y k3z) sz) := by
  refine Met.ofW (cc := cX2_forgetCommon) (maxL := 2) (ret := none) (by decide) rfl ?_
  intro p e s m args below meth c s₁ B hml hv
  obtain ⟨rfl, hsz, hP, hK, hN, hD0, hZ⟩ := hv
  have hx := B.exec
  have hb := B.bytes
  have hr := B.returns
  have hts := atoms_spec (ws := wsX2_forgetCommon) B.pre
  have hown : s.vm.findClass RX2 = some m.cls := findClass_of_methodNamed B.named
  have hlocks := B.notSynchronized
  subst hsz
  have hD := hD0.self (sz := s.heap.size)
  generalize hAe : va_A (WC_ q cI cZ vnum vsz vfr vfo vli va vb vc ve vth vrk vcm vkx vky vkz vmk vre vro vwi vla vlb vtu k0x k0y k0z k1x k1y k1z k2x k2y k2z k3x k3y k3z) s.heap.size = A at hD hZ ⊢
  have hA : ∀ q : Nat, s.heap.size ≤ q → A q := fun q h => by rw [← hAe]; exact Or.inr h
  have hS : va_S A s.heap s.heap [] := va_S.rf
  have hl := lv_entry ([.ref (q 7)]) (n := 2) (Nat.le_of_ble_eq_true rfl)
  rw [lg_entry_eq]
  generalize (lg_sl ([.ref (q 7)]) ++ List.replicate (2 - (lg_sl ([.ref (q 7)])).length) Slot.unset).toArray = ls at hl ⊢
  have hl : lv_has ls 2 [(0, .ref (q 7))] := hl
  unfold fX2_forgetCommon at h
  refine lv_iconst (v := (0 : Int32)) hx hb dX2_forgetCommon_0 (by decide) ?_
  refine lv_istore_n (lv' := [(1, .int (0 : Int32)), (0, .ref (q 7))]) hx hb dX2_forgetCommon_1 rfl hl (by decide) rfl (fun ls hl => ?_)
  obtain ⟨u3, e4, h⟩ := bd_some h
  refine W_leave (P := fun (y : (Int32 × (Nat → Int32))) H locs ls => u3 = y ∧ va_P D vwCl (WC_ q cI cZ vnum vsz vfr vfo vli va vb vc ve vth vrk y.2 vkx vky vkz vmk vre vro vwi vla vlb vtu k0x k0y k0z k1x k1y k1z k2x k2y k2z k3x k3y k3z) H ∧ va_D A (WC_ q cI cZ vnum vsz vfr vfo vli va vb vc ve vth vrk y.2 vkx vky vkz vmk vre vro vwi vla vlb vtu k0x k0y k0z k1x k1y k1z k2x k2y k2z k3x k3y k3z) ∧ va_S A s.heap H locs ∧ lv_has ls 2 [(1, .int y.1), (0, .ref (q 7))]) (g := fun ls => F0 m 22 ls []) ?_ ?_
  · intro y H locs ls hq
    obtain ⟨hy, hP, hD, hS, hl⟩ := hq
    subst hy
    have hl : lv_has ls 2 [(1, .int u3.1), (0, .ref (q 7))] := hl
    obtain rfl := Option.some.inj h
    exact W.vret hx hb hr (fun t ht hW => ⟨⟨(), rfl, trivial, by rw [ht]; exact hP, hD⟩, hS.F ht⟩) hS.2.2 dX2_forgetCommon_22
  · intro K5
    refine W_lp (body := (fun (st : (Int32 × (Nat → Int32))) => fX2_forgetCommon_L2  st.1 st.2)) (P := fun (st : (Int32 × (Nat → Int32))) H locs ls => va_P D vwCl (WC_ q cI cZ vnum vsz vfr vfo vli va vb vc ve vth vrk st.2 vkx vky vkz vmk vre vro vwi vla vlb vtu k0x k0y k0z k1x k1y k1z k2x k2y k2z k3x k3y k3z) H ∧ va_D A (WC_ q cI cZ vnum vsz vfr vfo vli va vb vc ve vth vrk st.2 vkx vky vkz vmk vre vro vwi vla vlb vtu k0x k0y k0z k1x k1y k1z k2x k2y k2z k3x k3y k3z) ∧ va_S A s.heap H locs ∧ lv_has ls 2 [(1, .int st.1), (0, .ref (q 7))]) (g := fun _ ls => F0 m 2 ls []) (r := u3) ?_ fu_ ((0 : Int32), vcm) _ _ _ e4 ⟨hP, hD, hS, lv_sub hl [0, 1] rfl⟩
    intro st xx9 H locs ls h hq ih8 hR7
    obtain ⟨hP, hD, hS, hl⟩ := hq
    obtain ⟨v1, v2⟩ := st
    have hP : va_P D vwCl (WC_ q cI cZ vnum vsz vfr vfo vli va vb vc ve vth vrk v2 vkx vky vkz vmk vre vro vwi vla vlb vtu k0x k0y k0z k1x k1y k1z k2x k2y k2z k3x k3y k3z) H := hP
    have hD : va_D A (WC_ q cI cZ vnum vsz vfr vfo vli va vb vc ve vth vrk v2 vkx vky vkz vmk vre vro vwi vla vlb vtu k0x k0y k0z k1x k1y k1z k2x k2y k2z k3x k3y k3z) := hD
    have hl : lv_has ls 2 [(1, .int v1), (0, .ref (q 7))] := hl
    have h : fX2_forgetCommon_L2  v1 v2 = some xx9 := h
    unfold fX2_forgetCommon_L2 at h
    refine lv_iload_n hx hb dX2_forgetCommon_2 rfl (lv_at hl 0 rfl) ?_
    refine lv_sipush (v := (256 : Int32)) hx hb dX2_forgetCommon_3 (by decide) ?_
    refine lv_icmp_ge (tgt := 22) hx hb dX2_forgetCommon_6 (by decide) (fun c10 => ?_) (fun c10 => ?_)
    · have h := (if_pos c10).symm.trans h
      exact K5 _ _ _ _ ⟨(hR7 _ (Option.some.inj h).symm).symm, hP, hD, hS, lv_sub hl [0, 1] rfl⟩
    · have h := (if_neg c10).symm.trans h
      refine lv_aload_n hx hb dX2_forgetCommon_9 rfl (lv_at hl 1 rfl) ?_
      refine va_get (D := D) (ci := 2) (v := .ref (q 9)) (C := RX2) (T := TX2) (N := 7) hx hb hts wiX2_forgetCommon_X2 hown hK hP 7 rfl rfl 2 (by decide) (hts _ wmX2_forgetCommon_0) (fun _ h9 => h9) rfl dX2_forgetCommon_10 ?_
      refine lv_iload_n hx hb dX2_forgetCommon_13 rfl (lv_at hl 0 rfl) ?_
      refine lv_iconst (v := (0 : Int32)) hx hb dX2_forgetCommon_14 (by decide) ?_
      obtain ⟨i11, h⟩ := ck_some h
      refine va_zast hx hb hK hP hD hS 9 2 rfl rfl i11 dX2_forgetCommon_15 (fun H locs hP hD hS => ?_)
      have hP : va_P D vwCl (WC_ q cI cZ vnum vsz vfr vfo vli va vb vc ve vth vrk (upd v2 v1.toNatClampNeg (vp_nar .boolean (0 : Int32))) vkx vky vkz vmk vre vro vwi vla vlb vtu k0x k0y k0z k1x k1y k1z k2x k2y k2z k3x k3y k3z) H := hP
      have hD : va_D A (WC_ q cI cZ vnum vsz vfr vfo vli va vb vc ve vth vrk (upd v2 v1.toNatClampNeg (vp_nar .boolean (0 : Int32))) vkx vky vkz vmk vre vro vwi vla vlb vtu k0x k0y k0z k1x k1y k1z k2x k2y k2z k3x k3y k3z) := hD
      refine lv_iinc (v := (v1 + (1 : Int32))) (lv' := [(1, .int (v1 + (1 : Int32))), (0, .ref (q 7))]) hx hb dX2_forgetCommon_16 hl (k := 0) rfl rfl (by decide) rfl (fun ls hl => ?_)
      refine lv_goto (tgt := 2) hx hb dX2_forgetCommon_19 (by decide) ?_
      exact ih8 _ _ _ _ (Option.some.inj h).symm ⟨hP, hD, hS, lv_sub hl [0, 1] rfl⟩

-- X2_rankWith
theorem wmX2_rankWith_0 : (.fieldLink RX2 9 "SpaceWalls$Heaps" "rank" "[I" : Cond) ∈ wsX2_rankWith := by decide +kernel
theorem wmX2_rankWith_1 : (.fieldLink RX2 31 "SpaceWalls$Heaps" "key" "LSpaceWalls$Arrow;" : Cond) ∈ wsX2_rankWith := by decide +kernel
theorem wmX2_rankWith_2 : (.fieldLink RX2 19 "SpaceWalls$Heaps" "keyX" "[I" : Cond) ∈ wsX2_rankWith := by decide +kernel
theorem wmX2_rankWith_3 : (.fieldLink RX2 22 "SpaceWalls$Heaps" "keyY" "[I" : Cond) ∈ wsX2_rankWith := by decide +kernel
theorem wmX2_rankWith_4 : (.fieldLink RX2 25 "SpaceWalls$Heaps" "keyZ" "[I" : Cond) ∈ wsX2_rankWith := by decide +kernel
theorem wmX2_rankWith_5 : (.fieldLink RX2 35 "SpaceWalls$Heaps" "planes" "LSpaceWalls$Planes;" : Cond) ∈ wsX2_rankWith := by decide +kernel
theorem wiX2_rankWith_X2 : ∀ w ∈ u_ws RX2 TX2 7, w ∈ wsX2_rankWith := by decide +kernel
theorem wiX2_rankWith_X3 : ∀ w ∈ u_ws RX3 TX3 7, w ∈ wsX2_rankWith := by decide +kernel
theorem wiX2_rankWith_X0 : ∀ w ∈ u_ws RX0 TX0 3, w ∈ wsX2_rankWith := by decide +kernel
set_option maxHeartbeats 8000000 in
set_option maxRecDepth 100000 in
theorem kX2_rankWith (l : Launch) (D : va_G) (q : Nat → Nat) (cI cJ cZ : ClassId) (tP sz : Nat) (vnum : Int32) (vsz : Int32) (vfr : Int32) (vfo : Int32) (vli : Int32) (va : (Nat → Int32)) (vb : (Nat → Int32)) (vc : (Nat → Int32)) (ve : (Nat → Int32)) (vth : (Nat → Int32)) (vrk : (Nat → Int32)) (vcm : (Nat → Int32)) (vkx : (Nat → Int32)) (vky : (Nat → Int32)) (vkz : (Nat → Int32)) (vmk : (Nat → Int32)) (vre : (Nat → Int32)) (vro : (Nat → Int32)) (vwi : (Nat → Int32)) (vla : (Nat → Int32)) (vlb : (Nat → Int32)) (vtu : (Nat → Int32)) (k0x : Int32) (k0y : Int32) (k0z : Int32) (k1x : Int32) (k1y : Int32) (k1z : Int32) (k2x : Int32) (k2y : Int32) (k2z : Int32) (k3x : Int32) (k3y : Int32) (k3z : Int32) (p1 : Int32) (p2 : Int32) (uu : ((Nat → Int32) × (Nat → Int32) × (Nat → Int32) × (Nat → Int32) × Int32 × Int32 × Int32)) (h : fX2_rankWith va vb vc vrk vkx vky vkz p1 p2 = some uu) : Met l yX2_rankWith wsX2_rankWith ({ frames := 2, cells := 0, slots := 0, locals := 48 }) (cPre D cI cJ cZ tP (WC_ q cI cZ vnum vsz vfr vfo vli va vb vc ve vth vrk vcm vkx vky vkz vmk vre vro vwi vla vlb vtu k0x k0y k0z k1x k1y k1z k2x k2y k2z k3x k3y k3z) sz [.ref (q 7), .int p1, .int p2]) (cQv D (va_A (WC_ q cI cZ vnum vsz vfr vfo vli va vb vc ve vth vrk vcm vkx vky vkz vmk vre vro vwi vla vlb vtu k0x k0y k0z k1x k1y k1z k2x k2y k2z k3x k3y k3z) sz) (WC_ q cI cZ vnum vsz vfr vfo vli va vb vc ve vth uu.1 vcm uu.2.1 uu.2.2.1 uu.2.2.2.1 vmk vre vro vwi vla vlb vtu uu.2.2.2.2.1 uu.2.2.2.2.2.1 uu.2.2.2.2.2.2 k1x k1y k1z k2x k2y k2z k3x k3y k3z)) 0 0 (va_A (WC_ q cI cZ vnum vsz vfr vfo vli va vb vc ve vth vrk vcm vkx vky vkz vmk vre vro vwi vla vlb vtu k0x k0y k0z k1x k1y k1z k2x k2y k2z k3x k3y k3z) sz) := by
  refine Met.ofW (cc := cX2_rankWith) (maxL := 6) (ret := none) (by decide) rfl ?_
  intro p e s m args below meth c s₁ B hml hv
  obtain ⟨rfl, hsz, hP, hK, hN, hD0, hZ⟩ := hv
  have hx := B.exec
  have hb := B.bytes
  have hr := B.returns
  have hts := atoms_spec (ws := wsX2_rankWith) B.pre
  have hown : s.vm.findClass RX2 = some m.cls := findClass_of_methodNamed B.named
  have hlocks := B.notSynchronized
  subst hsz
  have hD := hD0.self (sz := s.heap.size)
  generalize hAe : va_A (WC_ q cI cZ vnum vsz vfr vfo vli va vb vc ve vth vrk vcm vkx vky vkz vmk vre vro vwi vla vlb vtu k0x k0y k0z k1x k1y k1z k2x k2y k2z k3x k3y k3z) s.heap.size = A at hD hZ ⊢
  have hA : ∀ q : Nat, s.heap.size ≤ q → A q := fun q h => by rw [← hAe]; exact Or.inr h
  have hS : va_S A s.heap s.heap [] := va_S.rf
  have hl := lv_entry ([.ref (q 7), .int p1, .int p2]) (n := 6) (Nat.le_of_ble_eq_true rfl)
  rw [lg_entry_eq]
  generalize (lg_sl ([.ref (q 7), .int p1, .int p2]) ++ List.replicate (6 - (lg_sl ([.ref (q 7), .int p1, .int p2])).length) Slot.unset).toArray = ls at hl ⊢
  have hl : lv_has ls 6 [(0, .ref (q 7)), (1, .int p1), (2, .int p2)] := hl
  unfold fX2_rankWith at h
  refine lv_iload_n hx hb dX2_rankWith_0 rfl (lv_at hl 1 rfl) ?_
  refine lv_iconst (v := (1 : Int32)) hx hb dX2_rankWith_1 (by decide) ?_
  refine lv_iload_n hx hb dX2_rankWith_2 rfl (lv_at hl 2 rfl) ?_
  refine lv_ishl hx hb dX2_rankWith_3 ?_
  refine lv_ior hx hb dX2_rankWith_4 ?_
  refine lv_istore_n (lv' := [(3, .int (p1 ||| ((1 : Int32) <<< (p2 &&& 31)))), (0, .ref (q 7)), (1, .int p1), (2, .int p2)]) hx hb dX2_rankWith_5 rfl hl (by decide) rfl (fun ls hl => ?_)
  refine lv_aload_n hx hb dX2_rankWith_6 rfl (lv_at hl 1 rfl) ?_
  refine va_get (D := D) (ci := 2) (v := .ref (q 8)) (C := RX2) (T := TX2) (N := 7) hx hb hts wiX2_rankWith_X2 hown hK hP 7 rfl rfl 1 (by decide) (hts _ wmX2_rankWith_0) (fun _ h9 => h9) rfl dX2_rankWith_7 ?_
  refine lv_iload_n hx hb dX2_rankWith_10 rfl (lv_at hl 2 rfl) ?_
  obtain ⟨i1, h⟩ := ck_some h
  refine va_iald hx hb hK hP 8 0 rfl rfl i1 dX2_rankWith_11 ?_
  refine lv_istore (lv' := [(4, .int (vrk p1.toNatClampNeg)), (3, .int (p1 ||| ((1 : Int32) <<< (p2 &&& 31)))), (0, .ref (q 7)), (1, .int p1), (2, .int p2)]) hx hb dX2_rankWith_12 hl (by decide) rfl (fun ls hl => ?_)
  refine lv_aload_n hx hb dX2_rankWith_14 rfl (lv_at hl 2 rfl) ?_
  refine va_get (D := D) (ci := 2) (v := .ref (q 13)) (C := RX2) (T := TX2) (N := 7) hx hb hts wiX2_rankWith_X2 hown hK hP 7 rfl rfl 6 (by decide) (hts _ wmX2_rankWith_1) (fun _ h9 => h9) rfl dX2_rankWith_15 ?_
  refine lv_aload_n hx hb dX2_rankWith_18 rfl (lv_at hl 2 rfl) ?_
  refine va_get (D := D) (ci := 2) (v := .ref (q 10)) (C := RX2) (T := TX2) (N := 7) hx hb hts wiX2_rankWith_X2 hown hK hP 7 rfl rfl 3 (by decide) (hts _ wmX2_rankWith_2) (fun _ h9 => h9) rfl dX2_rankWith_19 ?_
  refine lv_iload_n hx hb dX2_rankWith_22 rfl (lv_at hl 3 rfl) ?_
  obtain ⟨i2, h⟩ := ck_some h
  refine va_iald hx hb hK hP 10 0 rfl rfl i2 dX2_rankWith_23 ?_
  refine lv_aload_n hx hb dX2_rankWith_24 rfl (lv_at hl 2 rfl) ?_
  refine va_get (D := D) (ci := 2) (v := .ref (q 11)) (C := RX2) (T := TX2) (N := 7) hx hb hts wiX2_rankWith_X2 hown hK hP 7 rfl rfl 4 (by decide) (hts _ wmX2_rankWith_3) (fun _ h9 => h9) rfl dX2_rankWith_25 ?_
  refine lv_iload_n hx hb dX2_rankWith_28 rfl (lv_at hl 3 rfl) ?_
  obtain ⟨i3, h⟩ := ck_some h
  refine va_iald hx hb hK hP 11 0 rfl rfl i3 dX2_rankWith_29 ?_
  refine lv_aload_n hx hb dX2_rankWith_30 rfl (lv_at hl 2 rfl) ?_
  refine va_get (D := D) (ci := 2) (v := .ref (q 12)) (C := RX2) (T := TX2) (N := 7) hx hb hts wiX2_rankWith_X2 hown hK hP 7 rfl rfl 5 (by decide) (hts _ wmX2_rankWith_4) (fun _ h9 => h9) rfl dX2_rankWith_31 ?_
  refine lv_iload_n hx hb dX2_rankWith_34 rfl (lv_at hl 3 rfl) ?_
  obtain ⟨i4, h⟩ := ck_some h
  refine va_iald hx hb hK hP 12 0 rfl rfl i4 dX2_rankWith_35 ?_
  obtain ⟨u5, e6, h⟩ := bd_some h
  refine k_v (va_runV (As := [.int (vkx p1.toNatClampNeg), .int (vky p1.toNatClampNeg), .int (vkz p1.toNatClampNeg)]) (rest := []) ⟨hx, hb, hml, hown, hts⟩ (kX0_set_r0 l D q cI cJ cZ tP s.heap.size vnum vsz vfr vfo vli va vb vc ve vth vrk vcm vkx vky vkz vmk vre vro vwi vla vlb vtu k0x k0y k0z k1x k1y k1z k2x k2y k2z k3x k3y k3z (vkx p1.toNatClampNeg) (vky p1.toNatClampNeg) (vkz p1.toNatClampNeg) u5 e6) (cwV 3 hts gX2_rankWith_X0_set rfl rfl rfl (by decide +kernel) ⟨Nat.le_of_ble_eq_true rfl, Nat.le_of_ble_eq_true rfl⟩) ⟨cPre_blind, va_recv hK hP (ci := 0) (q0 := 13) rfl rfl, cPre_at hP hK hN hD hS hA hZ⟩ rfl rfl hl.1 rfl (lv_room (Nat.le_of_ble_eq_true rfl)) dX2_rankWith_36 ⟨Nat.le_of_ble_eq_true rfl, Nat.le_of_ble_eq_true rfl⟩) hD hS hA (fun H locs hP hD hS => ?_)
  refine lv_iload hx hb dX2_rankWith_39 (lv_at hl 0 rfl) ?_
  refine lv_istore (lv' := [(5, .int (vrk p1.toNatClampNeg)), (4, .int (vrk p1.toNatClampNeg)), (3, .int (p1 ||| ((1 : Int32) <<< (p2 &&& 31)))), (0, .ref (q 7)), (1, .int p1), (2, .int p2)]) hx hb dX2_rankWith_41 hl (by decide) rfl (fun ls hl => ?_)
  refine lv_iload hx hb dX2_rankWith_43 (lv_at hl 1 rfl) ?_
  obtain ⟨u7, e8, h⟩ := bd_some h
  refine W_join (P := fun H locs ls => va_P D vwCl (WC_ q cI cZ vnum vsz vfr vfo vli va vb vc ve vth vrk vcm vkx vky vkz vmk vre vro vwi vla vlb vtu u7.2.1 u7.2.2.1 u7.2.2.2 k1x k1y k1z k2x k2y k2z k3x k3y k3z) H ∧ va_D A (WC_ q cI cZ vnum vsz vfr vfo vli va vb vc ve vth vrk vcm vkx vky vkz vmk vre vro vwi vla vlb vtu u7.2.1 u7.2.2.1 u7.2.2.2 k1x k1y k1z k2x k2y k2z k3x k3y k3z) ∧ va_S A s.heap H locs ∧ lv_has ls 6 [(5, .int u7.1), (4, .int (vrk p1.toNatClampNeg)), (3, .int (p1 ||| ((1 : Int32) <<< (p2 &&& 31)))), (0, .ref (q 7)), (1, .int p1), (2, .int p2)]) (g := fun ls => F0 m 174 ls []) ?_ ?_
  · intro H locs ls hq
    obtain ⟨hP, hD, hS, hl⟩ := hq
    refine lv_aload_n hx hb dX2_rankWith_174 rfl (lv_at hl 3 rfl) ?_
    refine va_get (D := D) (ci := 2) (v := .ref (q 8)) (C := RX2) (T := TX2) (N := 7) hx hb hts wiX2_rankWith_X2 hown hK hP 7 rfl rfl 1 (by decide) (hts _ wmX2_rankWith_0) (fun _ h9 => h9) rfl dX2_rankWith_175 ?_
    refine lv_iload_n hx hb dX2_rankWith_178 rfl (lv_at hl 2 rfl) ?_
    refine lv_iload hx hb dX2_rankWith_179 (lv_at hl 0 rfl) ?_
    obtain ⟨i10, h⟩ := ck_some h
    refine va_iast hx hb hK hP hD hS 8 0 rfl rfl i10 dX2_rankWith_181 (fun H locs hP hD hS => ?_)
    have hP : va_P D vwCl (WC_ q cI cZ vnum vsz vfr vfo vli va vb vc ve vth (upd vrk (p1 ||| ((1 : Int32) <<< (p2 &&& 31))).toNatClampNeg u7.1) vcm vkx vky vkz vmk vre vro vwi vla vlb vtu u7.2.1 u7.2.2.1 u7.2.2.2 k1x k1y k1z k2x k2y k2z k3x k3y k3z) H := hP
    have hD : va_D A (WC_ q cI cZ vnum vsz vfr vfo vli va vb vc ve vth (upd vrk (p1 ||| ((1 : Int32) <<< (p2 &&& 31))).toNatClampNeg u7.1) vcm vkx vky vkz vmk vre vro vwi vla vlb vtu u7.2.1 u7.2.2.1 u7.2.2.2 k1x k1y k1z k2x k2y k2z k3x k3y k3z) := hD
    refine lv_aload_n hx hb dX2_rankWith_182 rfl (lv_at hl 3 rfl) ?_
    refine va_get (D := D) (ci := 2) (v := .ref (q 10)) (C := RX2) (T := TX2) (N := 7) hx hb hts wiX2_rankWith_X2 hown hK hP 7 rfl rfl 3 (by decide) (hts _ wmX2_rankWith_2) (fun _ h9 => h9) rfl dX2_rankWith_183 ?_
    refine lv_iload_n hx hb dX2_rankWith_186 rfl (lv_at hl 2 rfl) ?_
    refine lv_aload_n hx hb dX2_rankWith_187 rfl (lv_at hl 3 rfl) ?_
    refine va_get (D := D) (ci := 2) (v := .ref (q 13)) (C := RX2) (T := TX2) (N := 7) hx hb hts wiX2_rankWith_X2 hown hK hP 7 rfl rfl 6 (by decide) (hts _ wmX2_rankWith_1) (fun _ h9 => h9) rfl dX2_rankWith_188 ?_
    refine va_getN (D := D) (ci := 0) (v := .int u7.2.1) (C := RX0) (T := TX0) (N := 3) hx hb hts wiX2_rankWith_X0 hown hK hP 13 rfl rfl 0 (by decide) (NW_f hN 23 rfl) (fun _ h9 => h9) rfl dX2_rankWith_191 ?_
    obtain ⟨i11, h⟩ := ck_some h
    refine va_iast hx hb hK hP hD hS 10 0 rfl rfl i11 dX2_rankWith_194 (fun H locs hP hD hS => ?_)
    have hP : va_P D vwCl (WC_ q cI cZ vnum vsz vfr vfo vli va vb vc ve vth (upd vrk (p1 ||| ((1 : Int32) <<< (p2 &&& 31))).toNatClampNeg u7.1) vcm (upd vkx (p1 ||| ((1 : Int32) <<< (p2 &&& 31))).toNatClampNeg u7.2.1) vky vkz vmk vre vro vwi vla vlb vtu u7.2.1 u7.2.2.1 u7.2.2.2 k1x k1y k1z k2x k2y k2z k3x k3y k3z) H := hP
    have hD : va_D A (WC_ q cI cZ vnum vsz vfr vfo vli va vb vc ve vth (upd vrk (p1 ||| ((1 : Int32) <<< (p2 &&& 31))).toNatClampNeg u7.1) vcm (upd vkx (p1 ||| ((1 : Int32) <<< (p2 &&& 31))).toNatClampNeg u7.2.1) vky vkz vmk vre vro vwi vla vlb vtu u7.2.1 u7.2.2.1 u7.2.2.2 k1x k1y k1z k2x k2y k2z k3x k3y k3z) := hD
    refine lv_aload_n hx hb dX2_rankWith_195 rfl (lv_at hl 3 rfl) ?_
    refine va_get (D := D) (ci := 2) (v := .ref (q 11)) (C := RX2) (T := TX2) (N := 7) hx hb hts wiX2_rankWith_X2 hown hK hP 7 rfl rfl 4 (by decide) (hts _ wmX2_rankWith_3) (fun _ h9 => h9) rfl dX2_rankWith_196 ?_
    refine lv_iload_n hx hb dX2_rankWith_199 rfl (lv_at hl 2 rfl) ?_
    refine lv_aload_n hx hb dX2_rankWith_200 rfl (lv_at hl 3 rfl) ?_
    refine va_get (D := D) (ci := 2) (v := .ref (q 13)) (C := RX2) (T := TX2) (N := 7) hx hb hts wiX2_rankWith_X2 hown hK hP 7 rfl rfl 6 (by decide) (hts _ wmX2_rankWith_1) (fun _ h9 => h9) rfl dX2_rankWith_201 ?_
    refine va_getN (D := D) (ci := 0) (v := .int u7.2.2.1) (C := RX0) (T := TX0) (N := 3) hx hb hts wiX2_rankWith_X0 hown hK hP 13 rfl rfl 1 (by decide) (NW_f hN 24 rfl) (fun _ h9 => h9) rfl dX2_rankWith_204 ?_
    obtain ⟨i12, h⟩ := ck_some h
    refine va_iast hx hb hK hP hD hS 11 0 rfl rfl i12 dX2_rankWith_207 (fun H locs hP hD hS => ?_)
    have hP : va_P D vwCl (WC_ q cI cZ vnum vsz vfr vfo vli va vb vc ve vth (upd vrk (p1 ||| ((1 : Int32) <<< (p2 &&& 31))).toNatClampNeg u7.1) vcm (upd vkx (p1 ||| ((1 : Int32) <<< (p2 &&& 31))).toNatClampNeg u7.2.1) (upd vky (p1 ||| ((1 : Int32) <<< (p2 &&& 31))).toNatClampNeg u7.2.2.1) vkz vmk vre vro vwi vla vlb vtu u7.2.1 u7.2.2.1 u7.2.2.2 k1x k1y k1z k2x k2y k2z k3x k3y k3z) H := hP
    have hD : va_D A (WC_ q cI cZ vnum vsz vfr vfo vli va vb vc ve vth (upd vrk (p1 ||| ((1 : Int32) <<< (p2 &&& 31))).toNatClampNeg u7.1) vcm (upd vkx (p1 ||| ((1 : Int32) <<< (p2 &&& 31))).toNatClampNeg u7.2.1) (upd vky (p1 ||| ((1 : Int32) <<< (p2 &&& 31))).toNatClampNeg u7.2.2.1) vkz vmk vre vro vwi vla vlb vtu u7.2.1 u7.2.2.1 u7.2.2.2 k1x k1y k1z k2x k2y k2z k3x k3y k3z) := hD
    refine lv_aload_n hx hb dX2_rankWith_208 rfl (lv_at hl 3 rfl) ?_
    refine va_get (D := D) (ci := 2) (v := .ref (q 12)) (C := RX2) (T := TX2) (N := 7) hx hb hts wiX2_rankWith_X2 hown hK hP 7 rfl rfl 5 (by decide) (hts _ wmX2_rankWith_4) (fun _ h9 => h9) rfl dX2_rankWith_209 ?_
    refine lv_iload_n hx hb dX2_rankWith_212 rfl (lv_at hl 2 rfl) ?_
    refine lv_aload_n hx hb dX2_rankWith_213 rfl (lv_at hl 3 rfl) ?_
    refine va_get (D := D) (ci := 2) (v := .ref (q 13)) (C := RX2) (T := TX2) (N := 7) hx hb hts wiX2_rankWith_X2 hown hK hP 7 rfl rfl 6 (by decide) (hts _ wmX2_rankWith_1) (fun _ h9 => h9) rfl dX2_rankWith_214 ?_
    refine va_getN (D := D) (ci := 0) (v := .int u7.2.2.2) (C := RX0) (T := TX0) (N := 3) hx hb hts wiX2_rankWith_X0 hown hK hP 13 rfl rfl 2 (by decide) (NW_f hN 25 rfl) (fun _ h9 => h9) rfl dX2_rankWith_217 ?_
    obtain ⟨i13, h⟩ := ck_some h
    refine va_iast hx hb hK hP hD hS 12 0 rfl rfl i13 dX2_rankWith_220 (fun H locs hP hD hS => ?_)
    have hP : va_P D vwCl (WC_ q cI cZ vnum vsz vfr vfo vli va vb vc ve vth (upd vrk (p1 ||| ((1 : Int32) <<< (p2 &&& 31))).toNatClampNeg u7.1) vcm (upd vkx (p1 ||| ((1 : Int32) <<< (p2 &&& 31))).toNatClampNeg u7.2.1) (upd vky (p1 ||| ((1 : Int32) <<< (p2 &&& 31))).toNatClampNeg u7.2.2.1) (upd vkz (p1 ||| ((1 : Int32) <<< (p2 &&& 31))).toNatClampNeg u7.2.2.2) vmk vre vro vwi vla vlb vtu u7.2.1 u7.2.2.1 u7.2.2.2 k1x k1y k1z k2x k2y k2z k3x k3y k3z) H := hP
    have hD : va_D A (WC_ q cI cZ vnum vsz vfr vfo vli va vb vc ve vth (upd vrk (p1 ||| ((1 : Int32) <<< (p2 &&& 31))).toNatClampNeg u7.1) vcm (upd vkx (p1 ||| ((1 : Int32) <<< (p2 &&& 31))).toNatClampNeg u7.2.1) (upd vky (p1 ||| ((1 : Int32) <<< (p2 &&& 31))).toNatClampNeg u7.2.2.1) (upd vkz (p1 ||| ((1 : Int32) <<< (p2 &&& 31))).toNatClampNeg u7.2.2.2) vmk vre vro vwi vla vlb vtu u7.2.1 u7.2.2.1 u7.2.2.2 k1x k1y k1z k2x k2y k2z k3x k3y k3z) := hD
    obtain rfl := Option.some.inj h
    exact W.vret hx hb hr (fun t ht hW => ⟨⟨(), rfl, trivial, by rw [ht]; exact hP, hD⟩, hS.F ht⟩) hS.2.2 dX2_rankWith_221
  · intro J9
    have h := e8
    refine lv_if_ne (tgt := 88) hx hb dX2_rankWith_45 (by decide) (fun c14 => ?_) (fun c14 => ?_)
    · have h := (if_neg c14).symm.trans h
      refine lv_iload hx hb dX2_rankWith_88 (lv_at hl 1 rfl) ?_
      refine lv_iconst (v := (1 : Int32)) hx hb dX2_rankWith_90 (by decide) ?_
      refine lv_icmp_ne (tgt := 150) hx hb dX2_rankWith_91 (by decide) (fun c15 => ?_) (fun c15 => ?_)
      · have h := (if_neg c15).symm.trans h
        refine lv_iload hx hb dX2_rankWith_150 (lv_at hl 1 rfl) ?_
        refine lv_iconst (v := (2 : Int32)) hx hb dX2_rankWith_152 (by decide) ?_
        refine lv_icmp_ne (tgt := 174) hx hb dX2_rankWith_153 (by decide) (fun c16 => ?_) (fun c16 => ?_)
        · have h := (if_neg c16).symm.trans h
          obtain rfl := Option.some.inj h
          exact J9 _ _ _ ⟨hP, hD, hS, lv_sub hl [0, 1, 2, 3, 4, 5] rfl⟩
        · have h := (if_pos c16).symm.trans h
          refine lv_aload_n hx hb dX2_rankWith_156 rfl (lv_at hl 3 rfl) ?_
          refine va_get (D := D) (ci := 2) (v := .ref (q 13)) (C := RX2) (T := TX2) (N := 7) hx hb hts wiX2_rankWith_X2 hown hK hP 7 rfl rfl 6 (by decide) (hts _ wmX2_rankWith_1) (fun _ h9 => h9) rfl dX2_rankWith_157 ?_
          refine lv_aload_n hx hb dX2_rankWith_160 rfl (lv_at hl 3 rfl) ?_
          refine va_get (D := D) (ci := 2) (v := .ref (q 1)) (C := RX2) (T := TX2) (N := 7) hx hb hts wiX2_rankWith_X2 hown hK hP 7 rfl rfl 0 (by decide) (hts _ wmX2_rankWith_5) (fun _ h9 => h9) rfl dX2_rankWith_161 ?_
          refine lv_iload_n hx hb dX2_rankWith_164 rfl (lv_at hl 5 rfl) ?_
          obtain ⟨u17, e18, h⟩ := bd_some h
          refine k_i (va_runV (As := [.ref (q 1), .int p2]) (rest := []) ⟨hx, hb, hml, hown, hts⟩ (kX0_climb_r0 l D q cI cJ cZ tP H.size vnum vsz vfr vfo vli va vb vc ve vth vrk vcm vkx vky vkz vmk vre vro vwi vla vlb vtu u5.1 u5.2.1 u5.2.2 k1x k1y k1z k2x k2y k2z k3x k3y k3z p2 u17 e18) (cwV 2 hts gX2_rankWith_X0_climb rfl rfl rfl (by decide +kernel) ⟨Nat.le_of_ble_eq_true rfl, Nat.le_of_ble_eq_true rfl⟩) ⟨cPre_blind, va_recv hK hP (ci := 0) (q0 := 13) rfl rfl, cPre_at hP hK hN hD hS hA hZ⟩ rfl rfl hl.1 rfl (lv_room (Nat.le_of_ble_eq_true rfl)) dX2_rankWith_165 ⟨Nat.le_of_ble_eq_true rfl, Nat.le_of_ble_eq_true rfl⟩) hD hS hA (fun H locs hP hD hS => ?_)
          refine lv_if_eq (tgt := 174) hx hb dX2_rankWith_168 (by decide) (fun c19 => ?_) (fun c19 => ?_)
          · have h := (if_pos c19).symm.trans h
            obtain rfl := Option.some.inj h
            exact J9 _ _ _ ⟨hP, hD, hS, lv_sub hl [0, 1, 2, 3, 4, 5] rfl⟩
          · have h := (if_neg c19).symm.trans h
            refine lv_iconst (v := (3 : Int32)) hx hb dX2_rankWith_171 (by decide) ?_
            refine lv_istore (lv' := [(5, .int (3 : Int32)), (4, .int (vrk p1.toNatClampNeg)), (3, .int (p1 ||| ((1 : Int32) <<< (p2 &&& 31)))), (0, .ref (q 7)), (1, .int p1), (2, .int p2)]) hx hb dX2_rankWith_172 hl (by decide) rfl (fun ls hl => ?_)
            obtain rfl := Option.some.inj h
            exact J9 _ _ _ ⟨hP, hD, hS, lv_sub hl [0, 1, 2, 3, 4, 5] rfl⟩
      · have h := (if_pos c15).symm.trans h
        refine lv_aload_n hx hb dX2_rankWith_94 rfl (lv_at hl 3 rfl) ?_
        refine va_get (D := D) (ci := 2) (v := .ref (q 13)) (C := RX2) (T := TX2) (N := 7) hx hb hts wiX2_rankWith_X2 hown hK hP 7 rfl rfl 6 (by decide) (hts _ wmX2_rankWith_1) (fun _ h9 => h9) rfl dX2_rankWith_95 ?_
        refine lv_aload_n hx hb dX2_rankWith_98 rfl (lv_at hl 3 rfl) ?_
        refine va_get (D := D) (ci := 2) (v := .ref (q 1)) (C := RX2) (T := TX2) (N := 7) hx hb hts wiX2_rankWith_X2 hown hK hP 7 rfl rfl 0 (by decide) (hts _ wmX2_rankWith_5) (fun _ h9 => h9) rfl dX2_rankWith_99 ?_
        refine lv_iload_n hx hb dX2_rankWith_102 rfl (lv_at hl 5 rfl) ?_
        obtain ⟨u20, e21, h⟩ := bd_some h
        refine k_v (va_runV (As := [.ref (q 1), .int p2]) (rest := []) ⟨hx, hb, hml, hown, hts⟩ (kX0_crossWith_r0 l D q cI cJ cZ tP H.size vnum vsz vfr vfo vli va vb vc ve vth vrk vcm vkx vky vkz vmk vre vro vwi vla vlb vtu u5.1 u5.2.1 u5.2.2 k1x k1y k1z k2x k2y k2z k3x k3y k3z p2 u20 e21) (cwV 2 hts gX2_rankWith_X0_crossWith rfl rfl rfl (by decide +kernel) ⟨Nat.le_of_ble_eq_true rfl, Nat.le_of_ble_eq_true rfl⟩) ⟨cPre_blind, va_recv hK hP (ci := 0) (q0 := 13) rfl rfl, cPre_at hP hK hN hD hS hA hZ⟩ rfl rfl hl.1 rfl (lv_room (Nat.le_of_ble_eq_true rfl)) dX2_rankWith_103 ⟨Nat.le_of_ble_eq_true rfl, Nat.le_of_ble_eq_true rfl⟩) hD hS hA (fun H locs hP hD hS => ?_)
        refine lv_aload_n hx hb dX2_rankWith_106 rfl (lv_at hl 3 rfl) ?_
        refine va_get (D := D) (ci := 2) (v := .ref (q 13)) (C := RX2) (T := TX2) (N := 7) hx hb hts wiX2_rankWith_X2 hown hK hP 7 rfl rfl 6 (by decide) (hts _ wmX2_rankWith_1) (fun _ h9 => h9) rfl dX2_rankWith_107 ?_
        obtain ⟨u22, e23, h⟩ := bd_some h
        refine k_i (va_runV (As := []) (rest := []) ⟨hx, hb, hml, hown, hts⟩ (kX0_isNothing_r0 l D q cI cJ cZ tP H.size vnum vsz vfr vfo vli va vb vc ve vth vrk vcm vkx vky vkz vmk vre vro vwi vla vlb vtu u20.1 u20.2.1 u20.2.2 k1x k1y k1z k2x k2y k2z k3x k3y k3z  u22 e23) (cwV 0 hts gX2_rankWith_X0_isNothing rfl rfl rfl (by decide +kernel) ⟨Nat.le_of_ble_eq_true rfl, Nat.le_of_ble_eq_true rfl⟩) ⟨cPre_blind, va_recv hK hP (ci := 0) (q0 := 13) rfl rfl, cPre_at hP hK hN hD hS hA hZ⟩ rfl rfl hl.1 rfl (lv_room (Nat.le_of_ble_eq_true rfl)) dX2_rankWith_110 ⟨Nat.le_of_ble_eq_true rfl, Nat.le_of_ble_eq_true rfl⟩) hD hS hA (fun H locs hP hD hS => ?_)
        refine lv_if_eq (tgt := 144) hx hb dX2_rankWith_113 (by decide) (fun c24 => ?_) (fun c24 => ?_)
        · have h := (if_pos c24).symm.trans h
          refine lv_iconst (v := (2 : Int32)) hx hb dX2_rankWith_144 (by decide) ?_
          refine lv_istore (lv' := [(5, .int (2 : Int32)), (4, .int (vrk p1.toNatClampNeg)), (3, .int (p1 ||| ((1 : Int32) <<< (p2 &&& 31)))), (0, .ref (q 7)), (1, .int p1), (2, .int p2)]) hx hb dX2_rankWith_145 hl (by decide) rfl (fun ls hl => ?_)
          refine lv_goto (tgt := 174) hx hb dX2_rankWith_147 (by decide) ?_
          obtain rfl := Option.some.inj h
          exact J9 _ _ _ ⟨hP, hD, hS, lv_sub hl [0, 1, 2, 3, 4, 5] rfl⟩
        · have h := (if_neg c24).symm.trans h
          refine lv_aload_n hx hb dX2_rankWith_116 rfl (lv_at hl 3 rfl) ?_
          refine va_get (D := D) (ci := 2) (v := .ref (q 13)) (C := RX2) (T := TX2) (N := 7) hx hb hts wiX2_rankWith_X2 hown hK hP 7 rfl rfl 6 (by decide) (hts _ wmX2_rankWith_1) (fun _ h9 => h9) rfl dX2_rankWith_117 ?_
          refine lv_aload_n hx hb dX2_rankWith_120 rfl (lv_at hl 3 rfl) ?_
          refine va_get (D := D) (ci := 2) (v := .ref (q 10)) (C := RX2) (T := TX2) (N := 7) hx hb hts wiX2_rankWith_X2 hown hK hP 7 rfl rfl 3 (by decide) (hts _ wmX2_rankWith_2) (fun _ h9 => h9) rfl dX2_rankWith_121 ?_
          refine lv_iload_n hx hb dX2_rankWith_124 rfl (lv_at hl 4 rfl) ?_
          obtain ⟨i25, h⟩ := ck_some h
          refine va_iald hx hb hK hP 10 0 rfl rfl i25 dX2_rankWith_125 ?_
          refine lv_aload_n hx hb dX2_rankWith_126 rfl (lv_at hl 3 rfl) ?_
          refine va_get (D := D) (ci := 2) (v := .ref (q 11)) (C := RX2) (T := TX2) (N := 7) hx hb hts wiX2_rankWith_X2 hown hK hP 7 rfl rfl 4 (by decide) (hts _ wmX2_rankWith_3) (fun _ h9 => h9) rfl dX2_rankWith_127 ?_
          refine lv_iload_n hx hb dX2_rankWith_130 rfl (lv_at hl 4 rfl) ?_
          obtain ⟨i26, h⟩ := ck_some h
          refine va_iald hx hb hK hP 11 0 rfl rfl i26 dX2_rankWith_131 ?_
          refine lv_aload_n hx hb dX2_rankWith_132 rfl (lv_at hl 3 rfl) ?_
          refine va_get (D := D) (ci := 2) (v := .ref (q 12)) (C := RX2) (T := TX2) (N := 7) hx hb hts wiX2_rankWith_X2 hown hK hP 7 rfl rfl 5 (by decide) (hts _ wmX2_rankWith_4) (fun _ h9 => h9) rfl dX2_rankWith_133 ?_
          refine lv_iload_n hx hb dX2_rankWith_136 rfl (lv_at hl 4 rfl) ?_
          obtain ⟨i27, h⟩ := ck_some h
          refine va_iald hx hb hK hP 12 0 rfl rfl i27 dX2_rankWith_137 ?_
          obtain ⟨u28, e29, h⟩ := bd_some h
          refine k_v (va_runV (As := [.int (vkx p1.toNatClampNeg), .int (vky p1.toNatClampNeg), .int (vkz p1.toNatClampNeg)]) (rest := []) ⟨hx, hb, hml, hown, hts⟩ (kX0_set_r0 l D q cI cJ cZ tP H.size vnum vsz vfr vfo vli va vb vc ve vth vrk vcm vkx vky vkz vmk vre vro vwi vla vlb vtu u20.1 u20.2.1 u20.2.2 k1x k1y k1z k2x k2y k2z k3x k3y k3z (vkx p1.toNatClampNeg) (vky p1.toNatClampNeg) (vkz p1.toNatClampNeg) u28 e29) (cwV 3 hts gX2_rankWith_X0_set rfl rfl rfl (by decide +kernel) ⟨Nat.le_of_ble_eq_true rfl, Nat.le_of_ble_eq_true rfl⟩) ⟨cPre_blind, va_recv hK hP (ci := 0) (q0 := 13) rfl rfl, cPre_at hP hK hN hD hS hA hZ⟩ rfl rfl hl.1 rfl (lv_room (Nat.le_of_ble_eq_true rfl)) dX2_rankWith_138 ⟨Nat.le_of_ble_eq_true rfl, Nat.le_of_ble_eq_true rfl⟩) hD hS hA (fun H locs hP hD hS => ?_)
          refine lv_goto (tgt := 174) hx hb dX2_rankWith_141 (by decide) ?_
          obtain rfl := Option.some.inj h
          exact J9 _ _ _ ⟨hP, hD, hS, lv_sub hl [0, 1, 2, 3, 4, 5] rfl⟩
    · have h := (if_pos c14).symm.trans h
      refine lv_aload_n hx hb dX2_rankWith_48 rfl (lv_at hl 3 rfl) ?_
      refine va_get (D := D) (ci := 2) (v := .ref (q 13)) (C := RX2) (T := TX2) (N := 7) hx hb hts wiX2_rankWith_X2 hown hK hP 7 rfl rfl 6 (by decide) (hts _ wmX2_rankWith_1) (fun _ h9 => h9) rfl dX2_rankWith_49 ?_
      refine lv_aload_n hx hb dX2_rankWith_52 rfl (lv_at hl 3 rfl) ?_
      refine va_get (D := D) (ci := 2) (v := .ref (q 1)) (C := RX2) (T := TX2) (N := 7) hx hb hts wiX2_rankWith_X2 hown hK hP 7 rfl rfl 0 (by decide) (hts _ wmX2_rankWith_5) (fun _ h9 => h9) rfl dX2_rankWith_53 ?_
      refine va_getN (D := D) (ci := 3) (v := .ref (q 2)) (C := RX3) (T := TX3) (N := 7) hx hb hts wiX2_rankWith_X3 hown hK hP 1 rfl rfl 1 (by decide) (NW_f hN 20 rfl) (fun _ h9 => h9) rfl dX2_rankWith_56 ?_
      refine lv_iload_n hx hb dX2_rankWith_59 rfl (lv_at hl 5 rfl) ?_
      obtain ⟨i30, h⟩ := ck_some h
      refine va_iald hx hb hK hP 2 0 rfl rfl i30 dX2_rankWith_60 ?_
      refine lv_aload_n hx hb dX2_rankWith_61 rfl (lv_at hl 3 rfl) ?_
      refine va_get (D := D) (ci := 2) (v := .ref (q 1)) (C := RX2) (T := TX2) (N := 7) hx hb hts wiX2_rankWith_X2 hown hK hP 7 rfl rfl 0 (by decide) (hts _ wmX2_rankWith_5) (fun _ h9 => h9) rfl dX2_rankWith_62 ?_
      refine va_getN (D := D) (ci := 3) (v := .ref (q 3)) (C := RX3) (T := TX3) (N := 7) hx hb hts wiX2_rankWith_X3 hown hK hP 1 rfl rfl 2 (by decide) (NW_f hN 21 rfl) (fun _ h9 => h9) rfl dX2_rankWith_65 ?_
      refine lv_iload_n hx hb dX2_rankWith_68 rfl (lv_at hl 5 rfl) ?_
      obtain ⟨i31, h⟩ := ck_some h
      refine va_iald hx hb hK hP 3 0 rfl rfl i31 dX2_rankWith_69 ?_
      refine lv_aload_n hx hb dX2_rankWith_70 rfl (lv_at hl 3 rfl) ?_
      refine va_get (D := D) (ci := 2) (v := .ref (q 1)) (C := RX2) (T := TX2) (N := 7) hx hb hts wiX2_rankWith_X2 hown hK hP 7 rfl rfl 0 (by decide) (hts _ wmX2_rankWith_5) (fun _ h9 => h9) rfl dX2_rankWith_71 ?_
      refine va_getN (D := D) (ci := 3) (v := .ref (q 4)) (C := RX3) (T := TX3) (N := 7) hx hb hts wiX2_rankWith_X3 hown hK hP 1 rfl rfl 3 (by decide) (NW_f hN 22 rfl) (fun _ h9 => h9) rfl dX2_rankWith_74 ?_
      refine lv_iload_n hx hb dX2_rankWith_77 rfl (lv_at hl 5 rfl) ?_
      obtain ⟨i32, h⟩ := ck_some h
      refine va_iald hx hb hK hP 4 0 rfl rfl i32 dX2_rankWith_78 ?_
      obtain ⟨u33, e34, h⟩ := bd_some h
      refine k_v (va_runV (As := [.int (va p2.toNatClampNeg), .int (vb p2.toNatClampNeg), .int (vc p2.toNatClampNeg)]) (rest := []) ⟨hx, hb, hml, hown, hts⟩ (kX0_set_r0 l D q cI cJ cZ tP H.size vnum vsz vfr vfo vli va vb vc ve vth vrk vcm vkx vky vkz vmk vre vro vwi vla vlb vtu u5.1 u5.2.1 u5.2.2 k1x k1y k1z k2x k2y k2z k3x k3y k3z (va p2.toNatClampNeg) (vb p2.toNatClampNeg) (vc p2.toNatClampNeg) u33 e34) (cwV 3 hts gX2_rankWith_X0_set rfl rfl rfl (by decide +kernel) ⟨Nat.le_of_ble_eq_true rfl, Nat.le_of_ble_eq_true rfl⟩) ⟨cPre_blind, va_recv hK hP (ci := 0) (q0 := 13) rfl rfl, cPre_at hP hK hN hD hS hA hZ⟩ rfl rfl hl.1 rfl (lv_room (Nat.le_of_ble_eq_true rfl)) dX2_rankWith_79 ⟨Nat.le_of_ble_eq_true rfl, Nat.le_of_ble_eq_true rfl⟩) hD hS hA (fun H locs hP hD hS => ?_)
      refine lv_iconst (v := (1 : Int32)) hx hb dX2_rankWith_82 (by decide) ?_
      refine lv_istore (lv' := [(5, .int (1 : Int32)), (4, .int (vrk p1.toNatClampNeg)), (3, .int (p1 ||| ((1 : Int32) <<< (p2 &&& 31)))), (0, .ref (q 7)), (1, .int p1), (2, .int p2)]) hx hb dX2_rankWith_83 hl (by decide) rfl (fun ls hl => ?_)
      refine lv_goto (tgt := 174) hx hb dX2_rankWith_85 (by decide) ?_
      obtain rfl := Option.some.inj h
      exact J9 _ _ _ ⟨hP, hD, hS, lv_sub hl [0, 1, 2, 3, 4, 5] rfl⟩

-- X2_rankAnew
theorem wmX2_rankAnew_0 : (.fieldLink RX2 35 "SpaceWalls$Heaps" "planes" "LSpaceWalls$Planes;" : Cond) ∈ wsX2_rankAnew := by decide +kernel
theorem wiX2_rankAnew_X2 : ∀ w ∈ u_ws RX2 TX2 7, w ∈ wsX2_rankAnew := by decide +kernel
theorem wiX2_rankAnew_X3 : ∀ w ∈ u_ws RX3 TX3 7, w ∈ wsX2_rankAnew := by decide +kernel
set_option maxHeartbeats 8000000 in
set_option maxRecDepth 100000 in
theorem kX2_rankAnew (l : Launch) (D : va_G) (q : Nat → Nat) (cI cJ cZ : ClassId) (tP sz : Nat) (vnum : Int32) (vsz : Int32) (vfr : Int32) (vfo : Int32) (vli : Int32) (va : (Nat → Int32)) (vb : (Nat → Int32)) (vc : (Nat → Int32)) (ve : (Nat → Int32)) (vth : (Nat → Int32)) (vrk : (Nat → Int32)) (vcm : (Nat → Int32)) (vkx : (Nat → Int32)) (vky : (Nat → Int32)) (vkz : (Nat → Int32)) (vmk : (Nat → Int32)) (vre : (Nat → Int32)) (vro : (Nat → Int32)) (vwi : (Nat → Int32)) (vla : (Nat → Int32)) (vlb : (Nat → Int32)) (vtu : (Nat → Int32)) (k0x : Int32) (k0y : Int32) (k0z : Int32) (k1x : Int32) (k1y : Int32) (k1z : Int32) (k2x : Int32) (k2y : Int32) (k2z : Int32) (k3x : Int32) (k3y : Int32) (k3z : Int32)  (uu : ((Nat → Int32) × (Nat → Int32) × (Nat → Int32) × (Nat → Int32) × Int32 × Int32 × Int32)) (h : fX2_rankAnew vsz va vb vc vrk vkx vky vkz k0x k0y k0z = some uu) : Met l yX2_rankAnew wsX2_rankAnew ({ frames := 3, cells := 0, slots := 0, locals := 73 }) (cPre D cI cJ cZ tP (WC_ q cI cZ vnum vsz vfr vfo vli va vb vc ve vth vrk vcm vkx vky vkz vmk vre vro vwi vla vlb vtu k0x k0y k0z k1x k1y k1z k2x k2y k2z k3x k3y k3z) sz [.ref (q 7)]) (cQv D (va_A (WC_ q cI cZ vnum vsz vfr vfo vli va vb vc ve vth vrk vcm vkx vky vkz vmk vre vro vwi vla vlb vtu k0x k0y k0z k1x k1y k1z k2x k2y k2z k3x k3y k3z) sz) (WC_ q cI cZ vnum vsz vfr vfo vli va vb vc ve vth uu.1 vcm uu.2.1 uu.2.2.1 uu.2.2.2.1 vmk vre vro vwi vla vlb vtu uu.2.2.2.2.1 uu.2.2.2.2.2.1 uu.2.2.2.2.2.2 k1x k1y k1z k2x k2y k2z k3x k3y k3z)) 0 0 (va_A (WC_ q cI cZ vnum vsz vfr vfo vli va vb vc ve vth vrk vcm vkx vky vkz vmk vre vro vwi vla vlb vtu k0x k0y k0z k1x k1y k1z k2x k2y k2z k3x k3y k3z) sz) := by
  refine Met.ofW (cc := cX2_rankAnew) (maxL := 3) (ret := none) (by decide) rfl ?_
  intro p e s m args below meth c s₁ B hml hv
  obtain ⟨rfl, hsz, hP, hK, hN, hD0, hZ⟩ := hv
  have hx := B.exec
  have hb := B.bytes
  have hr := B.returns
  have hts := atoms_spec (ws := wsX2_rankAnew) B.pre
  have hown : s.vm.findClass RX2 = some m.cls := findClass_of_methodNamed B.named
  have hlocks := B.notSynchronized
  subst hsz
  have hD := hD0.self (sz := s.heap.size)
  generalize hAe : va_A (WC_ q cI cZ vnum vsz vfr vfo vli va vb vc ve vth vrk vcm vkx vky vkz vmk vre vro vwi vla vlb vtu k0x k0y k0z k1x k1y k1z k2x k2y k2z k3x k3y k3z) s.heap.size = A at hD hZ ⊢
  have hA : ∀ q : Nat, s.heap.size ≤ q → A q := fun q h => by rw [← hAe]; exact Or.inr h
  have hS : va_S A s.heap s.heap [] := va_S.rf
  have hl := lv_entry ([.ref (q 7)]) (n := 3) (Nat.le_of_ble_eq_true rfl)
  rw [lg_entry_eq]
  generalize (lg_sl ([.ref (q 7)]) ++ List.replicate (3 - (lg_sl ([.ref (q 7)])).length) Slot.unset).toArray = ls at hl ⊢
  have hl : lv_has ls 3 [(0, .ref (q 7))] := hl
  unfold fX2_rankAnew at h
  refine lv_iconst (v := (0 : Int32)) hx hb dX2_rankAnew_0 (by decide) ?_
  refine lv_istore_n (lv' := [(1, .int (0 : Int32)), (0, .ref (q 7))]) hx hb dX2_rankAnew_1 rfl hl (by decide) rfl (fun ls hl => ?_)
  obtain ⟨u9, e10, h⟩ := bd_some h
  refine W_leave (P := fun (y : (Int32 × (Nat → Int32) × (Nat → Int32) × (Nat → Int32) × (Nat → Int32) × Int32 × Int32 × Int32)) H locs ls => u9 = y ∧ va_P D vwCl (WC_ q cI cZ vnum vsz vfr vfo vli va vb vc ve vth y.2.1 vcm y.2.2.1 y.2.2.2.1 y.2.2.2.2.1 vmk vre vro vwi vla vlb vtu y.2.2.2.2.2.1 y.2.2.2.2.2.2.1 y.2.2.2.2.2.2.2 k1x k1y k1z k2x k2y k2z k3x k3y k3z) H ∧ va_D A (WC_ q cI cZ vnum vsz vfr vfo vli va vb vc ve vth y.2.1 vcm y.2.2.1 y.2.2.2.1 y.2.2.2.2.1 vmk vre vro vwi vla vlb vtu y.2.2.2.2.2.1 y.2.2.2.2.2.2.1 y.2.2.2.2.2.2.2 k1x k1y k1z k2x k2y k2z k3x k3y k3z) ∧ va_S A s.heap H locs ∧ lv_has ls 3 [(1, .int y.1), (0, .ref (q 7))]) (g := fun ls => F0 m 40 ls []) ?_ ?_
  · intro y H locs ls hq
    obtain ⟨hy, hP, hD, hS, hl⟩ := hq
    subst hy
    have hl : lv_has ls 3 [(1, .int u9.1), (0, .ref (q 7))] := hl
    obtain rfl := Option.some.inj h
    exact W.vret hx hb hr (fun t ht hW => ⟨⟨(), rfl, trivial, by rw [ht]; exact hP, hD⟩, hS.F ht⟩) hS.2.2 dX2_rankAnew_40
  · intro K11
    refine W_lp (body := (fun (st : (Int32 × (Nat → Int32) × (Nat → Int32) × (Nat → Int32) × (Nat → Int32) × Int32 × Int32 × Int32)) => fX2_rankAnew_L2 vsz va vb vc st.1 st.2.1 st.2.2.1 st.2.2.2.1 st.2.2.2.2.1 st.2.2.2.2.2.1 st.2.2.2.2.2.2.1 st.2.2.2.2.2.2.2)) (P := fun (st : (Int32 × (Nat → Int32) × (Nat → Int32) × (Nat → Int32) × (Nat → Int32) × Int32 × Int32 × Int32)) H locs ls => va_P D vwCl (WC_ q cI cZ vnum vsz vfr vfo vli va vb vc ve vth st.2.1 vcm st.2.2.1 st.2.2.2.1 st.2.2.2.2.1 vmk vre vro vwi vla vlb vtu st.2.2.2.2.2.1 st.2.2.2.2.2.2.1 st.2.2.2.2.2.2.2 k1x k1y k1z k2x k2y k2z k3x k3y k3z) H ∧ va_D A (WC_ q cI cZ vnum vsz vfr vfo vli va vb vc ve vth st.2.1 vcm st.2.2.1 st.2.2.2.1 st.2.2.2.2.1 vmk vre vro vwi vla vlb vtu st.2.2.2.2.2.1 st.2.2.2.2.2.2.1 st.2.2.2.2.2.2.2 k1x k1y k1z k2x k2y k2z k3x k3y k3z) ∧ va_S A s.heap H locs ∧ lv_has ls 3 [(1, .int st.1), (0, .ref (q 7))]) (g := fun _ ls => F0 m 2 ls []) (r := u9) ?_ fu_ ((0 : Int32), vrk, vkx, vky, vkz, k0x, k0y, k0z) _ _ _ e10 ⟨hP, hD, hS, lv_sub hl [0, 1] rfl⟩
    intro st xx15 H locs ls h hq ih14 hR13
    obtain ⟨hP, hD, hS, hl⟩ := hq
    obtain ⟨v1, v2, v3, v4, v5, v6, v7, v8⟩ := st
    have hP : va_P D vwCl (WC_ q cI cZ vnum vsz vfr vfo vli va vb vc ve vth v2 vcm v3 v4 v5 vmk vre vro vwi vla vlb vtu v6 v7 v8 k1x k1y k1z k2x k2y k2z k3x k3y k3z) H := hP
    have hD : va_D A (WC_ q cI cZ vnum vsz vfr vfo vli va vb vc ve vth v2 vcm v3 v4 v5 vmk vre vro vwi vla vlb vtu v6 v7 v8 k1x k1y k1z k2x k2y k2z k3x k3y k3z) := hD
    have hl : lv_has ls 3 [(1, .int v1), (0, .ref (q 7))] := hl
    have h : fX2_rankAnew_L2 vsz va vb vc v1 v2 v3 v4 v5 v6 v7 v8 = some xx15 := h
    unfold fX2_rankAnew_L2 at h
    refine lv_iload_n hx hb dX2_rankAnew_2 rfl (lv_at hl 0 rfl) ?_
    refine lv_aload_n hx hb dX2_rankAnew_3 rfl (lv_at hl 1 rfl) ?_
    refine va_get (D := D) (ci := 2) (v := .ref (q 1)) (C := RX2) (T := TX2) (N := 7) hx hb hts wiX2_rankAnew_X2 hown hK hP 7 rfl rfl 0 (by decide) (hts _ wmX2_rankAnew_0) (fun _ h9 => h9) rfl dX2_rankAnew_4 ?_
    refine va_getN (D := D) (ci := 3) (v := .int vsz) (C := RX3) (T := TX3) (N := 7) hx hb hts wiX2_rankAnew_X3 hown hK hP 1 rfl rfl 6 (by decide) (NW_f hN 19 rfl) (fun _ h9 => h9) rfl dX2_rankAnew_7 ?_
    refine lv_icmp_ge (tgt := 40) hx hb dX2_rankAnew_10 (by decide) (fun c16 => ?_) (fun c16 => ?_)
    · have h := (if_pos c16).symm.trans h
      exact K11 _ _ _ _ ⟨(hR13 _ (Option.some.inj h).symm).symm, hP, hD, hS, lv_sub hl [0, 1] rfl⟩
    · have h := (if_neg c16).symm.trans h
      refine lv_iconst (v := (0 : Int32)) hx hb dX2_rankAnew_13 (by decide) ?_
      refine lv_istore_n (lv' := [(2, .int (0 : Int32)), (1, .int v1), (0, .ref (q 7))]) hx hb dX2_rankAnew_14 rfl hl (by decide) rfl (fun ls hl => ?_)
      obtain ⟨u25, e26, h⟩ := bd_some h
      refine W_leave (P := fun (y : (Int32 × (Nat → Int32) × (Nat → Int32) × (Nat → Int32) × (Nat → Int32) × Int32 × Int32 × Int32)) H locs ls => u25 = y ∧ va_P D vwCl (WC_ q cI cZ vnum vsz vfr vfo vli va vb vc ve vth y.2.1 vcm y.2.2.1 y.2.2.2.1 y.2.2.2.2.1 vmk vre vro vwi vla vlb vtu y.2.2.2.2.2.1 y.2.2.2.2.2.2.1 y.2.2.2.2.2.2.2 k1x k1y k1z k2x k2y k2z k3x k3y k3z) H ∧ va_D A (WC_ q cI cZ vnum vsz vfr vfo vli va vb vc ve vth y.2.1 vcm y.2.2.1 y.2.2.2.1 y.2.2.2.2.1 vmk vre vro vwi vla vlb vtu y.2.2.2.2.2.1 y.2.2.2.2.2.2.1 y.2.2.2.2.2.2.2 k1x k1y k1z k2x k2y k2z k3x k3y k3z) ∧ va_S A s.heap H locs ∧ lv_has ls 3 [(2, .int y.1), (1, .int v1), (0, .ref (q 7))]) (g := fun ls => F0 m 34 ls []) ?_ ?_
      · intro y H locs ls hq
        obtain ⟨hy, hP, hD, hS, hl⟩ := hq
        subst hy
        have hl : lv_has ls 3 [(2, .int u25.1), (1, .int v1), (0, .ref (q 7))] := hl
        refine lv_iinc (v := (v1 + (1 : Int32))) (lv' := [(1, .int (v1 + (1 : Int32))), (2, .int u25.1), (0, .ref (q 7))]) hx hb dX2_rankAnew_34 hl (k := 1) rfl rfl (by decide) rfl (fun ls hl => ?_)
        refine lv_goto (tgt := 2) hx hb dX2_rankAnew_37 (by decide) ?_
        exact ih14 _ _ _ _ (Option.some.inj h).symm ⟨hP, hD, hS, lv_sub hl [0, 2] rfl⟩
      · intro K27
        refine W_lp (body := (fun (st : (Int32 × (Nat → Int32) × (Nat → Int32) × (Nat → Int32) × (Nat → Int32) × Int32 × Int32 × Int32)) => fX2_rankAnew_L15 v1 va vb vc st.1 st.2.1 st.2.2.1 st.2.2.2.1 st.2.2.2.2.1 st.2.2.2.2.2.1 st.2.2.2.2.2.2.1 st.2.2.2.2.2.2.2)) (P := fun (st : (Int32 × (Nat → Int32) × (Nat → Int32) × (Nat → Int32) × (Nat → Int32) × Int32 × Int32 × Int32)) H locs ls => va_P D vwCl (WC_ q cI cZ vnum vsz vfr vfo vli va vb vc ve vth st.2.1 vcm st.2.2.1 st.2.2.2.1 st.2.2.2.2.1 vmk vre vro vwi vla vlb vtu st.2.2.2.2.2.1 st.2.2.2.2.2.2.1 st.2.2.2.2.2.2.2 k1x k1y k1z k2x k2y k2z k3x k3y k3z) H ∧ va_D A (WC_ q cI cZ vnum vsz vfr vfo vli va vb vc ve vth st.2.1 vcm st.2.2.1 st.2.2.2.1 st.2.2.2.2.1 vmk vre vro vwi vla vlb vtu st.2.2.2.2.2.1 st.2.2.2.2.2.2.1 st.2.2.2.2.2.2.2 k1x k1y k1z k2x k2y k2z k3x k3y k3z) ∧ va_S A s.heap H locs ∧ lv_has ls 3 [(2, .int st.1), (1, .int v1), (0, .ref (q 7))]) (g := fun _ ls => F0 m 15 ls []) (r := u25) ?_ fu_ ((0 : Int32), v2, v3, v4, v5, v6, v7, v8) _ _ _ e26 ⟨hP, hD, hS, lv_sub hl [0, 1, 2] rfl⟩
        intro st xx31 H locs ls h hq ih30 hR29
        obtain ⟨hP, hD, hS, hl⟩ := hq
        obtain ⟨v17, v18, v19, v20, v21, v22, v23, v24⟩ := st
        have hP : va_P D vwCl (WC_ q cI cZ vnum vsz vfr vfo vli va vb vc ve vth v18 vcm v19 v20 v21 vmk vre vro vwi vla vlb vtu v22 v23 v24 k1x k1y k1z k2x k2y k2z k3x k3y k3z) H := hP
        have hD : va_D A (WC_ q cI cZ vnum vsz vfr vfo vli va vb vc ve vth v18 vcm v19 v20 v21 vmk vre vro vwi vla vlb vtu v22 v23 v24 k1x k1y k1z k2x k2y k2z k3x k3y k3z) := hD
        have hl : lv_has ls 3 [(2, .int v17), (1, .int v1), (0, .ref (q 7))] := hl
        have h : fX2_rankAnew_L15 v1 va vb vc v17 v18 v19 v20 v21 v22 v23 v24 = some xx31 := h
        unfold fX2_rankAnew_L15 at h
        refine lv_iload_n hx hb dX2_rankAnew_15 rfl (lv_at hl 0 rfl) ?_
        refine lv_iconst (v := (1 : Int32)) hx hb dX2_rankAnew_16 (by decide) ?_
        refine lv_iload_n hx hb dX2_rankAnew_17 rfl (lv_at hl 1 rfl) ?_
        refine lv_ishl hx hb dX2_rankAnew_18 ?_
        refine lv_icmp_ge (tgt := 34) hx hb dX2_rankAnew_19 (by decide) (fun c32 => ?_) (fun c32 => ?_)
        · have h := (if_pos c32).symm.trans h
          exact K27 _ _ _ _ ⟨(hR29 _ (Option.some.inj h).symm).symm, hP, hD, hS, lv_sub hl [0, 1, 2] rfl⟩
        · have h := (if_neg c32).symm.trans h
          refine lv_aload_n hx hb dX2_rankAnew_22 rfl (lv_at hl 2 rfl) ?_
          refine lv_iload_n hx hb dX2_rankAnew_23 rfl (lv_at hl 0 rfl) ?_
          refine lv_iload_n hx hb dX2_rankAnew_24 rfl (lv_at hl 1 rfl) ?_
          obtain ⟨u33, e34, h⟩ := bd_some h
          refine k_v (va_runV (As := [.int v17, .int v1]) (rest := []) ⟨hx, hb, hml, hown, hts⟩ (kX2_rankWith l D q cI cJ cZ tP H.size vnum vsz vfr vfo vli va vb vc ve vth v18 vcm v19 v20 v21 vmk vre vro vwi vla vlb vtu v22 v23 v24 k1x k1y k1z k2x k2y k2z k3x k3y k3z v17 v1 u33 e34) (cwV 2 hts gX2_rankAnew_X2_rankWith rfl rfl rfl (by decide +kernel) ⟨Nat.le_of_ble_eq_true rfl, Nat.le_of_ble_eq_true rfl⟩) ⟨cPre_blind, va_recv hK hP (ci := 2) (q0 := 7) rfl rfl, cPre_at hP hK hN hD hS hA hZ⟩ rfl rfl hl.1 rfl (lv_room (Nat.le_of_ble_eq_true rfl)) dX2_rankAnew_25 ⟨Nat.le_of_ble_eq_true rfl, Nat.le_of_ble_eq_true rfl⟩) hD hS hA (fun H locs hP hD hS => ?_)
          refine lv_iinc (v := (v17 + (1 : Int32))) (lv' := [(2, .int (v17 + (1 : Int32))), (1, .int v1), (0, .ref (q 7))]) hx hb dX2_rankAnew_28 hl (k := 0) rfl rfl (by decide) rfl (fun ls hl => ?_)
          refine lv_goto (tgt := 15) hx hb dX2_rankAnew_31 (by decide) ?_
          exact ih30 _ _ _ _ (Option.some.inj h).symm ⟨hP, hD, hS, lv_sub hl [0, 1, 2] rfl⟩

-- X2_shareDown
theorem wmX2_shareDown_0 : (.fieldLink RX2 35 "SpaceWalls$Heaps" "planes" "LSpaceWalls$Planes;" : Cond) ∈ wsX2_shareDown := by decide +kernel
theorem wmX2_shareDown_1 : (.fieldLink RX2 15 "SpaceWalls$Heaps" "common" "[Z" : Cond) ∈ wsX2_shareDown := by decide +kernel
theorem wiX2_shareDown_X2 : ∀ w ∈ u_ws RX2 TX2 7, w ∈ wsX2_shareDown := by decide +kernel
theorem wiX2_shareDown_X3 : ∀ w ∈ u_ws RX3 TX3 7, w ∈ wsX2_shareDown := by decide +kernel
set_option maxHeartbeats 8000000 in
set_option maxRecDepth 100000 in
theorem kX2_shareDown (l : Launch) (D : va_G) (q : Nat → Nat) (cI cJ cZ : ClassId) (tP sz : Nat) (vnum : Int32) (vsz : Int32) (vfr : Int32) (vfo : Int32) (vli : Int32) (va : (Nat → Int32)) (vb : (Nat → Int32)) (vc : (Nat → Int32)) (ve : (Nat → Int32)) (vth : (Nat → Int32)) (vrk : (Nat → Int32)) (vcm : (Nat → Int32)) (vkx : (Nat → Int32)) (vky : (Nat → Int32)) (vkz : (Nat → Int32)) (vmk : (Nat → Int32)) (vre : (Nat → Int32)) (vro : (Nat → Int32)) (vwi : (Nat → Int32)) (vla : (Nat → Int32)) (vlb : (Nat → Int32)) (vtu : (Nat → Int32)) (k0x : Int32) (k0y : Int32) (k0z : Int32) (k1x : Int32) (k1y : Int32) (k1z : Int32) (k2x : Int32) (k2y : Int32) (k2z : Int32) (k3x : Int32) (k3y : Int32) (k3z : Int32)  (uu : (Nat → Int32)) (h : fX2_shareDown vsz vcm = some uu) : Met l yX2_shareDown wsX2_shareDown ({ frames := 0, cells := 0, slots := 0, locals := 0 }) (cPre D cI cJ cZ tP (WC_ q cI cZ vnum vsz vfr vfo vli va vb vc ve vth vrk vcm vkx vky vkz vmk vre vro vwi vla vlb vtu k0x k0y k0z k1x k1y k1z k2x k2y k2z k3x k3y k3z) sz [.ref (q 7)]) (cQv D (va_A (WC_ q cI cZ vnum vsz vfr vfo vli va vb vc ve vth vrk vcm vkx vky vkz vmk vre vro vwi vla vlb vtu k0x k0y k0z k1x k1y k1z k2x k2y k2z k3x k3y k3z) sz) (WC_ q cI cZ vnum vsz vfr vfo vli va vb vc ve vth vrk uu vkx vky vkz vmk vre vro vwi vla vlb vtu k0x k0y k0z k1x k1y k1z k2x k2y k2z k3x k3y k3z)) 0 0 (va_A (WC_ q cI cZ vnum vsz vfr vfo vli va vb vc ve vth vrk vcm vkx vky vkz vmk vre vro vwi vla vlb vtu k0x k0y k0z k1x k1y k1z k2x k2y k2z k3x k3y k3z) sz) := by
  refine Met.ofW (cc := cX2_shareDown) (maxL := 3) (ret := none) (by decide) rfl ?_
  intro p e s m args below meth c s₁ B hml hv
  obtain ⟨rfl, hsz, hP, hK, hN, hD0, hZ⟩ := hv
  have hx := B.exec
  have hb := B.bytes
  have hr := B.returns
  have hts := atoms_spec (ws := wsX2_shareDown) B.pre
  have hown : s.vm.findClass RX2 = some m.cls := findClass_of_methodNamed B.named
  have hlocks := B.notSynchronized
  subst hsz
  have hD := hD0.self (sz := s.heap.size)
  generalize hAe : va_A (WC_ q cI cZ vnum vsz vfr vfo vli va vb vc ve vth vrk vcm vkx vky vkz vmk vre vro vwi vla vlb vtu k0x k0y k0z k1x k1y k1z k2x k2y k2z k3x k3y k3z) s.heap.size = A at hD hZ ⊢
  have hA : ∀ q : Nat, s.heap.size ≤ q → A q := fun q h => by rw [← hAe]; exact Or.inr h
  have hS : va_S A s.heap s.heap [] := va_S.rf
  have hl := lv_entry ([.ref (q 7)]) (n := 3) (Nat.le_of_ble_eq_true rfl)
  rw [lg_entry_eq]
  generalize (lg_sl ([.ref (q 7)]) ++ List.replicate (3 - (lg_sl ([.ref (q 7)])).length) Slot.unset).toArray = ls at hl ⊢
  have hl : lv_has ls 3 [(0, .ref (q 7))] := hl
  unfold fX2_shareDown at h
  refine lv_iconst (v := (1 : Int32)) hx hb dX2_shareDown_0 (by decide) ?_
  refine lv_aload_n hx hb dX2_shareDown_1 rfl (lv_at hl 0 rfl) ?_
  refine va_get (D := D) (ci := 2) (v := .ref (q 1)) (C := RX2) (T := TX2) (N := 7) hx hb hts wiX2_shareDown_X2 hown hK hP 7 rfl rfl 0 (by decide) (hts _ wmX2_shareDown_0) (fun _ h9 => h9) rfl dX2_shareDown_2 ?_
  refine va_getN (D := D) (ci := 3) (v := .int vsz) (C := RX3) (T := TX3) (N := 7) hx hb hts wiX2_shareDown_X3 hown hK hP 1 rfl rfl 6 (by decide) (NW_f hN 19 rfl) (fun _ h9 => h9) rfl dX2_shareDown_5 ?_
  refine lv_ishl hx hb dX2_shareDown_8 ?_
  refine lv_iconst (v := (1 : Int32)) hx hb dX2_shareDown_9 (by decide) ?_
  refine lv_isub hx hb dX2_shareDown_10 ?_
  refine lv_istore_n (lv' := [(1, .int (((1 : Int32) <<< (vsz &&& 31)) - (1 : Int32))), (0, .ref (q 7))]) hx hb dX2_shareDown_11 rfl hl (by decide) rfl (fun ls hl => ?_)
  obtain ⟨u3, e4, h⟩ := bd_some h
  refine W_leave (P := fun (y : (Int32 × (Nat → Int32))) H locs ls => u3 = y ∧ va_P D vwCl (WC_ q cI cZ vnum vsz vfr vfo vli va vb vc ve vth vrk y.2 vkx vky vkz vmk vre vro vwi vla vlb vtu k0x k0y k0z k1x k1y k1z k2x k2y k2z k3x k3y k3z) H ∧ va_D A (WC_ q cI cZ vnum vsz vfr vfo vli va vb vc ve vth vrk y.2 vkx vky vkz vmk vre vro vwi vla vlb vtu k0x k0y k0z k1x k1y k1z k2x k2y k2z k3x k3y k3z) ∧ va_S A s.heap H locs ∧ lv_has ls 3 [(1, .int y.1), (0, .ref (q 7))]) (g := fun ls => F0 m 63 ls []) ?_ ?_
  · intro y H locs ls hq
    obtain ⟨hy, hP, hD, hS, hl⟩ := hq
    subst hy
    have hl : lv_has ls 3 [(1, .int u3.1), (0, .ref (q 7))] := hl
    obtain rfl := Option.some.inj h
    exact W.vret hx hb hr (fun t ht hW => ⟨⟨(), rfl, trivial, by rw [ht]; exact hP, hD⟩, hS.F ht⟩) hS.2.2 dX2_shareDown_63
  · intro K5
    refine W_lp (body := (fun (st : (Int32 × (Nat → Int32))) => fX2_shareDown_L12 vsz st.1 st.2)) (P := fun (st : (Int32 × (Nat → Int32))) H locs ls => va_P D vwCl (WC_ q cI cZ vnum vsz vfr vfo vli va vb vc ve vth vrk st.2 vkx vky vkz vmk vre vro vwi vla vlb vtu k0x k0y k0z k1x k1y k1z k2x k2y k2z k3x k3y k3z) H ∧ va_D A (WC_ q cI cZ vnum vsz vfr vfo vli va vb vc ve vth vrk st.2 vkx vky vkz vmk vre vro vwi vla vlb vtu k0x k0y k0z k1x k1y k1z k2x k2y k2z k3x k3y k3z) ∧ va_S A s.heap H locs ∧ lv_has ls 3 [(1, .int st.1), (0, .ref (q 7))]) (g := fun _ ls => F0 m 12 ls []) (r := u3) ?_ fu_ ((((1 : Int32) <<< (vsz &&& 31)) - (1 : Int32)), vcm) _ _ _ e4 ⟨hP, hD, hS, lv_sub hl [0, 1] rfl⟩
    intro st xx9 H locs ls h hq ih8 hR7
    obtain ⟨hP, hD, hS, hl⟩ := hq
    obtain ⟨v1, v2⟩ := st
    have hP : va_P D vwCl (WC_ q cI cZ vnum vsz vfr vfo vli va vb vc ve vth vrk v2 vkx vky vkz vmk vre vro vwi vla vlb vtu k0x k0y k0z k1x k1y k1z k2x k2y k2z k3x k3y k3z) H := hP
    have hD : va_D A (WC_ q cI cZ vnum vsz vfr vfo vli va vb vc ve vth vrk v2 vkx vky vkz vmk vre vro vwi vla vlb vtu k0x k0y k0z k1x k1y k1z k2x k2y k2z k3x k3y k3z) := hD
    have hl : lv_has ls 3 [(1, .int v1), (0, .ref (q 7))] := hl
    have h : fX2_shareDown_L12 vsz v1 v2 = some xx9 := h
    unfold fX2_shareDown_L12 at h
    refine lv_iload_n hx hb dX2_shareDown_12 rfl (lv_at hl 0 rfl) ?_
    refine lv_if_le (tgt := 63) hx hb dX2_shareDown_13 (by decide) (fun c10 => ?_) (fun c10 => ?_)
    · have h := (if_pos c10).symm.trans h
      exact K5 _ _ _ _ ⟨(hR7 _ (Option.some.inj h).symm).symm, hP, hD, hS, lv_sub hl [0, 1] rfl⟩
    · have h := (if_neg c10).symm.trans h
      refine lv_iconst (v := (0 : Int32)) hx hb dX2_shareDown_16 (by decide) ?_
      refine lv_istore_n (lv' := [(2, .int (0 : Int32)), (1, .int v1), (0, .ref (q 7))]) hx hb dX2_shareDown_17 rfl hl (by decide) rfl (fun ls hl => ?_)
      obtain ⟨u13, e14, h⟩ := bd_some h
      refine W_leave (P := fun (y : (Int32 × (Nat → Int32))) H locs ls => u13 = y ∧ va_P D vwCl (WC_ q cI cZ vnum vsz vfr vfo vli va vb vc ve vth vrk y.2 vkx vky vkz vmk vre vro vwi vla vlb vtu k0x k0y k0z k1x k1y k1z k2x k2y k2z k3x k3y k3z) H ∧ va_D A (WC_ q cI cZ vnum vsz vfr vfo vli va vb vc ve vth vrk y.2 vkx vky vkz vmk vre vro vwi vla vlb vtu k0x k0y k0z k1x k1y k1z k2x k2y k2z k3x k3y k3z) ∧ va_S A s.heap H locs ∧ lv_has ls 3 [(2, .int y.1), (1, .int v1), (0, .ref (q 7))]) (g := fun ls => F0 m 57 ls []) ?_ ?_
      · intro y H locs ls hq
        obtain ⟨hy, hP, hD, hS, hl⟩ := hq
        subst hy
        have hl : lv_has ls 3 [(2, .int u13.1), (1, .int v1), (0, .ref (q 7))] := hl
        refine lv_iinc (v := (v1 + (-1 : Int32))) (lv' := [(1, .int (v1 + (-1 : Int32))), (2, .int u13.1), (0, .ref (q 7))]) hx hb dX2_shareDown_57 hl (k := 1) rfl rfl (by decide) rfl (fun ls hl => ?_)
        refine lv_goto (tgt := 12) hx hb dX2_shareDown_60 (by decide) ?_
        exact ih8 _ _ _ _ (Option.some.inj h).symm ⟨hP, hD, hS, lv_sub hl [0, 2] rfl⟩
      · intro K15
        refine W_lp (body := (fun (st : (Int32 × (Nat → Int32))) => fX2_shareDown_L18 vsz v1 st.1 st.2)) (P := fun (st : (Int32 × (Nat → Int32))) H locs ls => va_P D vwCl (WC_ q cI cZ vnum vsz vfr vfo vli va vb vc ve vth vrk st.2 vkx vky vkz vmk vre vro vwi vla vlb vtu k0x k0y k0z k1x k1y k1z k2x k2y k2z k3x k3y k3z) H ∧ va_D A (WC_ q cI cZ vnum vsz vfr vfo vli va vb vc ve vth vrk st.2 vkx vky vkz vmk vre vro vwi vla vlb vtu k0x k0y k0z k1x k1y k1z k2x k2y k2z k3x k3y k3z) ∧ va_S A s.heap H locs ∧ lv_has ls 3 [(2, .int st.1), (1, .int v1), (0, .ref (q 7))]) (g := fun _ ls => F0 m 18 ls []) (r := u13) ?_ fu_ ((0 : Int32), v2) _ _ _ e14 ⟨hP, hD, hS, lv_sub hl [0, 1, 2] rfl⟩
        intro st xx19 H locs ls h hq ih18 hR17
        obtain ⟨hP, hD, hS, hl⟩ := hq
        obtain ⟨v11, v12⟩ := st
        have hP : va_P D vwCl (WC_ q cI cZ vnum vsz vfr vfo vli va vb vc ve vth vrk v12 vkx vky vkz vmk vre vro vwi vla vlb vtu k0x k0y k0z k1x k1y k1z k2x k2y k2z k3x k3y k3z) H := hP
        have hD : va_D A (WC_ q cI cZ vnum vsz vfr vfo vli va vb vc ve vth vrk v12 vkx vky vkz vmk vre vro vwi vla vlb vtu k0x k0y k0z k1x k1y k1z k2x k2y k2z k3x k3y k3z) := hD
        have hl : lv_has ls 3 [(2, .int v11), (1, .int v1), (0, .ref (q 7))] := hl
        have h : fX2_shareDown_L18 vsz v1 v11 v12 = some xx19 := h
        unfold fX2_shareDown_L18 at h
        refine lv_iload_n hx hb dX2_shareDown_18 rfl (lv_at hl 0 rfl) ?_
        refine lv_aload_n hx hb dX2_shareDown_19 rfl (lv_at hl 2 rfl) ?_
        refine va_get (D := D) (ci := 2) (v := .ref (q 1)) (C := RX2) (T := TX2) (N := 7) hx hb hts wiX2_shareDown_X2 hown hK hP 7 rfl rfl 0 (by decide) (hts _ wmX2_shareDown_0) (fun _ h9 => h9) rfl dX2_shareDown_20 ?_
        refine va_getN (D := D) (ci := 3) (v := .int vsz) (C := RX3) (T := TX3) (N := 7) hx hb hts wiX2_shareDown_X3 hown hK hP 1 rfl rfl 6 (by decide) (NW_f hN 19 rfl) (fun _ h9 => h9) rfl dX2_shareDown_23 ?_
        refine lv_icmp_ge (tgt := 57) hx hb dX2_shareDown_26 (by decide) (fun c20 => ?_) (fun c20 => ?_)
        · have h := (if_pos c20).symm.trans h
          exact K15 _ _ _ _ ⟨(hR17 _ (Option.some.inj h).symm).symm, hP, hD, hS, lv_sub hl [0, 1, 2] rfl⟩
        · have h := (if_neg c20).symm.trans h
          refine lv_aload_n hx hb dX2_shareDown_29 rfl (lv_at hl 2 rfl) ?_
          refine va_get (D := D) (ci := 2) (v := .ref (q 9)) (C := RX2) (T := TX2) (N := 7) hx hb hts wiX2_shareDown_X2 hown hK hP 7 rfl rfl 2 (by decide) (hts _ wmX2_shareDown_1) (fun _ h9 => h9) rfl dX2_shareDown_30 ?_
          refine lv_iload_n hx hb dX2_shareDown_33 rfl (lv_at hl 1 rfl) ?_
          obtain ⟨i21, h⟩ := ck_some h
          refine va_zald hx hb hK hP 9 2 rfl rfl i21 dX2_shareDown_34 ?_
          refine lv_if_eq (tgt := 57) hx hb dX2_shareDown_35 (by decide) (fun c22 => ?_) (fun c22 => ?_)
          · have h := (if_pos c22).symm.trans h
            exact K15 _ _ _ _ ⟨(hR17 _ (Option.some.inj h).symm).symm, hP, hD, hS, lv_sub hl [0, 1, 2] rfl⟩
          · have h := (if_neg c22).symm.trans h
            refine lv_aload_n hx hb dX2_shareDown_38 rfl (lv_at hl 2 rfl) ?_
            refine va_get (D := D) (ci := 2) (v := .ref (q 9)) (C := RX2) (T := TX2) (N := 7) hx hb hts wiX2_shareDown_X2 hown hK hP 7 rfl rfl 2 (by decide) (hts _ wmX2_shareDown_1) (fun _ h9 => h9) rfl dX2_shareDown_39 ?_
            refine lv_iload_n hx hb dX2_shareDown_42 rfl (lv_at hl 1 rfl) ?_
            refine lv_iconst (v := (1 : Int32)) hx hb dX2_shareDown_43 (by decide) ?_
            refine lv_iload_n hx hb dX2_shareDown_44 rfl (lv_at hl 0 rfl) ?_
            refine lv_ishl hx hb dX2_shareDown_45 ?_
            refine lv_iconst (v := (-1 : Int32)) hx hb dX2_shareDown_46 (by decide) ?_
            refine lv_ixor hx hb dX2_shareDown_47 ?_
            refine lv_iand hx hb dX2_shareDown_48 ?_
            refine lv_iconst (v := (1 : Int32)) hx hb dX2_shareDown_49 (by decide) ?_
            obtain ⟨i23, h⟩ := ck_some h
            refine va_zast hx hb hK hP hD hS 9 2 rfl rfl i23 dX2_shareDown_50 (fun H locs hP hD hS => ?_)
            have hP : va_P D vwCl (WC_ q cI cZ vnum vsz vfr vfo vli va vb vc ve vth vrk (upd v12 (v1 &&& (((1 : Int32) <<< (v11 &&& 31)) ^^^ (-1 : Int32))).toNatClampNeg (vp_nar .boolean (1 : Int32))) vkx vky vkz vmk vre vro vwi vla vlb vtu k0x k0y k0z k1x k1y k1z k2x k2y k2z k3x k3y k3z) H := hP
            have hD : va_D A (WC_ q cI cZ vnum vsz vfr vfo vli va vb vc ve vth vrk (upd v12 (v1 &&& (((1 : Int32) <<< (v11 &&& 31)) ^^^ (-1 : Int32))).toNatClampNeg (vp_nar .boolean (1 : Int32))) vkx vky vkz vmk vre vro vwi vla vlb vtu k0x k0y k0z k1x k1y k1z k2x k2y k2z k3x k3y k3z) := hD
            refine lv_iinc (v := (v11 + (1 : Int32))) (lv' := [(2, .int (v11 + (1 : Int32))), (1, .int v1), (0, .ref (q 7))]) hx hb dX2_shareDown_51 hl (k := 0) rfl rfl (by decide) rfl (fun ls hl => ?_)
            refine lv_goto (tgt := 18) hx hb dX2_shareDown_54 (by decide) ?_
            exact ih18 _ _ _ _ (Option.some.inj h).symm ⟨hP, hD, hS, lv_sub hl [0, 1, 2] rfl⟩

-- X2_factor
theorem wmX2_factor_0 : (.fieldLink RX2 35 "SpaceWalls$Heaps" "planes" "LSpaceWalls$Planes;" : Cond) ∈ wsX2_factor := by decide +kernel
theorem wmX2_factor_1 : (.fieldLink RX2 15 "SpaceWalls$Heaps" "common" "[Z" : Cond) ∈ wsX2_factor := by decide +kernel
theorem wmX2_factor_2 : (.fieldLink RX2 9 "SpaceWalls$Heaps" "rank" "[I" : Cond) ∈ wsX2_factor := by decide +kernel
theorem wiX2_factor_X2 : ∀ w ∈ u_ws RX2 TX2 7, w ∈ wsX2_factor := by decide +kernel
theorem wiX2_factor_X3 : ∀ w ∈ u_ws RX3 TX3 7, w ∈ wsX2_factor := by decide +kernel
set_option maxHeartbeats 8000000 in
set_option maxRecDepth 100000 in
theorem kX2_factor (l : Launch) (D : va_G) (q : Nat → Nat) (cI cJ cZ : ClassId) (tP sz : Nat) (vnum : Int32) (vsz : Int32) (vfr : Int32) (vfo : Int32) (vli : Int32) (va : (Nat → Int32)) (vb : (Nat → Int32)) (vc : (Nat → Int32)) (ve : (Nat → Int32)) (vth : (Nat → Int32)) (vrk : (Nat → Int32)) (vcm : (Nat → Int32)) (vkx : (Nat → Int32)) (vky : (Nat → Int32)) (vkz : (Nat → Int32)) (vmk : (Nat → Int32)) (vre : (Nat → Int32)) (vro : (Nat → Int32)) (vwi : (Nat → Int32)) (vla : (Nat → Int32)) (vlb : (Nat → Int32)) (vtu : (Nat → Int32)) (k0x : Int32) (k0y : Int32) (k0z : Int32) (k1x : Int32) (k1y : Int32) (k1z : Int32) (k2x : Int32) (k2y : Int32) (k2z : Int32) (k3x : Int32) (k3y : Int32) (k3z : Int32) (p1 : Int32) (p2 : Int32) (uu : Int32) (h : fX2_factor vnum vsz vrk vcm p1 p2 = some uu) : Met l yX2_factor wsX2_factor ({ frames := 1, cells := 0, slots := 0, locals := 20 }) (cPre D cI cJ cZ tP (WC_ q cI cZ vnum vsz vfr vfo vli va vb vc ve vth vrk vcm vkx vky vkz vmk vre vro vwi vla vlb vtu k0x k0y k0z k1x k1y k1z k2x k2y k2z k3x k3y k3z) sz [.ref (q 7), .int p1, .int p2]) (cQi D (va_A (WC_ q cI cZ vnum vsz vfr vfo vli va vb vc ve vth vrk vcm vkx vky vkz vmk vre vro vwi vla vlb vtu k0x k0y k0z k1x k1y k1z k2x k2y k2z k3x k3y k3z) sz) (WC_ q cI cZ vnum vsz vfr vfo vli va vb vc ve vth vrk vcm vkx vky vkz vmk vre vro vwi vla vlb vtu k0x k0y k0z k1x k1y k1z k2x k2y k2z k3x k3y k3z) uu) 0 0 (va_A (WC_ q cI cZ vnum vsz vfr vfo vli va vb vc ve vth vrk vcm vkx vky vkz vmk vre vro vwi vla vlb vtu k0x k0y k0z k1x k1y k1z k2x k2y k2z k3x k3y k3z) sz) := by
  refine Met.ofW (cc := cX2_factor) (maxL := 5) (ret := (some .int)) (by decide) rfl ?_
  intro p e s m args below meth c s₁ B hml hv
  obtain ⟨rfl, hsz, hP, hK, hN, hD0, hZ⟩ := hv
  have hx := B.exec
  have hb := B.bytes
  have hr := B.returns
  have hts := atoms_spec (ws := wsX2_factor) B.pre
  have hown : s.vm.findClass RX2 = some m.cls := findClass_of_methodNamed B.named
  have hlocks := B.notSynchronized
  subst hsz
  have hD := hD0.self (sz := s.heap.size)
  generalize hAe : va_A (WC_ q cI cZ vnum vsz vfr vfo vli va vb vc ve vth vrk vcm vkx vky vkz vmk vre vro vwi vla vlb vtu k0x k0y k0z k1x k1y k1z k2x k2y k2z k3x k3y k3z) s.heap.size = A at hD hZ ⊢
  have hA : ∀ q : Nat, s.heap.size ≤ q → A q := fun q h => by rw [← hAe]; exact Or.inr h
  have hS : va_S A s.heap s.heap [] := va_S.rf
  have hl := lv_entry ([.ref (q 7), .int p1, .int p2]) (n := 5) (Nat.le_of_ble_eq_true rfl)
  rw [lg_entry_eq]
  generalize (lg_sl ([.ref (q 7), .int p1, .int p2]) ++ List.replicate (5 - (lg_sl ([.ref (q 7), .int p1, .int p2])).length) Slot.unset).toArray = ls at hl ⊢
  have hl : lv_has ls 5 [(0, .ref (q 7)), (1, .int p1), (2, .int p2)] := hl
  unfold fX2_factor at h
  refine lv_iconst (v := (0 : Int32)) hx hb dX2_factor_0 (by decide) ?_
  refine lv_istore_n (lv' := [(3, .int (0 : Int32)), (0, .ref (q 7)), (1, .int p1), (2, .int p2)]) hx hb dX2_factor_1 rfl hl (by decide) rfl (fun ls hl => ?_)
  refine lv_iconst (v := (0 : Int32)) hx hb dX2_factor_2 (by decide) ?_
  refine lv_istore (lv' := [(4, .int (0 : Int32)), (3, .int (0 : Int32)), (0, .ref (q 7)), (1, .int p1), (2, .int p2)]) hx hb dX2_factor_3 hl (by decide) rfl (fun ls hl => ?_)
  obtain ⟨u3, e4, h⟩ := bd_some h
  refine W_leave (P := fun (y : (Int32 × Int32)) H locs ls => u3 = y ∧ va_P D vwCl (WC_ q cI cZ vnum vsz vfr vfo vli va vb vc ve vth vrk vcm vkx vky vkz vmk vre vro vwi vla vlb vtu k0x k0y k0z k1x k1y k1z k2x k2y k2z k3x k3y k3z) H ∧ va_D A (WC_ q cI cZ vnum vsz vfr vfo vli va vb vc ve vth vrk vcm vkx vky vkz vmk vre vro vwi vla vlb vtu k0x k0y k0z k1x k1y k1z k2x k2y k2z k3x k3y k3z) ∧ va_S A s.heap H locs ∧ lv_has ls 5 [(4, .int y.1), (3, .int y.2), (0, .ref (q 7)), (1, .int p1), (2, .int p2)]) (g := fun ls => F0 m 79 ls []) ?_ ?_
  · intro y H locs ls hq
    obtain ⟨hy, hP, hD, hS, hl⟩ := hq
    subst hy
    have hl : lv_has ls 5 [(4, .int u3.1), (3, .int u3.2), (0, .ref (q 7)), (1, .int p1), (2, .int p2)] := hl
    refine lv_iload_n hx hb dX2_factor_79 rfl (lv_at hl 1 rfl) ?_
    obtain rfl := Option.some.inj h
    exact W.iret (v := u3.2) hx hb hr (fun t ht hW => ⟨⟨u3.2, (), rfl, rfl, by rw [ht]; exact hP, hD⟩, hS.F ht⟩) hS.2.2 dX2_factor_80
  · intro K5
    refine W_lp (body := (fun (st : (Int32 × Int32)) => fX2_factor_L5 vsz vcm p2 vnum vrk p1 st.1 st.2)) (P := fun (st : (Int32 × Int32)) H locs ls => va_P D vwCl (WC_ q cI cZ vnum vsz vfr vfo vli va vb vc ve vth vrk vcm vkx vky vkz vmk vre vro vwi vla vlb vtu k0x k0y k0z k1x k1y k1z k2x k2y k2z k3x k3y k3z) H ∧ va_D A (WC_ q cI cZ vnum vsz vfr vfo vli va vb vc ve vth vrk vcm vkx vky vkz vmk vre vro vwi vla vlb vtu k0x k0y k0z k1x k1y k1z k2x k2y k2z k3x k3y k3z) ∧ va_S A s.heap H locs ∧ lv_has ls 5 [(4, .int st.1), (3, .int st.2), (0, .ref (q 7)), (1, .int p1), (2, .int p2)]) (g := fun _ ls => F0 m 5 ls []) (r := u3) ?_ fu_ ((0 : Int32), (0 : Int32)) _ _ _ e4 ⟨hP, hD, hS, lv_sub hl [0, 1, 2, 3, 4] rfl⟩
    intro st xx9 H locs ls h hq ih8 hR7
    obtain ⟨hP, hD, hS, hl⟩ := hq
    obtain ⟨v1, v2⟩ := st
    have hP : va_P D vwCl (WC_ q cI cZ vnum vsz vfr vfo vli va vb vc ve vth vrk vcm vkx vky vkz vmk vre vro vwi vla vlb vtu k0x k0y k0z k1x k1y k1z k2x k2y k2z k3x k3y k3z) H := hP
    have hD : va_D A (WC_ q cI cZ vnum vsz vfr vfo vli va vb vc ve vth vrk vcm vkx vky vkz vmk vre vro vwi vla vlb vtu k0x k0y k0z k1x k1y k1z k2x k2y k2z k3x k3y k3z) := hD
    have hl : lv_has ls 5 [(4, .int v1), (3, .int v2), (0, .ref (q 7)), (1, .int p1), (2, .int p2)] := hl
    have h : fX2_factor_L5 vsz vcm p2 vnum vrk p1 v1 v2 = some xx9 := h
    unfold fX2_factor_L5 at h
    refine lv_iload hx hb dX2_factor_5 (lv_at hl 0 rfl) ?_
    refine lv_iconst (v := (1 : Int32)) hx hb dX2_factor_7 (by decide) ?_
    refine lv_aload_n hx hb dX2_factor_8 rfl (lv_at hl 2 rfl) ?_
    refine va_get (D := D) (ci := 2) (v := .ref (q 1)) (C := RX2) (T := TX2) (N := 7) hx hb hts wiX2_factor_X2 hown hK hP 7 rfl rfl 0 (by decide) (hts _ wmX2_factor_0) (fun _ h9 => h9) rfl dX2_factor_9 ?_
    refine va_getN (D := D) (ci := 3) (v := .int vsz) (C := RX3) (T := TX3) (N := 7) hx hb hts wiX2_factor_X3 hown hK hP 1 rfl rfl 6 (by decide) (NW_f hN 19 rfl) (fun _ h9 => h9) rfl dX2_factor_12 ?_
    refine lv_ishl hx hb dX2_factor_15 ?_
    refine lv_icmp_ge (tgt := 79) hx hb dX2_factor_16 (by decide) (fun c10 => ?_) (fun c10 => ?_)
    · have h := (if_pos c10).symm.trans h
      exact K5 _ _ _ _ ⟨(hR7 _ (Option.some.inj h).symm).symm, hP, hD, hS, lv_sub hl [0, 1, 2, 3, 4] rfl⟩
    · have h := (if_neg c10).symm.trans h
      refine lv_aload_n hx hb dX2_factor_19 rfl (lv_at hl 2 rfl) ?_
      refine va_get (D := D) (ci := 2) (v := .ref (q 9)) (C := RX2) (T := TX2) (N := 7) hx hb hts wiX2_factor_X2 hown hK hP 7 rfl rfl 2 (by decide) (hts _ wmX2_factor_1) (fun _ h9 => h9) rfl dX2_factor_20 ?_
      refine lv_iload hx hb dX2_factor_23 (lv_at hl 0 rfl) ?_
      obtain ⟨i11, h⟩ := ck_some h
      refine va_zald hx hb hK hP 9 2 rfl rfl i11 dX2_factor_25 ?_
      refine lv_if_eq (tgt := 73) hx hb dX2_factor_26 (by decide) (fun c12 => ?_) (fun c12 => ?_)
      · have h := (if_pos c12).symm.trans h
        refine lv_iinc (v := (v1 + (1 : Int32))) (lv' := [(4, .int (v1 + (1 : Int32))), (3, .int v2), (0, .ref (q 7)), (1, .int p1), (2, .int p2)]) hx hb dX2_factor_73 hl (k := 0) rfl rfl (by decide) rfl (fun ls hl => ?_)
        refine lv_goto (tgt := 5) hx hb dX2_factor_76 (by decide) ?_
        exact ih8 _ _ _ _ (Option.some.inj h).symm ⟨hP, hD, hS, lv_sub hl [0, 1, 2, 3, 4] rfl⟩
      · have h := (if_neg c12).symm.trans h
        refine lv_iload hx hb dX2_factor_29 (lv_at hl 0 rfl) ?_
        refine lv_iload_n hx hb dX2_factor_31 rfl (lv_at hl 4 rfl) ?_
        refine lv_iand hx hb dX2_factor_32 ?_
        refine lv_if_ne (tgt := 73) hx hb dX2_factor_33 (by decide) (fun c13 => ?_) (fun c13 => ?_)
        · have h := (if_neg c13).symm.trans h
          refine lv_iinc (v := (v1 + (1 : Int32))) (lv' := [(4, .int (v1 + (1 : Int32))), (3, .int v2), (0, .ref (q 7)), (1, .int p1), (2, .int p2)]) hx hb dX2_factor_73 hl (k := 0) rfl rfl (by decide) rfl (fun ls hl => ?_)
          refine lv_goto (tgt := 5) hx hb dX2_factor_76 (by decide) ?_
          exact ih8 _ _ _ _ (Option.some.inj h).symm ⟨hP, hD, hS, lv_sub hl [0, 1, 2, 3, 4] rfl⟩
        · have h := (if_pos c13).symm.trans h
          refine lv_aload_n hx hb dX2_factor_36 rfl (lv_at hl 2 rfl) ?_
          refine va_get (D := D) (ci := 2) (v := .ref (q 1)) (C := RX2) (T := TX2) (N := 7) hx hb hts wiX2_factor_X2 hown hK hP 7 rfl rfl 0 (by decide) (hts _ wmX2_factor_0) (fun _ h9 => h9) rfl dX2_factor_37 ?_
          refine va_getN (D := D) (ci := 3) (v := .int vnum) (C := RX3) (T := TX3) (N := 7) hx hb hts wiX2_factor_X3 hown hK hP 1 rfl rfl 0 (by decide) (NW_f hN 26 rfl) (fun _ h9 => h9) rfl dX2_factor_40 ?_
          refine lv_aload_n hx hb dX2_factor_43 rfl (lv_at hl 2 rfl) ?_
          refine va_get (D := D) (ci := 2) (v := .ref (q 8)) (C := RX2) (T := TX2) (N := 7) hx hb hts wiX2_factor_X2 hown hK hP 7 rfl rfl 1 (by decide) (hts _ wmX2_factor_2) (fun _ h9 => h9) rfl dX2_factor_44 ?_
          refine lv_iload hx hb dX2_factor_47 (lv_at hl 0 rfl) ?_
          obtain ⟨i14, h⟩ := ck_some h
          refine va_iald hx hb hK hP 8 0 rfl rfl i14 dX2_factor_49 ?_
          refine lv_isub hx hb dX2_factor_50 ?_
          refine lv_iload_n hx hb dX2_factor_51 rfl (lv_at hl 3 rfl) ?_
          refine lv_icmp_ne (tgt := 73) hx hb dX2_factor_52 (by decide) (fun c15 => ?_) (fun c15 => ?_)
          · have h := (if_neg c15).symm.trans h
            refine lv_iinc (v := (v1 + (1 : Int32))) (lv' := [(4, .int (v1 + (1 : Int32))), (3, .int v2), (0, .ref (q 7)), (1, .int p1), (2, .int p2)]) hx hb dX2_factor_73 hl (k := 0) rfl rfl (by decide) rfl (fun ls hl => ?_)
            refine lv_goto (tgt := 5) hx hb dX2_factor_76 (by decide) ?_
            exact ih8 _ _ _ _ (Option.some.inj h).symm ⟨hP, hD, hS, lv_sub hl [0, 1, 2, 3, 4] rfl⟩
          · have h := (if_pos c15).symm.trans h
            refine lv_iload_n hx hb dX2_factor_55 rfl (lv_at hl 1 rfl) ?_
            refine lv_iload hx hb dX2_factor_56 (lv_at hl 0 rfl) ?_
            obtain ⟨u16, e17, h⟩ := bd_some h
            refine k_i0 (va_runS (As := [.int v1]) (rest := [.int v2]) ⟨hx, hb, hml, hown, hts⟩ (kJ6_bitCount_0f7a4 l D cI cJ cZ tP H.size  v1 u16 e17) (va_cwS 1 hts gX2_factor_J6_bitCount_0f7a4 rfl rfl rfl (by decide +kernel) ⟨Nat.le_of_ble_eq_true rfl, Nat.le_of_ble_eq_true rfl⟩) ⟨cPre_blind, cPre_at0 hK hN hS hA hZ⟩ rfl rfl hl.1 rfl (lv_room (Nat.le_of_ble_eq_true rfl)) dX2_factor_58 ⟨Nat.le_of_ble_eq_true rfl, Nat.le_of_ble_eq_true rfl⟩) hP hS hA (fun H locs hP hS => ?_)
            refine lv_iconst (v := (1 : Int32)) hx hb dX2_factor_61 (by decide) ?_
            refine lv_iand hx hb dX2_factor_62 ?_
            refine lv_if_ne (tgt := 70) hx hb dX2_factor_63 (by decide) (fun c18 => ?_) (fun c18 => ?_)
            · have h := (if_neg c18).symm.trans h
              refine lv_iconst (v := (-1 : Int32)) hx hb dX2_factor_70 (by decide) ?_
              refine lv_iadd hx hb dX2_factor_71 ?_
              refine lv_istore_n (lv' := [(3, .int (v2 + (-1 : Int32))), (4, .int v1), (0, .ref (q 7)), (1, .int p1), (2, .int p2)]) hx hb dX2_factor_72 rfl hl (by decide) rfl (fun ls hl => ?_)
              refine lv_iinc (v := (v1 + (1 : Int32))) (lv' := [(4, .int (v1 + (1 : Int32))), (3, .int (v2 + (-1 : Int32))), (0, .ref (q 7)), (1, .int p1), (2, .int p2)]) hx hb dX2_factor_73 hl (k := 1) rfl rfl (by decide) rfl (fun ls hl => ?_)
              refine lv_goto (tgt := 5) hx hb dX2_factor_76 (by decide) ?_
              exact ih8 _ _ _ _ (Option.some.inj h).symm ⟨hP, hD, hS, lv_sub hl [0, 1, 2, 3, 4] rfl⟩
            · have h := (if_pos c18).symm.trans h
              refine lv_iconst (v := (1 : Int32)) hx hb dX2_factor_66 (by decide) ?_
              refine lv_goto (tgt := 71) hx hb dX2_factor_67 (by decide) ?_
              refine lv_iadd hx hb dX2_factor_71 ?_
              refine lv_istore_n (lv' := [(3, .int (v2 + (1 : Int32))), (4, .int v1), (0, .ref (q 7)), (1, .int p1), (2, .int p2)]) hx hb dX2_factor_72 rfl hl (by decide) rfl (fun ls hl => ?_)
              refine lv_iinc (v := (v1 + (1 : Int32))) (lv' := [(4, .int (v1 + (1 : Int32))), (3, .int (v2 + (1 : Int32))), (0, .ref (q 7)), (1, .int p1), (2, .int p2)]) hx hb dX2_factor_73 hl (k := 1) rfl rfl (by decide) rfl (fun ls hl => ?_)
              refine lv_goto (tgt := 5) hx hb dX2_factor_76 (by decide) ?_
              exact ih8 _ _ _ _ (Option.some.inj h).symm ⟨hP, hD, hS, lv_sub hl [0, 1, 2, 3, 4] rfl⟩
