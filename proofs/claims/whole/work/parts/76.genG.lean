-- X5_freshCut
theorem wmX5_freshCut_0 : (.fieldLink RX5 52 "SpaceWalls" "fresh" "Z" : Cond) ∈ wsX5_freshCut := by decide +kernel
theorem wmX5_freshCut_1 : (.fieldLink RX5 41 "SpaceWalls" "cut" "LSpaceWalls$Cut;" : Cond) ∈ wsX5_freshCut := by decide +kernel
theorem wiX5_freshCut_X5 : ∀ w ∈ u_ws RX5 TX5 5, w ∈ wsX5_freshCut := by decide +kernel
set_option maxHeartbeats 8000000 in
set_option maxRecDepth 100000 in
theorem kX5_freshCut (l : Launch) (D : va_G) (q : Nat → Nat) (cI cJ cZ : ClassId) (tP sz : Nat) (vnum : Int32) (vsz : Int32) (vfr : Int32) (vfo : Int32) (vli : Int32) (va : (Nat → Int32)) (vb : (Nat → Int32)) (vc : (Nat → Int32)) (ve : (Nat → Int32)) (vth : (Nat → Int32)) (vrk : (Nat → Int32)) (vcm : (Nat → Int32)) (vkx : (Nat → Int32)) (vky : (Nat → Int32)) (vkz : (Nat → Int32)) (vmk : (Nat → Int32)) (vre : (Nat → Int32)) (vro : (Nat → Int32)) (vwi : (Nat → Int32)) (vla : (Nat → Int32)) (vlb : (Nat → Int32)) (vtu : (Nat → Int32)) (k0x : Int32) (k0y : Int32) (k0z : Int32) (k1x : Int32) (k1y : Int32) (k1z : Int32) (k2x : Int32) (k2y : Int32) (k2z : Int32) (k3x : Int32) (k3y : Int32) (k3z : Int32)  (uu : (Int32 × Int32 × Int32 × (Nat → Int32) × (Nat → Int32) × (Nat → Int32) × (Nat → Int32) × (Nat → Int32) × (Nat → Int32) × (Nat → Int32) × (Nat → Int32) × (Nat → Int32) × (Nat → Int32) × (Nat → Int32) × Int32 × Int32 × Int32 × Int32 × Int32 × Int32 × Int32 × Int32 × Int32 × Int32 × Int32 × Int32)) (h : fX5_freshCut vnum vsz vfr vfo vli va vb vc ve vth vrk vcm vkx vky vkz vmk vre vro vwi vla vlb k0x k0y k0z k1x k1y k1z k2x k2y k2z k3x k3y k3z = some uu) : Met l yX5_freshCut wsX5_freshCut ({ frames := 6, cells := 0, slots := 0, locals := 147 }) (cPre D cI cJ cZ tP (WC_ q cI cZ vnum vsz vfr vfo vli va vb vc ve vth vrk vcm vkx vky vkz vmk vre vro vwi vla vlb vtu k0x k0y k0z k1x k1y k1z k2x k2y k2z k3x k3y k3z) sz [.ref (q 0)]) (cQr D (va_A (WC_ q cI cZ vnum vsz vfr vfo vli va vb vc ve vth vrk vcm vkx vky vkz vmk vre vro vwi vla vlb vtu k0x k0y k0z k1x k1y k1z k2x k2y k2z k3x k3y k3z) sz) (WC_ q cI cZ vnum vsz uu.1 uu.2.1 uu.2.2.1 va vb vc ve vth uu.2.2.2.1 uu.2.2.2.2.1 uu.2.2.2.2.2.1 uu.2.2.2.2.2.2.1 uu.2.2.2.2.2.2.2.1 uu.2.2.2.2.2.2.2.2.1 uu.2.2.2.2.2.2.2.2.2.1 uu.2.2.2.2.2.2.2.2.2.2.1 uu.2.2.2.2.2.2.2.2.2.2.2.1 uu.2.2.2.2.2.2.2.2.2.2.2.2.1 uu.2.2.2.2.2.2.2.2.2.2.2.2.2.1 vtu uu.2.2.2.2.2.2.2.2.2.2.2.2.2.2.1 uu.2.2.2.2.2.2.2.2.2.2.2.2.2.2.2.1 uu.2.2.2.2.2.2.2.2.2.2.2.2.2.2.2.2.1 uu.2.2.2.2.2.2.2.2.2.2.2.2.2.2.2.2.2.1 uu.2.2.2.2.2.2.2.2.2.2.2.2.2.2.2.2.2.2.1 uu.2.2.2.2.2.2.2.2.2.2.2.2.2.2.2.2.2.2.2.1 uu.2.2.2.2.2.2.2.2.2.2.2.2.2.2.2.2.2.2.2.2.1 uu.2.2.2.2.2.2.2.2.2.2.2.2.2.2.2.2.2.2.2.2.2.1 uu.2.2.2.2.2.2.2.2.2.2.2.2.2.2.2.2.2.2.2.2.2.2.1 uu.2.2.2.2.2.2.2.2.2.2.2.2.2.2.2.2.2.2.2.2.2.2.2.1 uu.2.2.2.2.2.2.2.2.2.2.2.2.2.2.2.2.2.2.2.2.2.2.2.2.1 uu.2.2.2.2.2.2.2.2.2.2.2.2.2.2.2.2.2.2.2.2.2.2.2.2.2) (q 14)) 0 0 (va_A (WC_ q cI cZ vnum vsz vfr vfo vli va vb vc ve vth vrk vcm vkx vky vkz vmk vre vro vwi vla vlb vtu k0x k0y k0z k1x k1y k1z k2x k2y k2z k3x k3y k3z) sz) := by
  refine Met.ofW (cc := cX5_freshCut) (maxL := 1) (ret := (some (.object "SpaceWalls$Cut"))) (by decide) rfl ?_
  intro p e s m args below meth c s₁ B hml hv
  obtain ⟨rfl, hsz, hP, hK, hN, hD0, hZ⟩ := hv
  have hx := B.exec
  have hb := B.bytes
  have hr := B.returns
  have hts := atoms_spec (ws := wsX5_freshCut) B.pre
  have hown : s.vm.findClass RX5 = some m.cls := findClass_of_methodNamed B.named
  have hlocks := B.notSynchronized
  subst hsz
  have hD := hD0.self (sz := s.heap.size)
  generalize hAe : va_A (WC_ q cI cZ vnum vsz vfr vfo vli va vb vc ve vth vrk vcm vkx vky vkz vmk vre vro vwi vla vlb vtu k0x k0y k0z k1x k1y k1z k2x k2y k2z k3x k3y k3z) s.heap.size = A at hD hZ ⊢
  have hA : ∀ q : Nat, s.heap.size ≤ q → A q := fun q h => by rw [← hAe]; exact Or.inr h
  have hS : va_S A s.heap s.heap [] := va_S.rf
  have hl := lv_entry ([.ref (q 0)]) (n := 1) (Nat.le_of_ble_eq_true rfl)
  rw [lg_entry_eq]
  generalize (lg_sl ([.ref (q 0)]) ++ List.replicate (1 - (lg_sl ([.ref (q 0)])).length) Slot.unset).toArray = ls at hl ⊢
  have hl : lv_has ls 1 [(0, .ref (q 0))] := hl
  unfold fX5_freshCut at h
  refine lv_aload_n hx hb dX5_freshCut_0 rfl (lv_at hl 0 rfl) ?_
  refine va_get (D := D) (ci := 5) (v := .int vfr) (C := RX5) (T := TX5) (N := 5) hx hb hts wiX5_freshCut_X5 hown hK hP 0 rfl rfl 4 (by decide) (hts _ wmX5_freshCut_0) (fun _ h9 => h9) rfl dX5_freshCut_1 ?_
  refine lv_if_ne (tgt := 19) hx hb dX5_freshCut_4 (by decide) (fun c1 => ?_) (fun c1 => ?_)
  · have h := (if_neg c1).symm.trans h
    refine lv_aload_n hx hb dX5_freshCut_19 rfl (lv_at hl 0 rfl) ?_
    refine va_get (D := D) (ci := 5) (v := .ref (q 14)) (C := RX5) (T := TX5) (N := 5) hx hb hts wiX5_freshCut_X5 hown hK hP 0 rfl rfl 2 (by decide) (hts _ wmX5_freshCut_1) (fun _ h9 => h9) rfl dX5_freshCut_20 ?_
    obtain rfl := Option.some.inj h
    exact W.aret hx hb hr (Or.inl ⟨_, rfl⟩) (Or.inr ⟨_, rfl⟩) (fun t ht hW => ⟨⟨(), _, rfl, trivial, rfl, by rw [ht]; exact hP, hD⟩, hS.F ht⟩) hS.2.2 dX5_freshCut_23
  · have h := (if_pos c1).symm.trans h
    refine lv_aload_n hx hb dX5_freshCut_7 rfl (lv_at hl 0 rfl) ?_
    refine va_get (D := D) (ci := 5) (v := .ref (q 14)) (C := RX5) (T := TX5) (N := 5) hx hb hts wiX5_freshCut_X5 hown hK hP 0 rfl rfl 2 (by decide) (hts _ wmX5_freshCut_1) (fun _ h9 => h9) rfl dX5_freshCut_8 ?_
    obtain ⟨u2, e3, h⟩ := bd_some h
    refine k_v (va_runV (As := []) (rest := []) ⟨hx, hb, hml, hown, hts⟩ (kX1_cutAnew l D q cI cJ cZ tP s.heap.size vnum vsz vfr vfo vli va vb vc ve vth vrk vcm vkx vky vkz vmk vre vro vwi vla vlb vtu k0x k0y k0z k1x k1y k1z k2x k2y k2z k3x k3y k3z  u2 e3) (cwV 0 hts gX5_freshCut_X1_cutAnew rfl rfl rfl (by decide +kernel) ⟨Nat.le_of_ble_eq_true rfl, Nat.le_of_ble_eq_true rfl⟩) ⟨cPre_blind, va_recv hK hP (ci := 1) (q0 := 14) rfl rfl, cPre_at hP hK hN hD hS hA hZ⟩ rfl rfl hl.1 rfl (lv_room (Nat.le_of_ble_eq_true rfl)) dX5_freshCut_11 ⟨Nat.le_of_ble_eq_true rfl, Nat.le_of_ble_eq_true rfl⟩) hD hS hA (fun H locs hP hD hS => ?_)
    refine lv_aload_n hx hb dX5_freshCut_14 rfl (lv_at hl 0 rfl) ?_
    refine lv_iconst (v := (1 : Int32)) hx hb dX5_freshCut_15 (by decide) ?_
    refine va_put (D := D) (ci := 5) (v := .int (1 : Int32)) (ty := .boolean) (C := RX5) (T := TX5) (N := 5) hx hb hts wiX5_freshCut_X5 tyX5 tyX5_ok nmX5 hown hK hP hD hS 0 rfl rfl 4 (by decide) (hts _ wmX5_freshCut_0) (fun _ h9 => h9) rfl (by decide +kernel) rfl rfl (Nat.le_of_ble_eq_true rfl) dX5_freshCut_16 (fun H locs hP hD hS => ?_)
    have hP : va_P D vwCl (WC_ q cI cZ vnum vsz (1 : Int32) u2.1 u2.2.1 va vb vc ve vth u2.2.2.1 u2.2.2.2.1 u2.2.2.2.2.1 u2.2.2.2.2.2.1 u2.2.2.2.2.2.2.1 u2.2.2.2.2.2.2.2.1 u2.2.2.2.2.2.2.2.2.1 u2.2.2.2.2.2.2.2.2.2.1 u2.2.2.2.2.2.2.2.2.2.2.1 u2.2.2.2.2.2.2.2.2.2.2.2.1 u2.2.2.2.2.2.2.2.2.2.2.2.2.1 vtu u2.2.2.2.2.2.2.2.2.2.2.2.2.2.1 u2.2.2.2.2.2.2.2.2.2.2.2.2.2.2.1 u2.2.2.2.2.2.2.2.2.2.2.2.2.2.2.2.1 u2.2.2.2.2.2.2.2.2.2.2.2.2.2.2.2.2.1 u2.2.2.2.2.2.2.2.2.2.2.2.2.2.2.2.2.2.1 u2.2.2.2.2.2.2.2.2.2.2.2.2.2.2.2.2.2.2.1 u2.2.2.2.2.2.2.2.2.2.2.2.2.2.2.2.2.2.2.2.1 u2.2.2.2.2.2.2.2.2.2.2.2.2.2.2.2.2.2.2.2.2.1 u2.2.2.2.2.2.2.2.2.2.2.2.2.2.2.2.2.2.2.2.2.2.1 u2.2.2.2.2.2.2.2.2.2.2.2.2.2.2.2.2.2.2.2.2.2.2.1 u2.2.2.2.2.2.2.2.2.2.2.2.2.2.2.2.2.2.2.2.2.2.2.2.1 u2.2.2.2.2.2.2.2.2.2.2.2.2.2.2.2.2.2.2.2.2.2.2.2.2) H := hP
    have hD : va_D A (WC_ q cI cZ vnum vsz (1 : Int32) u2.1 u2.2.1 va vb vc ve vth u2.2.2.1 u2.2.2.2.1 u2.2.2.2.2.1 u2.2.2.2.2.2.1 u2.2.2.2.2.2.2.1 u2.2.2.2.2.2.2.2.1 u2.2.2.2.2.2.2.2.2.1 u2.2.2.2.2.2.2.2.2.2.1 u2.2.2.2.2.2.2.2.2.2.2.1 u2.2.2.2.2.2.2.2.2.2.2.2.1 u2.2.2.2.2.2.2.2.2.2.2.2.2.1 vtu u2.2.2.2.2.2.2.2.2.2.2.2.2.2.1 u2.2.2.2.2.2.2.2.2.2.2.2.2.2.2.1 u2.2.2.2.2.2.2.2.2.2.2.2.2.2.2.2.1 u2.2.2.2.2.2.2.2.2.2.2.2.2.2.2.2.2.1 u2.2.2.2.2.2.2.2.2.2.2.2.2.2.2.2.2.2.1 u2.2.2.2.2.2.2.2.2.2.2.2.2.2.2.2.2.2.2.1 u2.2.2.2.2.2.2.2.2.2.2.2.2.2.2.2.2.2.2.2.1 u2.2.2.2.2.2.2.2.2.2.2.2.2.2.2.2.2.2.2.2.2.1 u2.2.2.2.2.2.2.2.2.2.2.2.2.2.2.2.2.2.2.2.2.2.1 u2.2.2.2.2.2.2.2.2.2.2.2.2.2.2.2.2.2.2.2.2.2.2.1 u2.2.2.2.2.2.2.2.2.2.2.2.2.2.2.2.2.2.2.2.2.2.2.2.1 u2.2.2.2.2.2.2.2.2.2.2.2.2.2.2.2.2.2.2.2.2.2.2.2.2) := hD
    refine lv_aload_n hx hb dX5_freshCut_19 rfl (lv_at hl 0 rfl) ?_
    refine va_get (D := D) (ci := 5) (v := .ref (q 14)) (C := RX5) (T := TX5) (N := 5) hx hb hts wiX5_freshCut_X5 hown hK hP 0 rfl rfl 2 (by decide) (hts _ wmX5_freshCut_1) (fun _ h9 => h9) rfl dX5_freshCut_20 ?_
    obtain rfl := Option.some.inj h
    exact W.aret hx hb hr (Or.inl ⟨_, rfl⟩) (Or.inr ⟨_, rfl⟩) (fun t ht hW => ⟨⟨(), _, rfl, trivial, rfl, by rw [ht]; exact hP, hD⟩, hS.F ht⟩) hS.2.2 dX5_freshCut_23

-- X5_wall
theorem wmX5_wall_0 : (.fieldLink RX5 23 "SpaceWalls" "planes" "LSpaceWalls$Planes;" : Cond) ∈ wsX5_wall := by decide +kernel
theorem wmX5_wall_1 : (.fieldLink RX5 52 "SpaceWalls" "fresh" "Z" : Cond) ∈ wsX5_wall := by decide +kernel
theorem wiX5_wall_X5 : ∀ w ∈ u_ws RX5 TX5 5, w ∈ wsX5_wall := by decide +kernel
theorem wiX5_wall_X3 : ∀ w ∈ u_ws RX3 TX3 7, w ∈ wsX5_wall := by decide +kernel
set_option maxHeartbeats 8000000 in
set_option maxRecDepth 100000 in
theorem kX5_wall (l : Launch) (D : va_G) (q : Nat → Nat) (cI cJ cZ : ClassId) (tP sz : Nat) (vnum : Int32) (vsz : Int32) (vfr : Int32) (vfo : Int32) (vli : Int32) (va : (Nat → Int32)) (vb : (Nat → Int32)) (vc : (Nat → Int32)) (ve : (Nat → Int32)) (vth : (Nat → Int32)) (vrk : (Nat → Int32)) (vcm : (Nat → Int32)) (vkx : (Nat → Int32)) (vky : (Nat → Int32)) (vkz : (Nat → Int32)) (vmk : (Nat → Int32)) (vre : (Nat → Int32)) (vro : (Nat → Int32)) (vwi : (Nat → Int32)) (vla : (Nat → Int32)) (vlb : (Nat → Int32)) (vtu : (Nat → Int32)) (k0x : Int32) (k0y : Int32) (k0z : Int32) (k1x : Int32) (k1y : Int32) (k1z : Int32) (k2x : Int32) (k2y : Int32) (k2z : Int32) (k3x : Int32) (k3y : Int32) (k3z : Int32) (p1 : Int32) (p2 : Int32) (p3 : Int32) (p4 : Int32) (uu : (Int32 × Int32 × Int32 × (Nat → Int32) × (Nat → Int32) × (Nat → Int32) × (Nat → Int32))) (h : fX5_wall vnum vsz vfr va vb vc ve p1 p2 p3 p4 = some uu) : Met l yX5_wall wsX5_wall ({ frames := 2, cells := 0, slots := 0, locals := 45 }) (cPre D cI cJ cZ tP (WC_ q cI cZ vnum vsz vfr vfo vli va vb vc ve vth vrk vcm vkx vky vkz vmk vre vro vwi vla vlb vtu k0x k0y k0z k1x k1y k1z k2x k2y k2z k3x k3y k3z) sz [.ref (q 0), .int p1, .int p2, .int p3, .int p4]) (cQi D (va_A (WC_ q cI cZ vnum vsz vfr vfo vli va vb vc ve vth vrk vcm vkx vky vkz vmk vre vro vwi vla vlb vtu k0x k0y k0z k1x k1y k1z k2x k2y k2z k3x k3y k3z) sz) (WC_ q cI cZ vnum uu.2.1 uu.2.2.1 vfo vli uu.2.2.2.1 uu.2.2.2.2.1 uu.2.2.2.2.2.1 uu.2.2.2.2.2.2 vth vrk vcm vkx vky vkz vmk vre vro vwi vla vlb vtu k0x k0y k0z k1x k1y k1z k2x k2y k2z k3x k3y k3z) uu.1) 0 0 (va_A (WC_ q cI cZ vnum vsz vfr vfo vli va vb vc ve vth vrk vcm vkx vky vkz vmk vre vro vwi vla vlb vtu k0x k0y k0z k1x k1y k1z k2x k2y k2z k3x k3y k3z) sz) := by
  refine Met.ofW (cc := cX5_wall) (maxL := 5) (ret := (some .int)) (by decide) rfl ?_
  intro p e s m args below meth c s₁ B hml hv
  obtain ⟨rfl, hsz, hP, hK, hN, hD0, hZ⟩ := hv
  have hx := B.exec
  have hb := B.bytes
  have hr := B.returns
  have hts := atoms_spec (ws := wsX5_wall) B.pre
  have hown : s.vm.findClass RX5 = some m.cls := findClass_of_methodNamed B.named
  have hlocks := B.notSynchronized
  subst hsz
  have hD := hD0.self (sz := s.heap.size)
  generalize hAe : va_A (WC_ q cI cZ vnum vsz vfr vfo vli va vb vc ve vth vrk vcm vkx vky vkz vmk vre vro vwi vla vlb vtu k0x k0y k0z k1x k1y k1z k2x k2y k2z k3x k3y k3z) s.heap.size = A at hD hZ ⊢
  have hA : ∀ q : Nat, s.heap.size ≤ q → A q := fun q h => by rw [← hAe]; exact Or.inr h
  have hS : va_S A s.heap s.heap [] := va_S.rf
  have hl := lv_entry ([.ref (q 0), .int p1, .int p2, .int p3, .int p4]) (n := 5) (Nat.le_of_ble_eq_true rfl)
  rw [lg_entry_eq]
  generalize (lg_sl ([.ref (q 0), .int p1, .int p2, .int p3, .int p4]) ++ List.replicate (5 - (lg_sl ([.ref (q 0), .int p1, .int p2, .int p3, .int p4])).length) Slot.unset).toArray = ls at hl ⊢
  have hl : lv_has ls 5 [(0, .ref (q 0)), (1, .int p1), (2, .int p2), (3, .int p3), (4, .int p4)] := hl
  unfold fX5_wall at h
  refine lv_aload_n hx hb dX5_wall_0 rfl (lv_at hl 0 rfl) ?_
  refine va_get (D := D) (ci := 5) (v := .ref (q 1)) (C := RX5) (T := TX5) (N := 5) hx hb hts wiX5_wall_X5 hown hK hP 0 rfl rfl 0 (by decide) (hts _ wmX5_wall_0) (fun _ h9 => h9) rfl dX5_wall_1 ?_
  refine va_getN (D := D) (ci := 3) (v := .int vsz) (C := RX3) (T := TX3) (N := 7) hx hb hts wiX5_wall_X3 hown hK hP 1 rfl rfl 6 (by decide) (NW_f hN 2 rfl) (fun _ h9 => h9) rfl dX5_wall_4 ?_
  refine lv_bipush (v := (8 : Int32)) hx hb dX5_wall_7 (by decide) ?_
  refine lv_icmp_ge (tgt := 42) hx hb dX5_wall_9 (by decide) (fun c1 => ?_) (fun c1 => ?_)
  · have h := (if_pos c1).symm.trans h
    refine lv_iconst (v := (-1 : Int32)) hx hb dX5_wall_42 (by decide) ?_
    obtain rfl := Option.some.inj h
    exact W.iret (v := (-1 : Int32)) hx hb hr (fun t ht hW => ⟨⟨(-1 : Int32), (), rfl, rfl, by rw [ht]; exact hP, hD⟩, hS.F ht⟩) hS.2.2 dX5_wall_43
  · have h := (if_neg c1).symm.trans h
    refine lv_aload_n hx hb dX5_wall_12 rfl (lv_at hl 0 rfl) ?_
    refine va_get (D := D) (ci := 5) (v := .ref (q 1)) (C := RX5) (T := TX5) (N := 5) hx hb hts wiX5_wall_X5 hown hK hP 0 rfl rfl 0 (by decide) (hts _ wmX5_wall_0) (fun _ h9 => h9) rfl dX5_wall_13 ?_
    refine lv_iload_n hx hb dX5_wall_16 rfl (lv_at hl 1 rfl) ?_
    refine lv_iload_n hx hb dX5_wall_17 rfl (lv_at hl 2 rfl) ?_
    refine lv_iload_n hx hb dX5_wall_18 rfl (lv_at hl 3 rfl) ?_
    refine lv_iload hx hb dX5_wall_19 (lv_at hl 4 rfl) ?_
    obtain ⟨u2, e3, h⟩ := bd_some h
    refine k_i (va_runV (As := [.int p1, .int p2, .int p3, .int p4]) (rest := []) ⟨hx, hb, hml, hown, hts⟩ (kX3_isPlane l D q cI cJ cZ tP s.heap.size vnum vsz vfr vfo vli va vb vc ve vth vrk vcm vkx vky vkz vmk vre vro vwi vla vlb vtu k0x k0y k0z k1x k1y k1z k2x k2y k2z k3x k3y k3z p1 p2 p3 p4 u2 e3) (cwV 4 hts gX5_wall_X3_isPlane rfl rfl rfl (by decide +kernel) ⟨Nat.le_of_ble_eq_true rfl, Nat.le_of_ble_eq_true rfl⟩) ⟨cPre_blind, va_recv hK hP (ci := 3) (q0 := 1) rfl rfl, cPre_at hP hK hN hD hS hA hZ⟩ rfl rfl hl.1 rfl (lv_room (Nat.le_of_ble_eq_true rfl)) dX5_wall_21 ⟨Nat.le_of_ble_eq_true rfl, Nat.le_of_ble_eq_true rfl⟩) hD hS hA (fun H locs hP hD hS => ?_)
    refine lv_if_eq (tgt := 42) hx hb dX5_wall_24 (by decide) (fun c4 => ?_) (fun c4 => ?_)
    · have h := (if_pos c4).symm.trans h
      refine lv_iconst (v := (-1 : Int32)) hx hb dX5_wall_42 (by decide) ?_
      obtain rfl := Option.some.inj h
      exact W.iret (v := (-1 : Int32)) hx hb hr (fun t ht hW => ⟨⟨(-1 : Int32), (), rfl, rfl, by rw [ht]; exact hP, hD⟩, hS.F ht⟩) hS.2.2 dX5_wall_43
    · have h := (if_neg c4).symm.trans h
      refine lv_aload_n hx hb dX5_wall_27 rfl (lv_at hl 0 rfl) ?_
      refine va_get (D := D) (ci := 5) (v := .ref (q 1)) (C := RX5) (T := TX5) (N := 5) hx hb hts wiX5_wall_X5 hown hK hP 0 rfl rfl 0 (by decide) (hts _ wmX5_wall_0) (fun _ h9 => h9) rfl dX5_wall_28 ?_
      refine lv_iload_n hx hb dX5_wall_31 rfl (lv_at hl 1 rfl) ?_
      refine lv_iload_n hx hb dX5_wall_32 rfl (lv_at hl 2 rfl) ?_
      refine lv_iload_n hx hb dX5_wall_33 rfl (lv_at hl 3 rfl) ?_
      refine lv_iload hx hb dX5_wall_34 (lv_at hl 4 rfl) ?_
      obtain ⟨u5, e6, h⟩ := bd_some h
      refine k_i (va_runV (As := [.int p1, .int p2, .int p3, .int p4]) (rest := []) ⟨hx, hb, hml, hown, hts⟩ (kX3_isThere l D q cI cJ cZ tP H.size vnum vsz vfr vfo vli va vb vc ve vth vrk vcm vkx vky vkz vmk vre vro vwi vla vlb vtu k0x k0y k0z k1x k1y k1z k2x k2y k2z k3x k3y k3z p1 p2 p3 p4 u5 e6) (cwV 4 hts gX5_wall_X3_isThere rfl rfl rfl (by decide +kernel) ⟨Nat.le_of_ble_eq_true rfl, Nat.le_of_ble_eq_true rfl⟩) ⟨cPre_blind, va_recv hK hP (ci := 3) (q0 := 1) rfl rfl, cPre_at hP hK hN hD hS hA hZ⟩ rfl rfl hl.1 rfl (lv_room (Nat.le_of_ble_eq_true rfl)) dX5_wall_36 ⟨Nat.le_of_ble_eq_true rfl, Nat.le_of_ble_eq_true rfl⟩) hD hS hA (fun H locs hP hD hS => ?_)
      refine lv_if_eq (tgt := 44) hx hb dX5_wall_39 (by decide) (fun c7 => ?_) (fun c7 => ?_)
      · have h := (if_pos c7).symm.trans h
        refine lv_aload_n hx hb dX5_wall_44 rfl (lv_at hl 0 rfl) ?_
        refine va_get (D := D) (ci := 5) (v := .ref (q 1)) (C := RX5) (T := TX5) (N := 5) hx hb hts wiX5_wall_X5 hown hK hP 0 rfl rfl 0 (by decide) (hts _ wmX5_wall_0) (fun _ h9 => h9) rfl dX5_wall_45 ?_
        refine lv_iload_n hx hb dX5_wall_48 rfl (lv_at hl 1 rfl) ?_
        refine lv_iload_n hx hb dX5_wall_49 rfl (lv_at hl 2 rfl) ?_
        refine lv_iload_n hx hb dX5_wall_50 rfl (lv_at hl 3 rfl) ?_
        refine lv_iload hx hb dX5_wall_51 (lv_at hl 4 rfl) ?_
        obtain ⟨u8, e9, h⟩ := bd_some h
        refine k_v (va_runV (As := [.int p1, .int p2, .int p3, .int p4]) (rest := []) ⟨hx, hb, hml, hown, hts⟩ (kX3_append l D q cI cJ cZ tP H.size vnum vsz vfr vfo vli va vb vc ve vth vrk vcm vkx vky vkz vmk vre vro vwi vla vlb vtu k0x k0y k0z k1x k1y k1z k2x k2y k2z k3x k3y k3z p1 p2 p3 p4 u8 e9) (cwV 4 hts gX5_wall_X3_append rfl rfl rfl (by decide +kernel) ⟨Nat.le_of_ble_eq_true rfl, Nat.le_of_ble_eq_true rfl⟩) ⟨cPre_blind, va_recv hK hP (ci := 3) (q0 := 1) rfl rfl, cPre_at hP hK hN hD hS hA hZ⟩ rfl rfl hl.1 rfl (lv_room (Nat.le_of_ble_eq_true rfl)) dX5_wall_53 ⟨Nat.le_of_ble_eq_true rfl, Nat.le_of_ble_eq_true rfl⟩) hD hS hA (fun H locs hP hD hS => ?_)
        refine lv_aload_n hx hb dX5_wall_56 rfl (lv_at hl 0 rfl) ?_
        refine lv_iconst (v := (0 : Int32)) hx hb dX5_wall_57 (by decide) ?_
        refine va_put (D := D) (ci := 5) (v := .int (0 : Int32)) (ty := .boolean) (C := RX5) (T := TX5) (N := 5) hx hb hts wiX5_wall_X5 tyX5 tyX5_ok nmX5 hown hK hP hD hS 0 rfl rfl 4 (by decide) (hts _ wmX5_wall_1) (fun _ h9 => h9) rfl (by decide +kernel) rfl rfl (Nat.le_of_ble_eq_true rfl) dX5_wall_58 (fun H locs hP hD hS => ?_)
        have hP : va_P D vwCl (WC_ q cI cZ vnum u8.1 (0 : Int32) vfo vli u8.2.1 u8.2.2.1 u8.2.2.2.1 u8.2.2.2.2 vth vrk vcm vkx vky vkz vmk vre vro vwi vla vlb vtu k0x k0y k0z k1x k1y k1z k2x k2y k2z k3x k3y k3z) H := hP
        have hD : va_D A (WC_ q cI cZ vnum u8.1 (0 : Int32) vfo vli u8.2.1 u8.2.2.1 u8.2.2.2.1 u8.2.2.2.2 vth vrk vcm vkx vky vkz vmk vre vro vwi vla vlb vtu k0x k0y k0z k1x k1y k1z k2x k2y k2z k3x k3y k3z) := hD
        refine lv_aload_n hx hb dX5_wall_61 rfl (lv_at hl 0 rfl) ?_
        refine va_get (D := D) (ci := 5) (v := .ref (q 1)) (C := RX5) (T := TX5) (N := 5) hx hb hts wiX5_wall_X5 hown hK hP 0 rfl rfl 0 (by decide) (hts _ wmX5_wall_0) (fun _ h9 => h9) rfl dX5_wall_62 ?_
        refine va_getN (D := D) (ci := 3) (v := .int u8.1) (C := RX3) (T := TX3) (N := 7) hx hb hts wiX5_wall_X3 hown hK hP 1 rfl rfl 6 (by decide) (NW_f hN 2 rfl) (fun _ h9 => h9) rfl dX5_wall_65 ?_
        refine lv_iconst (v := (1 : Int32)) hx hb dX5_wall_68 (by decide) ?_
        refine lv_isub hx hb dX5_wall_69 ?_
        obtain rfl := Option.some.inj h
        exact W.iret (v := (u8.1 - (1 : Int32))) hx hb hr (fun t ht hW => ⟨⟨(u8.1 - (1 : Int32)), (), rfl, rfl, by rw [ht]; exact hP, hD⟩, hS.F ht⟩) hS.2.2 dX5_wall_70
      · have h := (if_neg c7).symm.trans h
        refine lv_iconst (v := (-1 : Int32)) hx hb dX5_wall_42 (by decide) ?_
        obtain rfl := Option.some.inj h
        exact W.iret (v := (-1 : Int32)) hx hb hr (fun t ht hW => ⟨⟨(-1 : Int32), (), rfl, rfl, by rw [ht]; exact hP, hD⟩, hS.F ht⟩) hS.2.2 dX5_wall_43

-- X5_take
theorem wmX5_take_0 : (.fieldLink RX5 23 "SpaceWalls" "planes" "LSpaceWalls$Planes;" : Cond) ∈ wsX5_take := by decide +kernel
theorem wmX5_take_1 : (.fieldLink RX5 52 "SpaceWalls" "fresh" "Z" : Cond) ∈ wsX5_take := by decide +kernel
theorem wiX5_take_X5 : ∀ w ∈ u_ws RX5 TX5 5, w ∈ wsX5_take := by decide +kernel
set_option maxHeartbeats 8000000 in
set_option maxRecDepth 100000 in
theorem kX5_take (l : Launch) (D : va_G) (q : Nat → Nat) (cI cJ cZ : ClassId) (tP sz : Nat) (vnum : Int32) (vsz : Int32) (vfr : Int32) (vfo : Int32) (vli : Int32) (va : (Nat → Int32)) (vb : (Nat → Int32)) (vc : (Nat → Int32)) (ve : (Nat → Int32)) (vth : (Nat → Int32)) (vrk : (Nat → Int32)) (vcm : (Nat → Int32)) (vkx : (Nat → Int32)) (vky : (Nat → Int32)) (vkz : (Nat → Int32)) (vmk : (Nat → Int32)) (vre : (Nat → Int32)) (vro : (Nat → Int32)) (vwi : (Nat → Int32)) (vla : (Nat → Int32)) (vlb : (Nat → Int32)) (vtu : (Nat → Int32)) (k0x : Int32) (k0y : Int32) (k0z : Int32) (k1x : Int32) (k1y : Int32) (k1z : Int32) (k2x : Int32) (k2y : Int32) (k2z : Int32) (k3x : Int32) (k3y : Int32) (k3z : Int32) (p1 : Int32) (uu : (Int32 × Int32 × Int32 × (Nat → Int32) × (Nat → Int32) × (Nat → Int32) × (Nat → Int32))) (h : fX5_take vsz vfr va vb vc ve p1 = some uu) : Met l yX5_take wsX5_take ({ frames := 2, cells := 0, slots := 0, locals := 43 }) (cPre D cI cJ cZ tP (WC_ q cI cZ vnum vsz vfr vfo vli va vb vc ve vth vrk vcm vkx vky vkz vmk vre vro vwi vla vlb vtu k0x k0y k0z k1x k1y k1z k2x k2y k2z k3x k3y k3z) sz [.ref (q 0), .int p1]) (cQi D (va_A (WC_ q cI cZ vnum vsz vfr vfo vli va vb vc ve vth vrk vcm vkx vky vkz vmk vre vro vwi vla vlb vtu k0x k0y k0z k1x k1y k1z k2x k2y k2z k3x k3y k3z) sz) (WC_ q cI cZ vnum uu.2.1 uu.2.2.1 vfo vli uu.2.2.2.1 uu.2.2.2.2.1 uu.2.2.2.2.2.1 uu.2.2.2.2.2.2 vth vrk vcm vkx vky vkz vmk vre vro vwi vla vlb vtu k0x k0y k0z k1x k1y k1z k2x k2y k2z k3x k3y k3z) uu.1) 0 0 (va_A (WC_ q cI cZ vnum vsz vfr vfo vli va vb vc ve vth vrk vcm vkx vky vkz vmk vre vro vwi vla vlb vtu k0x k0y k0z k1x k1y k1z k2x k2y k2z k3x k3y k3z) sz) := by
  refine Met.ofW (cc := cX5_take) (maxL := 2) (ret := (some .boolean)) (by decide) rfl ?_
  intro p e s m args below meth c s₁ B hml hv
  obtain ⟨rfl, hsz, hP, hK, hN, hD0, hZ⟩ := hv
  have hx := B.exec
  have hb := B.bytes
  have hr := B.returns
  have hts := atoms_spec (ws := wsX5_take) B.pre
  have hown : s.vm.findClass RX5 = some m.cls := findClass_of_methodNamed B.named
  have hlocks := B.notSynchronized
  subst hsz
  have hD := hD0.self (sz := s.heap.size)
  generalize hAe : va_A (WC_ q cI cZ vnum vsz vfr vfo vli va vb vc ve vth vrk vcm vkx vky vkz vmk vre vro vwi vla vlb vtu k0x k0y k0z k1x k1y k1z k2x k2y k2z k3x k3y k3z) s.heap.size = A at hD hZ ⊢
  have hA : ∀ q : Nat, s.heap.size ≤ q → A q := fun q h => by rw [← hAe]; exact Or.inr h
  have hS : va_S A s.heap s.heap [] := va_S.rf
  have hl := lv_entry ([.ref (q 0), .int p1]) (n := 2) (Nat.le_of_ble_eq_true rfl)
  rw [lg_entry_eq]
  generalize (lg_sl ([.ref (q 0), .int p1]) ++ List.replicate (2 - (lg_sl ([.ref (q 0), .int p1])).length) Slot.unset).toArray = ls at hl ⊢
  have hl : lv_has ls 2 [(0, .ref (q 0)), (1, .int p1)] := hl
  unfold fX5_take at h
  refine lv_aload_n hx hb dX5_take_0 rfl (lv_at hl 0 rfl) ?_
  refine va_get (D := D) (ci := 5) (v := .ref (q 1)) (C := RX5) (T := TX5) (N := 5) hx hb hts wiX5_take_X5 hown hK hP 0 rfl rfl 0 (by decide) (hts _ wmX5_take_0) (fun _ h9 => h9) rfl dX5_take_1 ?_
  refine lv_iload_n hx hb dX5_take_4 rfl (lv_at hl 1 rfl) ?_
  obtain ⟨u1, e2, h⟩ := bd_some h
  refine k_i (va_runV (As := [.int p1]) (rest := []) ⟨hx, hb, hml, hown, hts⟩ (kX3_holds l D q cI cJ cZ tP s.heap.size vnum vsz vfr vfo vli va vb vc ve vth vrk vcm vkx vky vkz vmk vre vro vwi vla vlb vtu k0x k0y k0z k1x k1y k1z k2x k2y k2z k3x k3y k3z p1 u1 e2) (cwV 1 hts gX5_take_X3_holds rfl rfl rfl (by decide +kernel) ⟨Nat.le_of_ble_eq_true rfl, Nat.le_of_ble_eq_true rfl⟩) ⟨cPre_blind, va_recv hK hP (ci := 3) (q0 := 1) rfl rfl, cPre_at hP hK hN hD hS hA hZ⟩ rfl rfl hl.1 rfl (lv_room (Nat.le_of_ble_eq_true rfl)) dX5_take_5 ⟨Nat.le_of_ble_eq_true rfl, Nat.le_of_ble_eq_true rfl⟩) hD hS hA (fun H locs hP hD hS => ?_)
  refine lv_if_ne (tgt := 13) hx hb dX5_take_8 (by decide) (fun c3 => ?_) (fun c3 => ?_)
  · have h := (if_neg c3).symm.trans h
    refine lv_aload_n hx hb dX5_take_13 rfl (lv_at hl 0 rfl) ?_
    refine va_get (D := D) (ci := 5) (v := .ref (q 1)) (C := RX5) (T := TX5) (N := 5) hx hb hts wiX5_take_X5 hown hK hP 0 rfl rfl 0 (by decide) (hts _ wmX5_take_0) (fun _ h9 => h9) rfl dX5_take_14 ?_
    refine lv_iload_n hx hb dX5_take_17 rfl (lv_at hl 1 rfl) ?_
    obtain ⟨u4, e5, h⟩ := bd_some h
    refine k_v (va_runV (As := [.int p1]) (rest := []) ⟨hx, hb, hml, hown, hts⟩ (kX3_drop l D q cI cJ cZ tP H.size vnum vsz vfr vfo vli va vb vc ve vth vrk vcm vkx vky vkz vmk vre vro vwi vla vlb vtu k0x k0y k0z k1x k1y k1z k2x k2y k2z k3x k3y k3z p1 u4 e5) (cwV 1 hts gX5_take_X3_drop rfl rfl rfl (by decide +kernel) ⟨Nat.le_of_ble_eq_true rfl, Nat.le_of_ble_eq_true rfl⟩) ⟨cPre_blind, va_recv hK hP (ci := 3) (q0 := 1) rfl rfl, cPre_at hP hK hN hD hS hA hZ⟩ rfl rfl hl.1 rfl (lv_room (Nat.le_of_ble_eq_true rfl)) dX5_take_18 ⟨Nat.le_of_ble_eq_true rfl, Nat.le_of_ble_eq_true rfl⟩) hD hS hA (fun H locs hP hD hS => ?_)
    refine lv_aload_n hx hb dX5_take_21 rfl (lv_at hl 0 rfl) ?_
    refine lv_iconst (v := (0 : Int32)) hx hb dX5_take_22 (by decide) ?_
    refine va_put (D := D) (ci := 5) (v := .int (0 : Int32)) (ty := .boolean) (C := RX5) (T := TX5) (N := 5) hx hb hts wiX5_take_X5 tyX5 tyX5_ok nmX5 hown hK hP hD hS 0 rfl rfl 4 (by decide) (hts _ wmX5_take_1) (fun _ h9 => h9) rfl (by decide +kernel) rfl rfl (Nat.le_of_ble_eq_true rfl) dX5_take_23 (fun H locs hP hD hS => ?_)
    have hP : va_P D vwCl (WC_ q cI cZ vnum u4.1 (0 : Int32) vfo vli u4.2.1 u4.2.2.1 u4.2.2.2.1 u4.2.2.2.2 vth vrk vcm vkx vky vkz vmk vre vro vwi vla vlb vtu k0x k0y k0z k1x k1y k1z k2x k2y k2z k3x k3y k3z) H := hP
    have hD : va_D A (WC_ q cI cZ vnum u4.1 (0 : Int32) vfo vli u4.2.1 u4.2.2.1 u4.2.2.2.1 u4.2.2.2.2 vth vrk vcm vkx vky vkz vmk vre vro vwi vla vlb vtu k0x k0y k0z k1x k1y k1z k2x k2y k2z k3x k3y k3z) := hD
    refine lv_iconst (v := (1 : Int32)) hx hb dX5_take_26 (by decide) ?_
    obtain rfl := Option.some.inj h
    exact W.zret (v := (1 : Int32)) hx hb hr (by decide) (fun t ht hW => ⟨⟨(1 : Int32), (), rfl, rfl, by rw [ht]; exact hP, hD⟩, hS.F ht⟩) hS.2.2 dX5_take_27
  · have h := (if_pos c3).symm.trans h
    refine lv_iconst (v := (0 : Int32)) hx hb dX5_take_11 (by decide) ?_
    obtain rfl := Option.some.inj h
    exact W.zret (v := (0 : Int32)) hx hb hr (by decide) (fun t ht hW => ⟨⟨(0 : Int32), (), rfl, rfl, by rw [ht]; exact hP, hD⟩, hS.F ht⟩) hS.2.2 dX5_take_12

-- X5_told
theorem wmX5_told_0 : (.fieldLink RX5 23 "SpaceWalls" "planes" "LSpaceWalls$Planes;" : Cond) ∈ wsX5_told := by decide +kernel
theorem wiX5_told_X5 : ∀ w ∈ u_ws RX5 TX5 5, w ∈ wsX5_told := by decide +kernel
theorem wiX5_told_X3 : ∀ w ∈ u_ws RX3 TX3 7, w ∈ wsX5_told := by decide +kernel
set_option maxHeartbeats 8000000 in
set_option maxRecDepth 100000 in
theorem kX5_told (l : Launch) (D : va_G) (q : Nat → Nat) (cI cJ cZ : ClassId) (tP sz : Nat) (vnum : Int32) (vsz : Int32) (vfr : Int32) (vfo : Int32) (vli : Int32) (va : (Nat → Int32)) (vb : (Nat → Int32)) (vc : (Nat → Int32)) (ve : (Nat → Int32)) (vth : (Nat → Int32)) (vrk : (Nat → Int32)) (vcm : (Nat → Int32)) (vkx : (Nat → Int32)) (vky : (Nat → Int32)) (vkz : (Nat → Int32)) (vmk : (Nat → Int32)) (vre : (Nat → Int32)) (vro : (Nat → Int32)) (vwi : (Nat → Int32)) (vla : (Nat → Int32)) (vlb : (Nat → Int32)) (vtu : (Nat → Int32)) (k0x : Int32) (k0y : Int32) (k0z : Int32) (k1x : Int32) (k1y : Int32) (k1z : Int32) (k2x : Int32) (k2y : Int32) (k2z : Int32) (k3x : Int32) (k3y : Int32) (k3z : Int32) (p1 : Int32) (p2 : Int32) (uu : Int32) (h : fX5_told vsz va vb vc ve p1 p2 = some uu) : Met l yX5_told wsX5_told ({ frames := 1, cells := 0, slots := 0, locals := 21 }) (cPre D cI cJ cZ tP (WC_ q cI cZ vnum vsz vfr vfo vli va vb vc ve vth vrk vcm vkx vky vkz vmk vre vro vwi vla vlb vtu k0x k0y k0z k1x k1y k1z k2x k2y k2z k3x k3y k3z) sz [.ref (q 0), .int p1, .int p2]) (cQi D (va_A (WC_ q cI cZ vnum vsz vfr vfo vli va vb vc ve vth vrk vcm vkx vky vkz vmk vre vro vwi vla vlb vtu k0x k0y k0z k1x k1y k1z k2x k2y k2z k3x k3y k3z) sz) (WC_ q cI cZ vnum vsz vfr vfo vli va vb vc ve vth vrk vcm vkx vky vkz vmk vre vro vwi vla vlb vtu k0x k0y k0z k1x k1y k1z k2x k2y k2z k3x k3y k3z) uu) 0 0 (va_A (WC_ q cI cZ vnum vsz vfr vfo vli va vb vc ve vth vrk vcm vkx vky vkz vmk vre vro vwi vla vlb vtu k0x k0y k0z k1x k1y k1z k2x k2y k2z k3x k3y k3z) sz) := by
  refine Met.ofW (cc := cX5_told) (maxL := 3) (ret := (some .int)) (by decide) rfl ?_
  intro p e s m args below meth c s₁ B hml hv
  obtain ⟨rfl, hsz, hP, hK, hN, hD0, hZ⟩ := hv
  have hx := B.exec
  have hb := B.bytes
  have hr := B.returns
  have hts := atoms_spec (ws := wsX5_told) B.pre
  have hown : s.vm.findClass RX5 = some m.cls := findClass_of_methodNamed B.named
  have hlocks := B.notSynchronized
  subst hsz
  have hD := hD0.self (sz := s.heap.size)
  generalize hAe : va_A (WC_ q cI cZ vnum vsz vfr vfo vli va vb vc ve vth vrk vcm vkx vky vkz vmk vre vro vwi vla vlb vtu k0x k0y k0z k1x k1y k1z k2x k2y k2z k3x k3y k3z) s.heap.size = A at hD hZ ⊢
  have hA : ∀ q : Nat, s.heap.size ≤ q → A q := fun q h => by rw [← hAe]; exact Or.inr h
  have hS : va_S A s.heap s.heap [] := va_S.rf
  have hl := lv_entry ([.ref (q 0), .int p1, .int p2]) (n := 3) (Nat.le_of_ble_eq_true rfl)
  rw [lg_entry_eq]
  generalize (lg_sl ([.ref (q 0), .int p1, .int p2]) ++ List.replicate (3 - (lg_sl ([.ref (q 0), .int p1, .int p2])).length) Slot.unset).toArray = ls at hl ⊢
  have hl : lv_has ls 3 [(0, .ref (q 0)), (1, .int p1), (2, .int p2)] := hl
  unfold fX5_told at h
  refine lv_aload_n hx hb dX5_told_0 rfl (lv_at hl 0 rfl) ?_
  refine va_get (D := D) (ci := 5) (v := .ref (q 1)) (C := RX5) (T := TX5) (N := 5) hx hb hts wiX5_told_X5 hown hK hP 0 rfl rfl 0 (by decide) (hts _ wmX5_told_0) (fun _ h9 => h9) rfl dX5_told_1 ?_
  refine lv_iload_n hx hb dX5_told_4 rfl (lv_at hl 1 rfl) ?_
  obtain ⟨u1, e2, h⟩ := bd_some h
  refine k_i (va_runV (As := [.int p1]) (rest := []) ⟨hx, hb, hml, hown, hts⟩ (kX3_holds l D q cI cJ cZ tP s.heap.size vnum vsz vfr vfo vli va vb vc ve vth vrk vcm vkx vky vkz vmk vre vro vwi vla vlb vtu k0x k0y k0z k1x k1y k1z k2x k2y k2z k3x k3y k3z p1 u1 e2) (cwV 1 hts gX5_told_X3_holds rfl rfl rfl (by decide +kernel) ⟨Nat.le_of_ble_eq_true rfl, Nat.le_of_ble_eq_true rfl⟩) ⟨cPre_blind, va_recv hK hP (ci := 3) (q0 := 1) rfl rfl, cPre_at hP hK hN hD hS hA hZ⟩ rfl rfl hl.1 rfl (lv_room (Nat.le_of_ble_eq_true rfl)) dX5_told_5 ⟨Nat.le_of_ble_eq_true rfl, Nat.le_of_ble_eq_true rfl⟩) hD hS hA (fun H locs hP hD hS => ?_)
  refine lv_if_ne (tgt := 13) hx hb dX5_told_8 (by decide) (fun c3 => ?_) (fun c3 => ?_)
  · have h := (if_neg c3).symm.trans h
    refine lv_iload_n hx hb dX5_told_13 rfl (lv_at hl 2 rfl) ?_
    by_cases c4 : p2 = (0 : Int32)
    · have h := (if_pos c4).symm.trans h
      refine lv_tableIn (off := 30) (tgt := 44) hx hb dX5_told_14 (by rw [c4]; decide) (by rw [c4]; decide) (by rw [c4]; rfl) (by decide) ?_
      refine lv_aload_n hx hb dX5_told_44 rfl (lv_at hl 0 rfl) ?_
      refine va_get (D := D) (ci := 5) (v := .ref (q 1)) (C := RX5) (T := TX5) (N := 5) hx hb hts wiX5_told_X5 hown hK hP 0 rfl rfl 0 (by decide) (hts _ wmX5_told_0) (fun _ h9 => h9) rfl dX5_told_45 ?_
      refine va_getN (D := D) (ci := 3) (v := .ref (q 2)) (C := RX3) (T := TX3) (N := 7) hx hb hts wiX5_told_X3 hown hK hP 1 rfl rfl 1 (by decide) (NW_f hN 3 rfl) (fun _ h9 => h9) rfl dX5_told_48 ?_
      refine lv_iload_n hx hb dX5_told_51 rfl (lv_at hl 1 rfl) ?_
      obtain ⟨i5, h⟩ := ck_some h
      refine va_iald hx hb hK hP 2 0 rfl rfl i5 dX5_told_52 ?_
      obtain rfl := Option.some.inj h
      exact W.iret (v := (va p1.toNatClampNeg)) hx hb hr (fun t ht hW => ⟨⟨(va p1.toNatClampNeg), (), rfl, rfl, by rw [ht]; exact hP, hD⟩, hS.F ht⟩) hS.2.2 dX5_told_53
    have h := (if_neg c4).symm.trans h
    by_cases c6 : p2 = (1 : Int32)
    · have h := (if_pos c6).symm.trans h
      refine lv_tableIn (off := 40) (tgt := 54) hx hb dX5_told_14 (by rw [c6]; decide) (by rw [c6]; decide) (by rw [c6]; rfl) (by decide) ?_
      refine lv_aload_n hx hb dX5_told_54 rfl (lv_at hl 0 rfl) ?_
      refine va_get (D := D) (ci := 5) (v := .ref (q 1)) (C := RX5) (T := TX5) (N := 5) hx hb hts wiX5_told_X5 hown hK hP 0 rfl rfl 0 (by decide) (hts _ wmX5_told_0) (fun _ h9 => h9) rfl dX5_told_55 ?_
      refine va_getN (D := D) (ci := 3) (v := .ref (q 3)) (C := RX3) (T := TX3) (N := 7) hx hb hts wiX5_told_X3 hown hK hP 1 rfl rfl 2 (by decide) (NW_f hN 4 rfl) (fun _ h9 => h9) rfl dX5_told_58 ?_
      refine lv_iload_n hx hb dX5_told_61 rfl (lv_at hl 1 rfl) ?_
      obtain ⟨i7, h⟩ := ck_some h
      refine va_iald hx hb hK hP 3 0 rfl rfl i7 dX5_told_62 ?_
      obtain rfl := Option.some.inj h
      exact W.iret (v := (vb p1.toNatClampNeg)) hx hb hr (fun t ht hW => ⟨⟨(vb p1.toNatClampNeg), (), rfl, rfl, by rw [ht]; exact hP, hD⟩, hS.F ht⟩) hS.2.2 dX5_told_63
    have h := (if_neg c6).symm.trans h
    by_cases c8 : p2 = (2 : Int32)
    · have h := (if_pos c8).symm.trans h
      refine lv_tableIn (off := 50) (tgt := 64) hx hb dX5_told_14 (by rw [c8]; decide) (by rw [c8]; decide) (by rw [c8]; rfl) (by decide) ?_
      refine lv_aload_n hx hb dX5_told_64 rfl (lv_at hl 0 rfl) ?_
      refine va_get (D := D) (ci := 5) (v := .ref (q 1)) (C := RX5) (T := TX5) (N := 5) hx hb hts wiX5_told_X5 hown hK hP 0 rfl rfl 0 (by decide) (hts _ wmX5_told_0) (fun _ h9 => h9) rfl dX5_told_65 ?_
      refine va_getN (D := D) (ci := 3) (v := .ref (q 4)) (C := RX3) (T := TX3) (N := 7) hx hb hts wiX5_told_X3 hown hK hP 1 rfl rfl 3 (by decide) (NW_f hN 5 rfl) (fun _ h9 => h9) rfl dX5_told_68 ?_
      refine lv_iload_n hx hb dX5_told_71 rfl (lv_at hl 1 rfl) ?_
      obtain ⟨i9, h⟩ := ck_some h
      refine va_iald hx hb hK hP 4 0 rfl rfl i9 dX5_told_72 ?_
      obtain rfl := Option.some.inj h
      exact W.iret (v := (vc p1.toNatClampNeg)) hx hb hr (fun t ht hW => ⟨⟨(vc p1.toNatClampNeg), (), rfl, rfl, by rw [ht]; exact hP, hD⟩, hS.F ht⟩) hS.2.2 dX5_told_73
    have h := (if_neg c8).symm.trans h
    by_cases c10 : p2 = (3 : Int32)
    · have h := (if_pos c10).symm.trans h
      refine lv_tableIn (off := 60) (tgt := 74) hx hb dX5_told_14 (by rw [c10]; decide) (by rw [c10]; decide) (by rw [c10]; rfl) (by decide) ?_
      refine lv_aload_n hx hb dX5_told_74 rfl (lv_at hl 0 rfl) ?_
      refine va_get (D := D) (ci := 5) (v := .ref (q 1)) (C := RX5) (T := TX5) (N := 5) hx hb hts wiX5_told_X5 hown hK hP 0 rfl rfl 0 (by decide) (hts _ wmX5_told_0) (fun _ h9 => h9) rfl dX5_told_75 ?_
      refine va_getN (D := D) (ci := 3) (v := .ref (q 5)) (C := RX3) (T := TX3) (N := 7) hx hb hts wiX5_told_X3 hown hK hP 1 rfl rfl 4 (by decide) (NW_f hN 6 rfl) (fun _ h9 => h9) rfl dX5_told_78 ?_
      refine lv_iload_n hx hb dX5_told_81 rfl (lv_at hl 1 rfl) ?_
      obtain ⟨i11, h⟩ := ck_some h
      refine va_iald hx hb hK hP 5 0 rfl rfl i11 dX5_told_82 ?_
      obtain rfl := Option.some.inj h
      exact W.iret (v := (ve p1.toNatClampNeg)) hx hb hr (fun t ht hW => ⟨⟨(ve p1.toNatClampNeg), (), rfl, rfl, by rw [ht]; exact hP, hD⟩, hS.F ht⟩) hS.2.2 dX5_told_83
    have h := (if_neg c10).symm.trans h
    refine lv_tableOut (tgt := 84) hx hb dX5_told_14 (sw_out4 c4 c6 c8 c10) (by decide) ?_
    refine lv_iconst (v := (-1 : Int32)) hx hb dX5_told_84 (by decide) ?_
    obtain rfl := Option.some.inj h
    exact W.iret (v := (-1 : Int32)) hx hb hr (fun t ht hW => ⟨⟨(-1 : Int32), (), rfl, rfl, by rw [ht]; exact hP, hD⟩, hS.F ht⟩) hS.2.2 dX5_told_85
  · have h := (if_pos c3).symm.trans h
    refine lv_iconst (v := (-1 : Int32)) hx hb dX5_told_11 (by decide) ?_
    obtain rfl := Option.some.inj h
    exact W.iret (v := (-1 : Int32)) hx hb hr (fun t ht hW => ⟨⟨(-1 : Int32), (), rfl, rfl, by rw [ht]; exact hP, hD⟩, hS.F ht⟩) hS.2.2 dX5_told_12

-- X5_row
theorem wmX5_row_0 : (.fieldLink RX5 23 "SpaceWalls" "planes" "LSpaceWalls$Planes;" : Cond) ∈ wsX5_row := by decide +kernel
theorem wiX5_row_X5 : ∀ w ∈ u_ws RX5 TX5 5, w ∈ wsX5_row := by decide +kernel
theorem wiX5_row_X3 : ∀ w ∈ u_ws RX3 TX3 7, w ∈ wsX5_row := by decide +kernel
set_option maxHeartbeats 8000000 in
set_option maxRecDepth 100000 in
theorem kX5_row (l : Launch) (D : va_G) (q : Nat → Nat) (cI cJ cZ : ClassId) (tP sz : Nat) (vnum : Int32) (vsz : Int32) (vfr : Int32) (vfo : Int32) (vli : Int32) (va : (Nat → Int32)) (vb : (Nat → Int32)) (vc : (Nat → Int32)) (ve : (Nat → Int32)) (vth : (Nat → Int32)) (vrk : (Nat → Int32)) (vcm : (Nat → Int32)) (vkx : (Nat → Int32)) (vky : (Nat → Int32)) (vkz : (Nat → Int32)) (vmk : (Nat → Int32)) (vre : (Nat → Int32)) (vro : (Nat → Int32)) (vwi : (Nat → Int32)) (vla : (Nat → Int32)) (vlb : (Nat → Int32)) (vtu : (Nat → Int32)) (k0x : Int32) (k0y : Int32) (k0z : Int32) (k1x : Int32) (k1y : Int32) (k1z : Int32) (k2x : Int32) (k2y : Int32) (k2z : Int32) (k3x : Int32) (k3y : Int32) (k3z : Int32) (p1 : Int32) (p2 : Int32) (p3 : Int32) (uu : Int32) (h : fX5_row vnum vsz va vb vc ve vth p1 p2 p3 = some uu) : Met l yX5_row wsX5_row ({ frames := 2, cells := 0, slots := 0, locals := 41 }) (cPre D cI cJ cZ tP (WC_ q cI cZ vnum vsz vfr vfo vli va vb vc ve vth vrk vcm vkx vky vkz vmk vre vro vwi vla vlb vtu k0x k0y k0z k1x k1y k1z k2x k2y k2z k3x k3y k3z) sz [.ref (q 0), .int p1, .int p2, .int p3]) (cQi D (va_A (WC_ q cI cZ vnum vsz vfr vfo vli va vb vc ve vth vrk vcm vkx vky vkz vmk vre vro vwi vla vlb vtu k0x k0y k0z k1x k1y k1z k2x k2y k2z k3x k3y k3z) sz) (WC_ q cI cZ vnum vsz vfr vfo vli va vb vc ve vth vrk vcm vkx vky vkz vmk vre vro vwi vla vlb vtu k0x k0y k0z k1x k1y k1z k2x k2y k2z k3x k3y k3z) uu) 0 0 (va_A (WC_ q cI cZ vnum vsz vfr vfo vli va vb vc ve vth vrk vcm vkx vky vkz vmk vre vro vwi vla vlb vtu k0x k0y k0z k1x k1y k1z k2x k2y k2z k3x k3y k3z) sz) := by
  refine Met.ofW (cc := cX5_row) (maxL := 6) (ret := (some .int)) (by decide) rfl ?_
  intro p e s m args below meth c s₁ B hml hv
  obtain ⟨rfl, hsz, hP, hK, hN, hD0, hZ⟩ := hv
  have hx := B.exec
  have hb := B.bytes
  have hr := B.returns
  have hts := atoms_spec (ws := wsX5_row) B.pre
  have hown : s.vm.findClass RX5 = some m.cls := findClass_of_methodNamed B.named
  have hlocks := B.notSynchronized
  subst hsz
  have hD := hD0.self (sz := s.heap.size)
  generalize hAe : va_A (WC_ q cI cZ vnum vsz vfr vfo vli va vb vc ve vth vrk vcm vkx vky vkz vmk vre vro vwi vla vlb vtu k0x k0y k0z k1x k1y k1z k2x k2y k2z k3x k3y k3z) s.heap.size = A at hD hZ ⊢
  have hA : ∀ q : Nat, s.heap.size ≤ q → A q := fun q h => by rw [← hAe]; exact Or.inr h
  have hS : va_S A s.heap s.heap [] := va_S.rf
  have hl := lv_entry ([.ref (q 0), .int p1, .int p2, .int p3]) (n := 6) (Nat.le_of_ble_eq_true rfl)
  rw [lg_entry_eq]
  generalize (lg_sl ([.ref (q 0), .int p1, .int p2, .int p3]) ++ List.replicate (6 - (lg_sl ([.ref (q 0), .int p1, .int p2, .int p3])).length) Slot.unset).toArray = ls at hl ⊢
  have hl : lv_has ls 6 [(0, .ref (q 0)), (1, .int p1), (2, .int p2), (3, .int p3)] := hl
  unfold fX5_row at h
  refine lv_aload_n hx hb dX5_row_0 rfl (lv_at hl 0 rfl) ?_
  refine va_get (D := D) (ci := 5) (v := .ref (q 1)) (C := RX5) (T := TX5) (N := 5) hx hb hts wiX5_row_X5 hown hK hP 0 rfl rfl 0 (by decide) (hts _ wmX5_row_0) (fun _ h9 => h9) rfl dX5_row_1 ?_
  refine va_getN (D := D) (ci := 3) (v := .int vnum) (C := RX3) (T := TX3) (N := 7) hx hb hts wiX5_row_X3 hown hK hP 1 rfl rfl 0 (by decide) (NW_f hN 7 rfl) (fun _ h9 => h9) rfl dX5_row_4 ?_
  refine lv_iconst (v := (2 : Int32)) hx hb dX5_row_7 (by decide) ?_
  obtain ⟨u1, e2, h⟩ := bd_some h
  refine W_join (P := fun H locs ls => va_P D vwCl (WC_ q cI cZ vnum vsz vfr vfo vli va vb vc ve vth vrk vcm vkx vky vkz vmk vre vro vwi vla vlb vtu k0x k0y k0z k1x k1y k1z k2x k2y k2z k3x k3y k3z) H ∧ va_D A (WC_ q cI cZ vnum vsz vfr vfo vli va vb vc ve vth vrk vcm vkx vky vkz vmk vre vro vwi vla vlb vtu k0x k0y k0z k1x k1y k1z k2x k2y k2z k3x k3y k3z) ∧ va_S A s.heap H locs ∧ lv_has ls 6 [(0, .ref (q 0)), (1, .int p1), (2, .int p2), (3, .int p3)]) (g := fun ls => F0 m 16 ls [.int u1]) ?_ ?_
  · intro H locs ls hq
    obtain ⟨hP, hD, hS, hl⟩ := hq
    refine lv_istore (lv' := [(4, .int u1), (0, .ref (q 0)), (1, .int p1), (2, .int p2), (3, .int p3)]) hx hb dX5_row_16 hl (by decide) rfl (fun ls hl => ?_)
    refine lv_aload_n hx hb dX5_row_18 rfl (lv_at hl 1 rfl) ?_
    refine va_get (D := D) (ci := 5) (v := .ref (q 1)) (C := RX5) (T := TX5) (N := 5) hx hb hts wiX5_row_X5 hown hK hP 0 rfl rfl 0 (by decide) (hts _ wmX5_row_0) (fun _ h9 => h9) rfl dX5_row_19 ?_
    refine va_getN (D := D) (ci := 3) (v := .int vnum) (C := RX3) (T := TX3) (N := 7) hx hb hts wiX5_row_X3 hown hK hP 1 rfl rfl 0 (by decide) (NW_f hN 7 rfl) (fun _ h9 => h9) rfl dX5_row_22 ?_
    refine lv_iconst (v := (3 : Int32)) hx hb dX5_row_25 (by decide) ?_
    obtain ⟨u4, e5, h⟩ := bd_some h
    refine W_join (P := fun H locs ls => va_P D vwCl (WC_ q cI cZ vnum vsz vfr vfo vli va vb vc ve vth vrk vcm vkx vky vkz vmk vre vro vwi vla vlb vtu k0x k0y k0z k1x k1y k1z k2x k2y k2z k3x k3y k3z) H ∧ va_D A (WC_ q cI cZ vnum vsz vfr vfo vli va vb vc ve vth vrk vcm vkx vky vkz vmk vre vro vwi vla vlb vtu k0x k0y k0z k1x k1y k1z k2x k2y k2z k3x k3y k3z) ∧ va_S A s.heap H locs ∧ lv_has ls 6 [(4, .int u1), (0, .ref (q 0)), (1, .int p1), (2, .int p2), (3, .int p3)]) (g := fun ls => F0 m 34 ls [.int u4]) ?_ ?_
    · intro H locs ls hq
      obtain ⟨hP, hD, hS, hl⟩ := hq
      refine lv_istore (lv' := [(5, .int u4), (4, .int u1), (0, .ref (q 0)), (1, .int p1), (2, .int p2), (3, .int p3)]) hx hb dX5_row_34 hl (by decide) rfl (fun ls hl => ?_)
      refine lv_iload_n hx hb dX5_row_36 rfl (lv_at hl 3 rfl) ?_
      obtain ⟨u7, e8, h⟩ := bd_some h
      refine k_i0 (va_runS (As := [.int p1]) (rest := []) ⟨hx, hb, hml, hown, hts⟩ (kX5_isTooFar l D cI cJ cZ tP H.size  p1 u7 e8) (va_cwS 1 hts gX5_row_X5_isTooFar rfl rfl rfl (by decide +kernel) ⟨Nat.le_of_ble_eq_true rfl, Nat.le_of_ble_eq_true rfl⟩) ⟨cPre_blind, cPre_at0 hK hN hS hA hZ⟩ rfl rfl hl.1 rfl (lv_room (Nat.le_of_ble_eq_true rfl)) dX5_row_37 ⟨Nat.le_of_ble_eq_true rfl, Nat.le_of_ble_eq_true rfl⟩) hP hS hA (fun H locs hP hS => ?_)
      refine lv_if_ne (tgt := 59) hx hb dX5_row_40 (by decide) (fun c9 => ?_) (fun c9 => ?_)
      · have h := (if_neg c9).symm.trans h
        refine lv_iconst (v := (-1 : Int32)) hx hb dX5_row_59 (by decide) ?_
        obtain rfl := Option.some.inj h
        exact W.iret (v := (-1 : Int32)) hx hb hr (fun t ht hW => ⟨⟨(-1 : Int32), (), rfl, rfl, by rw [ht]; exact hP, hD⟩, hS.F ht⟩) hS.2.2 dX5_row_60
      · have h := (if_pos c9).symm.trans h
        refine lv_iload hx hb dX5_row_43 (lv_at hl 1 rfl) ?_
        obtain ⟨u10, e11, h⟩ := bd_some h
        refine k_i0 (va_runS (As := [.int u1]) (rest := []) ⟨hx, hb, hml, hown, hts⟩ (kX5_isTooFar l D cI cJ cZ tP H.size  u1 u10 e11) (va_cwS 1 hts gX5_row_X5_isTooFar rfl rfl rfl (by decide +kernel) ⟨Nat.le_of_ble_eq_true rfl, Nat.le_of_ble_eq_true rfl⟩) ⟨cPre_blind, cPre_at0 hK hN hS hA hZ⟩ rfl rfl hl.1 rfl (lv_room (Nat.le_of_ble_eq_true rfl)) dX5_row_45 ⟨Nat.le_of_ble_eq_true rfl, Nat.le_of_ble_eq_true rfl⟩) hP hS hA (fun H locs hP hS => ?_)
        refine lv_if_ne (tgt := 59) hx hb dX5_row_48 (by decide) (fun c12 => ?_) (fun c12 => ?_)
        · have h := (if_neg c12).symm.trans h
          refine lv_iconst (v := (-1 : Int32)) hx hb dX5_row_59 (by decide) ?_
          obtain rfl := Option.some.inj h
          exact W.iret (v := (-1 : Int32)) hx hb hr (fun t ht hW => ⟨⟨(-1 : Int32), (), rfl, rfl, by rw [ht]; exact hP, hD⟩, hS.F ht⟩) hS.2.2 dX5_row_60
        · have h := (if_pos c12).symm.trans h
          refine lv_iload hx hb dX5_row_51 (lv_at hl 0 rfl) ?_
          obtain ⟨u13, e14, h⟩ := bd_some h
          refine k_i0 (va_runS (As := [.int u4]) (rest := []) ⟨hx, hb, hml, hown, hts⟩ (kX5_isTooFar l D cI cJ cZ tP H.size  u4 u13 e14) (va_cwS 1 hts gX5_row_X5_isTooFar rfl rfl rfl (by decide +kernel) ⟨Nat.le_of_ble_eq_true rfl, Nat.le_of_ble_eq_true rfl⟩) ⟨cPre_blind, cPre_at0 hK hN hS hA hZ⟩ rfl rfl hl.1 rfl (lv_room (Nat.le_of_ble_eq_true rfl)) dX5_row_53 ⟨Nat.le_of_ble_eq_true rfl, Nat.le_of_ble_eq_true rfl⟩) hP hS hA (fun H locs hP hS => ?_)
          refine lv_if_eq (tgt := 61) hx hb dX5_row_56 (by decide) (fun c15 => ?_) (fun c15 => ?_)
          · have h := (if_pos c15).symm.trans h
            refine lv_aload_n hx hb dX5_row_61 rfl (lv_at hl 2 rfl) ?_
            refine va_get (D := D) (ci := 5) (v := .ref (q 1)) (C := RX5) (T := TX5) (N := 5) hx hb hts wiX5_row_X5 hown hK hP 0 rfl rfl 0 (by decide) (hts _ wmX5_row_0) (fun _ h9 => h9) rfl dX5_row_62 ?_
            refine lv_aload_n hx hb dX5_row_65 rfl (lv_at hl 2 rfl) ?_
            refine va_get (D := D) (ci := 5) (v := .ref (q 1)) (C := RX5) (T := TX5) (N := 5) hx hb hts wiX5_row_X5 hown hK hP 0 rfl rfl 0 (by decide) (hts _ wmX5_row_0) (fun _ h9 => h9) rfl dX5_row_66 ?_
            refine lv_iload_n hx hb dX5_row_69 rfl (lv_at hl 3 rfl) ?_
            refine lv_iload hx hb dX5_row_70 (lv_at hl 1 rfl) ?_
            refine lv_iload hx hb dX5_row_72 (lv_at hl 0 rfl) ?_
            refine lv_iconst (v := (1 : Int32)) hx hb dX5_row_74 (by decide) ?_
            obtain ⟨u16, e17, h⟩ := bd_some h
            refine k_i (va_runV (As := [.int p1, .int u1, .int u4, .int (1 : Int32)]) (rest := [.ref (q 1)]) ⟨hx, hb, hml, hown, hts⟩ (kX3_signs l D q cI cJ cZ tP H.size vnum vsz vfr vfo vli va vb vc ve vth vrk vcm vkx vky vkz vmk vre vro vwi vla vlb vtu k0x k0y k0z k1x k1y k1z k2x k2y k2z k3x k3y k3z p1 u1 u4 (1 : Int32) u16 e17) (cwV 4 hts gX5_row_X3_signs rfl rfl rfl (by decide +kernel) ⟨Nat.le_of_ble_eq_true rfl, Nat.le_of_ble_eq_true rfl⟩) ⟨cPre_blind, va_recv hK hP (ci := 3) (q0 := 1) rfl rfl, cPre_at hP hK hN hD hS hA hZ⟩ rfl rfl hl.1 rfl (lv_room (Nat.le_of_ble_eq_true rfl)) dX5_row_75 ⟨Nat.le_of_ble_eq_true rfl, Nat.le_of_ble_eq_true rfl⟩) hD hS hA (fun H locs hP hD hS => ?_)
            obtain ⟨u18, e19, h⟩ := bd_some h
            refine k_i (va_runV (As := [.int u16]) (rest := []) ⟨hx, hb, hml, hown, hts⟩ (kX3_rowOf l D q cI cJ cZ tP H.size vnum vsz vfr vfo vli va vb vc ve vth vrk vcm vkx vky vkz vmk vre vro vwi vla vlb vtu k0x k0y k0z k1x k1y k1z k2x k2y k2z k3x k3y k3z u16 u18 e19) (cwV 1 hts gX5_row_X3_rowOf rfl rfl rfl (by decide +kernel) ⟨Nat.le_of_ble_eq_true rfl, Nat.le_of_ble_eq_true rfl⟩) ⟨cPre_blind, va_recv hK hP (ci := 3) (q0 := 1) rfl rfl, cPre_at hP hK hN hD hS hA hZ⟩ rfl rfl hl.1 rfl (lv_room (Nat.le_of_ble_eq_true rfl)) dX5_row_78 ⟨Nat.le_of_ble_eq_true rfl, Nat.le_of_ble_eq_true rfl⟩) hD hS hA (fun H locs hP hD hS => ?_)
            obtain rfl := Option.some.inj h
            exact W.iret (v := u18) hx hb hr (fun t ht hW => ⟨⟨u18, (), rfl, rfl, by rw [ht]; exact hP, hD⟩, hS.F ht⟩) hS.2.2 dX5_row_81
          · have h := (if_neg c15).symm.trans h
            refine lv_iconst (v := (-1 : Int32)) hx hb dX5_row_59 (by decide) ?_
            obtain rfl := Option.some.inj h
            exact W.iret (v := (-1 : Int32)) hx hb hr (fun t ht hW => ⟨⟨(-1 : Int32), (), rfl, rfl, by rw [ht]; exact hP, hD⟩, hS.F ht⟩) hS.2.2 dX5_row_60
    · intro J6
      have h := e5
      refine lv_icmp_lt (tgt := 33) hx hb dX5_row_26 (by decide) (fun c20 => ?_) (fun c20 => ?_)
      · have h := (if_pos c20).symm.trans h
        refine lv_iconst (v := (0 : Int32)) hx hb dX5_row_33 (by decide) ?_
        obtain rfl := Option.some.inj h
        exact J6 _ _ _ ⟨hP, hD, hS, lv_sub hl [0, 1, 2, 3, 4] rfl⟩
      · have h := (if_neg c20).symm.trans h
        refine lv_iload_n hx hb dX5_row_29 rfl (lv_at hl 4 rfl) ?_
        refine lv_goto (tgt := 34) hx hb dX5_row_30 (by decide) ?_
        obtain rfl := Option.some.inj h
        exact J6 _ _ _ ⟨hP, hD, hS, lv_sub hl [0, 1, 2, 3, 4] rfl⟩
  · intro J3
    have h := e2
    refine lv_icmp_lt (tgt := 15) hx hb dX5_row_8 (by decide) (fun c21 => ?_) (fun c21 => ?_)
    · have h := (if_pos c21).symm.trans h
      refine lv_iconst (v := (0 : Int32)) hx hb dX5_row_15 (by decide) ?_
      obtain rfl := Option.some.inj h
      exact J3 _ _ _ ⟨hP, hD, hS, lv_sub hl [0, 1, 2, 3] rfl⟩
    · have h := (if_neg c21).symm.trans h
      refine lv_iload_n hx hb dX5_row_11 rfl (lv_at hl 2 rfl) ?_
      refine lv_goto (tgt := 16) hx hb dX5_row_12 (by decide) ?_
      obtain rfl := Option.some.inj h
      exact J3 _ _ _ ⟨hP, hD, hS, lv_sub hl [0, 1, 2, 3] rfl⟩

-- X5_faces
theorem wmX5_faces_0 : (.fieldLink RX5 23 "SpaceWalls" "planes" "LSpaceWalls$Planes;" : Cond) ∈ wsX5_faces := by decide +kernel
theorem wiX5_faces_X5 : ∀ w ∈ u_ws RX5 TX5 5, w ∈ wsX5_faces := by decide +kernel
theorem wiX5_faces_X3 : ∀ w ∈ u_ws RX3 TX3 7, w ∈ wsX5_faces := by decide +kernel
set_option maxHeartbeats 8000000 in
set_option maxRecDepth 100000 in
theorem kX5_faces (l : Launch) (D : va_G) (q : Nat → Nat) (cI cJ cZ : ClassId) (tP sz : Nat) (vnum : Int32) (vsz : Int32) (vfr : Int32) (vfo : Int32) (vli : Int32) (va : (Nat → Int32)) (vb : (Nat → Int32)) (vc : (Nat → Int32)) (ve : (Nat → Int32)) (vth : (Nat → Int32)) (vrk : (Nat → Int32)) (vcm : (Nat → Int32)) (vkx : (Nat → Int32)) (vky : (Nat → Int32)) (vkz : (Nat → Int32)) (vmk : (Nat → Int32)) (vre : (Nat → Int32)) (vro : (Nat → Int32)) (vwi : (Nat → Int32)) (vla : (Nat → Int32)) (vlb : (Nat → Int32)) (vtu : (Nat → Int32)) (k0x : Int32) (k0y : Int32) (k0z : Int32) (k1x : Int32) (k1y : Int32) (k1z : Int32) (k2x : Int32) (k2y : Int32) (k2z : Int32) (k3x : Int32) (k3y : Int32) (k3z : Int32) (p1 : Int32) (uu : (Int32 × Int32 × Int32 × Int32 × (Nat → Int32) × (Nat → Int32) × (Nat → Int32) × (Nat → Int32) × (Nat → Int32) × (Nat → Int32) × (Nat → Int32) × (Nat → Int32) × (Nat → Int32) × (Nat → Int32) × (Nat → Int32) × Int32 × Int32 × Int32 × Int32 × Int32 × Int32 × Int32 × Int32 × Int32 × Int32 × Int32 × Int32)) (h : fX5_faces vnum vsz vfr vfo vli va vb vc ve vth vrk vcm vkx vky vkz vmk vre vro vwi vla vlb k0x k0y k0z k1x k1y k1z k2x k2y k2z k3x k3y k3z p1 = some uu) : Met l yX5_faces wsX5_faces ({ frames := 7, cells := 0, slots := 0, locals := 167 }) (cPre D cI cJ cZ tP (WC_ q cI cZ vnum vsz vfr vfo vli va vb vc ve vth vrk vcm vkx vky vkz vmk vre vro vwi vla vlb vtu k0x k0y k0z k1x k1y k1z k2x k2y k2z k3x k3y k3z) sz [.ref (q 0), .int p1]) (cQi D (va_A (WC_ q cI cZ vnum vsz vfr vfo vli va vb vc ve vth vrk vcm vkx vky vkz vmk vre vro vwi vla vlb vtu k0x k0y k0z k1x k1y k1z k2x k2y k2z k3x k3y k3z) sz) (WC_ q cI cZ vnum vsz uu.2.1 uu.2.2.1 uu.2.2.2.1 va vb vc ve vth uu.2.2.2.2.1 uu.2.2.2.2.2.1 uu.2.2.2.2.2.2.1 uu.2.2.2.2.2.2.2.1 uu.2.2.2.2.2.2.2.2.1 uu.2.2.2.2.2.2.2.2.2.1 uu.2.2.2.2.2.2.2.2.2.2.1 uu.2.2.2.2.2.2.2.2.2.2.2.1 uu.2.2.2.2.2.2.2.2.2.2.2.2.1 uu.2.2.2.2.2.2.2.2.2.2.2.2.2.1 uu.2.2.2.2.2.2.2.2.2.2.2.2.2.2.1 vtu uu.2.2.2.2.2.2.2.2.2.2.2.2.2.2.2.1 uu.2.2.2.2.2.2.2.2.2.2.2.2.2.2.2.2.1 uu.2.2.2.2.2.2.2.2.2.2.2.2.2.2.2.2.2.1 uu.2.2.2.2.2.2.2.2.2.2.2.2.2.2.2.2.2.2.1 uu.2.2.2.2.2.2.2.2.2.2.2.2.2.2.2.2.2.2.2.1 uu.2.2.2.2.2.2.2.2.2.2.2.2.2.2.2.2.2.2.2.2.1 uu.2.2.2.2.2.2.2.2.2.2.2.2.2.2.2.2.2.2.2.2.2.1 uu.2.2.2.2.2.2.2.2.2.2.2.2.2.2.2.2.2.2.2.2.2.2.1 uu.2.2.2.2.2.2.2.2.2.2.2.2.2.2.2.2.2.2.2.2.2.2.2.1 uu.2.2.2.2.2.2.2.2.2.2.2.2.2.2.2.2.2.2.2.2.2.2.2.2.1 uu.2.2.2.2.2.2.2.2.2.2.2.2.2.2.2.2.2.2.2.2.2.2.2.2.2.1 uu.2.2.2.2.2.2.2.2.2.2.2.2.2.2.2.2.2.2.2.2.2.2.2.2.2.2) uu.1) 0 0 (va_A (WC_ q cI cZ vnum vsz vfr vfo vli va vb vc ve vth vrk vcm vkx vky vkz vmk vre vro vwi vla vlb vtu k0x k0y k0z k1x k1y k1z k2x k2y k2z k3x k3y k3z) sz) := by
  refine Met.ofW (cc := cX5_faces) (maxL := 2) (ret := (some .int)) (by decide) rfl ?_
  intro p e s m args below meth c s₁ B hml hv
  obtain ⟨rfl, hsz, hP, hK, hN, hD0, hZ⟩ := hv
  have hx := B.exec
  have hb := B.bytes
  have hr := B.returns
  have hts := atoms_spec (ws := wsX5_faces) B.pre
  have hown : s.vm.findClass RX5 = some m.cls := findClass_of_methodNamed B.named
  have hlocks := B.notSynchronized
  subst hsz
  have hD := hD0.self (sz := s.heap.size)
  generalize hAe : va_A (WC_ q cI cZ vnum vsz vfr vfo vli va vb vc ve vth vrk vcm vkx vky vkz vmk vre vro vwi vla vlb vtu k0x k0y k0z k1x k1y k1z k2x k2y k2z k3x k3y k3z) s.heap.size = A at hD hZ ⊢
  have hA : ∀ q : Nat, s.heap.size ≤ q → A q := fun q h => by rw [← hAe]; exact Or.inr h
  have hS : va_S A s.heap s.heap [] := va_S.rf
  have hl := lv_entry ([.ref (q 0), .int p1]) (n := 2) (Nat.le_of_ble_eq_true rfl)
  rw [lg_entry_eq]
  generalize (lg_sl ([.ref (q 0), .int p1]) ++ List.replicate (2 - (lg_sl ([.ref (q 0), .int p1])).length) Slot.unset).toArray = ls at hl ⊢
  have hl : lv_has ls 2 [(0, .ref (q 0)), (1, .int p1)] := hl
  unfold fX5_faces at h
  refine lv_iload_n hx hb dX5_faces_0 rfl (lv_at hl 1 rfl) ?_
  refine lv_if_lt (tgt := 15) hx hb dX5_faces_1 (by decide) (fun c1 => ?_) (fun c1 => ?_)
  · have h := (if_pos c1).symm.trans h
    refine lv_iconst (v := (-1 : Int32)) hx hb dX5_faces_15 (by decide) ?_
    obtain rfl := Option.some.inj h
    exact W.iret (v := (-1 : Int32)) hx hb hr (fun t ht hW => ⟨⟨(-1 : Int32), (), rfl, rfl, by rw [ht]; exact hP, hD⟩, hS.F ht⟩) hS.2.2 dX5_faces_16
  · have h := (if_neg c1).symm.trans h
    refine lv_iload_n hx hb dX5_faces_4 rfl (lv_at hl 1 rfl) ?_
    refine lv_aload_n hx hb dX5_faces_5 rfl (lv_at hl 0 rfl) ?_
    refine va_get (D := D) (ci := 5) (v := .ref (q 1)) (C := RX5) (T := TX5) (N := 5) hx hb hts wiX5_faces_X5 hown hK hP 0 rfl rfl 0 (by decide) (hts _ wmX5_faces_0) (fun _ h9 => h9) rfl dX5_faces_6 ?_
    refine va_getN (D := D) (ci := 3) (v := .int vnum) (C := RX3) (T := TX3) (N := 7) hx hb hts wiX5_faces_X3 hown hK hP 1 rfl rfl 0 (by decide) (NW_f hN 7 rfl) (fun _ h9 => h9) rfl dX5_faces_9 ?_
    refine lv_icmp_le (tgt := 17) hx hb dX5_faces_12 (by decide) (fun c2 => ?_) (fun c2 => ?_)
    · have h := (if_pos c2).symm.trans h
      refine lv_aload_n hx hb dX5_faces_17 rfl (lv_at hl 0 rfl) ?_
      obtain ⟨u3, e4, h⟩ := bd_some h
      refine k_r (va_runV (As := []) (rest := []) ⟨hx, hb, hml, hown, hts⟩ (kX5_freshCut l D q cI cJ cZ tP s.heap.size vnum vsz vfr vfo vli va vb vc ve vth vrk vcm vkx vky vkz vmk vre vro vwi vla vlb vtu k0x k0y k0z k1x k1y k1z k2x k2y k2z k3x k3y k3z  u3 e4) (cwV 0 hts gX5_faces_X5_freshCut rfl rfl rfl (by decide +kernel) ⟨Nat.le_of_ble_eq_true rfl, Nat.le_of_ble_eq_true rfl⟩) ⟨cPre_blind, va_recv hK hP (ci := 5) (q0 := 0) rfl rfl, cPre_at hP hK hN hD hS hA hZ⟩ rfl rfl hl.1 rfl (lv_room (Nat.le_of_ble_eq_true rfl)) dX5_faces_18 ⟨Nat.le_of_ble_eq_true rfl, Nat.le_of_ble_eq_true rfl⟩) hD hS hA (fun H locs hP hD hS => ?_)
      refine lv_iload_n hx hb dX5_faces_21 rfl (lv_at hl 1 rfl) ?_
      obtain ⟨u5, e6, h⟩ := bd_some h
      refine k_i (va_runV (As := [.int p1]) (rest := []) ⟨hx, hb, hml, hown, hts⟩ (kX1_countOfWidth l D q cI cJ cZ tP H.size vnum vsz u3.1 u3.2.1 u3.2.2.1 va vb vc ve vth u3.2.2.2.1 u3.2.2.2.2.1 u3.2.2.2.2.2.1 u3.2.2.2.2.2.2.1 u3.2.2.2.2.2.2.2.1 u3.2.2.2.2.2.2.2.2.1 u3.2.2.2.2.2.2.2.2.2.1 u3.2.2.2.2.2.2.2.2.2.2.1 u3.2.2.2.2.2.2.2.2.2.2.2.1 u3.2.2.2.2.2.2.2.2.2.2.2.2.1 u3.2.2.2.2.2.2.2.2.2.2.2.2.2.1 vtu u3.2.2.2.2.2.2.2.2.2.2.2.2.2.2.1 u3.2.2.2.2.2.2.2.2.2.2.2.2.2.2.2.1 u3.2.2.2.2.2.2.2.2.2.2.2.2.2.2.2.2.1 u3.2.2.2.2.2.2.2.2.2.2.2.2.2.2.2.2.2.1 u3.2.2.2.2.2.2.2.2.2.2.2.2.2.2.2.2.2.2.1 u3.2.2.2.2.2.2.2.2.2.2.2.2.2.2.2.2.2.2.2.1 u3.2.2.2.2.2.2.2.2.2.2.2.2.2.2.2.2.2.2.2.2.1 u3.2.2.2.2.2.2.2.2.2.2.2.2.2.2.2.2.2.2.2.2.2.1 u3.2.2.2.2.2.2.2.2.2.2.2.2.2.2.2.2.2.2.2.2.2.2.1 u3.2.2.2.2.2.2.2.2.2.2.2.2.2.2.2.2.2.2.2.2.2.2.2.1 u3.2.2.2.2.2.2.2.2.2.2.2.2.2.2.2.2.2.2.2.2.2.2.2.2.1 u3.2.2.2.2.2.2.2.2.2.2.2.2.2.2.2.2.2.2.2.2.2.2.2.2.2 p1 u5 e6) (cwV 1 hts gX5_faces_X1_countOfWidth rfl rfl rfl (by decide +kernel) ⟨Nat.le_of_ble_eq_true rfl, Nat.le_of_ble_eq_true rfl⟩) ⟨cPre_blind, va_recv hK hP (ci := 1) (q0 := 14) rfl rfl, cPre_at hP hK hN hD hS hA hZ⟩ rfl rfl hl.1 rfl (lv_room (Nat.le_of_ble_eq_true rfl)) dX5_faces_22 ⟨Nat.le_of_ble_eq_true rfl, Nat.le_of_ble_eq_true rfl⟩) hD hS hA (fun H locs hP hD hS => ?_)
      obtain rfl := Option.some.inj h
      exact W.iret (v := u5) hx hb hr (fun t ht hW => ⟨⟨u5, (), rfl, rfl, by rw [ht]; exact hP, hD⟩, hS.F ht⟩) hS.2.2 dX5_faces_25
    · have h := (if_neg c2).symm.trans h
      refine lv_iconst (v := (-1 : Int32)) hx hb dX5_faces_15 (by decide) ?_
      obtain rfl := Option.some.inj h
      exact W.iret (v := (-1 : Int32)) hx hb hr (fun t ht hW => ⟨⟨(-1 : Int32), (), rfl, rfl, by rw [ht]; exact hP, hD⟩, hS.F ht⟩) hS.2.2 dX5_faces_16

-- X5_face
set_option maxHeartbeats 8000000 in
set_option maxRecDepth 100000 in
theorem kX5_face (l : Launch) (D : va_G) (q : Nat → Nat) (cI cJ cZ : ClassId) (tP sz : Nat) (vnum : Int32) (vsz : Int32) (vfr : Int32) (vfo : Int32) (vli : Int32) (va : (Nat → Int32)) (vb : (Nat → Int32)) (vc : (Nat → Int32)) (ve : (Nat → Int32)) (vth : (Nat → Int32)) (vrk : (Nat → Int32)) (vcm : (Nat → Int32)) (vkx : (Nat → Int32)) (vky : (Nat → Int32)) (vkz : (Nat → Int32)) (vmk : (Nat → Int32)) (vre : (Nat → Int32)) (vro : (Nat → Int32)) (vwi : (Nat → Int32)) (vla : (Nat → Int32)) (vlb : (Nat → Int32)) (vtu : (Nat → Int32)) (k0x : Int32) (k0y : Int32) (k0z : Int32) (k1x : Int32) (k1y : Int32) (k1z : Int32) (k2x : Int32) (k2y : Int32) (k2z : Int32) (k3x : Int32) (k3y : Int32) (k3z : Int32) (p1 : Int32) (p2 : Int32) (uu : (Int32 × Int32 × Int32 × Int32 × (Nat → Int32) × (Nat → Int32) × (Nat → Int32) × (Nat → Int32) × (Nat → Int32) × (Nat → Int32) × (Nat → Int32) × (Nat → Int32) × (Nat → Int32) × (Nat → Int32) × (Nat → Int32) × Int32 × Int32 × Int32 × Int32 × Int32 × Int32 × Int32 × Int32 × Int32 × Int32 × Int32 × Int32)) (h : fX5_face vnum vsz vfr vfo vli va vb vc ve vth vrk vcm vkx vky vkz vmk vre vro vwi vla vlb k0x k0y k0z k1x k1y k1z k2x k2y k2z k3x k3y k3z p1 p2 = some uu) : Met l yX5_face wsX5_face ({ frames := 7, cells := 0, slots := 0, locals := 167 }) (cPre D cI cJ cZ tP (WC_ q cI cZ vnum vsz vfr vfo vli va vb vc ve vth vrk vcm vkx vky vkz vmk vre vro vwi vla vlb vtu k0x k0y k0z k1x k1y k1z k2x k2y k2z k3x k3y k3z) sz [.ref (q 0), .int p1, .int p2]) (cQi D (va_A (WC_ q cI cZ vnum vsz vfr vfo vli va vb vc ve vth vrk vcm vkx vky vkz vmk vre vro vwi vla vlb vtu k0x k0y k0z k1x k1y k1z k2x k2y k2z k3x k3y k3z) sz) (WC_ q cI cZ vnum vsz uu.2.1 uu.2.2.1 uu.2.2.2.1 va vb vc ve vth uu.2.2.2.2.1 uu.2.2.2.2.2.1 uu.2.2.2.2.2.2.1 uu.2.2.2.2.2.2.2.1 uu.2.2.2.2.2.2.2.2.1 uu.2.2.2.2.2.2.2.2.2.1 uu.2.2.2.2.2.2.2.2.2.2.1 uu.2.2.2.2.2.2.2.2.2.2.2.1 uu.2.2.2.2.2.2.2.2.2.2.2.2.1 uu.2.2.2.2.2.2.2.2.2.2.2.2.2.1 uu.2.2.2.2.2.2.2.2.2.2.2.2.2.2.1 vtu uu.2.2.2.2.2.2.2.2.2.2.2.2.2.2.2.1 uu.2.2.2.2.2.2.2.2.2.2.2.2.2.2.2.2.1 uu.2.2.2.2.2.2.2.2.2.2.2.2.2.2.2.2.2.1 uu.2.2.2.2.2.2.2.2.2.2.2.2.2.2.2.2.2.2.1 uu.2.2.2.2.2.2.2.2.2.2.2.2.2.2.2.2.2.2.2.1 uu.2.2.2.2.2.2.2.2.2.2.2.2.2.2.2.2.2.2.2.2.1 uu.2.2.2.2.2.2.2.2.2.2.2.2.2.2.2.2.2.2.2.2.2.1 uu.2.2.2.2.2.2.2.2.2.2.2.2.2.2.2.2.2.2.2.2.2.2.1 uu.2.2.2.2.2.2.2.2.2.2.2.2.2.2.2.2.2.2.2.2.2.2.2.1 uu.2.2.2.2.2.2.2.2.2.2.2.2.2.2.2.2.2.2.2.2.2.2.2.2.1 uu.2.2.2.2.2.2.2.2.2.2.2.2.2.2.2.2.2.2.2.2.2.2.2.2.2.1 uu.2.2.2.2.2.2.2.2.2.2.2.2.2.2.2.2.2.2.2.2.2.2.2.2.2.2) uu.1) 0 0 (va_A (WC_ q cI cZ vnum vsz vfr vfo vli va vb vc ve vth vrk vcm vkx vky vkz vmk vre vro vwi vla vlb vtu k0x k0y k0z k1x k1y k1z k2x k2y k2z k3x k3y k3z) sz) := by
  refine Met.ofW (cc := cX5_face) (maxL := 3) (ret := (some .int)) (by decide) rfl ?_
  intro p e s m args below meth c s₁ B hml hv
  obtain ⟨rfl, hsz, hP, hK, hN, hD0, hZ⟩ := hv
  have hx := B.exec
  have hb := B.bytes
  have hr := B.returns
  have hts := atoms_spec (ws := wsX5_face) B.pre
  have hown : s.vm.findClass RX5 = some m.cls := findClass_of_methodNamed B.named
  have hlocks := B.notSynchronized
  subst hsz
  have hD := hD0.self (sz := s.heap.size)
  generalize hAe : va_A (WC_ q cI cZ vnum vsz vfr vfo vli va vb vc ve vth vrk vcm vkx vky vkz vmk vre vro vwi vla vlb vtu k0x k0y k0z k1x k1y k1z k2x k2y k2z k3x k3y k3z) s.heap.size = A at hD hZ ⊢
  have hA : ∀ q : Nat, s.heap.size ≤ q → A q := fun q h => by rw [← hAe]; exact Or.inr h
  have hS : va_S A s.heap s.heap [] := va_S.rf
  have hl := lv_entry ([.ref (q 0), .int p1, .int p2]) (n := 3) (Nat.le_of_ble_eq_true rfl)
  rw [lg_entry_eq]
  generalize (lg_sl ([.ref (q 0), .int p1, .int p2]) ++ List.replicate (3 - (lg_sl ([.ref (q 0), .int p1, .int p2])).length) Slot.unset).toArray = ls at hl ⊢
  have hl : lv_has ls 3 [(0, .ref (q 0)), (1, .int p1), (2, .int p2)] := hl
  unfold fX5_face at h
  refine lv_aload_n hx hb dX5_face_0 rfl (lv_at hl 0 rfl) ?_
  obtain ⟨u1, e2, h⟩ := bd_some h
  refine k_r (va_runV (As := []) (rest := []) ⟨hx, hb, hml, hown, hts⟩ (kX5_freshCut l D q cI cJ cZ tP s.heap.size vnum vsz vfr vfo vli va vb vc ve vth vrk vcm vkx vky vkz vmk vre vro vwi vla vlb vtu k0x k0y k0z k1x k1y k1z k2x k2y k2z k3x k3y k3z  u1 e2) (cwV 0 hts gX5_face_X5_freshCut rfl rfl rfl (by decide +kernel) ⟨Nat.le_of_ble_eq_true rfl, Nat.le_of_ble_eq_true rfl⟩) ⟨cPre_blind, va_recv hK hP (ci := 5) (q0 := 0) rfl rfl, cPre_at hP hK hN hD hS hA hZ⟩ rfl rfl hl.1 rfl (lv_room (Nat.le_of_ble_eq_true rfl)) dX5_face_1 ⟨Nat.le_of_ble_eq_true rfl, Nat.le_of_ble_eq_true rfl⟩) hD hS hA (fun H locs hP hD hS => ?_)
  refine lv_iload_n hx hb dX5_face_4 rfl (lv_at hl 1 rfl) ?_
  refine lv_iload_n hx hb dX5_face_5 rfl (lv_at hl 2 rfl) ?_
  obtain ⟨u3, e4, h⟩ := bd_some h
  refine k_i (va_runV (As := [.int p1, .int p2]) (rest := []) ⟨hx, hb, hml, hown, hts⟩ (kX1_rowOfWidth l D q cI cJ cZ tP H.size vnum vsz u1.1 u1.2.1 u1.2.2.1 va vb vc ve vth u1.2.2.2.1 u1.2.2.2.2.1 u1.2.2.2.2.2.1 u1.2.2.2.2.2.2.1 u1.2.2.2.2.2.2.2.1 u1.2.2.2.2.2.2.2.2.1 u1.2.2.2.2.2.2.2.2.2.1 u1.2.2.2.2.2.2.2.2.2.2.1 u1.2.2.2.2.2.2.2.2.2.2.2.1 u1.2.2.2.2.2.2.2.2.2.2.2.2.1 u1.2.2.2.2.2.2.2.2.2.2.2.2.2.1 vtu u1.2.2.2.2.2.2.2.2.2.2.2.2.2.2.1 u1.2.2.2.2.2.2.2.2.2.2.2.2.2.2.2.1 u1.2.2.2.2.2.2.2.2.2.2.2.2.2.2.2.2.1 u1.2.2.2.2.2.2.2.2.2.2.2.2.2.2.2.2.2.1 u1.2.2.2.2.2.2.2.2.2.2.2.2.2.2.2.2.2.2.1 u1.2.2.2.2.2.2.2.2.2.2.2.2.2.2.2.2.2.2.2.1 u1.2.2.2.2.2.2.2.2.2.2.2.2.2.2.2.2.2.2.2.2.1 u1.2.2.2.2.2.2.2.2.2.2.2.2.2.2.2.2.2.2.2.2.2.1 u1.2.2.2.2.2.2.2.2.2.2.2.2.2.2.2.2.2.2.2.2.2.2.1 u1.2.2.2.2.2.2.2.2.2.2.2.2.2.2.2.2.2.2.2.2.2.2.2.1 u1.2.2.2.2.2.2.2.2.2.2.2.2.2.2.2.2.2.2.2.2.2.2.2.2.1 u1.2.2.2.2.2.2.2.2.2.2.2.2.2.2.2.2.2.2.2.2.2.2.2.2.2 p1 p2 u3 e4) (cwV 2 hts gX5_face_X1_rowOfWidth rfl rfl rfl (by decide +kernel) ⟨Nat.le_of_ble_eq_true rfl, Nat.le_of_ble_eq_true rfl⟩) ⟨cPre_blind, va_recv hK hP (ci := 1) (q0 := 14) rfl rfl, cPre_at hP hK hN hD hS hA hZ⟩ rfl rfl hl.1 rfl (lv_room (Nat.le_of_ble_eq_true rfl)) dX5_face_6 ⟨Nat.le_of_ble_eq_true rfl, Nat.le_of_ble_eq_true rfl⟩) hD hS hA (fun H locs hP hD hS => ?_)
  obtain rfl := Option.some.inj h
  exact W.iret (v := u3) hx hb hr (fun t ht hW => ⟨⟨u3, (), rfl, rfl, by rw [ht]; exact hP, hD⟩, hS.F ht⟩) hS.2.2 dX5_face_9

-- X5_width
theorem wmX5_width_0 : (.fieldLink RX5 23 "SpaceWalls" "planes" "LSpaceWalls$Planes;" : Cond) ∈ wsX5_width := by decide +kernel
theorem wmX5_width_1 : (.fieldLink RX5 32 "SpaceWalls" "heaps" "LSpaceWalls$Heaps;" : Cond) ∈ wsX5_width := by decide +kernel
theorem wiX5_width_X5 : ∀ w ∈ u_ws RX5 TX5 5, w ∈ wsX5_width := by decide +kernel
theorem wiX5_width_X3 : ∀ w ∈ u_ws RX3 TX3 7, w ∈ wsX5_width := by decide +kernel
theorem wiX5_width_X2 : ∀ w ∈ u_ws RX2 TX2 7, w ∈ wsX5_width := by decide +kernel
set_option maxHeartbeats 8000000 in
set_option maxRecDepth 100000 in
theorem kX5_width (l : Launch) (D : va_G) (q : Nat → Nat) (cI cJ cZ : ClassId) (tP sz : Nat) (vnum : Int32) (vsz : Int32) (vfr : Int32) (vfo : Int32) (vli : Int32) (va : (Nat → Int32)) (vb : (Nat → Int32)) (vc : (Nat → Int32)) (ve : (Nat → Int32)) (vth : (Nat → Int32)) (vrk : (Nat → Int32)) (vcm : (Nat → Int32)) (vkx : (Nat → Int32)) (vky : (Nat → Int32)) (vkz : (Nat → Int32)) (vmk : (Nat → Int32)) (vre : (Nat → Int32)) (vro : (Nat → Int32)) (vwi : (Nat → Int32)) (vla : (Nat → Int32)) (vlb : (Nat → Int32)) (vtu : (Nat → Int32)) (k0x : Int32) (k0y : Int32) (k0z : Int32) (k1x : Int32) (k1y : Int32) (k1z : Int32) (k2x : Int32) (k2y : Int32) (k2z : Int32) (k3x : Int32) (k3y : Int32) (k3z : Int32) (p1 : Int32) (uu : (Int32 × Int32 × Int32 × Int32 × (Nat → Int32) × (Nat → Int32) × (Nat → Int32) × (Nat → Int32) × (Nat → Int32) × (Nat → Int32) × (Nat → Int32) × (Nat → Int32) × (Nat → Int32) × (Nat → Int32) × (Nat → Int32) × Int32 × Int32 × Int32 × Int32 × Int32 × Int32 × Int32 × Int32 × Int32 × Int32 × Int32 × Int32)) (h : fX5_width vnum vsz vfr vfo vli va vb vc ve vth vrk vcm vkx vky vkz vmk vre vro vwi vla vlb k0x k0y k0z k1x k1y k1z k2x k2y k2z k3x k3y k3z p1 = some uu) : Met l yX5_width wsX5_width ({ frames := 7, cells := 0, slots := 0, locals := 167 }) (cPre D cI cJ cZ tP (WC_ q cI cZ vnum vsz vfr vfo vli va vb vc ve vth vrk vcm vkx vky vkz vmk vre vro vwi vla vlb vtu k0x k0y k0z k1x k1y k1z k2x k2y k2z k3x k3y k3z) sz [.ref (q 0), .int p1]) (cQi D (va_A (WC_ q cI cZ vnum vsz vfr vfo vli va vb vc ve vth vrk vcm vkx vky vkz vmk vre vro vwi vla vlb vtu k0x k0y k0z k1x k1y k1z k2x k2y k2z k3x k3y k3z) sz) (WC_ q cI cZ vnum vsz uu.2.1 uu.2.2.1 uu.2.2.2.1 va vb vc ve vth uu.2.2.2.2.1 uu.2.2.2.2.2.1 uu.2.2.2.2.2.2.1 uu.2.2.2.2.2.2.2.1 uu.2.2.2.2.2.2.2.2.1 uu.2.2.2.2.2.2.2.2.2.1 uu.2.2.2.2.2.2.2.2.2.2.1 uu.2.2.2.2.2.2.2.2.2.2.2.1 uu.2.2.2.2.2.2.2.2.2.2.2.2.1 uu.2.2.2.2.2.2.2.2.2.2.2.2.2.1 uu.2.2.2.2.2.2.2.2.2.2.2.2.2.2.1 vtu uu.2.2.2.2.2.2.2.2.2.2.2.2.2.2.2.1 uu.2.2.2.2.2.2.2.2.2.2.2.2.2.2.2.2.1 uu.2.2.2.2.2.2.2.2.2.2.2.2.2.2.2.2.2.1 uu.2.2.2.2.2.2.2.2.2.2.2.2.2.2.2.2.2.2.1 uu.2.2.2.2.2.2.2.2.2.2.2.2.2.2.2.2.2.2.2.1 uu.2.2.2.2.2.2.2.2.2.2.2.2.2.2.2.2.2.2.2.2.1 uu.2.2.2.2.2.2.2.2.2.2.2.2.2.2.2.2.2.2.2.2.2.1 uu.2.2.2.2.2.2.2.2.2.2.2.2.2.2.2.2.2.2.2.2.2.2.1 uu.2.2.2.2.2.2.2.2.2.2.2.2.2.2.2.2.2.2.2.2.2.2.2.1 uu.2.2.2.2.2.2.2.2.2.2.2.2.2.2.2.2.2.2.2.2.2.2.2.2.1 uu.2.2.2.2.2.2.2.2.2.2.2.2.2.2.2.2.2.2.2.2.2.2.2.2.2.1 uu.2.2.2.2.2.2.2.2.2.2.2.2.2.2.2.2.2.2.2.2.2.2.2.2.2.2) uu.1) 0 0 (va_A (WC_ q cI cZ vnum vsz vfr vfo vli va vb vc ve vth vrk vcm vkx vky vkz vmk vre vro vwi vla vlb vtu k0x k0y k0z k1x k1y k1z k2x k2y k2z k3x k3y k3z) sz) := by
  refine Met.ofW (cc := cX5_width) (maxL := 3) (ret := (some .int)) (by decide) rfl ?_
  intro p e s m args below meth c s₁ B hml hv
  obtain ⟨rfl, hsz, hP, hK, hN, hD0, hZ⟩ := hv
  have hx := B.exec
  have hb := B.bytes
  have hr := B.returns
  have hts := atoms_spec (ws := wsX5_width) B.pre
  have hown : s.vm.findClass RX5 = some m.cls := findClass_of_methodNamed B.named
  have hlocks := B.notSynchronized
  subst hsz
  have hD := hD0.self (sz := s.heap.size)
  generalize hAe : va_A (WC_ q cI cZ vnum vsz vfr vfo vli va vb vc ve vth vrk vcm vkx vky vkz vmk vre vro vwi vla vlb vtu k0x k0y k0z k1x k1y k1z k2x k2y k2z k3x k3y k3z) s.heap.size = A at hD hZ ⊢
  have hA : ∀ q : Nat, s.heap.size ≤ q → A q := fun q h => by rw [← hAe]; exact Or.inr h
  have hS : va_S A s.heap s.heap [] := va_S.rf
  have hl := lv_entry ([.ref (q 0), .int p1]) (n := 3) (Nat.le_of_ble_eq_true rfl)
  rw [lg_entry_eq]
  generalize (lg_sl ([.ref (q 0), .int p1]) ++ List.replicate (3 - (lg_sl ([.ref (q 0), .int p1])).length) Slot.unset).toArray = ls at hl ⊢
  have hl : lv_has ls 3 [(0, .ref (q 0)), (1, .int p1)] := hl
  unfold fX5_width at h
  refine lv_aload_n hx hb dX5_width_0 rfl (lv_at hl 0 rfl) ?_
  obtain ⟨u1, e2, h⟩ := bd_some h
  refine k_r (va_runV (As := []) (rest := []) ⟨hx, hb, hml, hown, hts⟩ (kX5_freshCut l D q cI cJ cZ tP s.heap.size vnum vsz vfr vfo vli va vb vc ve vth vrk vcm vkx vky vkz vmk vre vro vwi vla vlb vtu k0x k0y k0z k1x k1y k1z k2x k2y k2z k3x k3y k3z  u1 e2) (cwV 0 hts gX5_width_X5_freshCut rfl rfl rfl (by decide +kernel) ⟨Nat.le_of_ble_eq_true rfl, Nat.le_of_ble_eq_true rfl⟩) ⟨cPre_blind, va_recv hK hP (ci := 5) (q0 := 0) rfl rfl, cPre_at hP hK hN hD hS hA hZ⟩ rfl rfl hl.1 rfl (lv_room (Nat.le_of_ble_eq_true rfl)) dX5_width_1 ⟨Nat.le_of_ble_eq_true rfl, Nat.le_of_ble_eq_true rfl⟩) hD hS hA (fun H locs hP hD hS => ?_)
  refine lv_astore_n (lv' := [(2, .ref (q 14)), (0, .ref (q 0)), (1, .int p1)]) hx hb dX5_width_4 rfl hl (by decide) rfl (fun ls hl => ?_)
  refine lv_aload_n hx hb dX5_width_5 rfl (lv_at hl 0 rfl) ?_
  refine lv_iload_n hx hb dX5_width_6 rfl (lv_at hl 2 rfl) ?_
  obtain ⟨u3, e4, h⟩ := bd_some h
  refine k_i (va_runV (As := [.int p1]) (rest := []) ⟨hx, hb, hml, hown, hts⟩ (kX1_hasFace l D q cI cJ cZ tP H.size vnum vsz u1.1 u1.2.1 u1.2.2.1 va vb vc ve vth u1.2.2.2.1 u1.2.2.2.2.1 u1.2.2.2.2.2.1 u1.2.2.2.2.2.2.1 u1.2.2.2.2.2.2.2.1 u1.2.2.2.2.2.2.2.2.1 u1.2.2.2.2.2.2.2.2.2.1 u1.2.2.2.2.2.2.2.2.2.2.1 u1.2.2.2.2.2.2.2.2.2.2.2.1 u1.2.2.2.2.2.2.2.2.2.2.2.2.1 u1.2.2.2.2.2.2.2.2.2.2.2.2.2.1 vtu u1.2.2.2.2.2.2.2.2.2.2.2.2.2.2.1 u1.2.2.2.2.2.2.2.2.2.2.2.2.2.2.2.1 u1.2.2.2.2.2.2.2.2.2.2.2.2.2.2.2.2.1 u1.2.2.2.2.2.2.2.2.2.2.2.2.2.2.2.2.2.1 u1.2.2.2.2.2.2.2.2.2.2.2.2.2.2.2.2.2.2.1 u1.2.2.2.2.2.2.2.2.2.2.2.2.2.2.2.2.2.2.2.1 u1.2.2.2.2.2.2.2.2.2.2.2.2.2.2.2.2.2.2.2.2.1 u1.2.2.2.2.2.2.2.2.2.2.2.2.2.2.2.2.2.2.2.2.2.1 u1.2.2.2.2.2.2.2.2.2.2.2.2.2.2.2.2.2.2.2.2.2.2.1 u1.2.2.2.2.2.2.2.2.2.2.2.2.2.2.2.2.2.2.2.2.2.2.2.1 u1.2.2.2.2.2.2.2.2.2.2.2.2.2.2.2.2.2.2.2.2.2.2.2.2.1 u1.2.2.2.2.2.2.2.2.2.2.2.2.2.2.2.2.2.2.2.2.2.2.2.2.2 p1 u3 e4) (cwV 1 hts gX5_width_X1_hasFace rfl rfl rfl (by decide +kernel) ⟨Nat.le_of_ble_eq_true rfl, Nat.le_of_ble_eq_true rfl⟩) ⟨cPre_blind, va_recv hK hP (ci := 1) (q0 := 14) rfl rfl, cPre_at hP hK hN hD hS hA hZ⟩ rfl rfl hl.1 rfl (lv_room (Nat.le_of_ble_eq_true rfl)) dX5_width_7 ⟨Nat.le_of_ble_eq_true rfl, Nat.le_of_ble_eq_true rfl⟩) hD hS hA (fun H locs hP hD hS => ?_)
  refine lv_if_eq (tgt := 37) hx hb dX5_width_10 (by decide) (fun c5 => ?_) (fun c5 => ?_)
  · have h := (if_pos c5).symm.trans h
    refine lv_iconst (v := (-1 : Int32)) hx hb dX5_width_37 (by decide) ?_
    obtain rfl := Option.some.inj h
    exact W.iret (v := (-1 : Int32)) hx hb hr (fun t ht hW => ⟨⟨(-1 : Int32), (), rfl, rfl, by rw [ht]; exact hP, hD⟩, hS.F ht⟩) hS.2.2 dX5_width_38
  · have h := (if_neg c5).symm.trans h
    refine lv_aload_n hx hb dX5_width_13 rfl (lv_at hl 1 rfl) ?_
    refine va_get (D := D) (ci := 5) (v := .ref (q 1)) (C := RX5) (T := TX5) (N := 5) hx hb hts wiX5_width_X5 hown hK hP 0 rfl rfl 0 (by decide) (hts _ wmX5_width_0) (fun _ h9 => h9) rfl dX5_width_14 ?_
    refine va_getN (D := D) (ci := 3) (v := .int vnum) (C := RX3) (T := TX3) (N := 7) hx hb hts wiX5_width_X3 hown hK hP 1 rfl rfl 0 (by decide) (NW_f hN 7 rfl) (fun _ h9 => h9) rfl dX5_width_17 ?_
    refine lv_aload_n hx hb dX5_width_20 rfl (lv_at hl 1 rfl) ?_
    refine va_get (D := D) (ci := 5) (v := .ref (q 7)) (C := RX5) (T := TX5) (N := 5) hx hb hts wiX5_width_X5 hown hK hP 0 rfl rfl 1 (by decide) (hts _ wmX5_width_1) (fun _ h9 => h9) rfl dX5_width_21 ?_
    refine va_getN (D := D) (ci := 2) (v := .ref (q 8)) (C := RX2) (T := TX2) (N := 7) hx hb hts wiX5_width_X2 hown hK hP 7 rfl rfl 1 (by decide) (NW_f hN 0 rfl) (fun _ h9 => h9) rfl dX5_width_24 ?_
    refine lv_iload_n hx hb dX5_width_27 rfl (lv_at hl 2 rfl) ?_
    refine lv_iconst (v := (1 : Int32)) hx hb dX5_width_28 (by decide) ?_
    obtain ⟨u6, e7, h⟩ := bd_some h
    refine k_i0 (va_runS (As := [.int p1, .int (1 : Int32)]) (rest := [.ref (q 8), .int vnum]) ⟨hx, hb, hml, hown, hts⟩ (kX5_maskOf l D cI cJ cZ tP H.size  p1 (1 : Int32) u6 e7) (va_cwS 2 hts gX5_width_X5_maskOf rfl rfl rfl (by decide +kernel) ⟨Nat.le_of_ble_eq_true rfl, Nat.le_of_ble_eq_true rfl⟩) ⟨cPre_blind, cPre_at0 hK hN hS hA hZ⟩ rfl rfl hl.1 rfl (lv_room (Nat.le_of_ble_eq_true rfl)) dX5_width_29 ⟨Nat.le_of_ble_eq_true rfl, Nat.le_of_ble_eq_true rfl⟩) hP hS hA (fun H locs hP hS => ?_)
    obtain ⟨i8, h⟩ := ck_some h
    refine va_iald hx hb hK hP 8 0 rfl rfl i8 dX5_width_32 ?_
    refine lv_isub hx hb dX5_width_33 ?_
    refine lv_goto (tgt := 38) hx hb dX5_width_34 (by decide) ?_
    obtain rfl := Option.some.inj h
    exact W.iret (v := (vnum - (u1.2.2.2.1 u6.toNatClampNeg))) hx hb hr (fun t ht hW => ⟨⟨(vnum - (u1.2.2.2.1 u6.toNatClampNeg)), (), rfl, rfl, by rw [ht]; exact hP, hD⟩, hS.F ht⟩) hS.2.2 dX5_width_38

-- X5_bounded
theorem wmX5_bounded_0 : (.fieldLink RX5 32 "SpaceWalls" "heaps" "LSpaceWalls$Heaps;" : Cond) ∈ wsX5_bounded := by decide +kernel
theorem wmX5_bounded_1 : (.fieldLink RX5 23 "SpaceWalls" "planes" "LSpaceWalls$Planes;" : Cond) ∈ wsX5_bounded := by decide +kernel
theorem wiX5_bounded_X5 : ∀ w ∈ u_ws RX5 TX5 5, w ∈ wsX5_bounded := by decide +kernel
theorem wiX5_bounded_X3 : ∀ w ∈ u_ws RX3 TX3 7, w ∈ wsX5_bounded := by decide +kernel
set_option maxHeartbeats 8000000 in
set_option maxRecDepth 100000 in
theorem kX5_bounded (l : Launch) (D : va_G) (q : Nat → Nat) (cI cJ cZ : ClassId) (tP sz : Nat) (vnum : Int32) (vsz : Int32) (vfr : Int32) (vfo : Int32) (vli : Int32) (va : (Nat → Int32)) (vb : (Nat → Int32)) (vc : (Nat → Int32)) (ve : (Nat → Int32)) (vth : (Nat → Int32)) (vrk : (Nat → Int32)) (vcm : (Nat → Int32)) (vkx : (Nat → Int32)) (vky : (Nat → Int32)) (vkz : (Nat → Int32)) (vmk : (Nat → Int32)) (vre : (Nat → Int32)) (vro : (Nat → Int32)) (vwi : (Nat → Int32)) (vla : (Nat → Int32)) (vlb : (Nat → Int32)) (vtu : (Nat → Int32)) (k0x : Int32) (k0y : Int32) (k0z : Int32) (k1x : Int32) (k1y : Int32) (k1z : Int32) (k2x : Int32) (k2y : Int32) (k2z : Int32) (k3x : Int32) (k3y : Int32) (k3z : Int32) (p1 : Int32) (uu : (Int32 × Int32 × Int32 × Int32 × (Nat → Int32) × (Nat → Int32) × (Nat → Int32) × (Nat → Int32) × (Nat → Int32) × (Nat → Int32) × (Nat → Int32) × (Nat → Int32) × (Nat → Int32) × (Nat → Int32) × (Nat → Int32) × Int32 × Int32 × Int32 × Int32 × Int32 × Int32 × Int32 × Int32 × Int32 × Int32 × Int32 × Int32)) (h : fX5_bounded vnum vsz vfr vfo vli va vb vc ve vth vrk vcm vkx vky vkz vmk vre vro vwi vla vlb k0x k0y k0z k1x k1y k1z k2x k2y k2z k3x k3y k3z p1 = some uu) : Met l yX5_bounded wsX5_bounded ({ frames := 7, cells := 0, slots := 0, locals := 167 }) (cPre D cI cJ cZ tP (WC_ q cI cZ vnum vsz vfr vfo vli va vb vc ve vth vrk vcm vkx vky vkz vmk vre vro vwi vla vlb vtu k0x k0y k0z k1x k1y k1z k2x k2y k2z k3x k3y k3z) sz [.ref (q 0), .int p1]) (cQi D (va_A (WC_ q cI cZ vnum vsz vfr vfo vli va vb vc ve vth vrk vcm vkx vky vkz vmk vre vro vwi vla vlb vtu k0x k0y k0z k1x k1y k1z k2x k2y k2z k3x k3y k3z) sz) (WC_ q cI cZ vnum vsz uu.2.1 uu.2.2.1 uu.2.2.2.1 va vb vc ve vth uu.2.2.2.2.1 uu.2.2.2.2.2.1 uu.2.2.2.2.2.2.1 uu.2.2.2.2.2.2.2.1 uu.2.2.2.2.2.2.2.2.1 uu.2.2.2.2.2.2.2.2.2.1 uu.2.2.2.2.2.2.2.2.2.2.1 uu.2.2.2.2.2.2.2.2.2.2.2.1 uu.2.2.2.2.2.2.2.2.2.2.2.2.1 uu.2.2.2.2.2.2.2.2.2.2.2.2.2.1 uu.2.2.2.2.2.2.2.2.2.2.2.2.2.2.1 vtu uu.2.2.2.2.2.2.2.2.2.2.2.2.2.2.2.1 uu.2.2.2.2.2.2.2.2.2.2.2.2.2.2.2.2.1 uu.2.2.2.2.2.2.2.2.2.2.2.2.2.2.2.2.2.1 uu.2.2.2.2.2.2.2.2.2.2.2.2.2.2.2.2.2.2.1 uu.2.2.2.2.2.2.2.2.2.2.2.2.2.2.2.2.2.2.2.1 uu.2.2.2.2.2.2.2.2.2.2.2.2.2.2.2.2.2.2.2.2.1 uu.2.2.2.2.2.2.2.2.2.2.2.2.2.2.2.2.2.2.2.2.2.1 uu.2.2.2.2.2.2.2.2.2.2.2.2.2.2.2.2.2.2.2.2.2.2.1 uu.2.2.2.2.2.2.2.2.2.2.2.2.2.2.2.2.2.2.2.2.2.2.2.1 uu.2.2.2.2.2.2.2.2.2.2.2.2.2.2.2.2.2.2.2.2.2.2.2.2.1 uu.2.2.2.2.2.2.2.2.2.2.2.2.2.2.2.2.2.2.2.2.2.2.2.2.2.1 uu.2.2.2.2.2.2.2.2.2.2.2.2.2.2.2.2.2.2.2.2.2.2.2.2.2.2) uu.1) 0 0 (va_A (WC_ q cI cZ vnum vsz vfr vfo vli va vb vc ve vth vrk vcm vkx vky vkz vmk vre vro vwi vla vlb vtu k0x k0y k0z k1x k1y k1z k2x k2y k2z k3x k3y k3z) sz) := by
  refine Met.ofW (cc := cX5_bounded) (maxL := 3) (ret := (some .boolean)) (by decide) rfl ?_
  intro p e s m args below meth c s₁ B hml hv
  obtain ⟨rfl, hsz, hP, hK, hN, hD0, hZ⟩ := hv
  have hx := B.exec
  have hb := B.bytes
  have hr := B.returns
  have hts := atoms_spec (ws := wsX5_bounded) B.pre
  have hown : s.vm.findClass RX5 = some m.cls := findClass_of_methodNamed B.named
  have hlocks := B.notSynchronized
  subst hsz
  have hD := hD0.self (sz := s.heap.size)
  generalize hAe : va_A (WC_ q cI cZ vnum vsz vfr vfo vli va vb vc ve vth vrk vcm vkx vky vkz vmk vre vro vwi vla vlb vtu k0x k0y k0z k1x k1y k1z k2x k2y k2z k3x k3y k3z) s.heap.size = A at hD hZ ⊢
  have hA : ∀ q : Nat, s.heap.size ≤ q → A q := fun q h => by rw [← hAe]; exact Or.inr h
  have hS : va_S A s.heap s.heap [] := va_S.rf
  have hl := lv_entry ([.ref (q 0), .int p1]) (n := 3) (Nat.le_of_ble_eq_true rfl)
  rw [lg_entry_eq]
  generalize (lg_sl ([.ref (q 0), .int p1]) ++ List.replicate (3 - (lg_sl ([.ref (q 0), .int p1])).length) Slot.unset).toArray = ls at hl ⊢
  have hl : lv_has ls 3 [(0, .ref (q 0)), (1, .int p1)] := hl
  unfold fX5_bounded at h
  refine lv_aload_n hx hb dX5_bounded_0 rfl (lv_at hl 0 rfl) ?_
  obtain ⟨u1, e2, h⟩ := bd_some h
  refine k_r (va_runV (As := []) (rest := []) ⟨hx, hb, hml, hown, hts⟩ (kX5_freshCut l D q cI cJ cZ tP s.heap.size vnum vsz vfr vfo vli va vb vc ve vth vrk vcm vkx vky vkz vmk vre vro vwi vla vlb vtu k0x k0y k0z k1x k1y k1z k2x k2y k2z k3x k3y k3z  u1 e2) (cwV 0 hts gX5_bounded_X5_freshCut rfl rfl rfl (by decide +kernel) ⟨Nat.le_of_ble_eq_true rfl, Nat.le_of_ble_eq_true rfl⟩) ⟨cPre_blind, va_recv hK hP (ci := 5) (q0 := 0) rfl rfl, cPre_at hP hK hN hD hS hA hZ⟩ rfl rfl hl.1 rfl (lv_room (Nat.le_of_ble_eq_true rfl)) dX5_bounded_1 ⟨Nat.le_of_ble_eq_true rfl, Nat.le_of_ble_eq_true rfl⟩) hD hS hA (fun H locs hP hD hS => ?_)
  refine lv_astore_n (lv' := [(2, .ref (q 14)), (0, .ref (q 0)), (1, .int p1)]) hx hb dX5_bounded_4 rfl hl (by decide) rfl (fun ls hl => ?_)
  refine lv_aload_n hx hb dX5_bounded_5 rfl (lv_at hl 0 rfl) ?_
  refine lv_iload_n hx hb dX5_bounded_6 rfl (lv_at hl 2 rfl) ?_
  obtain ⟨u3, e4, h⟩ := bd_some h
  refine k_i (va_runV (As := [.int p1]) (rest := []) ⟨hx, hb, hml, hown, hts⟩ (kX1_hasRoom l D q cI cJ cZ tP H.size vnum vsz u1.1 u1.2.1 u1.2.2.1 va vb vc ve vth u1.2.2.2.1 u1.2.2.2.2.1 u1.2.2.2.2.2.1 u1.2.2.2.2.2.2.1 u1.2.2.2.2.2.2.2.1 u1.2.2.2.2.2.2.2.2.1 u1.2.2.2.2.2.2.2.2.2.1 u1.2.2.2.2.2.2.2.2.2.2.1 u1.2.2.2.2.2.2.2.2.2.2.2.1 u1.2.2.2.2.2.2.2.2.2.2.2.2.1 u1.2.2.2.2.2.2.2.2.2.2.2.2.2.1 vtu u1.2.2.2.2.2.2.2.2.2.2.2.2.2.2.1 u1.2.2.2.2.2.2.2.2.2.2.2.2.2.2.2.1 u1.2.2.2.2.2.2.2.2.2.2.2.2.2.2.2.2.1 u1.2.2.2.2.2.2.2.2.2.2.2.2.2.2.2.2.2.1 u1.2.2.2.2.2.2.2.2.2.2.2.2.2.2.2.2.2.2.1 u1.2.2.2.2.2.2.2.2.2.2.2.2.2.2.2.2.2.2.2.1 u1.2.2.2.2.2.2.2.2.2.2.2.2.2.2.2.2.2.2.2.2.1 u1.2.2.2.2.2.2.2.2.2.2.2.2.2.2.2.2.2.2.2.2.2.1 u1.2.2.2.2.2.2.2.2.2.2.2.2.2.2.2.2.2.2.2.2.2.2.1 u1.2.2.2.2.2.2.2.2.2.2.2.2.2.2.2.2.2.2.2.2.2.2.2.1 u1.2.2.2.2.2.2.2.2.2.2.2.2.2.2.2.2.2.2.2.2.2.2.2.2.1 u1.2.2.2.2.2.2.2.2.2.2.2.2.2.2.2.2.2.2.2.2.2.2.2.2.2 p1 u3 e4) (cwV 1 hts gX5_bounded_X1_hasRoom rfl rfl rfl (by decide +kernel) ⟨Nat.le_of_ble_eq_true rfl, Nat.le_of_ble_eq_true rfl⟩) ⟨cPre_blind, va_recv hK hP (ci := 1) (q0 := 14) rfl rfl, cPre_at hP hK hN hD hS hA hZ⟩ rfl rfl hl.1 rfl (lv_room (Nat.le_of_ble_eq_true rfl)) dX5_bounded_7 ⟨Nat.le_of_ble_eq_true rfl, Nat.le_of_ble_eq_true rfl⟩) hD hS hA (fun H locs hP hD hS => ?_)
  refine lv_if_eq (tgt := 46) hx hb dX5_bounded_10 (by decide) (fun c5 => ?_) (fun c5 => ?_)
  · have h := (if_pos c5).symm.trans h
    refine lv_iconst (v := (0 : Int32)) hx hb dX5_bounded_46 (by decide) ?_
    obtain rfl := Option.some.inj h
    exact W.zret (v := (0 : Int32)) hx hb hr (by decide) (fun t ht hW => ⟨⟨(0 : Int32), (), rfl, rfl, by rw [ht]; exact hP, hD⟩, hS.F ht⟩) hS.2.2 dX5_bounded_47
  · have h := (if_neg c5).symm.trans h
    refine lv_aload_n hx hb dX5_bounded_13 rfl (lv_at hl 1 rfl) ?_
    refine va_get (D := D) (ci := 5) (v := .ref (q 7)) (C := RX5) (T := TX5) (N := 5) hx hb hts wiX5_bounded_X5 hown hK hP 0 rfl rfl 1 (by decide) (hts _ wmX5_bounded_0) (fun _ h9 => h9) rfl dX5_bounded_14 ?_
    obtain ⟨u6, e7, h⟩ := bd_some h
    refine k_i (va_runV (As := []) (rest := []) ⟨hx, hb, hml, hown, hts⟩ (kX2_rankOfAll l D q cI cJ cZ tP H.size vnum vsz u1.1 u1.2.1 u1.2.2.1 va vb vc ve vth u1.2.2.2.1 u1.2.2.2.2.1 u1.2.2.2.2.2.1 u1.2.2.2.2.2.2.1 u1.2.2.2.2.2.2.2.1 u1.2.2.2.2.2.2.2.2.1 u1.2.2.2.2.2.2.2.2.2.1 u1.2.2.2.2.2.2.2.2.2.2.1 u1.2.2.2.2.2.2.2.2.2.2.2.1 u1.2.2.2.2.2.2.2.2.2.2.2.2.1 u1.2.2.2.2.2.2.2.2.2.2.2.2.2.1 vtu u1.2.2.2.2.2.2.2.2.2.2.2.2.2.2.1 u1.2.2.2.2.2.2.2.2.2.2.2.2.2.2.2.1 u1.2.2.2.2.2.2.2.2.2.2.2.2.2.2.2.2.1 u1.2.2.2.2.2.2.2.2.2.2.2.2.2.2.2.2.2.1 u1.2.2.2.2.2.2.2.2.2.2.2.2.2.2.2.2.2.2.1 u1.2.2.2.2.2.2.2.2.2.2.2.2.2.2.2.2.2.2.2.1 u1.2.2.2.2.2.2.2.2.2.2.2.2.2.2.2.2.2.2.2.2.1 u1.2.2.2.2.2.2.2.2.2.2.2.2.2.2.2.2.2.2.2.2.2.1 u1.2.2.2.2.2.2.2.2.2.2.2.2.2.2.2.2.2.2.2.2.2.2.1 u1.2.2.2.2.2.2.2.2.2.2.2.2.2.2.2.2.2.2.2.2.2.2.2.1 u1.2.2.2.2.2.2.2.2.2.2.2.2.2.2.2.2.2.2.2.2.2.2.2.2.1 u1.2.2.2.2.2.2.2.2.2.2.2.2.2.2.2.2.2.2.2.2.2.2.2.2.2  u6 e7) (cwV 0 hts gX5_bounded_X2_rankOfAll rfl rfl rfl (by decide +kernel) ⟨Nat.le_of_ble_eq_true rfl, Nat.le_of_ble_eq_true rfl⟩) ⟨cPre_blind, va_recv hK hP (ci := 2) (q0 := 7) rfl rfl, cPre_at hP hK hN hD hS hA hZ⟩ rfl rfl hl.1 rfl (lv_room (Nat.le_of_ble_eq_true rfl)) dX5_bounded_17 ⟨Nat.le_of_ble_eq_true rfl, Nat.le_of_ble_eq_true rfl⟩) hD hS hA (fun H locs hP hD hS => ?_)
    refine lv_aload_n hx hb dX5_bounded_20 rfl (lv_at hl 1 rfl) ?_
    refine va_get (D := D) (ci := 5) (v := .ref (q 1)) (C := RX5) (T := TX5) (N := 5) hx hb hts wiX5_bounded_X5 hown hK hP 0 rfl rfl 0 (by decide) (hts _ wmX5_bounded_1) (fun _ h9 => h9) rfl dX5_bounded_21 ?_
    refine va_getN (D := D) (ci := 3) (v := .int vnum) (C := RX3) (T := TX3) (N := 7) hx hb hts wiX5_bounded_X3 hown hK hP 1 rfl rfl 0 (by decide) (NW_f hN 7 rfl) (fun _ h9 => h9) rfl dX5_bounded_24 ?_
    refine lv_icmp_ne (tgt := 46) hx hb dX5_bounded_27 (by decide) (fun c8 => ?_) (fun c8 => ?_)
    · have h := (if_neg c8).symm.trans h
      refine lv_iconst (v := (0 : Int32)) hx hb dX5_bounded_46 (by decide) ?_
      obtain rfl := Option.some.inj h
      exact W.zret (v := (0 : Int32)) hx hb hr (by decide) (fun t ht hW => ⟨⟨(0 : Int32), (), rfl, rfl, by rw [ht]; exact hP, hD⟩, hS.F ht⟩) hS.2.2 dX5_bounded_47
    · have h := (if_pos c8).symm.trans h
      refine lv_aload_n hx hb dX5_bounded_30 rfl (lv_at hl 0 rfl) ?_
      refine lv_iload_n hx hb dX5_bounded_31 rfl (lv_at hl 2 rfl) ?_
      refine lv_iconst (v := (2 : Int32)) hx hb dX5_bounded_32 (by decide) ?_
      obtain ⟨u9, e10, h⟩ := bd_some h
      refine k_i0 (va_runS (As := [.int p1, .int (2 : Int32)]) (rest := [.ref (q 14)]) ⟨hx, hb, hml, hown, hts⟩ (kX5_maskOf l D cI cJ cZ tP H.size  p1 (2 : Int32) u9 e10) (va_cwS 2 hts gX5_bounded_X5_maskOf rfl rfl rfl (by decide +kernel) ⟨Nat.le_of_ble_eq_true rfl, Nat.le_of_ble_eq_true rfl⟩) ⟨cPre_blind, cPre_at0 hK hN hS hA hZ⟩ rfl rfl hl.1 rfl (lv_room (Nat.le_of_ble_eq_true rfl)) dX5_bounded_33 ⟨Nat.le_of_ble_eq_true rfl, Nat.le_of_ble_eq_true rfl⟩) hP hS hA (fun H locs hP hS => ?_)
      obtain ⟨u11, e12, h⟩ := bd_some h
      refine k_i (va_runV (As := [.int u9]) (rest := []) ⟨hx, hb, hml, hown, hts⟩ (kX1_isOpen l D q cI cJ cZ tP H.size vnum vsz u1.1 u1.2.1 u1.2.2.1 va vb vc ve vth u1.2.2.2.1 u1.2.2.2.2.1 u1.2.2.2.2.2.1 u1.2.2.2.2.2.2.1 u1.2.2.2.2.2.2.2.1 u1.2.2.2.2.2.2.2.2.1 u1.2.2.2.2.2.2.2.2.2.1 u1.2.2.2.2.2.2.2.2.2.2.1 u1.2.2.2.2.2.2.2.2.2.2.2.1 u1.2.2.2.2.2.2.2.2.2.2.2.2.1 u1.2.2.2.2.2.2.2.2.2.2.2.2.2.1 vtu u1.2.2.2.2.2.2.2.2.2.2.2.2.2.2.1 u1.2.2.2.2.2.2.2.2.2.2.2.2.2.2.2.1 u1.2.2.2.2.2.2.2.2.2.2.2.2.2.2.2.2.1 u1.2.2.2.2.2.2.2.2.2.2.2.2.2.2.2.2.2.1 u1.2.2.2.2.2.2.2.2.2.2.2.2.2.2.2.2.2.2.1 u1.2.2.2.2.2.2.2.2.2.2.2.2.2.2.2.2.2.2.2.1 u1.2.2.2.2.2.2.2.2.2.2.2.2.2.2.2.2.2.2.2.2.1 u1.2.2.2.2.2.2.2.2.2.2.2.2.2.2.2.2.2.2.2.2.2.1 u1.2.2.2.2.2.2.2.2.2.2.2.2.2.2.2.2.2.2.2.2.2.2.1 u1.2.2.2.2.2.2.2.2.2.2.2.2.2.2.2.2.2.2.2.2.2.2.2.1 u1.2.2.2.2.2.2.2.2.2.2.2.2.2.2.2.2.2.2.2.2.2.2.2.2.1 u1.2.2.2.2.2.2.2.2.2.2.2.2.2.2.2.2.2.2.2.2.2.2.2.2.2 u9 u11 e12) (cwV 1 hts gX5_bounded_X1_isOpen rfl rfl rfl (by decide +kernel) ⟨Nat.le_of_ble_eq_true rfl, Nat.le_of_ble_eq_true rfl⟩) ⟨cPre_blind, va_recv hK hP (ci := 1) (q0 := 14) rfl rfl, cPre_at hP hK hN hD hS hA hZ⟩ rfl rfl hl.1 rfl (lv_room (Nat.le_of_ble_eq_true rfl)) dX5_bounded_36 ⟨Nat.le_of_ble_eq_true rfl, Nat.le_of_ble_eq_true rfl⟩) hD hS hA (fun H locs hP hD hS => ?_)
      refine lv_if_ne (tgt := 46) hx hb dX5_bounded_39 (by decide) (fun c13 => ?_) (fun c13 => ?_)
      · have h := (if_neg c13).symm.trans h
        refine lv_iconst (v := (0 : Int32)) hx hb dX5_bounded_46 (by decide) ?_
        obtain rfl := Option.some.inj h
        exact W.zret (v := (0 : Int32)) hx hb hr (by decide) (fun t ht hW => ⟨⟨(0 : Int32), (), rfl, rfl, by rw [ht]; exact hP, hD⟩, hS.F ht⟩) hS.2.2 dX5_bounded_47
      · have h := (if_pos c13).symm.trans h
        refine lv_iconst (v := (1 : Int32)) hx hb dX5_bounded_42 (by decide) ?_
        refine lv_goto (tgt := 47) hx hb dX5_bounded_43 (by decide) ?_
        obtain rfl := Option.some.inj h
        exact W.zret (v := (1 : Int32)) hx hb hr (by decide) (fun t ht hW => ⟨⟨(1 : Int32), (), rfl, rfl, by rw [ht]; exact hP, hD⟩, hS.F ht⟩) hS.2.2 dX5_bounded_47

-- X5_boundedRooms
theorem wmX5_boundedRooms_0 : (.fieldLink RX5 32 "SpaceWalls" "heaps" "LSpaceWalls$Heaps;" : Cond) ∈ wsX5_boundedRooms := by decide +kernel
theorem wmX5_boundedRooms_1 : (.fieldLink RX5 23 "SpaceWalls" "planes" "LSpaceWalls$Planes;" : Cond) ∈ wsX5_boundedRooms := by decide +kernel
theorem wmX5_boundedRooms_2 : (.methodLink RX5 137 Lib.Math.abs.name : Cond) ∈ wsX5_boundedRooms := by decide +kernel
theorem wmX5_boundedRooms_3 : (.static Lib.Math.abs.name : Cond) ∈ wsX5_boundedRooms := by decide +kernel
theorem wmX5_boundedRooms_4 : (.initialized "java/lang/Math" : Cond) ∈ wsX5_boundedRooms := by decide +kernel
theorem wmX5_boundedRooms_5 : (.code Lib.Math.abs.name Lib.Math.abs.code 1 (some .int) : Cond) ∈ wsX5_boundedRooms := by decide +kernel
theorem wiX5_boundedRooms_X5 : ∀ w ∈ u_ws RX5 TX5 5, w ∈ wsX5_boundedRooms := by decide +kernel
theorem wiX5_boundedRooms_X3 : ∀ w ∈ u_ws RX3 TX3 7, w ∈ wsX5_boundedRooms := by decide +kernel
set_option maxHeartbeats 8000000 in
set_option maxRecDepth 100000 in
theorem kX5_boundedRooms (l : Launch) (D : va_G) (q : Nat → Nat) (cI cJ cZ : ClassId) (tP sz : Nat) (vnum : Int32) (vsz : Int32) (vfr : Int32) (vfo : Int32) (vli : Int32) (va : (Nat → Int32)) (vb : (Nat → Int32)) (vc : (Nat → Int32)) (ve : (Nat → Int32)) (vth : (Nat → Int32)) (vrk : (Nat → Int32)) (vcm : (Nat → Int32)) (vkx : (Nat → Int32)) (vky : (Nat → Int32)) (vkz : (Nat → Int32)) (vmk : (Nat → Int32)) (vre : (Nat → Int32)) (vro : (Nat → Int32)) (vwi : (Nat → Int32)) (vla : (Nat → Int32)) (vlb : (Nat → Int32)) (vtu : (Nat → Int32)) (k0x : Int32) (k0y : Int32) (k0z : Int32) (k1x : Int32) (k1y : Int32) (k1z : Int32) (k2x : Int32) (k2y : Int32) (k2z : Int32) (k3x : Int32) (k3y : Int32) (k3z : Int32)  (uu : (Int32 × Int32 × Int32 × Int32 × (Nat → Int32) × (Nat → Int32) × (Nat → Int32) × (Nat → Int32) × (Nat → Int32) × (Nat → Int32) × (Nat → Int32) × (Nat → Int32) × (Nat → Int32) × (Nat → Int32) × (Nat → Int32) × Int32 × Int32 × Int32 × Int32 × Int32 × Int32 × Int32 × Int32 × Int32 × Int32 × Int32 × Int32)) (h : fX5_boundedRooms vnum vsz vfr vfo vli va vb vc ve vth vrk vcm vkx vky vkz vmk vre vro vwi vla vlb k0x k0y k0z k1x k1y k1z k2x k2y k2z k3x k3y k3z = some uu) : Met l yX5_boundedRooms wsX5_boundedRooms ({ frames := 7, cells := 0, slots := 0, locals := 167 }) (cPre D cI cJ cZ tP (WC_ q cI cZ vnum vsz vfr vfo vli va vb vc ve vth vrk vcm vkx vky vkz vmk vre vro vwi vla vlb vtu k0x k0y k0z k1x k1y k1z k2x k2y k2z k3x k3y k3z) sz [.ref (q 0)]) (cQi D (va_A (WC_ q cI cZ vnum vsz vfr vfo vli va vb vc ve vth vrk vcm vkx vky vkz vmk vre vro vwi vla vlb vtu k0x k0y k0z k1x k1y k1z k2x k2y k2z k3x k3y k3z) sz) (WC_ q cI cZ vnum vsz uu.2.1 uu.2.2.1 uu.2.2.2.1 va vb vc ve vth uu.2.2.2.2.1 uu.2.2.2.2.2.1 uu.2.2.2.2.2.2.1 uu.2.2.2.2.2.2.2.1 uu.2.2.2.2.2.2.2.2.1 uu.2.2.2.2.2.2.2.2.2.1 uu.2.2.2.2.2.2.2.2.2.2.1 uu.2.2.2.2.2.2.2.2.2.2.2.1 uu.2.2.2.2.2.2.2.2.2.2.2.2.1 uu.2.2.2.2.2.2.2.2.2.2.2.2.2.1 uu.2.2.2.2.2.2.2.2.2.2.2.2.2.2.1 vtu uu.2.2.2.2.2.2.2.2.2.2.2.2.2.2.2.1 uu.2.2.2.2.2.2.2.2.2.2.2.2.2.2.2.2.1 uu.2.2.2.2.2.2.2.2.2.2.2.2.2.2.2.2.2.1 uu.2.2.2.2.2.2.2.2.2.2.2.2.2.2.2.2.2.2.1 uu.2.2.2.2.2.2.2.2.2.2.2.2.2.2.2.2.2.2.2.1 uu.2.2.2.2.2.2.2.2.2.2.2.2.2.2.2.2.2.2.2.2.1 uu.2.2.2.2.2.2.2.2.2.2.2.2.2.2.2.2.2.2.2.2.2.1 uu.2.2.2.2.2.2.2.2.2.2.2.2.2.2.2.2.2.2.2.2.2.2.1 uu.2.2.2.2.2.2.2.2.2.2.2.2.2.2.2.2.2.2.2.2.2.2.2.1 uu.2.2.2.2.2.2.2.2.2.2.2.2.2.2.2.2.2.2.2.2.2.2.2.2.1 uu.2.2.2.2.2.2.2.2.2.2.2.2.2.2.2.2.2.2.2.2.2.2.2.2.2.1 uu.2.2.2.2.2.2.2.2.2.2.2.2.2.2.2.2.2.2.2.2.2.2.2.2.2.2) uu.1) 0 0 (va_A (WC_ q cI cZ vnum vsz vfr vfo vli va vb vc ve vth vrk vcm vkx vky vkz vmk vre vro vwi vla vlb vtu k0x k0y k0z k1x k1y k1z k2x k2y k2z k3x k3y k3z) sz) := by
  refine Met.ofW (cc := cX5_boundedRooms) (maxL := 3) (ret := (some .int)) (by decide) rfl ?_
  intro p e s m args below meth c s₁ B hml hv
  obtain ⟨rfl, hsz, hP, hK, hN, hD0, hZ⟩ := hv
  have hx := B.exec
  have hb := B.bytes
  have hr := B.returns
  have hts := atoms_spec (ws := wsX5_boundedRooms) B.pre
  have hown : s.vm.findClass RX5 = some m.cls := findClass_of_methodNamed B.named
  have hlocks := B.notSynchronized
  subst hsz
  have hD := hD0.self (sz := s.heap.size)
  generalize hAe : va_A (WC_ q cI cZ vnum vsz vfr vfo vli va vb vc ve vth vrk vcm vkx vky vkz vmk vre vro vwi vla vlb vtu k0x k0y k0z k1x k1y k1z k2x k2y k2z k3x k3y k3z) s.heap.size = A at hD hZ ⊢
  have hA : ∀ q : Nat, s.heap.size ≤ q → A q := fun q h => by rw [← hAe]; exact Or.inr h
  have hS : va_S A s.heap s.heap [] := va_S.rf
  have hl := lv_entry ([.ref (q 0)]) (n := 3) (Nat.le_of_ble_eq_true rfl)
  rw [lg_entry_eq]
  generalize (lg_sl ([.ref (q 0)]) ++ List.replicate (3 - (lg_sl ([.ref (q 0)])).length) Slot.unset).toArray = ls at hl ⊢
  have hl : lv_has ls 3 [(0, .ref (q 0))] := hl
  unfold fX5_boundedRooms at h
  refine lv_aload_n hx hb dX5_boundedRooms_0 rfl (lv_at hl 0 rfl) ?_
  obtain ⟨u1, e2, h⟩ := bd_some h
  refine k_r (va_runV (As := []) (rest := []) ⟨hx, hb, hml, hown, hts⟩ (kX5_freshCut l D q cI cJ cZ tP s.heap.size vnum vsz vfr vfo vli va vb vc ve vth vrk vcm vkx vky vkz vmk vre vro vwi vla vlb vtu k0x k0y k0z k1x k1y k1z k2x k2y k2z k3x k3y k3z  u1 e2) (cwV 0 hts gX5_boundedRooms_X5_freshCut rfl rfl rfl (by decide +kernel) ⟨Nat.le_of_ble_eq_true rfl, Nat.le_of_ble_eq_true rfl⟩) ⟨cPre_blind, va_recv hK hP (ci := 5) (q0 := 0) rfl rfl, cPre_at hP hK hN hD hS hA hZ⟩ rfl rfl hl.1 rfl (lv_room (Nat.le_of_ble_eq_true rfl)) dX5_boundedRooms_1 ⟨Nat.le_of_ble_eq_true rfl, Nat.le_of_ble_eq_true rfl⟩) hD hS hA (fun H locs hP hD hS => ?_)
  refine lv_pop hx hb dX5_boundedRooms_4 rfl ?_
  refine lv_aload_n hx hb dX5_boundedRooms_5 rfl (lv_at hl 0 rfl) ?_
  refine va_get (D := D) (ci := 5) (v := .ref (q 7)) (C := RX5) (T := TX5) (N := 5) hx hb hts wiX5_boundedRooms_X5 hown hK hP 0 rfl rfl 1 (by decide) (hts _ wmX5_boundedRooms_0) (fun _ h9 => h9) rfl dX5_boundedRooms_6 ?_
  obtain ⟨u3, e4, h⟩ := bd_some h
  refine k_i (va_runV (As := []) (rest := []) ⟨hx, hb, hml, hown, hts⟩ (kX2_rankOfAll l D q cI cJ cZ tP H.size vnum vsz u1.1 u1.2.1 u1.2.2.1 va vb vc ve vth u1.2.2.2.1 u1.2.2.2.2.1 u1.2.2.2.2.2.1 u1.2.2.2.2.2.2.1 u1.2.2.2.2.2.2.2.1 u1.2.2.2.2.2.2.2.2.1 u1.2.2.2.2.2.2.2.2.2.1 u1.2.2.2.2.2.2.2.2.2.2.1 u1.2.2.2.2.2.2.2.2.2.2.2.1 u1.2.2.2.2.2.2.2.2.2.2.2.2.1 u1.2.2.2.2.2.2.2.2.2.2.2.2.2.1 vtu u1.2.2.2.2.2.2.2.2.2.2.2.2.2.2.1 u1.2.2.2.2.2.2.2.2.2.2.2.2.2.2.2.1 u1.2.2.2.2.2.2.2.2.2.2.2.2.2.2.2.2.1 u1.2.2.2.2.2.2.2.2.2.2.2.2.2.2.2.2.2.1 u1.2.2.2.2.2.2.2.2.2.2.2.2.2.2.2.2.2.2.1 u1.2.2.2.2.2.2.2.2.2.2.2.2.2.2.2.2.2.2.2.1 u1.2.2.2.2.2.2.2.2.2.2.2.2.2.2.2.2.2.2.2.2.1 u1.2.2.2.2.2.2.2.2.2.2.2.2.2.2.2.2.2.2.2.2.2.1 u1.2.2.2.2.2.2.2.2.2.2.2.2.2.2.2.2.2.2.2.2.2.2.1 u1.2.2.2.2.2.2.2.2.2.2.2.2.2.2.2.2.2.2.2.2.2.2.2.1 u1.2.2.2.2.2.2.2.2.2.2.2.2.2.2.2.2.2.2.2.2.2.2.2.2.1 u1.2.2.2.2.2.2.2.2.2.2.2.2.2.2.2.2.2.2.2.2.2.2.2.2.2  u3 e4) (cwV 0 hts gX5_boundedRooms_X2_rankOfAll rfl rfl rfl (by decide +kernel) ⟨Nat.le_of_ble_eq_true rfl, Nat.le_of_ble_eq_true rfl⟩) ⟨cPre_blind, va_recv hK hP (ci := 2) (q0 := 7) rfl rfl, cPre_at hP hK hN hD hS hA hZ⟩ rfl rfl hl.1 rfl (lv_room (Nat.le_of_ble_eq_true rfl)) dX5_boundedRooms_9 ⟨Nat.le_of_ble_eq_true rfl, Nat.le_of_ble_eq_true rfl⟩) hD hS hA (fun H locs hP hD hS => ?_)
  refine lv_aload_n hx hb dX5_boundedRooms_12 rfl (lv_at hl 0 rfl) ?_
  refine va_get (D := D) (ci := 5) (v := .ref (q 1)) (C := RX5) (T := TX5) (N := 5) hx hb hts wiX5_boundedRooms_X5 hown hK hP 0 rfl rfl 0 (by decide) (hts _ wmX5_boundedRooms_1) (fun _ h9 => h9) rfl dX5_boundedRooms_13 ?_
  refine va_getN (D := D) (ci := 3) (v := .int vnum) (C := RX3) (T := TX3) (N := 7) hx hb hts wiX5_boundedRooms_X3 hown hK hP 1 rfl rfl 0 (by decide) (NW_f hN 7 rfl) (fun _ h9 => h9) rfl dX5_boundedRooms_16 ?_
  refine lv_icmp_ge (tgt := 24) hx hb dX5_boundedRooms_19 (by decide) (fun c5 => ?_) (fun c5 => ?_)
  · have h := (if_pos c5).symm.trans h
    refine lv_iconst (v := (0 : Int32)) hx hb dX5_boundedRooms_24 (by decide) ?_
    refine lv_istore_n (lv' := [(1, .int (0 : Int32)), (0, .ref (q 0))]) hx hb dX5_boundedRooms_25 rfl hl (by decide) rfl (fun ls hl => ?_)
    refine lv_iconst (v := (0 : Int32)) hx hb dX5_boundedRooms_26 (by decide) ?_
    refine lv_istore_n (lv' := [(2, .int (0 : Int32)), (1, .int (0 : Int32)), (0, .ref (q 0))]) hx hb dX5_boundedRooms_27 rfl hl (by decide) rfl (fun ls hl => ?_)
    obtain ⟨u8, e9, h⟩ := bd_some h
    refine W_leave (P := fun (y : (Int32 × Int32)) H locs ls => u8 = y ∧ va_P D vwCl (WC_ q cI cZ vnum vsz u1.1 u1.2.1 u1.2.2.1 va vb vc ve vth u1.2.2.2.1 u1.2.2.2.2.1 u1.2.2.2.2.2.1 u1.2.2.2.2.2.2.1 u1.2.2.2.2.2.2.2.1 u1.2.2.2.2.2.2.2.2.1 u1.2.2.2.2.2.2.2.2.2.1 u1.2.2.2.2.2.2.2.2.2.2.1 u1.2.2.2.2.2.2.2.2.2.2.2.1 u1.2.2.2.2.2.2.2.2.2.2.2.2.1 u1.2.2.2.2.2.2.2.2.2.2.2.2.2.1 vtu u1.2.2.2.2.2.2.2.2.2.2.2.2.2.2.1 u1.2.2.2.2.2.2.2.2.2.2.2.2.2.2.2.1 u1.2.2.2.2.2.2.2.2.2.2.2.2.2.2.2.2.1 u1.2.2.2.2.2.2.2.2.2.2.2.2.2.2.2.2.2.1 u1.2.2.2.2.2.2.2.2.2.2.2.2.2.2.2.2.2.2.1 u1.2.2.2.2.2.2.2.2.2.2.2.2.2.2.2.2.2.2.2.1 u1.2.2.2.2.2.2.2.2.2.2.2.2.2.2.2.2.2.2.2.2.1 u1.2.2.2.2.2.2.2.2.2.2.2.2.2.2.2.2.2.2.2.2.2.1 u1.2.2.2.2.2.2.2.2.2.2.2.2.2.2.2.2.2.2.2.2.2.2.1 u1.2.2.2.2.2.2.2.2.2.2.2.2.2.2.2.2.2.2.2.2.2.2.2.1 u1.2.2.2.2.2.2.2.2.2.2.2.2.2.2.2.2.2.2.2.2.2.2.2.2.1 u1.2.2.2.2.2.2.2.2.2.2.2.2.2.2.2.2.2.2.2.2.2.2.2.2.2) H ∧ va_D A (WC_ q cI cZ vnum vsz u1.1 u1.2.1 u1.2.2.1 va vb vc ve vth u1.2.2.2.1 u1.2.2.2.2.1 u1.2.2.2.2.2.1 u1.2.2.2.2.2.2.1 u1.2.2.2.2.2.2.2.1 u1.2.2.2.2.2.2.2.2.1 u1.2.2.2.2.2.2.2.2.2.1 u1.2.2.2.2.2.2.2.2.2.2.1 u1.2.2.2.2.2.2.2.2.2.2.2.1 u1.2.2.2.2.2.2.2.2.2.2.2.2.1 u1.2.2.2.2.2.2.2.2.2.2.2.2.2.1 vtu u1.2.2.2.2.2.2.2.2.2.2.2.2.2.2.1 u1.2.2.2.2.2.2.2.2.2.2.2.2.2.2.2.1 u1.2.2.2.2.2.2.2.2.2.2.2.2.2.2.2.2.1 u1.2.2.2.2.2.2.2.2.2.2.2.2.2.2.2.2.2.1 u1.2.2.2.2.2.2.2.2.2.2.2.2.2.2.2.2.2.2.1 u1.2.2.2.2.2.2.2.2.2.2.2.2.2.2.2.2.2.2.2.1 u1.2.2.2.2.2.2.2.2.2.2.2.2.2.2.2.2.2.2.2.2.1 u1.2.2.2.2.2.2.2.2.2.2.2.2.2.2.2.2.2.2.2.2.2.1 u1.2.2.2.2.2.2.2.2.2.2.2.2.2.2.2.2.2.2.2.2.2.2.1 u1.2.2.2.2.2.2.2.2.2.2.2.2.2.2.2.2.2.2.2.2.2.2.2.1 u1.2.2.2.2.2.2.2.2.2.2.2.2.2.2.2.2.2.2.2.2.2.2.2.2.1 u1.2.2.2.2.2.2.2.2.2.2.2.2.2.2.2.2.2.2.2.2.2.2.2.2.2) ∧ va_S A s.heap H locs ∧ lv_has ls 3 [(2, .int y.1), (1, .int y.2), (0, .ref (q 0))]) (g := fun ls => F0 m 57 ls []) ?_ ?_
    · intro y H locs ls hq
      obtain ⟨hy, hP, hD, hS, hl⟩ := hq
      subst hy
      have hl : lv_has ls 3 [(2, .int u8.1), (1, .int u8.2), (0, .ref (q 0))] := hl
      refine lv_iload_n hx hb dX5_boundedRooms_57 rfl (lv_at hl 1 rfl) ?_
      refine va_mabs hx hb (hml.trans hl.1.symm) hown (hts _ wmX5_boundedRooms_2) (hts _ wmX5_boundedRooms_3) (hts _ wmX5_boundedRooms_4) (hts _ wmX5_boundedRooms_5) (Nat.le_of_ble_eq_true rfl) (Nat.le_of_ble_eq_true rfl) (Nat.le_of_ble_eq_true rfl) (Nat.le_of_ble_eq_true rfl) dX5_boundedRooms_58 ?_
      obtain rfl := Option.some.inj h
      exact W.iret (v := (if 0 ≤ u8.2 then u8.2 else 0 - u8.2)) hx hb hr (fun t ht hW => ⟨⟨(if 0 ≤ u8.2 then u8.2 else 0 - u8.2), (), rfl, rfl, by rw [ht]; exact hP, hD⟩, hS.F ht⟩) hS.2.2 dX5_boundedRooms_61
    · intro K10
      refine W_lp (body := (fun (st : (Int32 × Int32)) => fX5_boundedRooms_L28 vnum vsz u1 st.1 st.2)) (P := fun (st : (Int32 × Int32)) H locs ls => va_P D vwCl (WC_ q cI cZ vnum vsz u1.1 u1.2.1 u1.2.2.1 va vb vc ve vth u1.2.2.2.1 u1.2.2.2.2.1 u1.2.2.2.2.2.1 u1.2.2.2.2.2.2.1 u1.2.2.2.2.2.2.2.1 u1.2.2.2.2.2.2.2.2.1 u1.2.2.2.2.2.2.2.2.2.1 u1.2.2.2.2.2.2.2.2.2.2.1 u1.2.2.2.2.2.2.2.2.2.2.2.1 u1.2.2.2.2.2.2.2.2.2.2.2.2.1 u1.2.2.2.2.2.2.2.2.2.2.2.2.2.1 vtu u1.2.2.2.2.2.2.2.2.2.2.2.2.2.2.1 u1.2.2.2.2.2.2.2.2.2.2.2.2.2.2.2.1 u1.2.2.2.2.2.2.2.2.2.2.2.2.2.2.2.2.1 u1.2.2.2.2.2.2.2.2.2.2.2.2.2.2.2.2.2.1 u1.2.2.2.2.2.2.2.2.2.2.2.2.2.2.2.2.2.2.1 u1.2.2.2.2.2.2.2.2.2.2.2.2.2.2.2.2.2.2.2.1 u1.2.2.2.2.2.2.2.2.2.2.2.2.2.2.2.2.2.2.2.2.1 u1.2.2.2.2.2.2.2.2.2.2.2.2.2.2.2.2.2.2.2.2.2.1 u1.2.2.2.2.2.2.2.2.2.2.2.2.2.2.2.2.2.2.2.2.2.2.1 u1.2.2.2.2.2.2.2.2.2.2.2.2.2.2.2.2.2.2.2.2.2.2.2.1 u1.2.2.2.2.2.2.2.2.2.2.2.2.2.2.2.2.2.2.2.2.2.2.2.2.1 u1.2.2.2.2.2.2.2.2.2.2.2.2.2.2.2.2.2.2.2.2.2.2.2.2.2) H ∧ va_D A (WC_ q cI cZ vnum vsz u1.1 u1.2.1 u1.2.2.1 va vb vc ve vth u1.2.2.2.1 u1.2.2.2.2.1 u1.2.2.2.2.2.1 u1.2.2.2.2.2.2.1 u1.2.2.2.2.2.2.2.1 u1.2.2.2.2.2.2.2.2.1 u1.2.2.2.2.2.2.2.2.2.1 u1.2.2.2.2.2.2.2.2.2.2.1 u1.2.2.2.2.2.2.2.2.2.2.2.1 u1.2.2.2.2.2.2.2.2.2.2.2.2.1 u1.2.2.2.2.2.2.2.2.2.2.2.2.2.1 vtu u1.2.2.2.2.2.2.2.2.2.2.2.2.2.2.1 u1.2.2.2.2.2.2.2.2.2.2.2.2.2.2.2.1 u1.2.2.2.2.2.2.2.2.2.2.2.2.2.2.2.2.1 u1.2.2.2.2.2.2.2.2.2.2.2.2.2.2.2.2.2.1 u1.2.2.2.2.2.2.2.2.2.2.2.2.2.2.2.2.2.2.1 u1.2.2.2.2.2.2.2.2.2.2.2.2.2.2.2.2.2.2.2.1 u1.2.2.2.2.2.2.2.2.2.2.2.2.2.2.2.2.2.2.2.2.1 u1.2.2.2.2.2.2.2.2.2.2.2.2.2.2.2.2.2.2.2.2.2.1 u1.2.2.2.2.2.2.2.2.2.2.2.2.2.2.2.2.2.2.2.2.2.2.1 u1.2.2.2.2.2.2.2.2.2.2.2.2.2.2.2.2.2.2.2.2.2.2.2.1 u1.2.2.2.2.2.2.2.2.2.2.2.2.2.2.2.2.2.2.2.2.2.2.2.2.1 u1.2.2.2.2.2.2.2.2.2.2.2.2.2.2.2.2.2.2.2.2.2.2.2.2.2) ∧ va_S A s.heap H locs ∧ lv_has ls 3 [(2, .int st.1), (1, .int st.2), (0, .ref (q 0))]) (g := fun _ ls => F0 m 28 ls []) (r := u8) ?_ fu_ ((0 : Int32), (0 : Int32)) _ _ _ e9 ⟨hP, hD, hS, lv_sub hl [0, 1, 2] rfl⟩
      intro st xx14 H locs ls h hq ih13 hR12
      obtain ⟨hP, hD, hS, hl⟩ := hq
      obtain ⟨v6, v7⟩ := st
      have hP : va_P D vwCl (WC_ q cI cZ vnum vsz u1.1 u1.2.1 u1.2.2.1 va vb vc ve vth u1.2.2.2.1 u1.2.2.2.2.1 u1.2.2.2.2.2.1 u1.2.2.2.2.2.2.1 u1.2.2.2.2.2.2.2.1 u1.2.2.2.2.2.2.2.2.1 u1.2.2.2.2.2.2.2.2.2.1 u1.2.2.2.2.2.2.2.2.2.2.1 u1.2.2.2.2.2.2.2.2.2.2.2.1 u1.2.2.2.2.2.2.2.2.2.2.2.2.1 u1.2.2.2.2.2.2.2.2.2.2.2.2.2.1 vtu u1.2.2.2.2.2.2.2.2.2.2.2.2.2.2.1 u1.2.2.2.2.2.2.2.2.2.2.2.2.2.2.2.1 u1.2.2.2.2.2.2.2.2.2.2.2.2.2.2.2.2.1 u1.2.2.2.2.2.2.2.2.2.2.2.2.2.2.2.2.2.1 u1.2.2.2.2.2.2.2.2.2.2.2.2.2.2.2.2.2.2.1 u1.2.2.2.2.2.2.2.2.2.2.2.2.2.2.2.2.2.2.2.1 u1.2.2.2.2.2.2.2.2.2.2.2.2.2.2.2.2.2.2.2.2.1 u1.2.2.2.2.2.2.2.2.2.2.2.2.2.2.2.2.2.2.2.2.2.1 u1.2.2.2.2.2.2.2.2.2.2.2.2.2.2.2.2.2.2.2.2.2.2.1 u1.2.2.2.2.2.2.2.2.2.2.2.2.2.2.2.2.2.2.2.2.2.2.2.1 u1.2.2.2.2.2.2.2.2.2.2.2.2.2.2.2.2.2.2.2.2.2.2.2.2.1 u1.2.2.2.2.2.2.2.2.2.2.2.2.2.2.2.2.2.2.2.2.2.2.2.2.2) H := hP
      have hD : va_D A (WC_ q cI cZ vnum vsz u1.1 u1.2.1 u1.2.2.1 va vb vc ve vth u1.2.2.2.1 u1.2.2.2.2.1 u1.2.2.2.2.2.1 u1.2.2.2.2.2.2.1 u1.2.2.2.2.2.2.2.1 u1.2.2.2.2.2.2.2.2.1 u1.2.2.2.2.2.2.2.2.2.1 u1.2.2.2.2.2.2.2.2.2.2.1 u1.2.2.2.2.2.2.2.2.2.2.2.1 u1.2.2.2.2.2.2.2.2.2.2.2.2.1 u1.2.2.2.2.2.2.2.2.2.2.2.2.2.1 vtu u1.2.2.2.2.2.2.2.2.2.2.2.2.2.2.1 u1.2.2.2.2.2.2.2.2.2.2.2.2.2.2.2.1 u1.2.2.2.2.2.2.2.2.2.2.2.2.2.2.2.2.1 u1.2.2.2.2.2.2.2.2.2.2.2.2.2.2.2.2.2.1 u1.2.2.2.2.2.2.2.2.2.2.2.2.2.2.2.2.2.2.1 u1.2.2.2.2.2.2.2.2.2.2.2.2.2.2.2.2.2.2.2.1 u1.2.2.2.2.2.2.2.2.2.2.2.2.2.2.2.2.2.2.2.2.1 u1.2.2.2.2.2.2.2.2.2.2.2.2.2.2.2.2.2.2.2.2.2.1 u1.2.2.2.2.2.2.2.2.2.2.2.2.2.2.2.2.2.2.2.2.2.2.1 u1.2.2.2.2.2.2.2.2.2.2.2.2.2.2.2.2.2.2.2.2.2.2.2.1 u1.2.2.2.2.2.2.2.2.2.2.2.2.2.2.2.2.2.2.2.2.2.2.2.2.1 u1.2.2.2.2.2.2.2.2.2.2.2.2.2.2.2.2.2.2.2.2.2.2.2.2.2) := hD
      have hl : lv_has ls 3 [(2, .int v6), (1, .int v7), (0, .ref (q 0))] := hl
      have h : fX5_boundedRooms_L28 vnum vsz u1 v6 v7 = some xx14 := h
      unfold fX5_boundedRooms_L28 at h
      refine lv_iload_n hx hb dX5_boundedRooms_28 rfl (lv_at hl 0 rfl) ?_
      refine lv_aload_n hx hb dX5_boundedRooms_29 rfl (lv_at hl 2 rfl) ?_
      refine va_get (D := D) (ci := 5) (v := .ref (q 1)) (C := RX5) (T := TX5) (N := 5) hx hb hts wiX5_boundedRooms_X5 hown hK hP 0 rfl rfl 0 (by decide) (hts _ wmX5_boundedRooms_1) (fun _ h9 => h9) rfl dX5_boundedRooms_30 ?_
      refine va_getN (D := D) (ci := 3) (v := .int vnum) (C := RX3) (T := TX3) (N := 7) hx hb hts wiX5_boundedRooms_X3 hown hK hP 1 rfl rfl 0 (by decide) (NW_f hN 7 rfl) (fun _ h9 => h9) rfl dX5_boundedRooms_33 ?_
      refine lv_icmp_gt (tgt := 57) hx hb dX5_boundedRooms_36 (by decide) (fun c15 => ?_) (fun c15 => ?_)
      · have h := (if_pos c15).symm.trans h
        exact K10 _ _ _ _ ⟨(hR12 _ (Option.some.inj h).symm).symm, hP, hD, hS, lv_sub hl [0, 1, 2] rfl⟩
      · have h := (if_neg c15).symm.trans h
        refine lv_iload_n hx hb dX5_boundedRooms_39 rfl (lv_at hl 1 rfl) ?_
        refine lv_aload_n hx hb dX5_boundedRooms_40 rfl (lv_at hl 2 rfl) ?_
        refine va_get (D := D) (ci := 5) (v := .ref (q 7)) (C := RX5) (T := TX5) (N := 5) hx hb hts wiX5_boundedRooms_X5 hown hK hP 0 rfl rfl 1 (by decide) (hts _ wmX5_boundedRooms_0) (fun _ h9 => h9) rfl dX5_boundedRooms_41 ?_
        refine lv_iload_n hx hb dX5_boundedRooms_44 rfl (lv_at hl 0 rfl) ?_
        refine lv_iconst (v := (0 : Int32)) hx hb dX5_boundedRooms_45 (by decide) ?_
        obtain ⟨u16, e17, h⟩ := bd_some h
        refine k_i (va_runV (As := [.int v6, .int (0 : Int32)]) (rest := [.int v7]) ⟨hx, hb, hml, hown, hts⟩ (kX2_factor l D q cI cJ cZ tP H.size vnum vsz u1.1 u1.2.1 u1.2.2.1 va vb vc ve vth u1.2.2.2.1 u1.2.2.2.2.1 u1.2.2.2.2.2.1 u1.2.2.2.2.2.2.1 u1.2.2.2.2.2.2.2.1 u1.2.2.2.2.2.2.2.2.1 u1.2.2.2.2.2.2.2.2.2.1 u1.2.2.2.2.2.2.2.2.2.2.1 u1.2.2.2.2.2.2.2.2.2.2.2.1 u1.2.2.2.2.2.2.2.2.2.2.2.2.1 u1.2.2.2.2.2.2.2.2.2.2.2.2.2.1 vtu u1.2.2.2.2.2.2.2.2.2.2.2.2.2.2.1 u1.2.2.2.2.2.2.2.2.2.2.2.2.2.2.2.1 u1.2.2.2.2.2.2.2.2.2.2.2.2.2.2.2.2.1 u1.2.2.2.2.2.2.2.2.2.2.2.2.2.2.2.2.2.1 u1.2.2.2.2.2.2.2.2.2.2.2.2.2.2.2.2.2.2.1 u1.2.2.2.2.2.2.2.2.2.2.2.2.2.2.2.2.2.2.2.1 u1.2.2.2.2.2.2.2.2.2.2.2.2.2.2.2.2.2.2.2.2.1 u1.2.2.2.2.2.2.2.2.2.2.2.2.2.2.2.2.2.2.2.2.2.1 u1.2.2.2.2.2.2.2.2.2.2.2.2.2.2.2.2.2.2.2.2.2.2.1 u1.2.2.2.2.2.2.2.2.2.2.2.2.2.2.2.2.2.2.2.2.2.2.2.1 u1.2.2.2.2.2.2.2.2.2.2.2.2.2.2.2.2.2.2.2.2.2.2.2.2.1 u1.2.2.2.2.2.2.2.2.2.2.2.2.2.2.2.2.2.2.2.2.2.2.2.2.2 v6 (0 : Int32) u16 e17) (cwV 2 hts gX5_boundedRooms_X2_factor rfl rfl rfl (by decide +kernel) ⟨Nat.le_of_ble_eq_true rfl, Nat.le_of_ble_eq_true rfl⟩) ⟨cPre_blind, va_recv hK hP (ci := 2) (q0 := 7) rfl rfl, cPre_at hP hK hN hD hS hA hZ⟩ rfl rfl hl.1 rfl (lv_room (Nat.le_of_ble_eq_true rfl)) dX5_boundedRooms_46 ⟨Nat.le_of_ble_eq_true rfl, Nat.le_of_ble_eq_true rfl⟩) hD hS hA (fun H locs hP hD hS => ?_)
        refine lv_iadd hx hb dX5_boundedRooms_49 ?_
        refine lv_istore_n (lv' := [(1, .int (v7 + u16)), (2, .int v6), (0, .ref (q 0))]) hx hb dX5_boundedRooms_50 rfl hl (by decide) rfl (fun ls hl => ?_)
        refine lv_iinc (v := (v6 + (1 : Int32))) (lv' := [(2, .int (v6 + (1 : Int32))), (1, .int (v7 + u16)), (0, .ref (q 0))]) hx hb dX5_boundedRooms_51 hl (k := 1) rfl rfl (by decide) rfl (fun ls hl => ?_)
        refine lv_goto (tgt := 28) hx hb dX5_boundedRooms_54 (by decide) ?_
        exact ih13 _ _ _ _ (Option.some.inj h).symm ⟨hP, hD, hS, lv_sub hl [0, 1, 2] rfl⟩
  · have h := (if_neg c5).symm.trans h
    refine lv_iconst (v := (0 : Int32)) hx hb dX5_boundedRooms_22 (by decide) ?_
    obtain rfl := Option.some.inj h
    exact W.iret (v := (0 : Int32)) hx hb hr (fun t ht hW => ⟨⟨(0 : Int32), (), rfl, rfl, by rw [ht]; exact hP, hD⟩, hS.F ht⟩) hS.2.2 dX5_boundedRooms_23

-- X5_poly
theorem wmX5_poly_0 : (.fieldLink RX5 32 "SpaceWalls" "heaps" "LSpaceWalls$Heaps;" : Cond) ∈ wsX5_poly := by decide +kernel
theorem wiX5_poly_X5 : ∀ w ∈ u_ws RX5 TX5 5, w ∈ wsX5_poly := by decide +kernel
set_option maxHeartbeats 8000000 in
set_option maxRecDepth 100000 in
theorem kX5_poly (l : Launch) (D : va_G) (q : Nat → Nat) (cI cJ cZ : ClassId) (tP sz : Nat) (vnum : Int32) (vsz : Int32) (vfr : Int32) (vfo : Int32) (vli : Int32) (va : (Nat → Int32)) (vb : (Nat → Int32)) (vc : (Nat → Int32)) (ve : (Nat → Int32)) (vth : (Nat → Int32)) (vrk : (Nat → Int32)) (vcm : (Nat → Int32)) (vkx : (Nat → Int32)) (vky : (Nat → Int32)) (vkz : (Nat → Int32)) (vmk : (Nat → Int32)) (vre : (Nat → Int32)) (vro : (Nat → Int32)) (vwi : (Nat → Int32)) (vla : (Nat → Int32)) (vlb : (Nat → Int32)) (vtu : (Nat → Int32)) (k0x : Int32) (k0y : Int32) (k0z : Int32) (k1x : Int32) (k1y : Int32) (k1z : Int32) (k2x : Int32) (k2y : Int32) (k2z : Int32) (k3x : Int32) (k3y : Int32) (k3z : Int32) (p1 : Int32) (uu : (Int32 × Int32 × Int32 × Int32 × (Nat → Int32) × (Nat → Int32) × (Nat → Int32) × (Nat → Int32) × (Nat → Int32) × (Nat → Int32) × (Nat → Int32) × (Nat → Int32) × (Nat → Int32) × (Nat → Int32) × (Nat → Int32) × Int32 × Int32 × Int32 × Int32 × Int32 × Int32 × Int32 × Int32 × Int32 × Int32 × Int32 × Int32)) (h : fX5_poly vnum vsz vfr vfo vli va vb vc ve vth vrk vcm vkx vky vkz vmk vre vro vwi vla vlb k0x k0y k0z k1x k1y k1z k2x k2y k2z k3x k3y k3z p1 = some uu) : Met l yX5_poly wsX5_poly ({ frames := 7, cells := 0, slots := 0, locals := 167 }) (cPre D cI cJ cZ tP (WC_ q cI cZ vnum vsz vfr vfo vli va vb vc ve vth vrk vcm vkx vky vkz vmk vre vro vwi vla vlb vtu k0x k0y k0z k1x k1y k1z k2x k2y k2z k3x k3y k3z) sz [.ref (q 0), .int p1]) (cQi D (va_A (WC_ q cI cZ vnum vsz vfr vfo vli va vb vc ve vth vrk vcm vkx vky vkz vmk vre vro vwi vla vlb vtu k0x k0y k0z k1x k1y k1z k2x k2y k2z k3x k3y k3z) sz) (WC_ q cI cZ vnum vsz uu.2.1 uu.2.2.1 uu.2.2.2.1 va vb vc ve vth uu.2.2.2.2.1 uu.2.2.2.2.2.1 uu.2.2.2.2.2.2.1 uu.2.2.2.2.2.2.2.1 uu.2.2.2.2.2.2.2.2.1 uu.2.2.2.2.2.2.2.2.2.1 uu.2.2.2.2.2.2.2.2.2.2.1 uu.2.2.2.2.2.2.2.2.2.2.2.1 uu.2.2.2.2.2.2.2.2.2.2.2.2.1 uu.2.2.2.2.2.2.2.2.2.2.2.2.2.1 uu.2.2.2.2.2.2.2.2.2.2.2.2.2.2.1 vtu uu.2.2.2.2.2.2.2.2.2.2.2.2.2.2.2.1 uu.2.2.2.2.2.2.2.2.2.2.2.2.2.2.2.2.1 uu.2.2.2.2.2.2.2.2.2.2.2.2.2.2.2.2.2.1 uu.2.2.2.2.2.2.2.2.2.2.2.2.2.2.2.2.2.2.1 uu.2.2.2.2.2.2.2.2.2.2.2.2.2.2.2.2.2.2.2.1 uu.2.2.2.2.2.2.2.2.2.2.2.2.2.2.2.2.2.2.2.2.1 uu.2.2.2.2.2.2.2.2.2.2.2.2.2.2.2.2.2.2.2.2.2.1 uu.2.2.2.2.2.2.2.2.2.2.2.2.2.2.2.2.2.2.2.2.2.2.1 uu.2.2.2.2.2.2.2.2.2.2.2.2.2.2.2.2.2.2.2.2.2.2.2.1 uu.2.2.2.2.2.2.2.2.2.2.2.2.2.2.2.2.2.2.2.2.2.2.2.2.1 uu.2.2.2.2.2.2.2.2.2.2.2.2.2.2.2.2.2.2.2.2.2.2.2.2.2.1 uu.2.2.2.2.2.2.2.2.2.2.2.2.2.2.2.2.2.2.2.2.2.2.2.2.2.2) uu.1) 0 0 (va_A (WC_ q cI cZ vnum vsz vfr vfo vli va vb vc ve vth vrk vcm vkx vky vkz vmk vre vro vwi vla vlb vtu k0x k0y k0z k1x k1y k1z k2x k2y k2z k3x k3y k3z) sz) := by
  refine Met.ofW (cc := cX5_poly) (maxL := 2) (ret := (some .int)) (by decide) rfl ?_
  intro p e s m args below meth c s₁ B hml hv
  obtain ⟨rfl, hsz, hP, hK, hN, hD0, hZ⟩ := hv
  have hx := B.exec
  have hb := B.bytes
  have hr := B.returns
  have hts := atoms_spec (ws := wsX5_poly) B.pre
  have hown : s.vm.findClass RX5 = some m.cls := findClass_of_methodNamed B.named
  have hlocks := B.notSynchronized
  subst hsz
  have hD := hD0.self (sz := s.heap.size)
  generalize hAe : va_A (WC_ q cI cZ vnum vsz vfr vfo vli va vb vc ve vth vrk vcm vkx vky vkz vmk vre vro vwi vla vlb vtu k0x k0y k0z k1x k1y k1z k2x k2y k2z k3x k3y k3z) s.heap.size = A at hD hZ ⊢
  have hA : ∀ q : Nat, s.heap.size ≤ q → A q := fun q h => by rw [← hAe]; exact Or.inr h
  have hS : va_S A s.heap s.heap [] := va_S.rf
  have hl := lv_entry ([.ref (q 0), .int p1]) (n := 2) (Nat.le_of_ble_eq_true rfl)
  rw [lg_entry_eq]
  generalize (lg_sl ([.ref (q 0), .int p1]) ++ List.replicate (2 - (lg_sl ([.ref (q 0), .int p1])).length) Slot.unset).toArray = ls at hl ⊢
  have hl : lv_has ls 2 [(0, .ref (q 0)), (1, .int p1)] := hl
  unfold fX5_poly at h
  refine lv_aload_n hx hb dX5_poly_0 rfl (lv_at hl 0 rfl) ?_
  obtain ⟨u1, e2, h⟩ := bd_some h
  refine k_r (va_runV (As := []) (rest := []) ⟨hx, hb, hml, hown, hts⟩ (kX5_freshCut l D q cI cJ cZ tP s.heap.size vnum vsz vfr vfo vli va vb vc ve vth vrk vcm vkx vky vkz vmk vre vro vwi vla vlb vtu k0x k0y k0z k1x k1y k1z k2x k2y k2z k3x k3y k3z  u1 e2) (cwV 0 hts gX5_poly_X5_freshCut rfl rfl rfl (by decide +kernel) ⟨Nat.le_of_ble_eq_true rfl, Nat.le_of_ble_eq_true rfl⟩) ⟨cPre_blind, va_recv hK hP (ci := 5) (q0 := 0) rfl rfl, cPre_at hP hK hN hD hS hA hZ⟩ rfl rfl hl.1 rfl (lv_room (Nat.le_of_ble_eq_true rfl)) dX5_poly_1 ⟨Nat.le_of_ble_eq_true rfl, Nat.le_of_ble_eq_true rfl⟩) hD hS hA (fun H locs hP hD hS => ?_)
  refine lv_pop hx hb dX5_poly_4 rfl ?_
  refine lv_aload_n hx hb dX5_poly_5 rfl (lv_at hl 0 rfl) ?_
  refine va_get (D := D) (ci := 5) (v := .ref (q 7)) (C := RX5) (T := TX5) (N := 5) hx hb hts wiX5_poly_X5 hown hK hP 0 rfl rfl 1 (by decide) (hts _ wmX5_poly_0) (fun _ h9 => h9) rfl dX5_poly_6 ?_
  refine lv_iload_n hx hb dX5_poly_9 rfl (lv_at hl 1 rfl) ?_
  refine lv_iconst (v := (0 : Int32)) hx hb dX5_poly_10 (by decide) ?_
  obtain ⟨u3, e4, h⟩ := bd_some h
  refine k_i (va_runV (As := [.int p1, .int (0 : Int32)]) (rest := []) ⟨hx, hb, hml, hown, hts⟩ (kX2_factor l D q cI cJ cZ tP H.size vnum vsz u1.1 u1.2.1 u1.2.2.1 va vb vc ve vth u1.2.2.2.1 u1.2.2.2.2.1 u1.2.2.2.2.2.1 u1.2.2.2.2.2.2.1 u1.2.2.2.2.2.2.2.1 u1.2.2.2.2.2.2.2.2.1 u1.2.2.2.2.2.2.2.2.2.1 u1.2.2.2.2.2.2.2.2.2.2.1 u1.2.2.2.2.2.2.2.2.2.2.2.1 u1.2.2.2.2.2.2.2.2.2.2.2.2.1 u1.2.2.2.2.2.2.2.2.2.2.2.2.2.1 vtu u1.2.2.2.2.2.2.2.2.2.2.2.2.2.2.1 u1.2.2.2.2.2.2.2.2.2.2.2.2.2.2.2.1 u1.2.2.2.2.2.2.2.2.2.2.2.2.2.2.2.2.1 u1.2.2.2.2.2.2.2.2.2.2.2.2.2.2.2.2.2.1 u1.2.2.2.2.2.2.2.2.2.2.2.2.2.2.2.2.2.2.1 u1.2.2.2.2.2.2.2.2.2.2.2.2.2.2.2.2.2.2.2.1 u1.2.2.2.2.2.2.2.2.2.2.2.2.2.2.2.2.2.2.2.2.1 u1.2.2.2.2.2.2.2.2.2.2.2.2.2.2.2.2.2.2.2.2.2.1 u1.2.2.2.2.2.2.2.2.2.2.2.2.2.2.2.2.2.2.2.2.2.2.1 u1.2.2.2.2.2.2.2.2.2.2.2.2.2.2.2.2.2.2.2.2.2.2.2.1 u1.2.2.2.2.2.2.2.2.2.2.2.2.2.2.2.2.2.2.2.2.2.2.2.2.1 u1.2.2.2.2.2.2.2.2.2.2.2.2.2.2.2.2.2.2.2.2.2.2.2.2.2 p1 (0 : Int32) u3 e4) (cwV 2 hts gX5_poly_X2_factor rfl rfl rfl (by decide +kernel) ⟨Nat.le_of_ble_eq_true rfl, Nat.le_of_ble_eq_true rfl⟩) ⟨cPre_blind, va_recv hK hP (ci := 2) (q0 := 7) rfl rfl, cPre_at hP hK hN hD hS hA hZ⟩ rfl rfl hl.1 rfl (lv_room (Nat.le_of_ble_eq_true rfl)) dX5_poly_11 ⟨Nat.le_of_ble_eq_true rfl, Nat.le_of_ble_eq_true rfl⟩) hD hS hA (fun H locs hP hD hS => ?_)
  obtain rfl := Option.some.inj h
  exact W.iret (v := u3) hx hb hr (fun t ht hW => ⟨⟨u3, (), rfl, rfl, by rw [ht]; exact hP, hD⟩, hS.F ht⟩) hS.2.2 dX5_poly_14

-- X5_without
theorem wmX5_without_0 : (.fieldLink RX5 23 "SpaceWalls" "planes" "LSpaceWalls$Planes;" : Cond) ∈ wsX5_without := by decide +kernel
theorem wmX5_without_1 : (.fieldLink RX5 32 "SpaceWalls" "heaps" "LSpaceWalls$Heaps;" : Cond) ∈ wsX5_without := by decide +kernel
theorem wiX5_without_X5 : ∀ w ∈ u_ws RX5 TX5 5, w ∈ wsX5_without := by decide +kernel
set_option maxHeartbeats 8000000 in
set_option maxRecDepth 100000 in
theorem kX5_without (l : Launch) (D : va_G) (q : Nat → Nat) (cI cJ cZ : ClassId) (tP sz : Nat) (vnum : Int32) (vsz : Int32) (vfr : Int32) (vfo : Int32) (vli : Int32) (va : (Nat → Int32)) (vb : (Nat → Int32)) (vc : (Nat → Int32)) (ve : (Nat → Int32)) (vth : (Nat → Int32)) (vrk : (Nat → Int32)) (vcm : (Nat → Int32)) (vkx : (Nat → Int32)) (vky : (Nat → Int32)) (vkz : (Nat → Int32)) (vmk : (Nat → Int32)) (vre : (Nat → Int32)) (vro : (Nat → Int32)) (vwi : (Nat → Int32)) (vla : (Nat → Int32)) (vlb : (Nat → Int32)) (vtu : (Nat → Int32)) (k0x : Int32) (k0y : Int32) (k0z : Int32) (k1x : Int32) (k1y : Int32) (k1z : Int32) (k2x : Int32) (k2y : Int32) (k2z : Int32) (k3x : Int32) (k3y : Int32) (k3z : Int32) (p1 : Int32) (p2 : Int32) (uu : (Int32 × Int32 × Int32 × Int32 × (Nat → Int32) × (Nat → Int32) × (Nat → Int32) × (Nat → Int32) × (Nat → Int32) × (Nat → Int32) × (Nat → Int32) × (Nat → Int32) × (Nat → Int32) × (Nat → Int32) × (Nat → Int32) × Int32 × Int32 × Int32 × Int32 × Int32 × Int32 × Int32 × Int32 × Int32 × Int32 × Int32 × Int32)) (h : fX5_without vnum vsz vfr vfo vli va vb vc ve vth vrk vcm vkx vky vkz vmk vre vro vwi vla vlb k0x k0y k0z k1x k1y k1z k2x k2y k2z k3x k3y k3z p1 p2 = some uu) : Met l yX5_without wsX5_without ({ frames := 7, cells := 0, slots := 0, locals := 167 }) (cPre D cI cJ cZ tP (WC_ q cI cZ vnum vsz vfr vfo vli va vb vc ve vth vrk vcm vkx vky vkz vmk vre vro vwi vla vlb vtu k0x k0y k0z k1x k1y k1z k2x k2y k2z k3x k3y k3z) sz [.ref (q 0), .int p1, .int p2]) (cQi D (va_A (WC_ q cI cZ vnum vsz vfr vfo vli va vb vc ve vth vrk vcm vkx vky vkz vmk vre vro vwi vla vlb vtu k0x k0y k0z k1x k1y k1z k2x k2y k2z k3x k3y k3z) sz) (WC_ q cI cZ vnum vsz uu.2.1 uu.2.2.1 uu.2.2.2.1 va vb vc ve vth uu.2.2.2.2.1 uu.2.2.2.2.2.1 uu.2.2.2.2.2.2.1 uu.2.2.2.2.2.2.2.1 uu.2.2.2.2.2.2.2.2.1 uu.2.2.2.2.2.2.2.2.2.1 uu.2.2.2.2.2.2.2.2.2.2.1 uu.2.2.2.2.2.2.2.2.2.2.2.1 uu.2.2.2.2.2.2.2.2.2.2.2.2.1 uu.2.2.2.2.2.2.2.2.2.2.2.2.2.1 uu.2.2.2.2.2.2.2.2.2.2.2.2.2.2.1 vtu uu.2.2.2.2.2.2.2.2.2.2.2.2.2.2.2.1 uu.2.2.2.2.2.2.2.2.2.2.2.2.2.2.2.2.1 uu.2.2.2.2.2.2.2.2.2.2.2.2.2.2.2.2.2.1 uu.2.2.2.2.2.2.2.2.2.2.2.2.2.2.2.2.2.2.1 uu.2.2.2.2.2.2.2.2.2.2.2.2.2.2.2.2.2.2.2.1 uu.2.2.2.2.2.2.2.2.2.2.2.2.2.2.2.2.2.2.2.2.1 uu.2.2.2.2.2.2.2.2.2.2.2.2.2.2.2.2.2.2.2.2.2.1 uu.2.2.2.2.2.2.2.2.2.2.2.2.2.2.2.2.2.2.2.2.2.2.1 uu.2.2.2.2.2.2.2.2.2.2.2.2.2.2.2.2.2.2.2.2.2.2.2.1 uu.2.2.2.2.2.2.2.2.2.2.2.2.2.2.2.2.2.2.2.2.2.2.2.2.1 uu.2.2.2.2.2.2.2.2.2.2.2.2.2.2.2.2.2.2.2.2.2.2.2.2.2.1 uu.2.2.2.2.2.2.2.2.2.2.2.2.2.2.2.2.2.2.2.2.2.2.2.2.2.2) uu.1) 0 0 (va_A (WC_ q cI cZ vnum vsz vfr vfo vli va vb vc ve vth vrk vcm vkx vky vkz vmk vre vro vwi vla vlb vtu k0x k0y k0z k1x k1y k1z k2x k2y k2z k3x k3y k3z) sz) := by
  refine Met.ofW (cc := cX5_without) (maxL := 3) (ret := (some .int)) (by decide) rfl ?_
  intro p e s m args below meth c s₁ B hml hv
  obtain ⟨rfl, hsz, hP, hK, hN, hD0, hZ⟩ := hv
  have hx := B.exec
  have hb := B.bytes
  have hr := B.returns
  have hts := atoms_spec (ws := wsX5_without) B.pre
  have hown : s.vm.findClass RX5 = some m.cls := findClass_of_methodNamed B.named
  have hlocks := B.notSynchronized
  subst hsz
  have hD := hD0.self (sz := s.heap.size)
  generalize hAe : va_A (WC_ q cI cZ vnum vsz vfr vfo vli va vb vc ve vth vrk vcm vkx vky vkz vmk vre vro vwi vla vlb vtu k0x k0y k0z k1x k1y k1z k2x k2y k2z k3x k3y k3z) s.heap.size = A at hD hZ ⊢
  have hA : ∀ q : Nat, s.heap.size ≤ q → A q := fun q h => by rw [← hAe]; exact Or.inr h
  have hS : va_S A s.heap s.heap [] := va_S.rf
  have hl := lv_entry ([.ref (q 0), .int p1, .int p2]) (n := 3) (Nat.le_of_ble_eq_true rfl)
  rw [lg_entry_eq]
  generalize (lg_sl ([.ref (q 0), .int p1, .int p2]) ++ List.replicate (3 - (lg_sl ([.ref (q 0), .int p1, .int p2])).length) Slot.unset).toArray = ls at hl ⊢
  have hl : lv_has ls 3 [(0, .ref (q 0)), (1, .int p1), (2, .int p2)] := hl
  unfold fX5_without at h
  refine lv_aload_n hx hb dX5_without_0 rfl (lv_at hl 0 rfl) ?_
  refine va_get (D := D) (ci := 5) (v := .ref (q 1)) (C := RX5) (T := TX5) (N := 5) hx hb hts wiX5_without_X5 hown hK hP 0 rfl rfl 0 (by decide) (hts _ wmX5_without_0) (fun _ h9 => h9) rfl dX5_without_1 ?_
  refine lv_iload_n hx hb dX5_without_4 rfl (lv_at hl 1 rfl) ?_
  obtain ⟨u1, e2, h⟩ := bd_some h
  refine k_i (va_runV (As := [.int p1]) (rest := []) ⟨hx, hb, hml, hown, hts⟩ (kX3_holds l D q cI cJ cZ tP s.heap.size vnum vsz vfr vfo vli va vb vc ve vth vrk vcm vkx vky vkz vmk vre vro vwi vla vlb vtu k0x k0y k0z k1x k1y k1z k2x k2y k2z k3x k3y k3z p1 u1 e2) (cwV 1 hts gX5_without_X3_holds rfl rfl rfl (by decide +kernel) ⟨Nat.le_of_ble_eq_true rfl, Nat.le_of_ble_eq_true rfl⟩) ⟨cPre_blind, va_recv hK hP (ci := 3) (q0 := 1) rfl rfl, cPre_at hP hK hN hD hS hA hZ⟩ rfl rfl hl.1 rfl (lv_room (Nat.le_of_ble_eq_true rfl)) dX5_without_5 ⟨Nat.le_of_ble_eq_true rfl, Nat.le_of_ble_eq_true rfl⟩) hD hS hA (fun H locs hP hD hS => ?_)
  refine lv_if_ne (tgt := 13) hx hb dX5_without_8 (by decide) (fun c3 => ?_) (fun c3 => ?_)
  · have h := (if_neg c3).symm.trans h
    refine lv_aload_n hx hb dX5_without_13 rfl (lv_at hl 0 rfl) ?_
    obtain ⟨u4, e5, h⟩ := bd_some h
    refine k_r (va_runV (As := []) (rest := []) ⟨hx, hb, hml, hown, hts⟩ (kX5_freshCut l D q cI cJ cZ tP H.size vnum vsz vfr vfo vli va vb vc ve vth vrk vcm vkx vky vkz vmk vre vro vwi vla vlb vtu k0x k0y k0z k1x k1y k1z k2x k2y k2z k3x k3y k3z  u4 e5) (cwV 0 hts gX5_without_X5_freshCut rfl rfl rfl (by decide +kernel) ⟨Nat.le_of_ble_eq_true rfl, Nat.le_of_ble_eq_true rfl⟩) ⟨cPre_blind, va_recv hK hP (ci := 5) (q0 := 0) rfl rfl, cPre_at hP hK hN hD hS hA hZ⟩ rfl rfl hl.1 rfl (lv_room (Nat.le_of_ble_eq_true rfl)) dX5_without_14 ⟨Nat.le_of_ble_eq_true rfl, Nat.le_of_ble_eq_true rfl⟩) hD hS hA (fun H locs hP hD hS => ?_)
    refine lv_pop hx hb dX5_without_17 rfl ?_
    refine lv_aload_n hx hb dX5_without_18 rfl (lv_at hl 0 rfl) ?_
    refine va_get (D := D) (ci := 5) (v := .ref (q 7)) (C := RX5) (T := TX5) (N := 5) hx hb hts wiX5_without_X5 hown hK hP 0 rfl rfl 1 (by decide) (hts _ wmX5_without_1) (fun _ h9 => h9) rfl dX5_without_19 ?_
    refine lv_iload_n hx hb dX5_without_22 rfl (lv_at hl 2 rfl) ?_
    refine lv_iconst (v := (1 : Int32)) hx hb dX5_without_23 (by decide) ?_
    refine lv_iload_n hx hb dX5_without_24 rfl (lv_at hl 1 rfl) ?_
    refine lv_ishl hx hb dX5_without_25 ?_
    obtain ⟨u6, e7, h⟩ := bd_some h
    refine k_i (va_runV (As := [.int p2, .int ((1 : Int32) <<< (p1 &&& 31))]) (rest := []) ⟨hx, hb, hml, hown, hts⟩ (kX2_factor l D q cI cJ cZ tP H.size vnum vsz u4.1 u4.2.1 u4.2.2.1 va vb vc ve vth u4.2.2.2.1 u4.2.2.2.2.1 u4.2.2.2.2.2.1 u4.2.2.2.2.2.2.1 u4.2.2.2.2.2.2.2.1 u4.2.2.2.2.2.2.2.2.1 u4.2.2.2.2.2.2.2.2.2.1 u4.2.2.2.2.2.2.2.2.2.2.1 u4.2.2.2.2.2.2.2.2.2.2.2.1 u4.2.2.2.2.2.2.2.2.2.2.2.2.1 u4.2.2.2.2.2.2.2.2.2.2.2.2.2.1 vtu u4.2.2.2.2.2.2.2.2.2.2.2.2.2.2.1 u4.2.2.2.2.2.2.2.2.2.2.2.2.2.2.2.1 u4.2.2.2.2.2.2.2.2.2.2.2.2.2.2.2.2.1 u4.2.2.2.2.2.2.2.2.2.2.2.2.2.2.2.2.2.1 u4.2.2.2.2.2.2.2.2.2.2.2.2.2.2.2.2.2.2.1 u4.2.2.2.2.2.2.2.2.2.2.2.2.2.2.2.2.2.2.2.1 u4.2.2.2.2.2.2.2.2.2.2.2.2.2.2.2.2.2.2.2.2.1 u4.2.2.2.2.2.2.2.2.2.2.2.2.2.2.2.2.2.2.2.2.2.1 u4.2.2.2.2.2.2.2.2.2.2.2.2.2.2.2.2.2.2.2.2.2.2.1 u4.2.2.2.2.2.2.2.2.2.2.2.2.2.2.2.2.2.2.2.2.2.2.2.1 u4.2.2.2.2.2.2.2.2.2.2.2.2.2.2.2.2.2.2.2.2.2.2.2.2.1 u4.2.2.2.2.2.2.2.2.2.2.2.2.2.2.2.2.2.2.2.2.2.2.2.2.2 p2 ((1 : Int32) <<< (p1 &&& 31)) u6 e7) (cwV 2 hts gX5_without_X2_factor rfl rfl rfl (by decide +kernel) ⟨Nat.le_of_ble_eq_true rfl, Nat.le_of_ble_eq_true rfl⟩) ⟨cPre_blind, va_recv hK hP (ci := 2) (q0 := 7) rfl rfl, cPre_at hP hK hN hD hS hA hZ⟩ rfl rfl hl.1 rfl (lv_room (Nat.le_of_ble_eq_true rfl)) dX5_without_26 ⟨Nat.le_of_ble_eq_true rfl, Nat.le_of_ble_eq_true rfl⟩) hD hS hA (fun H locs hP hD hS => ?_)
    obtain rfl := Option.some.inj h
    exact W.iret (v := u6) hx hb hr (fun t ht hW => ⟨⟨u6, (), rfl, rfl, by rw [ht]; exact hP, hD⟩, hS.F ht⟩) hS.2.2 dX5_without_29
  · have h := (if_pos c3).symm.trans h
    refine lv_iconst (v := (0 : Int32)) hx hb dX5_without_11 (by decide) ?_
    obtain rfl := Option.some.inj h
    exact W.iret (v := (0 : Int32)) hx hb hr (fun t ht hW => ⟨⟨(0 : Int32), (), rfl, rfl, by rw [ht]; exact hP, hD⟩, hS.F ht⟩) hS.2.2 dX5_without_12

-- X5_on
theorem wmX5_on_0 : (.fieldLink RX5 23 "SpaceWalls" "planes" "LSpaceWalls$Planes;" : Cond) ∈ wsX5_on := by decide +kernel
theorem wmX5_on_1 : (.fieldLink RX5 32 "SpaceWalls" "heaps" "LSpaceWalls$Heaps;" : Cond) ∈ wsX5_on := by decide +kernel
theorem wiX5_on_X5 : ∀ w ∈ u_ws RX5 TX5 5, w ∈ wsX5_on := by decide +kernel
set_option maxHeartbeats 8000000 in
set_option maxRecDepth 100000 in
theorem kX5_on (l : Launch) (D : va_G) (q : Nat → Nat) (cI cJ cZ : ClassId) (tP sz : Nat) (vnum : Int32) (vsz : Int32) (vfr : Int32) (vfo : Int32) (vli : Int32) (va : (Nat → Int32)) (vb : (Nat → Int32)) (vc : (Nat → Int32)) (ve : (Nat → Int32)) (vth : (Nat → Int32)) (vrk : (Nat → Int32)) (vcm : (Nat → Int32)) (vkx : (Nat → Int32)) (vky : (Nat → Int32)) (vkz : (Nat → Int32)) (vmk : (Nat → Int32)) (vre : (Nat → Int32)) (vro : (Nat → Int32)) (vwi : (Nat → Int32)) (vla : (Nat → Int32)) (vlb : (Nat → Int32)) (vtu : (Nat → Int32)) (k0x : Int32) (k0y : Int32) (k0z : Int32) (k1x : Int32) (k1y : Int32) (k1z : Int32) (k2x : Int32) (k2y : Int32) (k2z : Int32) (k3x : Int32) (k3y : Int32) (k3z : Int32) (p1 : Int32) (p2 : Int32) (uu : (Int32 × Int32 × Int32 × Int32 × (Nat → Int32) × (Nat → Int32) × (Nat → Int32) × (Nat → Int32) × (Nat → Int32) × (Nat → Int32) × (Nat → Int32) × (Nat → Int32) × (Nat → Int32) × (Nat → Int32) × (Nat → Int32) × Int32 × Int32 × Int32 × Int32 × Int32 × Int32 × Int32 × Int32 × Int32 × Int32 × Int32 × Int32)) (h : fX5_on vnum vsz vfr vfo vli va vb vc ve vth vrk vcm vkx vky vkz vmk vre vro vwi vla vlb k0x k0y k0z k1x k1y k1z k2x k2y k2z k3x k3y k3z p1 p2 = some uu) : Met l yX5_on wsX5_on ({ frames := 7, cells := 0, slots := 0, locals := 167 }) (cPre D cI cJ cZ tP (WC_ q cI cZ vnum vsz vfr vfo vli va vb vc ve vth vrk vcm vkx vky vkz vmk vre vro vwi vla vlb vtu k0x k0y k0z k1x k1y k1z k2x k2y k2z k3x k3y k3z) sz [.ref (q 0), .int p1, .int p2]) (cQi D (va_A (WC_ q cI cZ vnum vsz vfr vfo vli va vb vc ve vth vrk vcm vkx vky vkz vmk vre vro vwi vla vlb vtu k0x k0y k0z k1x k1y k1z k2x k2y k2z k3x k3y k3z) sz) (WC_ q cI cZ vnum vsz uu.2.1 uu.2.2.1 uu.2.2.2.1 va vb vc ve vth uu.2.2.2.2.1 uu.2.2.2.2.2.1 uu.2.2.2.2.2.2.1 uu.2.2.2.2.2.2.2.1 uu.2.2.2.2.2.2.2.2.1 uu.2.2.2.2.2.2.2.2.2.1 uu.2.2.2.2.2.2.2.2.2.2.1 uu.2.2.2.2.2.2.2.2.2.2.2.1 uu.2.2.2.2.2.2.2.2.2.2.2.2.1 uu.2.2.2.2.2.2.2.2.2.2.2.2.2.1 uu.2.2.2.2.2.2.2.2.2.2.2.2.2.2.1 vtu uu.2.2.2.2.2.2.2.2.2.2.2.2.2.2.2.1 uu.2.2.2.2.2.2.2.2.2.2.2.2.2.2.2.2.1 uu.2.2.2.2.2.2.2.2.2.2.2.2.2.2.2.2.2.1 uu.2.2.2.2.2.2.2.2.2.2.2.2.2.2.2.2.2.2.1 uu.2.2.2.2.2.2.2.2.2.2.2.2.2.2.2.2.2.2.2.1 uu.2.2.2.2.2.2.2.2.2.2.2.2.2.2.2.2.2.2.2.2.1 uu.2.2.2.2.2.2.2.2.2.2.2.2.2.2.2.2.2.2.2.2.2.1 uu.2.2.2.2.2.2.2.2.2.2.2.2.2.2.2.2.2.2.2.2.2.2.1 uu.2.2.2.2.2.2.2.2.2.2.2.2.2.2.2.2.2.2.2.2.2.2.2.1 uu.2.2.2.2.2.2.2.2.2.2.2.2.2.2.2.2.2.2.2.2.2.2.2.2.1 uu.2.2.2.2.2.2.2.2.2.2.2.2.2.2.2.2.2.2.2.2.2.2.2.2.2.1 uu.2.2.2.2.2.2.2.2.2.2.2.2.2.2.2.2.2.2.2.2.2.2.2.2.2.2) uu.1) 0 0 (va_A (WC_ q cI cZ vnum vsz vfr vfo vli va vb vc ve vth vrk vcm vkx vky vkz vmk vre vro vwi vla vlb vtu k0x k0y k0z k1x k1y k1z k2x k2y k2z k3x k3y k3z) sz) := by
  refine Met.ofW (cc := cX5_on) (maxL := 3) (ret := (some .int)) (by decide) rfl ?_
  intro p e s m args below meth c s₁ B hml hv
  obtain ⟨rfl, hsz, hP, hK, hN, hD0, hZ⟩ := hv
  have hx := B.exec
  have hb := B.bytes
  have hr := B.returns
  have hts := atoms_spec (ws := wsX5_on) B.pre
  have hown : s.vm.findClass RX5 = some m.cls := findClass_of_methodNamed B.named
  have hlocks := B.notSynchronized
  subst hsz
  have hD := hD0.self (sz := s.heap.size)
  generalize hAe : va_A (WC_ q cI cZ vnum vsz vfr vfo vli va vb vc ve vth vrk vcm vkx vky vkz vmk vre vro vwi vla vlb vtu k0x k0y k0z k1x k1y k1z k2x k2y k2z k3x k3y k3z) s.heap.size = A at hD hZ ⊢
  have hA : ∀ q : Nat, s.heap.size ≤ q → A q := fun q h => by rw [← hAe]; exact Or.inr h
  have hS : va_S A s.heap s.heap [] := va_S.rf
  have hl := lv_entry ([.ref (q 0), .int p1, .int p2]) (n := 3) (Nat.le_of_ble_eq_true rfl)
  rw [lg_entry_eq]
  generalize (lg_sl ([.ref (q 0), .int p1, .int p2]) ++ List.replicate (3 - (lg_sl ([.ref (q 0), .int p1, .int p2])).length) Slot.unset).toArray = ls at hl ⊢
  have hl : lv_has ls 3 [(0, .ref (q 0)), (1, .int p1), (2, .int p2)] := hl
  unfold fX5_on at h
  refine lv_aload_n hx hb dX5_on_0 rfl (lv_at hl 0 rfl) ?_
  refine va_get (D := D) (ci := 5) (v := .ref (q 1)) (C := RX5) (T := TX5) (N := 5) hx hb hts wiX5_on_X5 hown hK hP 0 rfl rfl 0 (by decide) (hts _ wmX5_on_0) (fun _ h9 => h9) rfl dX5_on_1 ?_
  refine lv_iload_n hx hb dX5_on_4 rfl (lv_at hl 1 rfl) ?_
  obtain ⟨u1, e2, h⟩ := bd_some h
  refine k_i (va_runV (As := [.int p1]) (rest := []) ⟨hx, hb, hml, hown, hts⟩ (kX3_holds l D q cI cJ cZ tP s.heap.size vnum vsz vfr vfo vli va vb vc ve vth vrk vcm vkx vky vkz vmk vre vro vwi vla vlb vtu k0x k0y k0z k1x k1y k1z k2x k2y k2z k3x k3y k3z p1 u1 e2) (cwV 1 hts gX5_on_X3_holds rfl rfl rfl (by decide +kernel) ⟨Nat.le_of_ble_eq_true rfl, Nat.le_of_ble_eq_true rfl⟩) ⟨cPre_blind, va_recv hK hP (ci := 3) (q0 := 1) rfl rfl, cPre_at hP hK hN hD hS hA hZ⟩ rfl rfl hl.1 rfl (lv_room (Nat.le_of_ble_eq_true rfl)) dX5_on_5 ⟨Nat.le_of_ble_eq_true rfl, Nat.le_of_ble_eq_true rfl⟩) hD hS hA (fun H locs hP hD hS => ?_)
  refine lv_if_ne (tgt := 13) hx hb dX5_on_8 (by decide) (fun c3 => ?_) (fun c3 => ?_)
  · have h := (if_neg c3).symm.trans h
    refine lv_aload_n hx hb dX5_on_13 rfl (lv_at hl 0 rfl) ?_
    obtain ⟨u4, e5, h⟩ := bd_some h
    refine k_r (va_runV (As := []) (rest := []) ⟨hx, hb, hml, hown, hts⟩ (kX5_freshCut l D q cI cJ cZ tP H.size vnum vsz vfr vfo vli va vb vc ve vth vrk vcm vkx vky vkz vmk vre vro vwi vla vlb vtu k0x k0y k0z k1x k1y k1z k2x k2y k2z k3x k3y k3z  u4 e5) (cwV 0 hts gX5_on_X5_freshCut rfl rfl rfl (by decide +kernel) ⟨Nat.le_of_ble_eq_true rfl, Nat.le_of_ble_eq_true rfl⟩) ⟨cPre_blind, va_recv hK hP (ci := 5) (q0 := 0) rfl rfl, cPre_at hP hK hN hD hS hA hZ⟩ rfl rfl hl.1 rfl (lv_room (Nat.le_of_ble_eq_true rfl)) dX5_on_14 ⟨Nat.le_of_ble_eq_true rfl, Nat.le_of_ble_eq_true rfl⟩) hD hS hA (fun H locs hP hD hS => ?_)
    refine lv_pop hx hb dX5_on_17 rfl ?_
    refine lv_aload_n hx hb dX5_on_18 rfl (lv_at hl 0 rfl) ?_
    refine va_get (D := D) (ci := 5) (v := .ref (q 7)) (C := RX5) (T := TX5) (N := 5) hx hb hts wiX5_on_X5 hown hK hP 0 rfl rfl 1 (by decide) (hts _ wmX5_on_1) (fun _ h9 => h9) rfl dX5_on_19 ?_
    refine lv_iload_n hx hb dX5_on_22 rfl (lv_at hl 2 rfl) ?_
    refine lv_iconst (v := (1 : Int32)) hx hb dX5_on_23 (by decide) ?_
    refine lv_iload_n hx hb dX5_on_24 rfl (lv_at hl 1 rfl) ?_
    refine lv_ishl hx hb dX5_on_25 ?_
    obtain ⟨u6, e7, h⟩ := bd_some h
    refine k_i (va_runV (As := [.int p2, .int ((1 : Int32) <<< (p1 &&& 31))]) (rest := []) ⟨hx, hb, hml, hown, hts⟩ (kX2_factor l D q cI cJ cZ tP H.size vnum vsz u4.1 u4.2.1 u4.2.2.1 va vb vc ve vth u4.2.2.2.1 u4.2.2.2.2.1 u4.2.2.2.2.2.1 u4.2.2.2.2.2.2.1 u4.2.2.2.2.2.2.2.1 u4.2.2.2.2.2.2.2.2.1 u4.2.2.2.2.2.2.2.2.2.1 u4.2.2.2.2.2.2.2.2.2.2.1 u4.2.2.2.2.2.2.2.2.2.2.2.1 u4.2.2.2.2.2.2.2.2.2.2.2.2.1 u4.2.2.2.2.2.2.2.2.2.2.2.2.2.1 vtu u4.2.2.2.2.2.2.2.2.2.2.2.2.2.2.1 u4.2.2.2.2.2.2.2.2.2.2.2.2.2.2.2.1 u4.2.2.2.2.2.2.2.2.2.2.2.2.2.2.2.2.1 u4.2.2.2.2.2.2.2.2.2.2.2.2.2.2.2.2.2.1 u4.2.2.2.2.2.2.2.2.2.2.2.2.2.2.2.2.2.2.1 u4.2.2.2.2.2.2.2.2.2.2.2.2.2.2.2.2.2.2.2.1 u4.2.2.2.2.2.2.2.2.2.2.2.2.2.2.2.2.2.2.2.2.1 u4.2.2.2.2.2.2.2.2.2.2.2.2.2.2.2.2.2.2.2.2.2.1 u4.2.2.2.2.2.2.2.2.2.2.2.2.2.2.2.2.2.2.2.2.2.2.1 u4.2.2.2.2.2.2.2.2.2.2.2.2.2.2.2.2.2.2.2.2.2.2.2.1 u4.2.2.2.2.2.2.2.2.2.2.2.2.2.2.2.2.2.2.2.2.2.2.2.2.1 u4.2.2.2.2.2.2.2.2.2.2.2.2.2.2.2.2.2.2.2.2.2.2.2.2.2 p2 ((1 : Int32) <<< (p1 &&& 31)) u6 e7) (cwV 2 hts gX5_on_X2_factor rfl rfl rfl (by decide +kernel) ⟨Nat.le_of_ble_eq_true rfl, Nat.le_of_ble_eq_true rfl⟩) ⟨cPre_blind, va_recv hK hP (ci := 2) (q0 := 7) rfl rfl, cPre_at hP hK hN hD hS hA hZ⟩ rfl rfl hl.1 rfl (lv_room (Nat.le_of_ble_eq_true rfl)) dX5_on_26 ⟨Nat.le_of_ble_eq_true rfl, Nat.le_of_ble_eq_true rfl⟩) hD hS hA (fun H locs hP hD hS => ?_)
    refine lv_aload_n hx hb dX5_on_29 rfl (lv_at hl 0 rfl) ?_
    refine va_get (D := D) (ci := 5) (v := .ref (q 7)) (C := RX5) (T := TX5) (N := 5) hx hb hts wiX5_on_X5 hown hK hP 0 rfl rfl 1 (by decide) (hts _ wmX5_on_1) (fun _ h9 => h9) rfl dX5_on_30 ?_
    refine lv_iload_n hx hb dX5_on_33 rfl (lv_at hl 2 rfl) ?_
    refine lv_iconst (v := (0 : Int32)) hx hb dX5_on_34 (by decide) ?_
    obtain ⟨u8, e9, h⟩ := bd_some h
    refine k_i (va_runV (As := [.int p2, .int (0 : Int32)]) (rest := [.int u6]) ⟨hx, hb, hml, hown, hts⟩ (kX2_factor l D q cI cJ cZ tP H.size vnum vsz u4.1 u4.2.1 u4.2.2.1 va vb vc ve vth u4.2.2.2.1 u4.2.2.2.2.1 u4.2.2.2.2.2.1 u4.2.2.2.2.2.2.1 u4.2.2.2.2.2.2.2.1 u4.2.2.2.2.2.2.2.2.1 u4.2.2.2.2.2.2.2.2.2.1 u4.2.2.2.2.2.2.2.2.2.2.1 u4.2.2.2.2.2.2.2.2.2.2.2.1 u4.2.2.2.2.2.2.2.2.2.2.2.2.1 u4.2.2.2.2.2.2.2.2.2.2.2.2.2.1 vtu u4.2.2.2.2.2.2.2.2.2.2.2.2.2.2.1 u4.2.2.2.2.2.2.2.2.2.2.2.2.2.2.2.1 u4.2.2.2.2.2.2.2.2.2.2.2.2.2.2.2.2.1 u4.2.2.2.2.2.2.2.2.2.2.2.2.2.2.2.2.2.1 u4.2.2.2.2.2.2.2.2.2.2.2.2.2.2.2.2.2.2.1 u4.2.2.2.2.2.2.2.2.2.2.2.2.2.2.2.2.2.2.2.1 u4.2.2.2.2.2.2.2.2.2.2.2.2.2.2.2.2.2.2.2.2.1 u4.2.2.2.2.2.2.2.2.2.2.2.2.2.2.2.2.2.2.2.2.2.1 u4.2.2.2.2.2.2.2.2.2.2.2.2.2.2.2.2.2.2.2.2.2.2.1 u4.2.2.2.2.2.2.2.2.2.2.2.2.2.2.2.2.2.2.2.2.2.2.2.1 u4.2.2.2.2.2.2.2.2.2.2.2.2.2.2.2.2.2.2.2.2.2.2.2.2.1 u4.2.2.2.2.2.2.2.2.2.2.2.2.2.2.2.2.2.2.2.2.2.2.2.2.2 p2 (0 : Int32) u8 e9) (cwV 2 hts gX5_on_X2_factor rfl rfl rfl (by decide +kernel) ⟨Nat.le_of_ble_eq_true rfl, Nat.le_of_ble_eq_true rfl⟩) ⟨cPre_blind, va_recv hK hP (ci := 2) (q0 := 7) rfl rfl, cPre_at hP hK hN hD hS hA hZ⟩ rfl rfl hl.1 rfl (lv_room (Nat.le_of_ble_eq_true rfl)) dX5_on_35 ⟨Nat.le_of_ble_eq_true rfl, Nat.le_of_ble_eq_true rfl⟩) hD hS hA (fun H locs hP hD hS => ?_)
    refine lv_isub hx hb dX5_on_38 ?_
    obtain rfl := Option.some.inj h
    exact W.iret (v := (u6 - u8)) hx hb hr (fun t ht hW => ⟨⟨(u6 - u8), (), rfl, rfl, by rw [ht]; exact hP, hD⟩, hS.F ht⟩) hS.2.2 dX5_on_39
  · have h := (if_pos c3).symm.trans h
    refine lv_iconst (v := (0 : Int32)) hx hb dX5_on_11 (by decide) ?_
    obtain rfl := Option.some.inj h
    exact W.iret (v := (0 : Int32)) hx hb hr (fun t ht hW => ⟨⟨(0 : Int32), (), rfl, rfl, by rw [ht]; exact hP, hD⟩, hS.F ht⟩) hS.2.2 dX5_on_12

-- X5_walls
set_option maxHeartbeats 8000000 in
set_option maxRecDepth 100000 in
theorem kX5_walls (l : Launch) (D : va_G) (q : Nat → Nat) (cI cJ cZ : ClassId) (tP sz : Nat) (vnum : Int32) (vsz : Int32) (vfr : Int32) (vfo : Int32) (vli : Int32) (va : (Nat → Int32)) (vb : (Nat → Int32)) (vc : (Nat → Int32)) (ve : (Nat → Int32)) (vth : (Nat → Int32)) (vrk : (Nat → Int32)) (vcm : (Nat → Int32)) (vkx : (Nat → Int32)) (vky : (Nat → Int32)) (vkz : (Nat → Int32)) (vmk : (Nat → Int32)) (vre : (Nat → Int32)) (vro : (Nat → Int32)) (vwi : (Nat → Int32)) (vla : (Nat → Int32)) (vlb : (Nat → Int32)) (vtu : (Nat → Int32)) (k0x : Int32) (k0y : Int32) (k0z : Int32) (k1x : Int32) (k1y : Int32) (k1z : Int32) (k2x : Int32) (k2y : Int32) (k2z : Int32) (k3x : Int32) (k3y : Int32) (k3z : Int32) (p1 : Int32) (uu : (Int32 × Int32 × Int32 × Int32 × (Nat → Int32) × (Nat → Int32) × (Nat → Int32) × (Nat → Int32) × (Nat → Int32) × (Nat → Int32) × (Nat → Int32) × (Nat → Int32) × (Nat → Int32) × (Nat → Int32) × (Nat → Int32) × Int32 × Int32 × Int32 × Int32 × Int32 × Int32 × Int32 × Int32 × Int32 × Int32 × Int32 × Int32)) (h : fX5_walls vnum vsz vfr vfo vli va vb vc ve vth vrk vcm vkx vky vkz vmk vre vro vwi vla vlb k0x k0y k0z k1x k1y k1z k2x k2y k2z k3x k3y k3z p1 = some uu) : Met l yX5_walls wsX5_walls ({ frames := 7, cells := 0, slots := 0, locals := 167 }) (cPre D cI cJ cZ tP (WC_ q cI cZ vnum vsz vfr vfo vli va vb vc ve vth vrk vcm vkx vky vkz vmk vre vro vwi vla vlb vtu k0x k0y k0z k1x k1y k1z k2x k2y k2z k3x k3y k3z) sz [.ref (q 0), .int p1]) (cQi D (va_A (WC_ q cI cZ vnum vsz vfr vfo vli va vb vc ve vth vrk vcm vkx vky vkz vmk vre vro vwi vla vlb vtu k0x k0y k0z k1x k1y k1z k2x k2y k2z k3x k3y k3z) sz) (WC_ q cI cZ vnum vsz uu.2.1 uu.2.2.1 uu.2.2.2.1 va vb vc ve vth uu.2.2.2.2.1 uu.2.2.2.2.2.1 uu.2.2.2.2.2.2.1 uu.2.2.2.2.2.2.2.1 uu.2.2.2.2.2.2.2.2.1 uu.2.2.2.2.2.2.2.2.2.1 uu.2.2.2.2.2.2.2.2.2.2.1 uu.2.2.2.2.2.2.2.2.2.2.2.1 uu.2.2.2.2.2.2.2.2.2.2.2.2.1 uu.2.2.2.2.2.2.2.2.2.2.2.2.2.1 uu.2.2.2.2.2.2.2.2.2.2.2.2.2.2.1 vtu uu.2.2.2.2.2.2.2.2.2.2.2.2.2.2.2.1 uu.2.2.2.2.2.2.2.2.2.2.2.2.2.2.2.2.1 uu.2.2.2.2.2.2.2.2.2.2.2.2.2.2.2.2.2.1 uu.2.2.2.2.2.2.2.2.2.2.2.2.2.2.2.2.2.2.1 uu.2.2.2.2.2.2.2.2.2.2.2.2.2.2.2.2.2.2.2.1 uu.2.2.2.2.2.2.2.2.2.2.2.2.2.2.2.2.2.2.2.2.1 uu.2.2.2.2.2.2.2.2.2.2.2.2.2.2.2.2.2.2.2.2.2.1 uu.2.2.2.2.2.2.2.2.2.2.2.2.2.2.2.2.2.2.2.2.2.2.1 uu.2.2.2.2.2.2.2.2.2.2.2.2.2.2.2.2.2.2.2.2.2.2.2.1 uu.2.2.2.2.2.2.2.2.2.2.2.2.2.2.2.2.2.2.2.2.2.2.2.2.1 uu.2.2.2.2.2.2.2.2.2.2.2.2.2.2.2.2.2.2.2.2.2.2.2.2.2.1 uu.2.2.2.2.2.2.2.2.2.2.2.2.2.2.2.2.2.2.2.2.2.2.2.2.2.2) uu.1) 0 0 (va_A (WC_ q cI cZ vnum vsz vfr vfo vli va vb vc ve vth vrk vcm vkx vky vkz vmk vre vro vwi vla vlb vtu k0x k0y k0z k1x k1y k1z k2x k2y k2z k3x k3y k3z) sz) := by
  refine Met.ofW (cc := cX5_walls) (maxL := 3) (ret := (some .int)) (by decide) rfl ?_
  intro p e s m args below meth c s₁ B hml hv
  obtain ⟨rfl, hsz, hP, hK, hN, hD0, hZ⟩ := hv
  have hx := B.exec
  have hb := B.bytes
  have hr := B.returns
  have hts := atoms_spec (ws := wsX5_walls) B.pre
  have hown : s.vm.findClass RX5 = some m.cls := findClass_of_methodNamed B.named
  have hlocks := B.notSynchronized
  subst hsz
  have hD := hD0.self (sz := s.heap.size)
  generalize hAe : va_A (WC_ q cI cZ vnum vsz vfr vfo vli va vb vc ve vth vrk vcm vkx vky vkz vmk vre vro vwi vla vlb vtu k0x k0y k0z k1x k1y k1z k2x k2y k2z k3x k3y k3z) s.heap.size = A at hD hZ ⊢
  have hA : ∀ q : Nat, s.heap.size ≤ q → A q := fun q h => by rw [← hAe]; exact Or.inr h
  have hS : va_S A s.heap s.heap [] := va_S.rf
  have hl := lv_entry ([.ref (q 0), .int p1]) (n := 3) (Nat.le_of_ble_eq_true rfl)
  rw [lg_entry_eq]
  generalize (lg_sl ([.ref (q 0), .int p1]) ++ List.replicate (3 - (lg_sl ([.ref (q 0), .int p1])).length) Slot.unset).toArray = ls at hl ⊢
  have hl : lv_has ls 3 [(0, .ref (q 0)), (1, .int p1)] := hl
  unfold fX5_walls at h
  refine lv_aload_n hx hb dX5_walls_0 rfl (lv_at hl 0 rfl) ?_
  obtain ⟨u1, e2, h⟩ := bd_some h
  refine k_r (va_runV (As := []) (rest := []) ⟨hx, hb, hml, hown, hts⟩ (kX5_freshCut l D q cI cJ cZ tP s.heap.size vnum vsz vfr vfo vli va vb vc ve vth vrk vcm vkx vky vkz vmk vre vro vwi vla vlb vtu k0x k0y k0z k1x k1y k1z k2x k2y k2z k3x k3y k3z  u1 e2) (cwV 0 hts gX5_walls_X5_freshCut rfl rfl rfl (by decide +kernel) ⟨Nat.le_of_ble_eq_true rfl, Nat.le_of_ble_eq_true rfl⟩) ⟨cPre_blind, va_recv hK hP (ci := 5) (q0 := 0) rfl rfl, cPre_at hP hK hN hD hS hA hZ⟩ rfl rfl hl.1 rfl (lv_room (Nat.le_of_ble_eq_true rfl)) dX5_walls_1 ⟨Nat.le_of_ble_eq_true rfl, Nat.le_of_ble_eq_true rfl⟩) hD hS hA (fun H locs hP hD hS => ?_)
  refine lv_astore_n (lv' := [(2, .ref (q 14)), (0, .ref (q 0)), (1, .int p1)]) hx hb dX5_walls_4 rfl hl (by decide) rfl (fun ls hl => ?_)
  refine lv_aload_n hx hb dX5_walls_5 rfl (lv_at hl 0 rfl) ?_
  refine lv_iload_n hx hb dX5_walls_6 rfl (lv_at hl 2 rfl) ?_
  obtain ⟨u3, e4, h⟩ := bd_some h
  refine k_i (va_runV (As := [.int p1]) (rest := []) ⟨hx, hb, hml, hown, hts⟩ (kX1_hasRoom l D q cI cJ cZ tP H.size vnum vsz u1.1 u1.2.1 u1.2.2.1 va vb vc ve vth u1.2.2.2.1 u1.2.2.2.2.1 u1.2.2.2.2.2.1 u1.2.2.2.2.2.2.1 u1.2.2.2.2.2.2.2.1 u1.2.2.2.2.2.2.2.2.1 u1.2.2.2.2.2.2.2.2.2.1 u1.2.2.2.2.2.2.2.2.2.2.1 u1.2.2.2.2.2.2.2.2.2.2.2.1 u1.2.2.2.2.2.2.2.2.2.2.2.2.1 u1.2.2.2.2.2.2.2.2.2.2.2.2.2.1 vtu u1.2.2.2.2.2.2.2.2.2.2.2.2.2.2.1 u1.2.2.2.2.2.2.2.2.2.2.2.2.2.2.2.1 u1.2.2.2.2.2.2.2.2.2.2.2.2.2.2.2.2.1 u1.2.2.2.2.2.2.2.2.2.2.2.2.2.2.2.2.2.1 u1.2.2.2.2.2.2.2.2.2.2.2.2.2.2.2.2.2.2.1 u1.2.2.2.2.2.2.2.2.2.2.2.2.2.2.2.2.2.2.2.1 u1.2.2.2.2.2.2.2.2.2.2.2.2.2.2.2.2.2.2.2.2.1 u1.2.2.2.2.2.2.2.2.2.2.2.2.2.2.2.2.2.2.2.2.2.1 u1.2.2.2.2.2.2.2.2.2.2.2.2.2.2.2.2.2.2.2.2.2.2.1 u1.2.2.2.2.2.2.2.2.2.2.2.2.2.2.2.2.2.2.2.2.2.2.2.1 u1.2.2.2.2.2.2.2.2.2.2.2.2.2.2.2.2.2.2.2.2.2.2.2.2.1 u1.2.2.2.2.2.2.2.2.2.2.2.2.2.2.2.2.2.2.2.2.2.2.2.2.2 p1 u3 e4) (cwV 1 hts gX5_walls_X1_hasRoom rfl rfl rfl (by decide +kernel) ⟨Nat.le_of_ble_eq_true rfl, Nat.le_of_ble_eq_true rfl⟩) ⟨cPre_blind, va_recv hK hP (ci := 1) (q0 := 14) rfl rfl, cPre_at hP hK hN hD hS hA hZ⟩ rfl rfl hl.1 rfl (lv_room (Nat.le_of_ble_eq_true rfl)) dX5_walls_7 ⟨Nat.le_of_ble_eq_true rfl, Nat.le_of_ble_eq_true rfl⟩) hD hS hA (fun H locs hP hD hS => ?_)
  refine lv_if_eq (tgt := 21) hx hb dX5_walls_10 (by decide) (fun c5 => ?_) (fun c5 => ?_)
  · have h := (if_pos c5).symm.trans h
    refine lv_iconst (v := (-1 : Int32)) hx hb dX5_walls_21 (by decide) ?_
    obtain rfl := Option.some.inj h
    exact W.iret (v := (-1 : Int32)) hx hb hr (fun t ht hW => ⟨⟨(-1 : Int32), (), rfl, rfl, by rw [ht]; exact hP, hD⟩, hS.F ht⟩) hS.2.2 dX5_walls_22
  · have h := (if_neg c5).symm.trans h
    refine lv_aload_n hx hb dX5_walls_13 rfl (lv_at hl 0 rfl) ?_
    refine lv_iload_n hx hb dX5_walls_14 rfl (lv_at hl 2 rfl) ?_
    obtain ⟨u6, e7, h⟩ := bd_some h
    refine k_i (va_runV (As := [.int p1]) (rest := []) ⟨hx, hb, hml, hown, hts⟩ (kX1_wallsOf l D q cI cJ cZ tP H.size vnum vsz u1.1 u1.2.1 u1.2.2.1 va vb vc ve vth u1.2.2.2.1 u1.2.2.2.2.1 u1.2.2.2.2.2.1 u1.2.2.2.2.2.2.1 u1.2.2.2.2.2.2.2.1 u1.2.2.2.2.2.2.2.2.1 u1.2.2.2.2.2.2.2.2.2.1 u1.2.2.2.2.2.2.2.2.2.2.1 u1.2.2.2.2.2.2.2.2.2.2.2.1 u1.2.2.2.2.2.2.2.2.2.2.2.2.1 u1.2.2.2.2.2.2.2.2.2.2.2.2.2.1 vtu u1.2.2.2.2.2.2.2.2.2.2.2.2.2.2.1 u1.2.2.2.2.2.2.2.2.2.2.2.2.2.2.2.1 u1.2.2.2.2.2.2.2.2.2.2.2.2.2.2.2.2.1 u1.2.2.2.2.2.2.2.2.2.2.2.2.2.2.2.2.2.1 u1.2.2.2.2.2.2.2.2.2.2.2.2.2.2.2.2.2.2.1 u1.2.2.2.2.2.2.2.2.2.2.2.2.2.2.2.2.2.2.2.1 u1.2.2.2.2.2.2.2.2.2.2.2.2.2.2.2.2.2.2.2.2.1 u1.2.2.2.2.2.2.2.2.2.2.2.2.2.2.2.2.2.2.2.2.2.1 u1.2.2.2.2.2.2.2.2.2.2.2.2.2.2.2.2.2.2.2.2.2.2.1 u1.2.2.2.2.2.2.2.2.2.2.2.2.2.2.2.2.2.2.2.2.2.2.2.1 u1.2.2.2.2.2.2.2.2.2.2.2.2.2.2.2.2.2.2.2.2.2.2.2.2.1 u1.2.2.2.2.2.2.2.2.2.2.2.2.2.2.2.2.2.2.2.2.2.2.2.2.2 p1 u6 e7) (cwV 1 hts gX5_walls_X1_wallsOf rfl rfl rfl (by decide +kernel) ⟨Nat.le_of_ble_eq_true rfl, Nat.le_of_ble_eq_true rfl⟩) ⟨cPre_blind, va_recv hK hP (ci := 1) (q0 := 14) rfl rfl, cPre_at hP hK hN hD hS hA hZ⟩ rfl rfl hl.1 rfl (lv_room (Nat.le_of_ble_eq_true rfl)) dX5_walls_15 ⟨Nat.le_of_ble_eq_true rfl, Nat.le_of_ble_eq_true rfl⟩) hD hS hA (fun H locs hP hD hS => ?_)
    refine lv_goto (tgt := 22) hx hb dX5_walls_18 (by decide) ?_
    obtain rfl := Option.some.inj h
    exact W.iret (v := u6) hx hb hr (fun t ht hW => ⟨⟨u6, (), rfl, rfl, by rw [ht]; exact hP, hD⟩, hS.F ht⟩) hS.2.2 dX5_walls_22

-- X5_beside
theorem wmX5_beside_0 : (.fieldLink RX5 23 "SpaceWalls" "planes" "LSpaceWalls$Planes;" : Cond) ∈ wsX5_beside := by decide +kernel
theorem wiX5_beside_X5 : ∀ w ∈ u_ws RX5 TX5 5, w ∈ wsX5_beside := by decide +kernel
set_option maxHeartbeats 8000000 in
set_option maxRecDepth 100000 in
theorem kX5_beside (l : Launch) (D : va_G) (q : Nat → Nat) (cI cJ cZ : ClassId) (tP sz : Nat) (vnum : Int32) (vsz : Int32) (vfr : Int32) (vfo : Int32) (vli : Int32) (va : (Nat → Int32)) (vb : (Nat → Int32)) (vc : (Nat → Int32)) (ve : (Nat → Int32)) (vth : (Nat → Int32)) (vrk : (Nat → Int32)) (vcm : (Nat → Int32)) (vkx : (Nat → Int32)) (vky : (Nat → Int32)) (vkz : (Nat → Int32)) (vmk : (Nat → Int32)) (vre : (Nat → Int32)) (vro : (Nat → Int32)) (vwi : (Nat → Int32)) (vla : (Nat → Int32)) (vlb : (Nat → Int32)) (vtu : (Nat → Int32)) (k0x : Int32) (k0y : Int32) (k0z : Int32) (k1x : Int32) (k1y : Int32) (k1z : Int32) (k2x : Int32) (k2y : Int32) (k2z : Int32) (k3x : Int32) (k3y : Int32) (k3z : Int32) (p1 : Int32) (p2 : Int32) (uu : (Int32 × Int32 × Int32 × Int32 × (Nat → Int32) × (Nat → Int32) × (Nat → Int32) × (Nat → Int32) × (Nat → Int32) × (Nat → Int32) × (Nat → Int32) × (Nat → Int32) × (Nat → Int32) × (Nat → Int32) × (Nat → Int32) × Int32 × Int32 × Int32 × Int32 × Int32 × Int32 × Int32 × Int32 × Int32 × Int32 × Int32 × Int32)) (h : fX5_beside vnum vsz vfr vfo vli va vb vc ve vth vrk vcm vkx vky vkz vmk vre vro vwi vla vlb k0x k0y k0z k1x k1y k1z k2x k2y k2z k3x k3y k3z p1 p2 = some uu) : Met l yX5_beside wsX5_beside ({ frames := 7, cells := 0, slots := 0, locals := 167 }) (cPre D cI cJ cZ tP (WC_ q cI cZ vnum vsz vfr vfo vli va vb vc ve vth vrk vcm vkx vky vkz vmk vre vro vwi vla vlb vtu k0x k0y k0z k1x k1y k1z k2x k2y k2z k3x k3y k3z) sz [.ref (q 0), .int p1, .int p2]) (cQi D (va_A (WC_ q cI cZ vnum vsz vfr vfo vli va vb vc ve vth vrk vcm vkx vky vkz vmk vre vro vwi vla vlb vtu k0x k0y k0z k1x k1y k1z k2x k2y k2z k3x k3y k3z) sz) (WC_ q cI cZ vnum vsz uu.2.1 uu.2.2.1 uu.2.2.2.1 va vb vc ve vth uu.2.2.2.2.1 uu.2.2.2.2.2.1 uu.2.2.2.2.2.2.1 uu.2.2.2.2.2.2.2.1 uu.2.2.2.2.2.2.2.2.1 uu.2.2.2.2.2.2.2.2.2.1 uu.2.2.2.2.2.2.2.2.2.2.1 uu.2.2.2.2.2.2.2.2.2.2.2.1 uu.2.2.2.2.2.2.2.2.2.2.2.2.1 uu.2.2.2.2.2.2.2.2.2.2.2.2.2.1 uu.2.2.2.2.2.2.2.2.2.2.2.2.2.2.1 vtu uu.2.2.2.2.2.2.2.2.2.2.2.2.2.2.2.1 uu.2.2.2.2.2.2.2.2.2.2.2.2.2.2.2.2.1 uu.2.2.2.2.2.2.2.2.2.2.2.2.2.2.2.2.2.1 uu.2.2.2.2.2.2.2.2.2.2.2.2.2.2.2.2.2.2.1 uu.2.2.2.2.2.2.2.2.2.2.2.2.2.2.2.2.2.2.2.1 uu.2.2.2.2.2.2.2.2.2.2.2.2.2.2.2.2.2.2.2.2.1 uu.2.2.2.2.2.2.2.2.2.2.2.2.2.2.2.2.2.2.2.2.2.1 uu.2.2.2.2.2.2.2.2.2.2.2.2.2.2.2.2.2.2.2.2.2.2.1 uu.2.2.2.2.2.2.2.2.2.2.2.2.2.2.2.2.2.2.2.2.2.2.2.1 uu.2.2.2.2.2.2.2.2.2.2.2.2.2.2.2.2.2.2.2.2.2.2.2.2.1 uu.2.2.2.2.2.2.2.2.2.2.2.2.2.2.2.2.2.2.2.2.2.2.2.2.2.1 uu.2.2.2.2.2.2.2.2.2.2.2.2.2.2.2.2.2.2.2.2.2.2.2.2.2.2) uu.1) 0 0 (va_A (WC_ q cI cZ vnum vsz vfr vfo vli va vb vc ve vth vrk vcm vkx vky vkz vmk vre vro vwi vla vlb vtu k0x k0y k0z k1x k1y k1z k2x k2y k2z k3x k3y k3z) sz) := by
  refine Met.ofW (cc := cX5_beside) (maxL := 5) (ret := (some .int)) (by decide) rfl ?_
  intro p e s m args below meth c s₁ B hml hv
  obtain ⟨rfl, hsz, hP, hK, hN, hD0, hZ⟩ := hv
  have hx := B.exec
  have hb := B.bytes
  have hr := B.returns
  have hts := atoms_spec (ws := wsX5_beside) B.pre
  have hown : s.vm.findClass RX5 = some m.cls := findClass_of_methodNamed B.named
  have hlocks := B.notSynchronized
  subst hsz
  have hD := hD0.self (sz := s.heap.size)
  generalize hAe : va_A (WC_ q cI cZ vnum vsz vfr vfo vli va vb vc ve vth vrk vcm vkx vky vkz vmk vre vro vwi vla vlb vtu k0x k0y k0z k1x k1y k1z k2x k2y k2z k3x k3y k3z) s.heap.size = A at hD hZ ⊢
  have hA : ∀ q : Nat, s.heap.size ≤ q → A q := fun q h => by rw [← hAe]; exact Or.inr h
  have hS : va_S A s.heap s.heap [] := va_S.rf
  have hl := lv_entry ([.ref (q 0), .int p1, .int p2]) (n := 5) (Nat.le_of_ble_eq_true rfl)
  rw [lg_entry_eq]
  generalize (lg_sl ([.ref (q 0), .int p1, .int p2]) ++ List.replicate (5 - (lg_sl ([.ref (q 0), .int p1, .int p2])).length) Slot.unset).toArray = ls at hl ⊢
  have hl : lv_has ls 5 [(0, .ref (q 0)), (1, .int p1), (2, .int p2)] := hl
  unfold fX5_beside at h
  refine lv_aload_n hx hb dX5_beside_0 rfl (lv_at hl 0 rfl) ?_
  obtain ⟨u1, e2, h⟩ := bd_some h
  refine k_r (va_runV (As := []) (rest := []) ⟨hx, hb, hml, hown, hts⟩ (kX5_freshCut l D q cI cJ cZ tP s.heap.size vnum vsz vfr vfo vli va vb vc ve vth vrk vcm vkx vky vkz vmk vre vro vwi vla vlb vtu k0x k0y k0z k1x k1y k1z k2x k2y k2z k3x k3y k3z  u1 e2) (cwV 0 hts gX5_beside_X5_freshCut rfl rfl rfl (by decide +kernel) ⟨Nat.le_of_ble_eq_true rfl, Nat.le_of_ble_eq_true rfl⟩) ⟨cPre_blind, va_recv hK hP (ci := 5) (q0 := 0) rfl rfl, cPre_at hP hK hN hD hS hA hZ⟩ rfl rfl hl.1 rfl (lv_room (Nat.le_of_ble_eq_true rfl)) dX5_beside_1 ⟨Nat.le_of_ble_eq_true rfl, Nat.le_of_ble_eq_true rfl⟩) hD hS hA (fun H locs hP hD hS => ?_)
  refine lv_astore_n (lv' := [(3, .ref (q 14)), (0, .ref (q 0)), (1, .int p1), (2, .int p2)]) hx hb dX5_beside_4 rfl hl (by decide) rfl (fun ls hl => ?_)
  refine lv_aload_n hx hb dX5_beside_5 rfl (lv_at hl 1 rfl) ?_
  refine va_get (D := D) (ci := 5) (v := .ref (q 1)) (C := RX5) (T := TX5) (N := 5) hx hb hts wiX5_beside_X5 hown hK hP 0 rfl rfl 0 (by decide) (hts _ wmX5_beside_0) (fun _ h9 => h9) rfl dX5_beside_6 ?_
  refine lv_iload_n hx hb dX5_beside_9 rfl (lv_at hl 3 rfl) ?_
  obtain ⟨u3, e4, h⟩ := bd_some h
  refine k_i (va_runV (As := [.int p2]) (rest := []) ⟨hx, hb, hml, hown, hts⟩ (kX3_holds l D q cI cJ cZ tP H.size vnum vsz u1.1 u1.2.1 u1.2.2.1 va vb vc ve vth u1.2.2.2.1 u1.2.2.2.2.1 u1.2.2.2.2.2.1 u1.2.2.2.2.2.2.1 u1.2.2.2.2.2.2.2.1 u1.2.2.2.2.2.2.2.2.1 u1.2.2.2.2.2.2.2.2.2.1 u1.2.2.2.2.2.2.2.2.2.2.1 u1.2.2.2.2.2.2.2.2.2.2.2.1 u1.2.2.2.2.2.2.2.2.2.2.2.2.1 u1.2.2.2.2.2.2.2.2.2.2.2.2.2.1 vtu u1.2.2.2.2.2.2.2.2.2.2.2.2.2.2.1 u1.2.2.2.2.2.2.2.2.2.2.2.2.2.2.2.1 u1.2.2.2.2.2.2.2.2.2.2.2.2.2.2.2.2.1 u1.2.2.2.2.2.2.2.2.2.2.2.2.2.2.2.2.2.1 u1.2.2.2.2.2.2.2.2.2.2.2.2.2.2.2.2.2.2.1 u1.2.2.2.2.2.2.2.2.2.2.2.2.2.2.2.2.2.2.2.1 u1.2.2.2.2.2.2.2.2.2.2.2.2.2.2.2.2.2.2.2.2.1 u1.2.2.2.2.2.2.2.2.2.2.2.2.2.2.2.2.2.2.2.2.2.1 u1.2.2.2.2.2.2.2.2.2.2.2.2.2.2.2.2.2.2.2.2.2.2.1 u1.2.2.2.2.2.2.2.2.2.2.2.2.2.2.2.2.2.2.2.2.2.2.2.1 u1.2.2.2.2.2.2.2.2.2.2.2.2.2.2.2.2.2.2.2.2.2.2.2.2.1 u1.2.2.2.2.2.2.2.2.2.2.2.2.2.2.2.2.2.2.2.2.2.2.2.2.2 p2 u3 e4) (cwV 1 hts gX5_beside_X3_holds rfl rfl rfl (by decide +kernel) ⟨Nat.le_of_ble_eq_true rfl, Nat.le_of_ble_eq_true rfl⟩) ⟨cPre_blind, va_recv hK hP (ci := 3) (q0 := 1) rfl rfl, cPre_at hP hK hN hD hS hA hZ⟩ rfl rfl hl.1 rfl (lv_room (Nat.le_of_ble_eq_true rfl)) dX5_beside_10 ⟨Nat.le_of_ble_eq_true rfl, Nat.le_of_ble_eq_true rfl⟩) hD hS hA (fun H locs hP hD hS => ?_)
  refine lv_if_eq (tgt := 24) hx hb dX5_beside_13 (by decide) (fun c5 => ?_) (fun c5 => ?_)
  · have h := (if_pos c5).symm.trans h
    refine lv_iconst (v := (-1 : Int32)) hx hb dX5_beside_24 (by decide) ?_
    obtain rfl := Option.some.inj h
    exact W.iret (v := (-1 : Int32)) hx hb hr (fun t ht hW => ⟨⟨(-1 : Int32), (), rfl, rfl, by rw [ht]; exact hP, hD⟩, hS.F ht⟩) hS.2.2 dX5_beside_25
  · have h := (if_neg c5).symm.trans h
    refine lv_aload_n hx hb dX5_beside_16 rfl (lv_at hl 0 rfl) ?_
    refine lv_iload_n hx hb dX5_beside_17 rfl (lv_at hl 2 rfl) ?_
    obtain ⟨u6, e7, h⟩ := bd_some h
    refine k_i (va_runV (As := [.int p1]) (rest := []) ⟨hx, hb, hml, hown, hts⟩ (kX1_hasRoom l D q cI cJ cZ tP H.size vnum vsz u1.1 u1.2.1 u1.2.2.1 va vb vc ve vth u1.2.2.2.1 u1.2.2.2.2.1 u1.2.2.2.2.2.1 u1.2.2.2.2.2.2.1 u1.2.2.2.2.2.2.2.1 u1.2.2.2.2.2.2.2.2.1 u1.2.2.2.2.2.2.2.2.2.1 u1.2.2.2.2.2.2.2.2.2.2.1 u1.2.2.2.2.2.2.2.2.2.2.2.1 u1.2.2.2.2.2.2.2.2.2.2.2.2.1 u1.2.2.2.2.2.2.2.2.2.2.2.2.2.1 vtu u1.2.2.2.2.2.2.2.2.2.2.2.2.2.2.1 u1.2.2.2.2.2.2.2.2.2.2.2.2.2.2.2.1 u1.2.2.2.2.2.2.2.2.2.2.2.2.2.2.2.2.1 u1.2.2.2.2.2.2.2.2.2.2.2.2.2.2.2.2.2.1 u1.2.2.2.2.2.2.2.2.2.2.2.2.2.2.2.2.2.2.1 u1.2.2.2.2.2.2.2.2.2.2.2.2.2.2.2.2.2.2.2.1 u1.2.2.2.2.2.2.2.2.2.2.2.2.2.2.2.2.2.2.2.2.1 u1.2.2.2.2.2.2.2.2.2.2.2.2.2.2.2.2.2.2.2.2.2.1 u1.2.2.2.2.2.2.2.2.2.2.2.2.2.2.2.2.2.2.2.2.2.2.1 u1.2.2.2.2.2.2.2.2.2.2.2.2.2.2.2.2.2.2.2.2.2.2.2.1 u1.2.2.2.2.2.2.2.2.2.2.2.2.2.2.2.2.2.2.2.2.2.2.2.2.1 u1.2.2.2.2.2.2.2.2.2.2.2.2.2.2.2.2.2.2.2.2.2.2.2.2.2 p1 u6 e7) (cwV 1 hts gX5_beside_X1_hasRoom rfl rfl rfl (by decide +kernel) ⟨Nat.le_of_ble_eq_true rfl, Nat.le_of_ble_eq_true rfl⟩) ⟨cPre_blind, va_recv hK hP (ci := 1) (q0 := 14) rfl rfl, cPre_at hP hK hN hD hS hA hZ⟩ rfl rfl hl.1 rfl (lv_room (Nat.le_of_ble_eq_true rfl)) dX5_beside_18 ⟨Nat.le_of_ble_eq_true rfl, Nat.le_of_ble_eq_true rfl⟩) hD hS hA (fun H locs hP hD hS => ?_)
    refine lv_if_ne (tgt := 26) hx hb dX5_beside_21 (by decide) (fun c8 => ?_) (fun c8 => ?_)
    · have h := (if_neg c8).symm.trans h
      refine lv_iload_n hx hb dX5_beside_26 rfl (lv_at hl 2 rfl) ?_
      refine lv_iload_n hx hb dX5_beside_27 rfl (lv_at hl 3 rfl) ?_
      obtain ⟨u9, e10, h⟩ := bd_some h
      refine k_i0 (va_runS (As := [.int p1, .int p2]) (rest := []) ⟨hx, hb, hml, hown, hts⟩ (kX5_across l D cI cJ cZ tP H.size  p1 p2 u9 e10) (va_cwS 2 hts gX5_beside_X5_across rfl rfl rfl (by decide +kernel) ⟨Nat.le_of_ble_eq_true rfl, Nat.le_of_ble_eq_true rfl⟩) ⟨cPre_blind, cPre_at0 hK hN hS hA hZ⟩ rfl rfl hl.1 rfl (lv_room (Nat.le_of_ble_eq_true rfl)) dX5_beside_28 ⟨Nat.le_of_ble_eq_true rfl, Nat.le_of_ble_eq_true rfl⟩) hP hS hA (fun H locs hP hS => ?_)
      refine lv_istore (lv' := [(4, .int u9), (3, .ref (q 14)), (0, .ref (q 0)), (1, .int p1), (2, .int p2)]) hx hb dX5_beside_31 hl (by decide) rfl (fun ls hl => ?_)
      refine lv_aload_n hx hb dX5_beside_33 rfl (lv_at hl 1 rfl) ?_
      refine lv_iload hx hb dX5_beside_34 (lv_at hl 0 rfl) ?_
      obtain ⟨u11, e12, h⟩ := bd_some h
      refine k_i (va_runV (As := [.int u9]) (rest := []) ⟨hx, hb, hml, hown, hts⟩ (kX1_hasRoom l D q cI cJ cZ tP H.size vnum vsz u1.1 u1.2.1 u1.2.2.1 va vb vc ve vth u1.2.2.2.1 u1.2.2.2.2.1 u1.2.2.2.2.2.1 u1.2.2.2.2.2.2.1 u1.2.2.2.2.2.2.2.1 u1.2.2.2.2.2.2.2.2.1 u1.2.2.2.2.2.2.2.2.2.1 u1.2.2.2.2.2.2.2.2.2.2.1 u1.2.2.2.2.2.2.2.2.2.2.2.1 u1.2.2.2.2.2.2.2.2.2.2.2.2.1 u1.2.2.2.2.2.2.2.2.2.2.2.2.2.1 vtu u1.2.2.2.2.2.2.2.2.2.2.2.2.2.2.1 u1.2.2.2.2.2.2.2.2.2.2.2.2.2.2.2.1 u1.2.2.2.2.2.2.2.2.2.2.2.2.2.2.2.2.1 u1.2.2.2.2.2.2.2.2.2.2.2.2.2.2.2.2.2.1 u1.2.2.2.2.2.2.2.2.2.2.2.2.2.2.2.2.2.2.1 u1.2.2.2.2.2.2.2.2.2.2.2.2.2.2.2.2.2.2.2.1 u1.2.2.2.2.2.2.2.2.2.2.2.2.2.2.2.2.2.2.2.2.1 u1.2.2.2.2.2.2.2.2.2.2.2.2.2.2.2.2.2.2.2.2.2.1 u1.2.2.2.2.2.2.2.2.2.2.2.2.2.2.2.2.2.2.2.2.2.2.1 u1.2.2.2.2.2.2.2.2.2.2.2.2.2.2.2.2.2.2.2.2.2.2.2.1 u1.2.2.2.2.2.2.2.2.2.2.2.2.2.2.2.2.2.2.2.2.2.2.2.2.1 u1.2.2.2.2.2.2.2.2.2.2.2.2.2.2.2.2.2.2.2.2.2.2.2.2.2 u9 u11 e12) (cwV 1 hts gX5_beside_X1_hasRoom rfl rfl rfl (by decide +kernel) ⟨Nat.le_of_ble_eq_true rfl, Nat.le_of_ble_eq_true rfl⟩) ⟨cPre_blind, va_recv hK hP (ci := 1) (q0 := 14) rfl rfl, cPre_at hP hK hN hD hS hA hZ⟩ rfl rfl hl.1 rfl (lv_room (Nat.le_of_ble_eq_true rfl)) dX5_beside_36 ⟨Nat.le_of_ble_eq_true rfl, Nat.le_of_ble_eq_true rfl⟩) hD hS hA (fun H locs hP hD hS => ?_)
      refine lv_if_eq (tgt := 47) hx hb dX5_beside_39 (by decide) (fun c13 => ?_) (fun c13 => ?_)
      · have h := (if_pos c13).symm.trans h
        refine lv_iconst (v := (-1 : Int32)) hx hb dX5_beside_47 (by decide) ?_
        obtain rfl := Option.some.inj h
        exact W.iret (v := (-1 : Int32)) hx hb hr (fun t ht hW => ⟨⟨(-1 : Int32), (), rfl, rfl, by rw [ht]; exact hP, hD⟩, hS.F ht⟩) hS.2.2 dX5_beside_48
      · have h := (if_neg c13).symm.trans h
        refine lv_iload hx hb dX5_beside_42 (lv_at hl 0 rfl) ?_
        refine lv_goto (tgt := 48) hx hb dX5_beside_44 (by decide) ?_
        obtain rfl := Option.some.inj h
        exact W.iret (v := u9) hx hb hr (fun t ht hW => ⟨⟨u9, (), rfl, rfl, by rw [ht]; exact hP, hD⟩, hS.F ht⟩) hS.2.2 dX5_beside_48
    · have h := (if_pos c8).symm.trans h
      refine lv_iconst (v := (-1 : Int32)) hx hb dX5_beside_24 (by decide) ?_
      obtain rfl := Option.some.inj h
      exact W.iret (v := (-1 : Int32)) hx hb hr (fun t ht hW => ⟨⟨(-1 : Int32), (), rfl, rfl, by rw [ht]; exact hP, hD⟩, hS.F ht⟩) hS.2.2 dX5_beside_25

-- X5_way
set_option maxHeartbeats 8000000 in
set_option maxRecDepth 100000 in
theorem kX5_way (l : Launch) (D : va_G) (q : Nat → Nat) (cI cJ cZ : ClassId) (tP sz : Nat) (vnum : Int32) (vsz : Int32) (vfr : Int32) (vfo : Int32) (vli : Int32) (va : (Nat → Int32)) (vb : (Nat → Int32)) (vc : (Nat → Int32)) (ve : (Nat → Int32)) (vth : (Nat → Int32)) (vrk : (Nat → Int32)) (vcm : (Nat → Int32)) (vkx : (Nat → Int32)) (vky : (Nat → Int32)) (vkz : (Nat → Int32)) (vmk : (Nat → Int32)) (vre : (Nat → Int32)) (vro : (Nat → Int32)) (vwi : (Nat → Int32)) (vla : (Nat → Int32)) (vlb : (Nat → Int32)) (vtu : (Nat → Int32)) (k0x : Int32) (k0y : Int32) (k0z : Int32) (k1x : Int32) (k1y : Int32) (k1z : Int32) (k2x : Int32) (k2y : Int32) (k2z : Int32) (k3x : Int32) (k3y : Int32) (k3z : Int32) (p1 : Int32) (p2 : Int32) (uu : (Int32 × Int32 × Int32 × Int32 × (Nat → Int32) × (Nat → Int32) × (Nat → Int32) × (Nat → Int32) × (Nat → Int32) × (Nat → Int32) × (Nat → Int32) × (Nat → Int32) × (Nat → Int32) × (Nat → Int32) × (Nat → Int32) × Int32 × Int32 × Int32 × Int32 × Int32 × Int32 × Int32 × Int32 × Int32 × Int32 × Int32 × Int32)) (h : fX5_way vnum vsz vfr vfo vli va vb vc ve vth vrk vcm vkx vky vkz vmk vre vro vwi vla vlb k0x k0y k0z k1x k1y k1z k2x k2y k2z k3x k3y k3z p1 p2 = some uu) : Met l yX5_way wsX5_way ({ frames := 7, cells := 0, slots := 0, locals := 167 }) (cPre D cI cJ cZ tP (WC_ q cI cZ vnum vsz vfr vfo vli va vb vc ve vth vrk vcm vkx vky vkz vmk vre vro vwi vla vlb vtu k0x k0y k0z k1x k1y k1z k2x k2y k2z k3x k3y k3z) sz [.ref (q 0), .int p1, .int p2]) (cQi D (va_A (WC_ q cI cZ vnum vsz vfr vfo vli va vb vc ve vth vrk vcm vkx vky vkz vmk vre vro vwi vla vlb vtu k0x k0y k0z k1x k1y k1z k2x k2y k2z k3x k3y k3z) sz) (WC_ q cI cZ vnum vsz uu.2.1 uu.2.2.1 uu.2.2.2.1 va vb vc ve vth uu.2.2.2.2.1 uu.2.2.2.2.2.1 uu.2.2.2.2.2.2.1 uu.2.2.2.2.2.2.2.1 uu.2.2.2.2.2.2.2.2.1 uu.2.2.2.2.2.2.2.2.2.1 uu.2.2.2.2.2.2.2.2.2.2.1 uu.2.2.2.2.2.2.2.2.2.2.2.1 uu.2.2.2.2.2.2.2.2.2.2.2.2.1 uu.2.2.2.2.2.2.2.2.2.2.2.2.2.1 uu.2.2.2.2.2.2.2.2.2.2.2.2.2.2.1 vtu uu.2.2.2.2.2.2.2.2.2.2.2.2.2.2.2.1 uu.2.2.2.2.2.2.2.2.2.2.2.2.2.2.2.2.1 uu.2.2.2.2.2.2.2.2.2.2.2.2.2.2.2.2.2.1 uu.2.2.2.2.2.2.2.2.2.2.2.2.2.2.2.2.2.2.1 uu.2.2.2.2.2.2.2.2.2.2.2.2.2.2.2.2.2.2.2.1 uu.2.2.2.2.2.2.2.2.2.2.2.2.2.2.2.2.2.2.2.2.1 uu.2.2.2.2.2.2.2.2.2.2.2.2.2.2.2.2.2.2.2.2.2.1 uu.2.2.2.2.2.2.2.2.2.2.2.2.2.2.2.2.2.2.2.2.2.2.1 uu.2.2.2.2.2.2.2.2.2.2.2.2.2.2.2.2.2.2.2.2.2.2.2.1 uu.2.2.2.2.2.2.2.2.2.2.2.2.2.2.2.2.2.2.2.2.2.2.2.2.1 uu.2.2.2.2.2.2.2.2.2.2.2.2.2.2.2.2.2.2.2.2.2.2.2.2.2.1 uu.2.2.2.2.2.2.2.2.2.2.2.2.2.2.2.2.2.2.2.2.2.2.2.2.2.2) uu.1) 0 0 (va_A (WC_ q cI cZ vnum vsz vfr vfo vli va vb vc ve vth vrk vcm vkx vky vkz vmk vre vro vwi vla vlb vtu k0x k0y k0z k1x k1y k1z k2x k2y k2z k3x k3y k3z) sz) := by
  refine Met.ofW (cc := cX5_way) (maxL := 4) (ret := (some .int)) (by decide) rfl ?_
  intro p e s m args below meth c s₁ B hml hv
  obtain ⟨rfl, hsz, hP, hK, hN, hD0, hZ⟩ := hv
  have hx := B.exec
  have hb := B.bytes
  have hr := B.returns
  have hts := atoms_spec (ws := wsX5_way) B.pre
  have hown : s.vm.findClass RX5 = some m.cls := findClass_of_methodNamed B.named
  have hlocks := B.notSynchronized
  subst hsz
  have hD := hD0.self (sz := s.heap.size)
  generalize hAe : va_A (WC_ q cI cZ vnum vsz vfr vfo vli va vb vc ve vth vrk vcm vkx vky vkz vmk vre vro vwi vla vlb vtu k0x k0y k0z k1x k1y k1z k2x k2y k2z k3x k3y k3z) s.heap.size = A at hD hZ ⊢
  have hA : ∀ q : Nat, s.heap.size ≤ q → A q := fun q h => by rw [← hAe]; exact Or.inr h
  have hS : va_S A s.heap s.heap [] := va_S.rf
  have hl := lv_entry ([.ref (q 0), .int p1, .int p2]) (n := 4) (Nat.le_of_ble_eq_true rfl)
  rw [lg_entry_eq]
  generalize (lg_sl ([.ref (q 0), .int p1, .int p2]) ++ List.replicate (4 - (lg_sl ([.ref (q 0), .int p1, .int p2])).length) Slot.unset).toArray = ls at hl ⊢
  have hl : lv_has ls 4 [(0, .ref (q 0)), (1, .int p1), (2, .int p2)] := hl
  unfold fX5_way at h
  refine lv_aload_n hx hb dX5_way_0 rfl (lv_at hl 0 rfl) ?_
  obtain ⟨u1, e2, h⟩ := bd_some h
  refine k_r (va_runV (As := []) (rest := []) ⟨hx, hb, hml, hown, hts⟩ (kX5_freshCut l D q cI cJ cZ tP s.heap.size vnum vsz vfr vfo vli va vb vc ve vth vrk vcm vkx vky vkz vmk vre vro vwi vla vlb vtu k0x k0y k0z k1x k1y k1z k2x k2y k2z k3x k3y k3z  u1 e2) (cwV 0 hts gX5_way_X5_freshCut rfl rfl rfl (by decide +kernel) ⟨Nat.le_of_ble_eq_true rfl, Nat.le_of_ble_eq_true rfl⟩) ⟨cPre_blind, va_recv hK hP (ci := 5) (q0 := 0) rfl rfl, cPre_at hP hK hN hD hS hA hZ⟩ rfl rfl hl.1 rfl (lv_room (Nat.le_of_ble_eq_true rfl)) dX5_way_1 ⟨Nat.le_of_ble_eq_true rfl, Nat.le_of_ble_eq_true rfl⟩) hD hS hA (fun H locs hP hD hS => ?_)
  refine lv_astore_n (lv' := [(3, .ref (q 14)), (0, .ref (q 0)), (1, .int p1), (2, .int p2)]) hx hb dX5_way_4 rfl hl (by decide) rfl (fun ls hl => ?_)
  refine lv_aload_n hx hb dX5_way_5 rfl (lv_at hl 0 rfl) ?_
  refine lv_iload_n hx hb dX5_way_6 rfl (lv_at hl 2 rfl) ?_
  obtain ⟨u3, e4, h⟩ := bd_some h
  refine k_i (va_runV (As := [.int p1]) (rest := []) ⟨hx, hb, hml, hown, hts⟩ (kX1_hasRoom l D q cI cJ cZ tP H.size vnum vsz u1.1 u1.2.1 u1.2.2.1 va vb vc ve vth u1.2.2.2.1 u1.2.2.2.2.1 u1.2.2.2.2.2.1 u1.2.2.2.2.2.2.1 u1.2.2.2.2.2.2.2.1 u1.2.2.2.2.2.2.2.2.1 u1.2.2.2.2.2.2.2.2.2.1 u1.2.2.2.2.2.2.2.2.2.2.1 u1.2.2.2.2.2.2.2.2.2.2.2.1 u1.2.2.2.2.2.2.2.2.2.2.2.2.1 u1.2.2.2.2.2.2.2.2.2.2.2.2.2.1 vtu u1.2.2.2.2.2.2.2.2.2.2.2.2.2.2.1 u1.2.2.2.2.2.2.2.2.2.2.2.2.2.2.2.1 u1.2.2.2.2.2.2.2.2.2.2.2.2.2.2.2.2.1 u1.2.2.2.2.2.2.2.2.2.2.2.2.2.2.2.2.2.1 u1.2.2.2.2.2.2.2.2.2.2.2.2.2.2.2.2.2.2.1 u1.2.2.2.2.2.2.2.2.2.2.2.2.2.2.2.2.2.2.2.1 u1.2.2.2.2.2.2.2.2.2.2.2.2.2.2.2.2.2.2.2.2.1 u1.2.2.2.2.2.2.2.2.2.2.2.2.2.2.2.2.2.2.2.2.2.1 u1.2.2.2.2.2.2.2.2.2.2.2.2.2.2.2.2.2.2.2.2.2.2.1 u1.2.2.2.2.2.2.2.2.2.2.2.2.2.2.2.2.2.2.2.2.2.2.2.1 u1.2.2.2.2.2.2.2.2.2.2.2.2.2.2.2.2.2.2.2.2.2.2.2.2.1 u1.2.2.2.2.2.2.2.2.2.2.2.2.2.2.2.2.2.2.2.2.2.2.2.2.2 p1 u3 e4) (cwV 1 hts gX5_way_X1_hasRoom rfl rfl rfl (by decide +kernel) ⟨Nat.le_of_ble_eq_true rfl, Nat.le_of_ble_eq_true rfl⟩) ⟨cPre_blind, va_recv hK hP (ci := 1) (q0 := 14) rfl rfl, cPre_at hP hK hN hD hS hA hZ⟩ rfl rfl hl.1 rfl (lv_room (Nat.le_of_ble_eq_true rfl)) dX5_way_7 ⟨Nat.le_of_ble_eq_true rfl, Nat.le_of_ble_eq_true rfl⟩) hD hS hA (fun H locs hP hD hS => ?_)
  refine lv_if_eq (tgt := 21) hx hb dX5_way_10 (by decide) (fun c5 => ?_) (fun c5 => ?_)
  · have h := (if_pos c5).symm.trans h
    refine lv_iconst (v := (-1 : Int32)) hx hb dX5_way_21 (by decide) ?_
    obtain rfl := Option.some.inj h
    exact W.iret (v := (-1 : Int32)) hx hb hr (fun t ht hW => ⟨⟨(-1 : Int32), (), rfl, rfl, by rw [ht]; exact hP, hD⟩, hS.F ht⟩) hS.2.2 dX5_way_22
  · have h := (if_neg c5).symm.trans h
    refine lv_aload_n hx hb dX5_way_13 rfl (lv_at hl 0 rfl) ?_
    refine lv_iload_n hx hb dX5_way_14 rfl (lv_at hl 3 rfl) ?_
    obtain ⟨u6, e7, h⟩ := bd_some h
    refine k_i (va_runV (As := [.int p2]) (rest := []) ⟨hx, hb, hml, hown, hts⟩ (kX1_hasRoom l D q cI cJ cZ tP H.size vnum vsz u1.1 u1.2.1 u1.2.2.1 va vb vc ve vth u1.2.2.2.1 u1.2.2.2.2.1 u1.2.2.2.2.2.1 u1.2.2.2.2.2.2.1 u1.2.2.2.2.2.2.2.1 u1.2.2.2.2.2.2.2.2.1 u1.2.2.2.2.2.2.2.2.2.1 u1.2.2.2.2.2.2.2.2.2.2.1 u1.2.2.2.2.2.2.2.2.2.2.2.1 u1.2.2.2.2.2.2.2.2.2.2.2.2.1 u1.2.2.2.2.2.2.2.2.2.2.2.2.2.1 vtu u1.2.2.2.2.2.2.2.2.2.2.2.2.2.2.1 u1.2.2.2.2.2.2.2.2.2.2.2.2.2.2.2.1 u1.2.2.2.2.2.2.2.2.2.2.2.2.2.2.2.2.1 u1.2.2.2.2.2.2.2.2.2.2.2.2.2.2.2.2.2.1 u1.2.2.2.2.2.2.2.2.2.2.2.2.2.2.2.2.2.2.1 u1.2.2.2.2.2.2.2.2.2.2.2.2.2.2.2.2.2.2.2.1 u1.2.2.2.2.2.2.2.2.2.2.2.2.2.2.2.2.2.2.2.2.1 u1.2.2.2.2.2.2.2.2.2.2.2.2.2.2.2.2.2.2.2.2.2.1 u1.2.2.2.2.2.2.2.2.2.2.2.2.2.2.2.2.2.2.2.2.2.2.1 u1.2.2.2.2.2.2.2.2.2.2.2.2.2.2.2.2.2.2.2.2.2.2.2.1 u1.2.2.2.2.2.2.2.2.2.2.2.2.2.2.2.2.2.2.2.2.2.2.2.2.1 u1.2.2.2.2.2.2.2.2.2.2.2.2.2.2.2.2.2.2.2.2.2.2.2.2.2 p2 u6 e7) (cwV 1 hts gX5_way_X1_hasRoom rfl rfl rfl (by decide +kernel) ⟨Nat.le_of_ble_eq_true rfl, Nat.le_of_ble_eq_true rfl⟩) ⟨cPre_blind, va_recv hK hP (ci := 1) (q0 := 14) rfl rfl, cPre_at hP hK hN hD hS hA hZ⟩ rfl rfl hl.1 rfl (lv_room (Nat.le_of_ble_eq_true rfl)) dX5_way_15 ⟨Nat.le_of_ble_eq_true rfl, Nat.le_of_ble_eq_true rfl⟩) hD hS hA (fun H locs hP hD hS => ?_)
    refine lv_if_ne (tgt := 23) hx hb dX5_way_18 (by decide) (fun c8 => ?_) (fun c8 => ?_)
    · have h := (if_neg c8).symm.trans h
      refine lv_iload_n hx hb dX5_way_23 rfl (lv_at hl 2 rfl) ?_
      refine lv_iload_n hx hb dX5_way_24 rfl (lv_at hl 3 rfl) ?_
      obtain ⟨u9, e10, h⟩ := bd_some h
      refine k_i0 (va_runS (As := [.int p1, .int p2]) (rest := []) ⟨hx, hb, hml, hown, hts⟩ (kX5_parting l D cI cJ cZ tP H.size  p1 p2 u9 e10) (va_cwS 2 hts gX5_way_X5_parting rfl rfl rfl (by decide +kernel) ⟨Nat.le_of_ble_eq_true rfl, Nat.le_of_ble_eq_true rfl⟩) ⟨cPre_blind, cPre_at0 hK hN hS hA hZ⟩ rfl rfl hl.1 rfl (lv_room (Nat.le_of_ble_eq_true rfl)) dX5_way_25 ⟨Nat.le_of_ble_eq_true rfl, Nat.le_of_ble_eq_true rfl⟩) hP hS hA (fun H locs hP hS => ?_)
      obtain ⟨u11, e12, h⟩ := bd_some h
      refine k_i0 (va_runS (As := [.int u9]) (rest := []) ⟨hx, hb, hml, hown, hts⟩ (kJ6_bitCount_0f7a4 l D cI cJ cZ tP H.size  u9 u11 e12) (va_cwS 1 hts gX5_way_J6_bitCount_0f7a4 rfl rfl rfl (by decide +kernel) ⟨Nat.le_of_ble_eq_true rfl, Nat.le_of_ble_eq_true rfl⟩) ⟨cPre_blind, cPre_at0 hK hN hS hA hZ⟩ rfl rfl hl.1 rfl (lv_room (Nat.le_of_ble_eq_true rfl)) dX5_way_28 ⟨Nat.le_of_ble_eq_true rfl, Nat.le_of_ble_eq_true rfl⟩) hP hS hA (fun H locs hP hS => ?_)
      obtain rfl := Option.some.inj h
      exact W.iret (v := u11) hx hb hr (fun t ht hW => ⟨⟨u11, (), rfl, rfl, by rw [ht]; exact hP, hD⟩, hS.F ht⟩) hS.2.2 dX5_way_31
    · have h := (if_pos c8).symm.trans h
      refine lv_iconst (v := (-1 : Int32)) hx hb dX5_way_21 (by decide) ?_
      obtain rfl := Option.some.inj h
      exact W.iret (v := (-1 : Int32)) hx hb hr (fun t ht hW => ⟨⟨(-1 : Int32), (), rfl, rfl, by rw [ht]; exact hP, hD⟩, hS.F ht⟩) hS.2.2 dX5_way_22

-- X5_step
theorem wmX5_step_0 : (.fieldLink RX5 23 "SpaceWalls" "planes" "LSpaceWalls$Planes;" : Cond) ∈ wsX5_step := by decide +kernel
theorem wiX5_step_X5 : ∀ w ∈ u_ws RX5 TX5 5, w ∈ wsX5_step := by decide +kernel
theorem wiX5_step_X3 : ∀ w ∈ u_ws RX3 TX3 7, w ∈ wsX5_step := by decide +kernel
set_option maxHeartbeats 8000000 in
set_option maxRecDepth 100000 in
theorem kX5_step (l : Launch) (D : va_G) (q : Nat → Nat) (cI cJ cZ : ClassId) (tP sz : Nat) (vnum : Int32) (vsz : Int32) (vfr : Int32) (vfo : Int32) (vli : Int32) (va : (Nat → Int32)) (vb : (Nat → Int32)) (vc : (Nat → Int32)) (ve : (Nat → Int32)) (vth : (Nat → Int32)) (vrk : (Nat → Int32)) (vcm : (Nat → Int32)) (vkx : (Nat → Int32)) (vky : (Nat → Int32)) (vkz : (Nat → Int32)) (vmk : (Nat → Int32)) (vre : (Nat → Int32)) (vro : (Nat → Int32)) (vwi : (Nat → Int32)) (vla : (Nat → Int32)) (vlb : (Nat → Int32)) (vtu : (Nat → Int32)) (k0x : Int32) (k0y : Int32) (k0z : Int32) (k1x : Int32) (k1y : Int32) (k1z : Int32) (k2x : Int32) (k2y : Int32) (k2z : Int32) (k3x : Int32) (k3y : Int32) (k3z : Int32) (p1 : Int32) (p2 : Int32) (uu : (Int32 × Int32 × Int32 × Int32 × (Nat → Int32) × (Nat → Int32) × (Nat → Int32) × (Nat → Int32) × (Nat → Int32) × (Nat → Int32) × (Nat → Int32) × (Nat → Int32) × (Nat → Int32) × (Nat → Int32) × (Nat → Int32) × Int32 × Int32 × Int32 × Int32 × Int32 × Int32 × Int32 × Int32 × Int32 × Int32 × Int32 × Int32)) (h : fX5_step vnum vsz vfr vfo vli va vb vc ve vth vrk vcm vkx vky vkz vmk vre vro vwi vla vlb k0x k0y k0z k1x k1y k1z k2x k2y k2z k3x k3y k3z p1 p2 = some uu) : Met l yX5_step wsX5_step ({ frames := 7, cells := 0, slots := 0, locals := 167 }) (cPre D cI cJ cZ tP (WC_ q cI cZ vnum vsz vfr vfo vli va vb vc ve vth vrk vcm vkx vky vkz vmk vre vro vwi vla vlb vtu k0x k0y k0z k1x k1y k1z k2x k2y k2z k3x k3y k3z) sz [.ref (q 0), .int p1, .int p2]) (cQi D (va_A (WC_ q cI cZ vnum vsz vfr vfo vli va vb vc ve vth vrk vcm vkx vky vkz vmk vre vro vwi vla vlb vtu k0x k0y k0z k1x k1y k1z k2x k2y k2z k3x k3y k3z) sz) (WC_ q cI cZ vnum vsz uu.2.1 uu.2.2.1 uu.2.2.2.1 va vb vc ve vth uu.2.2.2.2.1 uu.2.2.2.2.2.1 uu.2.2.2.2.2.2.1 uu.2.2.2.2.2.2.2.1 uu.2.2.2.2.2.2.2.2.1 uu.2.2.2.2.2.2.2.2.2.1 uu.2.2.2.2.2.2.2.2.2.2.1 uu.2.2.2.2.2.2.2.2.2.2.2.1 uu.2.2.2.2.2.2.2.2.2.2.2.2.1 uu.2.2.2.2.2.2.2.2.2.2.2.2.2.1 uu.2.2.2.2.2.2.2.2.2.2.2.2.2.2.1 vtu uu.2.2.2.2.2.2.2.2.2.2.2.2.2.2.2.1 uu.2.2.2.2.2.2.2.2.2.2.2.2.2.2.2.2.1 uu.2.2.2.2.2.2.2.2.2.2.2.2.2.2.2.2.2.1 uu.2.2.2.2.2.2.2.2.2.2.2.2.2.2.2.2.2.2.1 uu.2.2.2.2.2.2.2.2.2.2.2.2.2.2.2.2.2.2.2.1 uu.2.2.2.2.2.2.2.2.2.2.2.2.2.2.2.2.2.2.2.2.1 uu.2.2.2.2.2.2.2.2.2.2.2.2.2.2.2.2.2.2.2.2.2.1 uu.2.2.2.2.2.2.2.2.2.2.2.2.2.2.2.2.2.2.2.2.2.2.1 uu.2.2.2.2.2.2.2.2.2.2.2.2.2.2.2.2.2.2.2.2.2.2.2.1 uu.2.2.2.2.2.2.2.2.2.2.2.2.2.2.2.2.2.2.2.2.2.2.2.2.1 uu.2.2.2.2.2.2.2.2.2.2.2.2.2.2.2.2.2.2.2.2.2.2.2.2.2.1 uu.2.2.2.2.2.2.2.2.2.2.2.2.2.2.2.2.2.2.2.2.2.2.2.2.2.2) uu.1) 0 0 (va_A (WC_ q cI cZ vnum vsz vfr vfo vli va vb vc ve vth vrk vcm vkx vky vkz vmk vre vro vwi vla vlb vtu k0x k0y k0z k1x k1y k1z k2x k2y k2z k3x k3y k3z) sz) := by
  refine Met.ofW (cc := cX5_step) (maxL := 6) (ret := (some .int)) (by decide) rfl ?_
  intro p e s m args below meth c s₁ B hml hv
  obtain ⟨rfl, hsz, hP, hK, hN, hD0, hZ⟩ := hv
  have hx := B.exec
  have hb := B.bytes
  have hr := B.returns
  have hts := atoms_spec (ws := wsX5_step) B.pre
  have hown : s.vm.findClass RX5 = some m.cls := findClass_of_methodNamed B.named
  have hlocks := B.notSynchronized
  subst hsz
  have hD := hD0.self (sz := s.heap.size)
  generalize hAe : va_A (WC_ q cI cZ vnum vsz vfr vfo vli va vb vc ve vth vrk vcm vkx vky vkz vmk vre vro vwi vla vlb vtu k0x k0y k0z k1x k1y k1z k2x k2y k2z k3x k3y k3z) s.heap.size = A at hD hZ ⊢
  have hA : ∀ q : Nat, s.heap.size ≤ q → A q := fun q h => by rw [← hAe]; exact Or.inr h
  have hS : va_S A s.heap s.heap [] := va_S.rf
  have hl := lv_entry ([.ref (q 0), .int p1, .int p2]) (n := 6) (Nat.le_of_ble_eq_true rfl)
  rw [lg_entry_eq]
  generalize (lg_sl ([.ref (q 0), .int p1, .int p2]) ++ List.replicate (6 - (lg_sl ([.ref (q 0), .int p1, .int p2])).length) Slot.unset).toArray = ls at hl ⊢
  have hl : lv_has ls 6 [(0, .ref (q 0)), (1, .int p1), (2, .int p2)] := hl
  unfold fX5_step at h
  refine lv_aload_n hx hb dX5_step_0 rfl (lv_at hl 0 rfl) ?_
  obtain ⟨u1, e2, h⟩ := bd_some h
  refine k_r (va_runV (As := []) (rest := []) ⟨hx, hb, hml, hown, hts⟩ (kX5_freshCut l D q cI cJ cZ tP s.heap.size vnum vsz vfr vfo vli va vb vc ve vth vrk vcm vkx vky vkz vmk vre vro vwi vla vlb vtu k0x k0y k0z k1x k1y k1z k2x k2y k2z k3x k3y k3z  u1 e2) (cwV 0 hts gX5_step_X5_freshCut rfl rfl rfl (by decide +kernel) ⟨Nat.le_of_ble_eq_true rfl, Nat.le_of_ble_eq_true rfl⟩) ⟨cPre_blind, va_recv hK hP (ci := 5) (q0 := 0) rfl rfl, cPre_at hP hK hN hD hS hA hZ⟩ rfl rfl hl.1 rfl (lv_room (Nat.le_of_ble_eq_true rfl)) dX5_step_1 ⟨Nat.le_of_ble_eq_true rfl, Nat.le_of_ble_eq_true rfl⟩) hD hS hA (fun H locs hP hD hS => ?_)
  refine lv_astore_n (lv' := [(3, .ref (q 14)), (0, .ref (q 0)), (1, .int p1), (2, .int p2)]) hx hb dX5_step_4 rfl hl (by decide) rfl (fun ls hl => ?_)
  refine lv_aload_n hx hb dX5_step_5 rfl (lv_at hl 0 rfl) ?_
  refine lv_iload_n hx hb dX5_step_6 rfl (lv_at hl 2 rfl) ?_
  obtain ⟨u3, e4, h⟩ := bd_some h
  refine k_i (va_runV (As := [.int p1]) (rest := []) ⟨hx, hb, hml, hown, hts⟩ (kX1_hasRoom l D q cI cJ cZ tP H.size vnum vsz u1.1 u1.2.1 u1.2.2.1 va vb vc ve vth u1.2.2.2.1 u1.2.2.2.2.1 u1.2.2.2.2.2.1 u1.2.2.2.2.2.2.1 u1.2.2.2.2.2.2.2.1 u1.2.2.2.2.2.2.2.2.1 u1.2.2.2.2.2.2.2.2.2.1 u1.2.2.2.2.2.2.2.2.2.2.1 u1.2.2.2.2.2.2.2.2.2.2.2.1 u1.2.2.2.2.2.2.2.2.2.2.2.2.1 u1.2.2.2.2.2.2.2.2.2.2.2.2.2.1 vtu u1.2.2.2.2.2.2.2.2.2.2.2.2.2.2.1 u1.2.2.2.2.2.2.2.2.2.2.2.2.2.2.2.1 u1.2.2.2.2.2.2.2.2.2.2.2.2.2.2.2.2.1 u1.2.2.2.2.2.2.2.2.2.2.2.2.2.2.2.2.2.1 u1.2.2.2.2.2.2.2.2.2.2.2.2.2.2.2.2.2.2.1 u1.2.2.2.2.2.2.2.2.2.2.2.2.2.2.2.2.2.2.2.1 u1.2.2.2.2.2.2.2.2.2.2.2.2.2.2.2.2.2.2.2.2.1 u1.2.2.2.2.2.2.2.2.2.2.2.2.2.2.2.2.2.2.2.2.2.1 u1.2.2.2.2.2.2.2.2.2.2.2.2.2.2.2.2.2.2.2.2.2.2.1 u1.2.2.2.2.2.2.2.2.2.2.2.2.2.2.2.2.2.2.2.2.2.2.2.1 u1.2.2.2.2.2.2.2.2.2.2.2.2.2.2.2.2.2.2.2.2.2.2.2.2.1 u1.2.2.2.2.2.2.2.2.2.2.2.2.2.2.2.2.2.2.2.2.2.2.2.2.2 p1 u3 e4) (cwV 1 hts gX5_step_X1_hasRoom rfl rfl rfl (by decide +kernel) ⟨Nat.le_of_ble_eq_true rfl, Nat.le_of_ble_eq_true rfl⟩) ⟨cPre_blind, va_recv hK hP (ci := 1) (q0 := 14) rfl rfl, cPre_at hP hK hN hD hS hA hZ⟩ rfl rfl hl.1 rfl (lv_room (Nat.le_of_ble_eq_true rfl)) dX5_step_7 ⟨Nat.le_of_ble_eq_true rfl, Nat.le_of_ble_eq_true rfl⟩) hD hS hA (fun H locs hP hD hS => ?_)
  refine lv_if_eq (tgt := 21) hx hb dX5_step_10 (by decide) (fun c5 => ?_) (fun c5 => ?_)
  · have h := (if_pos c5).symm.trans h
    refine lv_iconst (v := (-1 : Int32)) hx hb dX5_step_21 (by decide) ?_
    obtain rfl := Option.some.inj h
    exact W.iret (v := (-1 : Int32)) hx hb hr (fun t ht hW => ⟨⟨(-1 : Int32), (), rfl, rfl, by rw [ht]; exact hP, hD⟩, hS.F ht⟩) hS.2.2 dX5_step_22
  · have h := (if_neg c5).symm.trans h
    refine lv_aload_n hx hb dX5_step_13 rfl (lv_at hl 0 rfl) ?_
    refine lv_iload_n hx hb dX5_step_14 rfl (lv_at hl 3 rfl) ?_
    obtain ⟨u6, e7, h⟩ := bd_some h
    refine k_i (va_runV (As := [.int p2]) (rest := []) ⟨hx, hb, hml, hown, hts⟩ (kX1_hasRoom l D q cI cJ cZ tP H.size vnum vsz u1.1 u1.2.1 u1.2.2.1 va vb vc ve vth u1.2.2.2.1 u1.2.2.2.2.1 u1.2.2.2.2.2.1 u1.2.2.2.2.2.2.1 u1.2.2.2.2.2.2.2.1 u1.2.2.2.2.2.2.2.2.1 u1.2.2.2.2.2.2.2.2.2.1 u1.2.2.2.2.2.2.2.2.2.2.1 u1.2.2.2.2.2.2.2.2.2.2.2.1 u1.2.2.2.2.2.2.2.2.2.2.2.2.1 u1.2.2.2.2.2.2.2.2.2.2.2.2.2.1 vtu u1.2.2.2.2.2.2.2.2.2.2.2.2.2.2.1 u1.2.2.2.2.2.2.2.2.2.2.2.2.2.2.2.1 u1.2.2.2.2.2.2.2.2.2.2.2.2.2.2.2.2.1 u1.2.2.2.2.2.2.2.2.2.2.2.2.2.2.2.2.2.1 u1.2.2.2.2.2.2.2.2.2.2.2.2.2.2.2.2.2.2.1 u1.2.2.2.2.2.2.2.2.2.2.2.2.2.2.2.2.2.2.2.1 u1.2.2.2.2.2.2.2.2.2.2.2.2.2.2.2.2.2.2.2.2.1 u1.2.2.2.2.2.2.2.2.2.2.2.2.2.2.2.2.2.2.2.2.2.1 u1.2.2.2.2.2.2.2.2.2.2.2.2.2.2.2.2.2.2.2.2.2.2.1 u1.2.2.2.2.2.2.2.2.2.2.2.2.2.2.2.2.2.2.2.2.2.2.2.1 u1.2.2.2.2.2.2.2.2.2.2.2.2.2.2.2.2.2.2.2.2.2.2.2.2.1 u1.2.2.2.2.2.2.2.2.2.2.2.2.2.2.2.2.2.2.2.2.2.2.2.2.2 p2 u6 e7) (cwV 1 hts gX5_step_X1_hasRoom rfl rfl rfl (by decide +kernel) ⟨Nat.le_of_ble_eq_true rfl, Nat.le_of_ble_eq_true rfl⟩) ⟨cPre_blind, va_recv hK hP (ci := 1) (q0 := 14) rfl rfl, cPre_at hP hK hN hD hS hA hZ⟩ rfl rfl hl.1 rfl (lv_room (Nat.le_of_ble_eq_true rfl)) dX5_step_15 ⟨Nat.le_of_ble_eq_true rfl, Nat.le_of_ble_eq_true rfl⟩) hD hS hA (fun H locs hP hD hS => ?_)
    refine lv_if_ne (tgt := 23) hx hb dX5_step_18 (by decide) (fun c8 => ?_) (fun c8 => ?_)
    · have h := (if_neg c8).symm.trans h
      refine lv_iload_n hx hb dX5_step_23 rfl (lv_at hl 2 rfl) ?_
      refine lv_iload_n hx hb dX5_step_24 rfl (lv_at hl 3 rfl) ?_
      obtain ⟨u9, e10, h⟩ := bd_some h
      refine k_i0 (va_runS (As := [.int p1, .int p2]) (rest := []) ⟨hx, hb, hml, hown, hts⟩ (kX5_parting l D cI cJ cZ tP H.size  p1 p2 u9 e10) (va_cwS 2 hts gX5_step_X5_parting rfl rfl rfl (by decide +kernel) ⟨Nat.le_of_ble_eq_true rfl, Nat.le_of_ble_eq_true rfl⟩) ⟨cPre_blind, cPre_at0 hK hN hS hA hZ⟩ rfl rfl hl.1 rfl (lv_room (Nat.le_of_ble_eq_true rfl)) dX5_step_25 ⟨Nat.le_of_ble_eq_true rfl, Nat.le_of_ble_eq_true rfl⟩) hP hS hA (fun H locs hP hS => ?_)
      refine lv_aload_n hx hb dX5_step_28 rfl (lv_at hl 0 rfl) ?_
      refine lv_iload_n hx hb dX5_step_29 rfl (lv_at hl 2 rfl) ?_
      obtain ⟨u11, e12, h⟩ := bd_some h
      refine k_i (va_runV (As := [.int p1]) (rest := [.int u9]) ⟨hx, hb, hml, hown, hts⟩ (kX1_wallsOf l D q cI cJ cZ tP H.size vnum vsz u1.1 u1.2.1 u1.2.2.1 va vb vc ve vth u1.2.2.2.1 u1.2.2.2.2.1 u1.2.2.2.2.2.1 u1.2.2.2.2.2.2.1 u1.2.2.2.2.2.2.2.1 u1.2.2.2.2.2.2.2.2.1 u1.2.2.2.2.2.2.2.2.2.1 u1.2.2.2.2.2.2.2.2.2.2.1 u1.2.2.2.2.2.2.2.2.2.2.2.1 u1.2.2.2.2.2.2.2.2.2.2.2.2.1 u1.2.2.2.2.2.2.2.2.2.2.2.2.2.1 vtu u1.2.2.2.2.2.2.2.2.2.2.2.2.2.2.1 u1.2.2.2.2.2.2.2.2.2.2.2.2.2.2.2.1 u1.2.2.2.2.2.2.2.2.2.2.2.2.2.2.2.2.1 u1.2.2.2.2.2.2.2.2.2.2.2.2.2.2.2.2.2.1 u1.2.2.2.2.2.2.2.2.2.2.2.2.2.2.2.2.2.2.1 u1.2.2.2.2.2.2.2.2.2.2.2.2.2.2.2.2.2.2.2.1 u1.2.2.2.2.2.2.2.2.2.2.2.2.2.2.2.2.2.2.2.2.1 u1.2.2.2.2.2.2.2.2.2.2.2.2.2.2.2.2.2.2.2.2.2.1 u1.2.2.2.2.2.2.2.2.2.2.2.2.2.2.2.2.2.2.2.2.2.2.1 u1.2.2.2.2.2.2.2.2.2.2.2.2.2.2.2.2.2.2.2.2.2.2.2.1 u1.2.2.2.2.2.2.2.2.2.2.2.2.2.2.2.2.2.2.2.2.2.2.2.2.1 u1.2.2.2.2.2.2.2.2.2.2.2.2.2.2.2.2.2.2.2.2.2.2.2.2.2 p1 u11 e12) (cwV 1 hts gX5_step_X1_wallsOf rfl rfl rfl (by decide +kernel) ⟨Nat.le_of_ble_eq_true rfl, Nat.le_of_ble_eq_true rfl⟩) ⟨cPre_blind, va_recv hK hP (ci := 1) (q0 := 14) rfl rfl, cPre_at hP hK hN hD hS hA hZ⟩ rfl rfl hl.1 rfl (lv_room (Nat.le_of_ble_eq_true rfl)) dX5_step_30 ⟨Nat.le_of_ble_eq_true rfl, Nat.le_of_ble_eq_true rfl⟩) hD hS hA (fun H locs hP hD hS => ?_)
      refine lv_iand hx hb dX5_step_33 ?_
      refine lv_istore (lv' := [(4, .int (u9 &&& u11)), (3, .ref (q 14)), (0, .ref (q 0)), (1, .int p1), (2, .int p2)]) hx hb dX5_step_34 hl (by decide) rfl (fun ls hl => ?_)
      refine lv_iconst (v := (0 : Int32)) hx hb dX5_step_36 (by decide) ?_
      refine lv_istore (lv' := [(5, .int (0 : Int32)), (4, .int (u9 &&& u11)), (3, .ref (q 14)), (0, .ref (q 0)), (1, .int p1), (2, .int p2)]) hx hb dX5_step_37 hl (by decide) rfl (fun ls hl => ?_)
      obtain ⟨u14, e15, h⟩ := bd_some h
      have KR17 : ∀ y19, Sum.inr y19 = u14 → y19 = uu := by
        intro y19 hy
        subst hy
        have h := se_inr h
        exact Option.some.inj h
      refine W_leave (P := fun (y : Int32) H locs ls => u14 = Sum.inl y ∧ va_P D vwCl (WC_ q cI cZ vnum vsz u1.1 u1.2.1 u1.2.2.1 va vb vc ve vth u1.2.2.2.1 u1.2.2.2.2.1 u1.2.2.2.2.2.1 u1.2.2.2.2.2.2.1 u1.2.2.2.2.2.2.2.1 u1.2.2.2.2.2.2.2.2.1 u1.2.2.2.2.2.2.2.2.2.1 u1.2.2.2.2.2.2.2.2.2.2.1 u1.2.2.2.2.2.2.2.2.2.2.2.1 u1.2.2.2.2.2.2.2.2.2.2.2.2.1 u1.2.2.2.2.2.2.2.2.2.2.2.2.2.1 vtu u1.2.2.2.2.2.2.2.2.2.2.2.2.2.2.1 u1.2.2.2.2.2.2.2.2.2.2.2.2.2.2.2.1 u1.2.2.2.2.2.2.2.2.2.2.2.2.2.2.2.2.1 u1.2.2.2.2.2.2.2.2.2.2.2.2.2.2.2.2.2.1 u1.2.2.2.2.2.2.2.2.2.2.2.2.2.2.2.2.2.2.1 u1.2.2.2.2.2.2.2.2.2.2.2.2.2.2.2.2.2.2.2.1 u1.2.2.2.2.2.2.2.2.2.2.2.2.2.2.2.2.2.2.2.2.1 u1.2.2.2.2.2.2.2.2.2.2.2.2.2.2.2.2.2.2.2.2.2.1 u1.2.2.2.2.2.2.2.2.2.2.2.2.2.2.2.2.2.2.2.2.2.2.1 u1.2.2.2.2.2.2.2.2.2.2.2.2.2.2.2.2.2.2.2.2.2.2.2.1 u1.2.2.2.2.2.2.2.2.2.2.2.2.2.2.2.2.2.2.2.2.2.2.2.2.1 u1.2.2.2.2.2.2.2.2.2.2.2.2.2.2.2.2.2.2.2.2.2.2.2.2.2) H ∧ va_D A (WC_ q cI cZ vnum vsz u1.1 u1.2.1 u1.2.2.1 va vb vc ve vth u1.2.2.2.1 u1.2.2.2.2.1 u1.2.2.2.2.2.1 u1.2.2.2.2.2.2.1 u1.2.2.2.2.2.2.2.1 u1.2.2.2.2.2.2.2.2.1 u1.2.2.2.2.2.2.2.2.2.1 u1.2.2.2.2.2.2.2.2.2.2.1 u1.2.2.2.2.2.2.2.2.2.2.2.1 u1.2.2.2.2.2.2.2.2.2.2.2.2.1 u1.2.2.2.2.2.2.2.2.2.2.2.2.2.1 vtu u1.2.2.2.2.2.2.2.2.2.2.2.2.2.2.1 u1.2.2.2.2.2.2.2.2.2.2.2.2.2.2.2.1 u1.2.2.2.2.2.2.2.2.2.2.2.2.2.2.2.2.1 u1.2.2.2.2.2.2.2.2.2.2.2.2.2.2.2.2.2.1 u1.2.2.2.2.2.2.2.2.2.2.2.2.2.2.2.2.2.2.1 u1.2.2.2.2.2.2.2.2.2.2.2.2.2.2.2.2.2.2.2.1 u1.2.2.2.2.2.2.2.2.2.2.2.2.2.2.2.2.2.2.2.2.1 u1.2.2.2.2.2.2.2.2.2.2.2.2.2.2.2.2.2.2.2.2.2.1 u1.2.2.2.2.2.2.2.2.2.2.2.2.2.2.2.2.2.2.2.2.2.2.1 u1.2.2.2.2.2.2.2.2.2.2.2.2.2.2.2.2.2.2.2.2.2.2.2.1 u1.2.2.2.2.2.2.2.2.2.2.2.2.2.2.2.2.2.2.2.2.2.2.2.2.1 u1.2.2.2.2.2.2.2.2.2.2.2.2.2.2.2.2.2.2.2.2.2.2.2.2.2) ∧ va_S A s.heap H locs ∧ lv_has ls 6 [(5, .int y), (4, .int (u9 &&& u11)), (3, .ref (q 14)), (0, .ref (q 0)), (1, .int p1), (2, .int p2)]) (g := fun ls => F0 m 71 ls []) ?_ ?_
      · intro x18 H locs ls hq
        obtain ⟨hy, hP, hD, hS, hl⟩ := hq
        subst hy
        have h := se_inl h
        refine lv_iconst (v := (-1 : Int32)) hx hb dX5_step_71 (by decide) ?_
        obtain rfl := Option.some.inj h
        exact W.iret (v := (-1 : Int32)) hx hb hr (fun t ht hW => ⟨⟨(-1 : Int32), (), rfl, rfl, by rw [ht]; exact hP, hD⟩, hS.F ht⟩) hS.2.2 dX5_step_72
      · intro K16
        refine W_lp (body := (fun (st : Int32) => fX5_step_L39 vsz u9 u11 u1 st)) (P := fun (st : Int32) H locs ls => va_P D vwCl (WC_ q cI cZ vnum vsz u1.1 u1.2.1 u1.2.2.1 va vb vc ve vth u1.2.2.2.1 u1.2.2.2.2.1 u1.2.2.2.2.2.1 u1.2.2.2.2.2.2.1 u1.2.2.2.2.2.2.2.1 u1.2.2.2.2.2.2.2.2.1 u1.2.2.2.2.2.2.2.2.2.1 u1.2.2.2.2.2.2.2.2.2.2.1 u1.2.2.2.2.2.2.2.2.2.2.2.1 u1.2.2.2.2.2.2.2.2.2.2.2.2.1 u1.2.2.2.2.2.2.2.2.2.2.2.2.2.1 vtu u1.2.2.2.2.2.2.2.2.2.2.2.2.2.2.1 u1.2.2.2.2.2.2.2.2.2.2.2.2.2.2.2.1 u1.2.2.2.2.2.2.2.2.2.2.2.2.2.2.2.2.1 u1.2.2.2.2.2.2.2.2.2.2.2.2.2.2.2.2.2.1 u1.2.2.2.2.2.2.2.2.2.2.2.2.2.2.2.2.2.2.1 u1.2.2.2.2.2.2.2.2.2.2.2.2.2.2.2.2.2.2.2.1 u1.2.2.2.2.2.2.2.2.2.2.2.2.2.2.2.2.2.2.2.2.1 u1.2.2.2.2.2.2.2.2.2.2.2.2.2.2.2.2.2.2.2.2.2.1 u1.2.2.2.2.2.2.2.2.2.2.2.2.2.2.2.2.2.2.2.2.2.2.1 u1.2.2.2.2.2.2.2.2.2.2.2.2.2.2.2.2.2.2.2.2.2.2.2.1 u1.2.2.2.2.2.2.2.2.2.2.2.2.2.2.2.2.2.2.2.2.2.2.2.2.1 u1.2.2.2.2.2.2.2.2.2.2.2.2.2.2.2.2.2.2.2.2.2.2.2.2.2) H ∧ va_D A (WC_ q cI cZ vnum vsz u1.1 u1.2.1 u1.2.2.1 va vb vc ve vth u1.2.2.2.1 u1.2.2.2.2.1 u1.2.2.2.2.2.1 u1.2.2.2.2.2.2.1 u1.2.2.2.2.2.2.2.1 u1.2.2.2.2.2.2.2.2.1 u1.2.2.2.2.2.2.2.2.2.1 u1.2.2.2.2.2.2.2.2.2.2.1 u1.2.2.2.2.2.2.2.2.2.2.2.1 u1.2.2.2.2.2.2.2.2.2.2.2.2.1 u1.2.2.2.2.2.2.2.2.2.2.2.2.2.1 vtu u1.2.2.2.2.2.2.2.2.2.2.2.2.2.2.1 u1.2.2.2.2.2.2.2.2.2.2.2.2.2.2.2.1 u1.2.2.2.2.2.2.2.2.2.2.2.2.2.2.2.2.1 u1.2.2.2.2.2.2.2.2.2.2.2.2.2.2.2.2.2.1 u1.2.2.2.2.2.2.2.2.2.2.2.2.2.2.2.2.2.2.1 u1.2.2.2.2.2.2.2.2.2.2.2.2.2.2.2.2.2.2.2.1 u1.2.2.2.2.2.2.2.2.2.2.2.2.2.2.2.2.2.2.2.2.1 u1.2.2.2.2.2.2.2.2.2.2.2.2.2.2.2.2.2.2.2.2.2.1 u1.2.2.2.2.2.2.2.2.2.2.2.2.2.2.2.2.2.2.2.2.2.2.1 u1.2.2.2.2.2.2.2.2.2.2.2.2.2.2.2.2.2.2.2.2.2.2.2.1 u1.2.2.2.2.2.2.2.2.2.2.2.2.2.2.2.2.2.2.2.2.2.2.2.2.1 u1.2.2.2.2.2.2.2.2.2.2.2.2.2.2.2.2.2.2.2.2.2.2.2.2.2) ∧ va_S A s.heap H locs ∧ lv_has ls 6 [(5, .int st), (4, .int (u9 &&& u11)), (3, .ref (q 14)), (0, .ref (q 0)), (1, .int p1), (2, .int p2)]) (g := fun _ ls => F0 m 39 ls []) (r := u14) ?_ fu_ (0 : Int32) _ _ _ e15 ⟨hP, hD, hS, lv_sub hl [0, 1, 2, 3, 4, 5] rfl⟩
        intro v13 xx22 H locs ls h hq ih21 hR20
        obtain ⟨hP, hD, hS, hl⟩ := hq
        have hP : va_P D vwCl (WC_ q cI cZ vnum vsz u1.1 u1.2.1 u1.2.2.1 va vb vc ve vth u1.2.2.2.1 u1.2.2.2.2.1 u1.2.2.2.2.2.1 u1.2.2.2.2.2.2.1 u1.2.2.2.2.2.2.2.1 u1.2.2.2.2.2.2.2.2.1 u1.2.2.2.2.2.2.2.2.2.1 u1.2.2.2.2.2.2.2.2.2.2.1 u1.2.2.2.2.2.2.2.2.2.2.2.1 u1.2.2.2.2.2.2.2.2.2.2.2.2.1 u1.2.2.2.2.2.2.2.2.2.2.2.2.2.1 vtu u1.2.2.2.2.2.2.2.2.2.2.2.2.2.2.1 u1.2.2.2.2.2.2.2.2.2.2.2.2.2.2.2.1 u1.2.2.2.2.2.2.2.2.2.2.2.2.2.2.2.2.1 u1.2.2.2.2.2.2.2.2.2.2.2.2.2.2.2.2.2.1 u1.2.2.2.2.2.2.2.2.2.2.2.2.2.2.2.2.2.2.1 u1.2.2.2.2.2.2.2.2.2.2.2.2.2.2.2.2.2.2.2.1 u1.2.2.2.2.2.2.2.2.2.2.2.2.2.2.2.2.2.2.2.2.1 u1.2.2.2.2.2.2.2.2.2.2.2.2.2.2.2.2.2.2.2.2.2.1 u1.2.2.2.2.2.2.2.2.2.2.2.2.2.2.2.2.2.2.2.2.2.2.1 u1.2.2.2.2.2.2.2.2.2.2.2.2.2.2.2.2.2.2.2.2.2.2.2.1 u1.2.2.2.2.2.2.2.2.2.2.2.2.2.2.2.2.2.2.2.2.2.2.2.2.1 u1.2.2.2.2.2.2.2.2.2.2.2.2.2.2.2.2.2.2.2.2.2.2.2.2.2) H := hP
        have hD : va_D A (WC_ q cI cZ vnum vsz u1.1 u1.2.1 u1.2.2.1 va vb vc ve vth u1.2.2.2.1 u1.2.2.2.2.1 u1.2.2.2.2.2.1 u1.2.2.2.2.2.2.1 u1.2.2.2.2.2.2.2.1 u1.2.2.2.2.2.2.2.2.1 u1.2.2.2.2.2.2.2.2.2.1 u1.2.2.2.2.2.2.2.2.2.2.1 u1.2.2.2.2.2.2.2.2.2.2.2.1 u1.2.2.2.2.2.2.2.2.2.2.2.2.1 u1.2.2.2.2.2.2.2.2.2.2.2.2.2.1 vtu u1.2.2.2.2.2.2.2.2.2.2.2.2.2.2.1 u1.2.2.2.2.2.2.2.2.2.2.2.2.2.2.2.1 u1.2.2.2.2.2.2.2.2.2.2.2.2.2.2.2.2.1 u1.2.2.2.2.2.2.2.2.2.2.2.2.2.2.2.2.2.1 u1.2.2.2.2.2.2.2.2.2.2.2.2.2.2.2.2.2.2.1 u1.2.2.2.2.2.2.2.2.2.2.2.2.2.2.2.2.2.2.2.1 u1.2.2.2.2.2.2.2.2.2.2.2.2.2.2.2.2.2.2.2.2.1 u1.2.2.2.2.2.2.2.2.2.2.2.2.2.2.2.2.2.2.2.2.2.1 u1.2.2.2.2.2.2.2.2.2.2.2.2.2.2.2.2.2.2.2.2.2.2.1 u1.2.2.2.2.2.2.2.2.2.2.2.2.2.2.2.2.2.2.2.2.2.2.2.1 u1.2.2.2.2.2.2.2.2.2.2.2.2.2.2.2.2.2.2.2.2.2.2.2.2.1 u1.2.2.2.2.2.2.2.2.2.2.2.2.2.2.2.2.2.2.2.2.2.2.2.2.2) := hD
        have hl : lv_has ls 6 [(5, .int v13), (4, .int (u9 &&& u11)), (3, .ref (q 14)), (0, .ref (q 0)), (1, .int p1), (2, .int p2)] := hl
        have h : fX5_step_L39 vsz u9 u11 u1 v13 = some xx22 := h
        unfold fX5_step_L39 at h
        refine lv_iload hx hb dX5_step_39 (lv_at hl 0 rfl) ?_
        refine lv_aload_n hx hb dX5_step_41 rfl (lv_at hl 3 rfl) ?_
        refine va_get (D := D) (ci := 5) (v := .ref (q 1)) (C := RX5) (T := TX5) (N := 5) hx hb hts wiX5_step_X5 hown hK hP 0 rfl rfl 0 (by decide) (hts _ wmX5_step_0) (fun _ h9 => h9) rfl dX5_step_42 ?_
        refine va_getN (D := D) (ci := 3) (v := .int vsz) (C := RX3) (T := TX3) (N := 7) hx hb hts wiX5_step_X3 hown hK hP 1 rfl rfl 6 (by decide) (NW_f hN 2 rfl) (fun _ h9 => h9) rfl dX5_step_45 ?_
        refine lv_icmp_ge (tgt := 71) hx hb dX5_step_48 (by decide) (fun c23 => ?_) (fun c23 => ?_)
        · have h := (if_pos c23).symm.trans h
          exact K16 _ _ _ _ ⟨(hR20 _ (Option.some.inj h).symm).symm, hP, hD, hS, lv_sub hl [0, 1, 2, 3, 4, 5] rfl⟩
        · have h := (if_neg c23).symm.trans h
          refine lv_iload hx hb dX5_step_51 (lv_at hl 1 rfl) ?_
          refine lv_iload hx hb dX5_step_53 (lv_at hl 0 rfl) ?_
          refine lv_ishr hx hb dX5_step_55 ?_
          refine lv_iconst (v := (1 : Int32)) hx hb dX5_step_56 (by decide) ?_
          refine lv_iand hx hb dX5_step_57 ?_
          refine lv_iconst (v := (1 : Int32)) hx hb dX5_step_58 (by decide) ?_
          refine lv_icmp_ne (tgt := 65) hx hb dX5_step_59 (by decide) (fun c24 => ?_) (fun c24 => ?_)
          · have h := (if_neg c24).symm.trans h
            refine lv_iinc (v := (v13 + (1 : Int32))) (lv' := [(5, .int (v13 + (1 : Int32))), (4, .int (u9 &&& u11)), (3, .ref (q 14)), (0, .ref (q 0)), (1, .int p1), (2, .int p2)]) hx hb dX5_step_65 hl (k := 0) rfl rfl (by decide) rfl (fun ls hl => ?_)
            refine lv_goto (tgt := 39) hx hb dX5_step_68 (by decide) ?_
            exact ih21 _ _ _ _ (Option.some.inj h).symm ⟨hP, hD, hS, lv_sub hl [0, 1, 2, 3, 4, 5] rfl⟩
          · have h := (if_pos c24).symm.trans h
            refine lv_iload hx hb dX5_step_62 (lv_at hl 0 rfl) ?_
            have hu := KR17 _ (hR20 _ (Option.some.inj h).symm)
            subst hu
            exact W.iret (v := v13) hx hb hr (fun t ht hW => ⟨⟨v13, (), rfl, rfl, by rw [ht]; exact hP, hD⟩, hS.F ht⟩) hS.2.2 dX5_step_64
    · have h := (if_pos c8).symm.trans h
      refine lv_iconst (v := (-1 : Int32)) hx hb dX5_step_21 (by decide) ?_
      obtain rfl := Option.some.inj h
      exact W.iret (v := (-1 : Int32)) hx hb hr (fun t ht hW => ⟨⟨(-1 : Int32), (), rfl, rfl, by rw [ht]; exact hP, hD⟩, hS.F ht⟩) hS.2.2 dX5_step_22

-- X5_far
theorem wmX5_far_0 : (.fieldLink RX5 23 "SpaceWalls" "planes" "LSpaceWalls$Planes;" : Cond) ∈ wsX5_far := by decide +kernel
theorem wiX5_far_X5 : ∀ w ∈ u_ws RX5 TX5 5, w ∈ wsX5_far := by decide +kernel
theorem wiX5_far_X3 : ∀ w ∈ u_ws RX3 TX3 7, w ∈ wsX5_far := by decide +kernel
set_option maxHeartbeats 8000000 in
set_option maxRecDepth 100000 in
theorem kX5_far (l : Launch) (D : va_G) (q : Nat → Nat) (cI cJ cZ : ClassId) (tP sz : Nat) (vnum : Int32) (vsz : Int32) (vfr : Int32) (vfo : Int32) (vli : Int32) (va : (Nat → Int32)) (vb : (Nat → Int32)) (vc : (Nat → Int32)) (ve : (Nat → Int32)) (vth : (Nat → Int32)) (vrk : (Nat → Int32)) (vcm : (Nat → Int32)) (vkx : (Nat → Int32)) (vky : (Nat → Int32)) (vkz : (Nat → Int32)) (vmk : (Nat → Int32)) (vre : (Nat → Int32)) (vro : (Nat → Int32)) (vwi : (Nat → Int32)) (vla : (Nat → Int32)) (vlb : (Nat → Int32)) (vtu : (Nat → Int32)) (k0x : Int32) (k0y : Int32) (k0z : Int32) (k1x : Int32) (k1y : Int32) (k1z : Int32) (k2x : Int32) (k2y : Int32) (k2z : Int32) (k3x : Int32) (k3y : Int32) (k3z : Int32)  (uu : Int32) (h : fX5_far vsz = some uu) : Met l yX5_far wsX5_far ({ frames := 0, cells := 0, slots := 0, locals := 0 }) (cPre D cI cJ cZ tP (WC_ q cI cZ vnum vsz vfr vfo vli va vb vc ve vth vrk vcm vkx vky vkz vmk vre vro vwi vla vlb vtu k0x k0y k0z k1x k1y k1z k2x k2y k2z k3x k3y k3z) sz [.ref (q 0)]) (cQi D (va_A (WC_ q cI cZ vnum vsz vfr vfo vli va vb vc ve vth vrk vcm vkx vky vkz vmk vre vro vwi vla vlb vtu k0x k0y k0z k1x k1y k1z k2x k2y k2z k3x k3y k3z) sz) (WC_ q cI cZ vnum vsz vfr vfo vli va vb vc ve vth vrk vcm vkx vky vkz vmk vre vro vwi vla vlb vtu k0x k0y k0z k1x k1y k1z k2x k2y k2z k3x k3y k3z) uu) 0 0 (va_A (WC_ q cI cZ vnum vsz vfr vfo vli va vb vc ve vth vrk vcm vkx vky vkz vmk vre vro vwi vla vlb vtu k0x k0y k0z k1x k1y k1z k2x k2y k2z k3x k3y k3z) sz) := by
  refine Met.ofW (cc := cX5_far) (maxL := 1) (ret := (some .int)) (by decide) rfl ?_
  intro p e s m args below meth c s₁ B hml hv
  obtain ⟨rfl, hsz, hP, hK, hN, hD0, hZ⟩ := hv
  have hx := B.exec
  have hb := B.bytes
  have hr := B.returns
  have hts := atoms_spec (ws := wsX5_far) B.pre
  have hown : s.vm.findClass RX5 = some m.cls := findClass_of_methodNamed B.named
  have hlocks := B.notSynchronized
  subst hsz
  have hD := hD0.self (sz := s.heap.size)
  generalize hAe : va_A (WC_ q cI cZ vnum vsz vfr vfo vli va vb vc ve vth vrk vcm vkx vky vkz vmk vre vro vwi vla vlb vtu k0x k0y k0z k1x k1y k1z k2x k2y k2z k3x k3y k3z) s.heap.size = A at hD hZ ⊢
  have hA : ∀ q : Nat, s.heap.size ≤ q → A q := fun q h => by rw [← hAe]; exact Or.inr h
  have hS : va_S A s.heap s.heap [] := va_S.rf
  have hl := lv_entry ([.ref (q 0)]) (n := 1) (Nat.le_of_ble_eq_true rfl)
  rw [lg_entry_eq]
  generalize (lg_sl ([.ref (q 0)]) ++ List.replicate (1 - (lg_sl ([.ref (q 0)])).length) Slot.unset).toArray = ls at hl ⊢
  have hl : lv_has ls 1 [(0, .ref (q 0))] := hl
  unfold fX5_far at h
  refine lv_aload_n hx hb dX5_far_0 rfl (lv_at hl 0 rfl) ?_
  refine va_get (D := D) (ci := 5) (v := .ref (q 1)) (C := RX5) (T := TX5) (N := 5) hx hb hts wiX5_far_X5 hown hK hP 0 rfl rfl 0 (by decide) (hts _ wmX5_far_0) (fun _ h9 => h9) rfl dX5_far_1 ?_
  refine va_getN (D := D) (ci := 3) (v := .int vsz) (C := RX3) (T := TX3) (N := 7) hx hb hts wiX5_far_X3 hown hK hP 1 rfl rfl 6 (by decide) (NW_f hN 2 rfl) (fun _ h9 => h9) rfl dX5_far_4 ?_
  obtain rfl := Option.some.inj h
  exact W.iret (v := vsz) hx hb hr (fun t ht hW => ⟨⟨vsz, (), rfl, rfl, by rw [ht]; exact hP, hD⟩, hS.F ht⟩) hS.2.2 dX5_far_7

-- X5_left
theorem wmX5_left_0 : (.fieldLink RX5 48 "SpaceWalls" "counter" "LSpaceWalls$PrimeCounter;" : Cond) ∈ wsX5_left := by decide +kernel
theorem wiX5_left_X5 : ∀ w ∈ u_ws RX5 TX5 5, w ∈ wsX5_left := by decide +kernel
set_option maxHeartbeats 8000000 in
set_option maxRecDepth 100000 in
theorem kX5_left (l : Launch) (D : va_G) (q : Nat → Nat) (cI cJ cZ : ClassId) (tP sz : Nat) (vnum : Int32) (vsz : Int32) (vfr : Int32) (vfo : Int32) (vli : Int32) (va : (Nat → Int32)) (vb : (Nat → Int32)) (vc : (Nat → Int32)) (ve : (Nat → Int32)) (vth : (Nat → Int32)) (vrk : (Nat → Int32)) (vcm : (Nat → Int32)) (vkx : (Nat → Int32)) (vky : (Nat → Int32)) (vkz : (Nat → Int32)) (vmk : (Nat → Int32)) (vre : (Nat → Int32)) (vro : (Nat → Int32)) (vwi : (Nat → Int32)) (vla : (Nat → Int32)) (vlb : (Nat → Int32)) (vtu : (Nat → Int32)) (k0x : Int32) (k0y : Int32) (k0z : Int32) (k1x : Int32) (k1y : Int32) (k1z : Int32) (k2x : Int32) (k2y : Int32) (k2z : Int32) (k3x : Int32) (k3y : Int32) (k3z : Int32) (p1 : Int32) (uu : (Int32 × (Nat → Int32))) (h : fX5_left vnum vsz va vb vc ve vtu p1 = some uu) : Met l yX5_left wsX5_left ({ frames := 3, cells := 0, slots := 0, locals := 74 }) (cPre D cI cJ cZ tP (WC_ q cI cZ vnum vsz vfr vfo vli va vb vc ve vth vrk vcm vkx vky vkz vmk vre vro vwi vla vlb vtu k0x k0y k0z k1x k1y k1z k2x k2y k2z k3x k3y k3z) sz [.ref (q 0), .int p1]) (cQi D (va_A (WC_ q cI cZ vnum vsz vfr vfo vli va vb vc ve vth vrk vcm vkx vky vkz vmk vre vro vwi vla vlb vtu k0x k0y k0z k1x k1y k1z k2x k2y k2z k3x k3y k3z) sz) (WC_ q cI cZ vnum vsz vfr vfo vli va vb vc ve vth vrk vcm vkx vky vkz vmk vre vro vwi vla vlb uu.2 k0x k0y k0z k1x k1y k1z k2x k2y k2z k3x k3y k3z) uu.1) 0 0 (va_A (WC_ q cI cZ vnum vsz vfr vfo vli va vb vc ve vth vrk vcm vkx vky vkz vmk vre vro vwi vla vlb vtu k0x k0y k0z k1x k1y k1z k2x k2y k2z k3x k3y k3z) sz) := by
  refine Met.ofW (cc := cX5_left) (maxL := 2) (ret := (some .int)) (by decide) rfl ?_
  intro p e s m args below meth c s₁ B hml hv
  obtain ⟨rfl, hsz, hP, hK, hN, hD0, hZ⟩ := hv
  have hx := B.exec
  have hb := B.bytes
  have hr := B.returns
  have hts := atoms_spec (ws := wsX5_left) B.pre
  have hown : s.vm.findClass RX5 = some m.cls := findClass_of_methodNamed B.named
  have hlocks := B.notSynchronized
  subst hsz
  have hD := hD0.self (sz := s.heap.size)
  generalize hAe : va_A (WC_ q cI cZ vnum vsz vfr vfo vli va vb vc ve vth vrk vcm vkx vky vkz vmk vre vro vwi vla vlb vtu k0x k0y k0z k1x k1y k1z k2x k2y k2z k3x k3y k3z) s.heap.size = A at hD hZ ⊢
  have hA : ∀ q : Nat, s.heap.size ≤ q → A q := fun q h => by rw [← hAe]; exact Or.inr h
  have hS : va_S A s.heap s.heap [] := va_S.rf
  have hl := lv_entry ([.ref (q 0), .int p1]) (n := 2) (Nat.le_of_ble_eq_true rfl)
  rw [lg_entry_eq]
  generalize (lg_sl ([.ref (q 0), .int p1]) ++ List.replicate (2 - (lg_sl ([.ref (q 0), .int p1])).length) Slot.unset).toArray = ls at hl ⊢
  have hl : lv_has ls 2 [(0, .ref (q 0)), (1, .int p1)] := hl
  unfold fX5_left at h
  refine lv_iload_n hx hb dX5_left_0 rfl (lv_at hl 1 rfl) ?_
  obtain ⟨u1, e2, h⟩ := bd_some h
  refine k_i0 (va_runS (As := [.int p1]) (rest := []) ⟨hx, hb, hml, hown, hts⟩ (kX5_isPrime l D cI cJ cZ tP s.heap.size  p1 u1 e2) (va_cwS 1 hts gX5_left_X5_isPrime rfl rfl rfl (by decide +kernel) ⟨Nat.le_of_ble_eq_true rfl, Nat.le_of_ble_eq_true rfl⟩) ⟨cPre_blind, cPre_at0 hK hN hS hA hZ⟩ rfl rfl hl.1 rfl (lv_room (Nat.le_of_ble_eq_true rfl)) dX5_left_1 ⟨Nat.le_of_ble_eq_true rfl, Nat.le_of_ble_eq_true rfl⟩) hP hS hA (fun H locs hP hS => ?_)
  refine lv_if_eq (tgt := 18) hx hb dX5_left_4 (by decide) (fun c3 => ?_) (fun c3 => ?_)
  · have h := (if_pos c3).symm.trans h
    refine lv_iconst (v := (-1 : Int32)) hx hb dX5_left_18 (by decide) ?_
    obtain rfl := Option.some.inj h
    exact W.iret (v := (-1 : Int32)) hx hb hr (fun t ht hW => ⟨⟨(-1 : Int32), (), rfl, rfl, by rw [ht]; exact hP, hD⟩, hS.F ht⟩) hS.2.2 dX5_left_19
  · have h := (if_neg c3).symm.trans h
    refine lv_aload_n hx hb dX5_left_7 rfl (lv_at hl 0 rfl) ?_
    refine va_get (D := D) (ci := 5) (v := .ref (q 24)) (C := RX5) (T := TX5) (N := 5) hx hb hts wiX5_left_X5 hown hK hP 0 rfl rfl 3 (by decide) (hts _ wmX5_left_0) (fun _ h9 => h9) rfl dX5_left_8 ?_
    refine lv_iload_n hx hb dX5_left_11 rfl (lv_at hl 1 rfl) ?_
    obtain ⟨u4, e5, h⟩ := bd_some h
    refine k_i (va_runV (As := [.int p1]) (rest := []) ⟨hx, hb, hml, hown, hts⟩ (kX4_countMissed l D q cI cJ cZ tP H.size vnum vsz vfr vfo vli va vb vc ve vth vrk vcm vkx vky vkz vmk vre vro vwi vla vlb vtu k0x k0y k0z k1x k1y k1z k2x k2y k2z k3x k3y k3z p1 u4 e5) (cwV 1 hts gX5_left_X4_countMissed rfl rfl rfl (by decide +kernel) ⟨Nat.le_of_ble_eq_true rfl, Nat.le_of_ble_eq_true rfl⟩) ⟨cPre_blind, va_recv hK hP (ci := 4) (q0 := 24) rfl rfl, cPre_at hP hK hN hD hS hA hZ⟩ rfl rfl hl.1 rfl (lv_room (Nat.le_of_ble_eq_true rfl)) dX5_left_12 ⟨Nat.le_of_ble_eq_true rfl, Nat.le_of_ble_eq_true rfl⟩) hD hS hA (fun H locs hP hD hS => ?_)
    refine lv_goto (tgt := 19) hx hb dX5_left_15 (by decide) ?_
    obtain rfl := Option.some.inj h
    exact W.iret (v := u4.1) hx hb hr (fun t ht hW => ⟨⟨u4.1, (), rfl, rfl, by rw [ht]; exact hP, hD⟩, hS.F ht⟩) hS.2.2 dX5_left_19

-- X5_count
theorem wmX5_count_0 : (.fieldLink RX5 23 "SpaceWalls" "planes" "LSpaceWalls$Planes;" : Cond) ∈ wsX5_count := by decide +kernel
theorem wmX5_count_1 : (.fieldLink RX5 32 "SpaceWalls" "heaps" "LSpaceWalls$Heaps;" : Cond) ∈ wsX5_count := by decide +kernel
theorem wiX5_count_X5 : ∀ w ∈ u_ws RX5 TX5 5, w ∈ wsX5_count := by decide +kernel
theorem wiX5_count_X3 : ∀ w ∈ u_ws RX3 TX3 7, w ∈ wsX5_count := by decide +kernel
theorem wiX5_count_X1 : ∀ w ∈ u_ws RX1 TX1 13, w ∈ wsX5_count := by decide +kernel
set_option maxHeartbeats 8000000 in
set_option maxRecDepth 100000 in
theorem kX5_count (l : Launch) (D : va_G) (q : Nat → Nat) (cI cJ cZ : ClassId) (tP sz : Nat) (vnum : Int32) (vsz : Int32) (vfr : Int32) (vfo : Int32) (vli : Int32) (va : (Nat → Int32)) (vb : (Nat → Int32)) (vc : (Nat → Int32)) (ve : (Nat → Int32)) (vth : (Nat → Int32)) (vrk : (Nat → Int32)) (vcm : (Nat → Int32)) (vkx : (Nat → Int32)) (vky : (Nat → Int32)) (vkz : (Nat → Int32)) (vmk : (Nat → Int32)) (vre : (Nat → Int32)) (vro : (Nat → Int32)) (vwi : (Nat → Int32)) (vla : (Nat → Int32)) (vlb : (Nat → Int32)) (vtu : (Nat → Int32)) (k0x : Int32) (k0y : Int32) (k0z : Int32) (k1x : Int32) (k1y : Int32) (k1z : Int32) (k2x : Int32) (k2y : Int32) (k2z : Int32) (k3x : Int32) (k3y : Int32) (k3z : Int32) (p1 : Int32) (uu : (Int32 × Int32 × Int32 × Int32 × (Nat → Int32) × (Nat → Int32) × (Nat → Int32) × (Nat → Int32) × (Nat → Int32) × (Nat → Int32) × (Nat → Int32) × (Nat → Int32) × (Nat → Int32) × (Nat → Int32) × (Nat → Int32) × Int32 × Int32 × Int32 × Int32 × Int32 × Int32 × Int32 × Int32 × Int32 × Int32 × Int32 × Int32)) (h : fX5_count vnum vsz vfr vfo vli va vb vc ve vth vrk vcm vkx vky vkz vmk vre vro vwi vla vlb k0x k0y k0z k1x k1y k1z k2x k2y k2z k3x k3y k3z p1 = some uu) : Met l yX5_count wsX5_count ({ frames := 7, cells := 0, slots := 0, locals := 167 }) (cPre D cI cJ cZ tP (WC_ q cI cZ vnum vsz vfr vfo vli va vb vc ve vth vrk vcm vkx vky vkz vmk vre vro vwi vla vlb vtu k0x k0y k0z k1x k1y k1z k2x k2y k2z k3x k3y k3z) sz [.ref (q 0), .int p1]) (cQi D (va_A (WC_ q cI cZ vnum vsz vfr vfo vli va vb vc ve vth vrk vcm vkx vky vkz vmk vre vro vwi vla vlb vtu k0x k0y k0z k1x k1y k1z k2x k2y k2z k3x k3y k3z) sz) (WC_ q cI cZ vnum vsz uu.2.1 uu.2.2.1 uu.2.2.2.1 va vb vc ve vth uu.2.2.2.2.1 uu.2.2.2.2.2.1 uu.2.2.2.2.2.2.1 uu.2.2.2.2.2.2.2.1 uu.2.2.2.2.2.2.2.2.1 uu.2.2.2.2.2.2.2.2.2.1 uu.2.2.2.2.2.2.2.2.2.2.1 uu.2.2.2.2.2.2.2.2.2.2.2.1 uu.2.2.2.2.2.2.2.2.2.2.2.2.1 uu.2.2.2.2.2.2.2.2.2.2.2.2.2.1 uu.2.2.2.2.2.2.2.2.2.2.2.2.2.2.1 vtu uu.2.2.2.2.2.2.2.2.2.2.2.2.2.2.2.1 uu.2.2.2.2.2.2.2.2.2.2.2.2.2.2.2.2.1 uu.2.2.2.2.2.2.2.2.2.2.2.2.2.2.2.2.2.1 uu.2.2.2.2.2.2.2.2.2.2.2.2.2.2.2.2.2.2.1 uu.2.2.2.2.2.2.2.2.2.2.2.2.2.2.2.2.2.2.2.1 uu.2.2.2.2.2.2.2.2.2.2.2.2.2.2.2.2.2.2.2.2.1 uu.2.2.2.2.2.2.2.2.2.2.2.2.2.2.2.2.2.2.2.2.2.1 uu.2.2.2.2.2.2.2.2.2.2.2.2.2.2.2.2.2.2.2.2.2.2.1 uu.2.2.2.2.2.2.2.2.2.2.2.2.2.2.2.2.2.2.2.2.2.2.2.1 uu.2.2.2.2.2.2.2.2.2.2.2.2.2.2.2.2.2.2.2.2.2.2.2.2.1 uu.2.2.2.2.2.2.2.2.2.2.2.2.2.2.2.2.2.2.2.2.2.2.2.2.2.1 uu.2.2.2.2.2.2.2.2.2.2.2.2.2.2.2.2.2.2.2.2.2.2.2.2.2.2) uu.1) 0 0 (va_A (WC_ q cI cZ vnum vsz vfr vfo vli va vb vc ve vth vrk vcm vkx vky vkz vmk vre vro vwi vla vlb vtu k0x k0y k0z k1x k1y k1z k2x k2y k2z k3x k3y k3z) sz) := by
  refine Met.ofW (cc := cX5_count) (maxL := 2) (ret := (some .int)) (by decide) rfl ?_
  intro p e s m args below meth c s₁ B hml hv
  obtain ⟨rfl, hsz, hP, hK, hN, hD0, hZ⟩ := hv
  have hx := B.exec
  have hb := B.bytes
  have hr := B.returns
  have hts := atoms_spec (ws := wsX5_count) B.pre
  have hown : s.vm.findClass RX5 = some m.cls := findClass_of_methodNamed B.named
  have hlocks := B.notSynchronized
  subst hsz
  have hD := hD0.self (sz := s.heap.size)
  generalize hAe : va_A (WC_ q cI cZ vnum vsz vfr vfo vli va vb vc ve vth vrk vcm vkx vky vkz vmk vre vro vwi vla vlb vtu k0x k0y k0z k1x k1y k1z k2x k2y k2z k3x k3y k3z) s.heap.size = A at hD hZ ⊢
  have hA : ∀ q : Nat, s.heap.size ≤ q → A q := fun q h => by rw [← hAe]; exact Or.inr h
  have hS : va_S A s.heap s.heap [] := va_S.rf
  have hl := lv_entry ([.ref (q 0), .int p1]) (n := 2) (Nat.le_of_ble_eq_true rfl)
  rw [lg_entry_eq]
  generalize (lg_sl ([.ref (q 0), .int p1]) ++ List.replicate (2 - (lg_sl ([.ref (q 0), .int p1])).length) Slot.unset).toArray = ls at hl ⊢
  have hl : lv_has ls 2 [(0, .ref (q 0)), (1, .int p1)] := hl
  unfold fX5_count at h
  refine lv_iload_n hx hb dX5_count_0 rfl (lv_at hl 1 rfl) ?_
  by_cases c1 : p1 = (0 : Int32)
  · have h := (if_pos c1).symm.trans h
    refine lv_tableIn (off := 35) (tgt := 36) hx hb dX5_count_1 (by rw [c1]; decide) (by rw [c1]; decide) (by rw [c1]; rfl) (by decide) ?_
    refine lv_aload_n hx hb dX5_count_36 rfl (lv_at hl 0 rfl) ?_
    refine va_get (D := D) (ci := 5) (v := .ref (q 1)) (C := RX5) (T := TX5) (N := 5) hx hb hts wiX5_count_X5 hown hK hP 0 rfl rfl 0 (by decide) (hts _ wmX5_count_0) (fun _ h9 => h9) rfl dX5_count_37 ?_
    refine va_getN (D := D) (ci := 3) (v := .int vnum) (C := RX3) (T := TX3) (N := 7) hx hb hts wiX5_count_X3 hown hK hP 1 rfl rfl 0 (by decide) (NW_f hN 7 rfl) (fun _ h9 => h9) rfl dX5_count_40 ?_
    obtain rfl := Option.some.inj h
    exact W.iret (v := vnum) hx hb hr (fun t ht hW => ⟨⟨vnum, (), rfl, rfl, by rw [ht]; exact hP, hD⟩, hS.F ht⟩) hS.2.2 dX5_count_43
  have h := (if_neg c1).symm.trans h
  by_cases c2 : p1 = (1 : Int32)
  · have h := (if_pos c2).symm.trans h
    refine lv_tableIn (off := 43) (tgt := 44) hx hb dX5_count_1 (by rw [c2]; decide) (by rw [c2]; decide) (by rw [c2]; rfl) (by decide) ?_
    refine lv_aload_n hx hb dX5_count_44 rfl (lv_at hl 0 rfl) ?_
    refine va_get (D := D) (ci := 5) (v := .ref (q 1)) (C := RX5) (T := TX5) (N := 5) hx hb hts wiX5_count_X5 hown hK hP 0 rfl rfl 0 (by decide) (hts _ wmX5_count_0) (fun _ h9 => h9) rfl dX5_count_45 ?_
    refine va_getN (D := D) (ci := 3) (v := .int vsz) (C := RX3) (T := TX3) (N := 7) hx hb hts wiX5_count_X3 hown hK hP 1 rfl rfl 6 (by decide) (NW_f hN 2 rfl) (fun _ h9 => h9) rfl dX5_count_48 ?_
    obtain rfl := Option.some.inj h
    exact W.iret (v := vsz) hx hb hr (fun t ht hW => ⟨⟨vsz, (), rfl, rfl, by rw [ht]; exact hP, hD⟩, hS.F ht⟩) hS.2.2 dX5_count_51
  have h := (if_neg c2).symm.trans h
  by_cases c3 : p1 = (2 : Int32)
  · have h := (if_pos c3).symm.trans h
    refine lv_tableIn (off := 51) (tgt := 52) hx hb dX5_count_1 (by rw [c3]; decide) (by rw [c3]; decide) (by rw [c3]; rfl) (by decide) ?_
    refine lv_aload_n hx hb dX5_count_52 rfl (lv_at hl 0 rfl) ?_
    obtain ⟨u4, e5, h⟩ := bd_some h
    refine k_r (va_runV (As := []) (rest := []) ⟨hx, hb, hml, hown, hts⟩ (kX5_freshCut l D q cI cJ cZ tP s.heap.size vnum vsz vfr vfo vli va vb vc ve vth vrk vcm vkx vky vkz vmk vre vro vwi vla vlb vtu k0x k0y k0z k1x k1y k1z k2x k2y k2z k3x k3y k3z  u4 e5) (cwV 0 hts gX5_count_X5_freshCut rfl rfl rfl (by decide +kernel) ⟨Nat.le_of_ble_eq_true rfl, Nat.le_of_ble_eq_true rfl⟩) ⟨cPre_blind, va_recv hK hP (ci := 5) (q0 := 0) rfl rfl, cPre_at hP hK hN hD hS hA hZ⟩ rfl rfl hl.1 rfl (lv_room (Nat.le_of_ble_eq_true rfl)) dX5_count_53 ⟨Nat.le_of_ble_eq_true rfl, Nat.le_of_ble_eq_true rfl⟩) hD hS hA (fun H locs hP hD hS => ?_)
    refine lv_aload_n hx hb dX5_count_56 rfl (lv_at hl 0 rfl) ?_
    refine va_get (D := D) (ci := 5) (v := .ref (q 1)) (C := RX5) (T := TX5) (N := 5) hx hb hts wiX5_count_X5 hown hK hP 0 rfl rfl 0 (by decide) (hts _ wmX5_count_0) (fun _ h9 => h9) rfl dX5_count_57 ?_
    refine va_getN (D := D) (ci := 3) (v := .int vnum) (C := RX3) (T := TX3) (N := 7) hx hb hts wiX5_count_X3 hown hK hP 1 rfl rfl 0 (by decide) (NW_f hN 7 rfl) (fun _ h9 => h9) rfl dX5_count_60 ?_
    obtain ⟨u6, e7, h⟩ := bd_some h
    refine k_i (va_runV (As := [.int vnum]) (rest := []) ⟨hx, hb, hml, hown, hts⟩ (kX1_countOfWidth l D q cI cJ cZ tP H.size vnum vsz u4.1 u4.2.1 u4.2.2.1 va vb vc ve vth u4.2.2.2.1 u4.2.2.2.2.1 u4.2.2.2.2.2.1 u4.2.2.2.2.2.2.1 u4.2.2.2.2.2.2.2.1 u4.2.2.2.2.2.2.2.2.1 u4.2.2.2.2.2.2.2.2.2.1 u4.2.2.2.2.2.2.2.2.2.2.1 u4.2.2.2.2.2.2.2.2.2.2.2.1 u4.2.2.2.2.2.2.2.2.2.2.2.2.1 u4.2.2.2.2.2.2.2.2.2.2.2.2.2.1 vtu u4.2.2.2.2.2.2.2.2.2.2.2.2.2.2.1 u4.2.2.2.2.2.2.2.2.2.2.2.2.2.2.2.1 u4.2.2.2.2.2.2.2.2.2.2.2.2.2.2.2.2.1 u4.2.2.2.2.2.2.2.2.2.2.2.2.2.2.2.2.2.1 u4.2.2.2.2.2.2.2.2.2.2.2.2.2.2.2.2.2.2.1 u4.2.2.2.2.2.2.2.2.2.2.2.2.2.2.2.2.2.2.2.1 u4.2.2.2.2.2.2.2.2.2.2.2.2.2.2.2.2.2.2.2.2.1 u4.2.2.2.2.2.2.2.2.2.2.2.2.2.2.2.2.2.2.2.2.2.1 u4.2.2.2.2.2.2.2.2.2.2.2.2.2.2.2.2.2.2.2.2.2.2.1 u4.2.2.2.2.2.2.2.2.2.2.2.2.2.2.2.2.2.2.2.2.2.2.2.1 u4.2.2.2.2.2.2.2.2.2.2.2.2.2.2.2.2.2.2.2.2.2.2.2.2.1 u4.2.2.2.2.2.2.2.2.2.2.2.2.2.2.2.2.2.2.2.2.2.2.2.2.2 vnum u6 e7) (cwV 1 hts gX5_count_X1_countOfWidth rfl rfl rfl (by decide +kernel) ⟨Nat.le_of_ble_eq_true rfl, Nat.le_of_ble_eq_true rfl⟩) ⟨cPre_blind, va_recv hK hP (ci := 1) (q0 := 14) rfl rfl, cPre_at hP hK hN hD hS hA hZ⟩ rfl rfl hl.1 rfl (lv_room (Nat.le_of_ble_eq_true rfl)) dX5_count_63 ⟨Nat.le_of_ble_eq_true rfl, Nat.le_of_ble_eq_true rfl⟩) hD hS hA (fun H locs hP hD hS => ?_)
    obtain rfl := Option.some.inj h
    exact W.iret (v := u6) hx hb hr (fun t ht hW => ⟨⟨u6, (), rfl, rfl, by rw [ht]; exact hP, hD⟩, hS.F ht⟩) hS.2.2 dX5_count_66
  have h := (if_neg c3).symm.trans h
  by_cases c8 : p1 = (3 : Int32)
  · have h := (if_pos c8).symm.trans h
    refine lv_tableIn (off := 66) (tgt := 67) hx hb dX5_count_1 (by rw [c8]; decide) (by rw [c8]; decide) (by rw [c8]; rfl) (by decide) ?_
    refine lv_aload_n hx hb dX5_count_67 rfl (lv_at hl 0 rfl) ?_
    obtain ⟨u9, e10, h⟩ := bd_some h
    refine k_r (va_runV (As := []) (rest := []) ⟨hx, hb, hml, hown, hts⟩ (kX5_freshCut l D q cI cJ cZ tP s.heap.size vnum vsz vfr vfo vli va vb vc ve vth vrk vcm vkx vky vkz vmk vre vro vwi vla vlb vtu k0x k0y k0z k1x k1y k1z k2x k2y k2z k3x k3y k3z  u9 e10) (cwV 0 hts gX5_count_X5_freshCut rfl rfl rfl (by decide +kernel) ⟨Nat.le_of_ble_eq_true rfl, Nat.le_of_ble_eq_true rfl⟩) ⟨cPre_blind, va_recv hK hP (ci := 5) (q0 := 0) rfl rfl, cPre_at hP hK hN hD hS hA hZ⟩ rfl rfl hl.1 rfl (lv_room (Nat.le_of_ble_eq_true rfl)) dX5_count_68 ⟨Nat.le_of_ble_eq_true rfl, Nat.le_of_ble_eq_true rfl⟩) hD hS hA (fun H locs hP hD hS => ?_)
    refine va_getN (D := D) (ci := 1) (v := .int u9.2.1) (C := RX1) (T := TX1) (N := 13) hx hb hts wiX5_count_X1 hown hK hP 14 rfl rfl 11 (by decide) (NW_f hN 1 rfl) (fun _ h9 => h9) rfl dX5_count_71 ?_
    obtain rfl := Option.some.inj h
    exact W.iret (v := u9.2.1) hx hb hr (fun t ht hW => ⟨⟨u9.2.1, (), rfl, rfl, by rw [ht]; exact hP, hD⟩, hS.F ht⟩) hS.2.2 dX5_count_74
  have h := (if_neg c8).symm.trans h
  by_cases c11 : p1 = (4 : Int32)
  · have h := (if_pos c11).symm.trans h
    refine lv_tableIn (off := 74) (tgt := 75) hx hb dX5_count_1 (by rw [c11]; decide) (by rw [c11]; decide) (by rw [c11]; rfl) (by decide) ?_
    refine lv_aload_n hx hb dX5_count_75 rfl (lv_at hl 0 rfl) ?_
    obtain ⟨u12, e13, h⟩ := bd_some h
    refine k_r (va_runV (As := []) (rest := []) ⟨hx, hb, hml, hown, hts⟩ (kX5_freshCut l D q cI cJ cZ tP s.heap.size vnum vsz vfr vfo vli va vb vc ve vth vrk vcm vkx vky vkz vmk vre vro vwi vla vlb vtu k0x k0y k0z k1x k1y k1z k2x k2y k2z k3x k3y k3z  u12 e13) (cwV 0 hts gX5_count_X5_freshCut rfl rfl rfl (by decide +kernel) ⟨Nat.le_of_ble_eq_true rfl, Nat.le_of_ble_eq_true rfl⟩) ⟨cPre_blind, va_recv hK hP (ci := 5) (q0 := 0) rfl rfl, cPre_at hP hK hN hD hS hA hZ⟩ rfl rfl hl.1 rfl (lv_room (Nat.le_of_ble_eq_true rfl)) dX5_count_76 ⟨Nat.le_of_ble_eq_true rfl, Nat.le_of_ble_eq_true rfl⟩) hD hS hA (fun H locs hP hD hS => ?_)
    refine lv_pop hx hb dX5_count_79 rfl ?_
    refine lv_aload_n hx hb dX5_count_80 rfl (lv_at hl 0 rfl) ?_
    refine va_get (D := D) (ci := 5) (v := .ref (q 7)) (C := RX5) (T := TX5) (N := 5) hx hb hts wiX5_count_X5 hown hK hP 0 rfl rfl 1 (by decide) (hts _ wmX5_count_1) (fun _ h9 => h9) rfl dX5_count_81 ?_
    obtain ⟨u14, e15, h⟩ := bd_some h
    refine k_i (va_runV (As := []) (rest := []) ⟨hx, hb, hml, hown, hts⟩ (kX2_rankOfAll l D q cI cJ cZ tP H.size vnum vsz u12.1 u12.2.1 u12.2.2.1 va vb vc ve vth u12.2.2.2.1 u12.2.2.2.2.1 u12.2.2.2.2.2.1 u12.2.2.2.2.2.2.1 u12.2.2.2.2.2.2.2.1 u12.2.2.2.2.2.2.2.2.1 u12.2.2.2.2.2.2.2.2.2.1 u12.2.2.2.2.2.2.2.2.2.2.1 u12.2.2.2.2.2.2.2.2.2.2.2.1 u12.2.2.2.2.2.2.2.2.2.2.2.2.1 u12.2.2.2.2.2.2.2.2.2.2.2.2.2.1 vtu u12.2.2.2.2.2.2.2.2.2.2.2.2.2.2.1 u12.2.2.2.2.2.2.2.2.2.2.2.2.2.2.2.1 u12.2.2.2.2.2.2.2.2.2.2.2.2.2.2.2.2.1 u12.2.2.2.2.2.2.2.2.2.2.2.2.2.2.2.2.2.1 u12.2.2.2.2.2.2.2.2.2.2.2.2.2.2.2.2.2.2.1 u12.2.2.2.2.2.2.2.2.2.2.2.2.2.2.2.2.2.2.2.1 u12.2.2.2.2.2.2.2.2.2.2.2.2.2.2.2.2.2.2.2.2.1 u12.2.2.2.2.2.2.2.2.2.2.2.2.2.2.2.2.2.2.2.2.2.1 u12.2.2.2.2.2.2.2.2.2.2.2.2.2.2.2.2.2.2.2.2.2.2.1 u12.2.2.2.2.2.2.2.2.2.2.2.2.2.2.2.2.2.2.2.2.2.2.2.1 u12.2.2.2.2.2.2.2.2.2.2.2.2.2.2.2.2.2.2.2.2.2.2.2.2.1 u12.2.2.2.2.2.2.2.2.2.2.2.2.2.2.2.2.2.2.2.2.2.2.2.2.2  u14 e15) (cwV 0 hts gX5_count_X2_rankOfAll rfl rfl rfl (by decide +kernel) ⟨Nat.le_of_ble_eq_true rfl, Nat.le_of_ble_eq_true rfl⟩) ⟨cPre_blind, va_recv hK hP (ci := 2) (q0 := 7) rfl rfl, cPre_at hP hK hN hD hS hA hZ⟩ rfl rfl hl.1 rfl (lv_room (Nat.le_of_ble_eq_true rfl)) dX5_count_84 ⟨Nat.le_of_ble_eq_true rfl, Nat.le_of_ble_eq_true rfl⟩) hD hS hA (fun H locs hP hD hS => ?_)
    obtain rfl := Option.some.inj h
    exact W.iret (v := u14) hx hb hr (fun t ht hW => ⟨⟨u14, (), rfl, rfl, by rw [ht]; exact hP, hD⟩, hS.F ht⟩) hS.2.2 dX5_count_87
  have h := (if_neg c11).symm.trans h
  refine lv_tableOut (tgt := 88) hx hb dX5_count_1 (sw_out5 c1 c2 c3 c8 c11) (by decide) ?_
  refine lv_iconst (v := (-1 : Int32)) hx hb dX5_count_88 (by decide) ?_
  obtain rfl := Option.some.inj h
  exact W.iret (v := (-1 : Int32)) hx hb hr (fun t ht hW => ⟨⟨(-1 : Int32), (), rfl, rfl, by rw [ht]; exact hP, hD⟩, hS.F ht⟩) hS.2.2 dX5_count_89
