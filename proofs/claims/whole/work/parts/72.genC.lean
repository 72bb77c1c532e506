-- X0_set
theorem wmX0_set_0 : (.fieldLink RX0 29 "SpaceWalls$Arrow" "x" "I" : Cond) ∈ wsX0_set := by decide +kernel
theorem wmX0_set_1 : (.fieldLink RX0 33 "SpaceWalls$Arrow" "y" "I" : Cond) ∈ wsX0_set := by decide +kernel
theorem wmX0_set_2 : (.fieldLink RX0 36 "SpaceWalls$Arrow" "z" "I" : Cond) ∈ wsX0_set := by decide +kernel
theorem wiX0_set_X0 : ∀ w ∈ u_ws RX0 TX0 3, w ∈ wsX0_set := by decide +kernel
set_option maxHeartbeats 8000000 in
set_option maxRecDepth 100000 in
theorem kX0_set_r0 (l : Launch) (D : va_G) (q : Nat → Nat) (cI cJ cZ : ClassId) (tP sz : Nat) (vnum : Int32) (vsz : Int32) (vfr : Int32) (vfo : Int32) (vli : Int32) (va : (Nat → Int32)) (vb : (Nat → Int32)) (vc : (Nat → Int32)) (ve : (Nat → Int32)) (vth : (Nat → Int32)) (vrk : (Nat → Int32)) (vcm : (Nat → Int32)) (vkx : (Nat → Int32)) (vky : (Nat → Int32)) (vkz : (Nat → Int32)) (vmk : (Nat → Int32)) (vre : (Nat → Int32)) (vro : (Nat → Int32)) (vwi : (Nat → Int32)) (vla : (Nat → Int32)) (vlb : (Nat → Int32)) (vtu : (Nat → Int32)) (k0x : Int32) (k0y : Int32) (k0z : Int32) (k1x : Int32) (k1y : Int32) (k1z : Int32) (k2x : Int32) (k2y : Int32) (k2z : Int32) (k3x : Int32) (k3y : Int32) (k3z : Int32) (p1 : Int32) (p2 : Int32) (p3 : Int32) (uu : (Int32 × Int32 × Int32)) (h : fX0_set p1 p2 p3 = some uu) : Met l yX0_set wsX0_set ({ frames := 0, cells := 0, slots := 0, locals := 0 }) (cPre D cI cJ cZ tP (WC_ q cI cZ vnum vsz vfr vfo vli va vb vc ve vth vrk vcm vkx vky vkz vmk vre vro vwi vla vlb vtu k0x k0y k0z k1x k1y k1z k2x k2y k2z k3x k3y k3z) sz [.ref (q 13), .int p1, .int p2, .int p3]) (cQv D (va_A (WC_ q cI cZ vnum vsz vfr vfo vli va vb vc ve vth vrk vcm vkx vky vkz vmk vre vro vwi vla vlb vtu k0x k0y k0z k1x k1y k1z k2x k2y k2z k3x k3y k3z) sz) (WC_ q cI cZ vnum vsz vfr vfo vli va vb vc ve vth vrk vcm vkx vky vkz vmk vre vro vwi vla vlb vtu uu.1 uu.2.1 uu.2.2 k1x k1y k1z k2x k2y k2z k3x k3y k3z)) 0 0 (va_A (WC_ q cI cZ vnum vsz vfr vfo vli va vb vc ve vth vrk vcm vkx vky vkz vmk vre vro vwi vla vlb vtu k0x k0y k0z k1x k1y k1z k2x k2y k2z k3x k3y k3z) sz) := by
  refine Met.ofW (cc := cX0_set) (maxL := 4) (ret := none) (by decide) rfl ?_
  intro p e s m args below meth c s₁ B hml hv
  obtain ⟨rfl, hsz, hP, hK, hN, hD0, hZ⟩ := hv
  have hx := B.exec
  have hb := B.bytes
  have hr := B.returns
  have hts := atoms_spec (ws := wsX0_set) B.pre
  have hown : s.vm.findClass RX0 = some m.cls := findClass_of_methodNamed B.named
  have hlocks := B.notSynchronized
  subst hsz
  have hD := hD0.self (sz := s.heap.size)
  generalize hAe : va_A (WC_ q cI cZ vnum vsz vfr vfo vli va vb vc ve vth vrk vcm vkx vky vkz vmk vre vro vwi vla vlb vtu k0x k0y k0z k1x k1y k1z k2x k2y k2z k3x k3y k3z) s.heap.size = A at hD hZ ⊢
  have hA : ∀ q : Nat, s.heap.size ≤ q → A q := fun q h => by rw [← hAe]; exact Or.inr h
  have hS : va_S A s.heap s.heap [] := va_S.rf
  have hl := lv_entry ([.ref (q 13), .int p1, .int p2, .int p3]) (n := 4) (Nat.le_of_ble_eq_true rfl)
  rw [lg_entry_eq]
  generalize (lg_sl ([.ref (q 13), .int p1, .int p2, .int p3]) ++ List.replicate (4 - (lg_sl ([.ref (q 13), .int p1, .int p2, .int p3])).length) Slot.unset).toArray = ls at hl ⊢
  have hl : lv_has ls 4 [(0, .ref (q 13)), (1, .int p1), (2, .int p2), (3, .int p3)] := hl
  unfold fX0_set at h
  refine lv_aload_n hx hb dX0_set_0 rfl (lv_at hl 0 rfl) ?_
  refine lv_iload_n hx hb dX0_set_1 rfl (lv_at hl 1 rfl) ?_
  refine va_put (D := D) (ci := 0) (v := .int p1) (ty := .int) (C := RX0) (T := TX0) (N := 3) hx hb hts wiX0_set_X0 tyX0 tyX0_ok nmX0 hown hK hP hD hS 13 rfl rfl 0 (by decide) (hts _ wmX0_set_0) (fun _ h9 => h9) rfl (by decide +kernel) rfl rfl (Nat.le_of_ble_eq_true rfl) dX0_set_2 (fun H locs hP hD hS => ?_)
  have hP : va_P D vwCl (WC_ q cI cZ vnum vsz vfr vfo vli va vb vc ve vth vrk vcm vkx vky vkz vmk vre vro vwi vla vlb vtu p1 k0y k0z k1x k1y k1z k2x k2y k2z k3x k3y k3z) H := hP
  have hD : va_D A (WC_ q cI cZ vnum vsz vfr vfo vli va vb vc ve vth vrk vcm vkx vky vkz vmk vre vro vwi vla vlb vtu p1 k0y k0z k1x k1y k1z k2x k2y k2z k3x k3y k3z) := hD
  refine lv_aload_n hx hb dX0_set_5 rfl (lv_at hl 0 rfl) ?_
  refine lv_iload_n hx hb dX0_set_6 rfl (lv_at hl 2 rfl) ?_
  refine va_put (D := D) (ci := 0) (v := .int p2) (ty := .int) (C := RX0) (T := TX0) (N := 3) hx hb hts wiX0_set_X0 tyX0 tyX0_ok nmX0 hown hK hP hD hS 13 rfl rfl 1 (by decide) (hts _ wmX0_set_1) (fun _ h9 => h9) rfl (by decide +kernel) rfl rfl (Nat.le_of_ble_eq_true rfl) dX0_set_7 (fun H locs hP hD hS => ?_)
  have hP : va_P D vwCl (WC_ q cI cZ vnum vsz vfr vfo vli va vb vc ve vth vrk vcm vkx vky vkz vmk vre vro vwi vla vlb vtu p1 p2 k0z k1x k1y k1z k2x k2y k2z k3x k3y k3z) H := hP
  have hD : va_D A (WC_ q cI cZ vnum vsz vfr vfo vli va vb vc ve vth vrk vcm vkx vky vkz vmk vre vro vwi vla vlb vtu p1 p2 k0z k1x k1y k1z k2x k2y k2z k3x k3y k3z) := hD
  refine lv_aload_n hx hb dX0_set_10 rfl (lv_at hl 0 rfl) ?_
  refine lv_iload_n hx hb dX0_set_11 rfl (lv_at hl 3 rfl) ?_
  refine va_put (D := D) (ci := 0) (v := .int p3) (ty := .int) (C := RX0) (T := TX0) (N := 3) hx hb hts wiX0_set_X0 tyX0 tyX0_ok nmX0 hown hK hP hD hS 13 rfl rfl 2 (by decide) (hts _ wmX0_set_2) (fun _ h9 => h9) rfl (by decide +kernel) rfl rfl (Nat.le_of_ble_eq_true rfl) dX0_set_12 (fun H locs hP hD hS => ?_)
  have hP : va_P D vwCl (WC_ q cI cZ vnum vsz vfr vfo vli va vb vc ve vth vrk vcm vkx vky vkz vmk vre vro vwi vla vlb vtu p1 p2 p3 k1x k1y k1z k2x k2y k2z k3x k3y k3z) H := hP
  have hD : va_D A (WC_ q cI cZ vnum vsz vfr vfo vli va vb vc ve vth vrk vcm vkx vky vkz vmk vre vro vwi vla vlb vtu p1 p2 p3 k1x k1y k1z k2x k2y k2z k3x k3y k3z) := hD
  obtain rfl := Option.some.inj h
  exact W.vret hx hb hr (fun t ht hW => ⟨⟨(), rfl, trivial, by rw [ht]; exact hP, hD⟩, hS.F ht⟩) hS.2.2 dX0_set_15

-- X0_set
set_option maxHeartbeats 8000000 in
set_option maxRecDepth 100000 in
theorem kX0_set_r1 (l : Launch) (D : va_G) (q : Nat → Nat) (cI cJ cZ : ClassId) (tP sz : Nat) (vnum : Int32) (vsz : Int32) (vfr : Int32) (vfo : Int32) (vli : Int32) (va : (Nat → Int32)) (vb : (Nat → Int32)) (vc : (Nat → Int32)) (ve : (Nat → Int32)) (vth : (Nat → Int32)) (vrk : (Nat → Int32)) (vcm : (Nat → Int32)) (vkx : (Nat → Int32)) (vky : (Nat → Int32)) (vkz : (Nat → Int32)) (vmk : (Nat → Int32)) (vre : (Nat → Int32)) (vro : (Nat → Int32)) (vwi : (Nat → Int32)) (vla : (Nat → Int32)) (vlb : (Nat → Int32)) (vtu : (Nat → Int32)) (k0x : Int32) (k0y : Int32) (k0z : Int32) (k1x : Int32) (k1y : Int32) (k1z : Int32) (k2x : Int32) (k2y : Int32) (k2z : Int32) (k3x : Int32) (k3y : Int32) (k3z : Int32) (p1 : Int32) (p2 : Int32) (p3 : Int32) (uu : (Int32 × Int32 × Int32)) (h : fX0_set p1 p2 p3 = some uu) : Met l yX0_set wsX0_set ({ frames := 0, cells := 0, slots := 0, locals := 0 }) (cPre D cI cJ cZ tP (WC_ q cI cZ vnum vsz vfr vfo vli va vb vc ve vth vrk vcm vkx vky vkz vmk vre vro vwi vla vlb vtu k0x k0y k0z k1x k1y k1z k2x k2y k2z k3x k3y k3z) sz [.ref (q 21), .int p1, .int p2, .int p3]) (cQv D (va_A (WC_ q cI cZ vnum vsz vfr vfo vli va vb vc ve vth vrk vcm vkx vky vkz vmk vre vro vwi vla vlb vtu k0x k0y k0z k1x k1y k1z k2x k2y k2z k3x k3y k3z) sz) (WC_ q cI cZ vnum vsz vfr vfo vli va vb vc ve vth vrk vcm vkx vky vkz vmk vre vro vwi vla vlb vtu k0x k0y k0z uu.1 uu.2.1 uu.2.2 k2x k2y k2z k3x k3y k3z)) 0 0 (va_A (WC_ q cI cZ vnum vsz vfr vfo vli va vb vc ve vth vrk vcm vkx vky vkz vmk vre vro vwi vla vlb vtu k0x k0y k0z k1x k1y k1z k2x k2y k2z k3x k3y k3z) sz) := by
  refine Met.ofW (cc := cX0_set) (maxL := 4) (ret := none) (by decide) rfl ?_
  intro p e s m args below meth c s₁ B hml hv
  obtain ⟨rfl, hsz, hP, hK, hN, hD0, hZ⟩ := hv
  have hx := B.exec
  have hb := B.bytes
  have hr := B.returns
  have hts := atoms_spec (ws := wsX0_set) B.pre
  have hown : s.vm.findClass RX0 = some m.cls := findClass_of_methodNamed B.named
  have hlocks := B.notSynchronized
  subst hsz
  have hD := hD0.self (sz := s.heap.size)
  generalize hAe : va_A (WC_ q cI cZ vnum vsz vfr vfo vli va vb vc ve vth vrk vcm vkx vky vkz vmk vre vro vwi vla vlb vtu k0x k0y k0z k1x k1y k1z k2x k2y k2z k3x k3y k3z) s.heap.size = A at hD hZ ⊢
  have hA : ∀ q : Nat, s.heap.size ≤ q → A q := fun q h => by rw [← hAe]; exact Or.inr h
  have hS : va_S A s.heap s.heap [] := va_S.rf
  have hl := lv_entry ([.ref (q 21), .int p1, .int p2, .int p3]) (n := 4) (Nat.le_of_ble_eq_true rfl)
  rw [lg_entry_eq]
  generalize (lg_sl ([.ref (q 21), .int p1, .int p2, .int p3]) ++ List.replicate (4 - (lg_sl ([.ref (q 21), .int p1, .int p2, .int p3])).length) Slot.unset).toArray = ls at hl ⊢
  have hl : lv_has ls 4 [(0, .ref (q 21)), (1, .int p1), (2, .int p2), (3, .int p3)] := hl
  unfold fX0_set at h
  refine lv_aload_n hx hb dX0_set_0 rfl (lv_at hl 0 rfl) ?_
  refine lv_iload_n hx hb dX0_set_1 rfl (lv_at hl 1 rfl) ?_
  refine va_put (D := D) (ci := 0) (v := .int p1) (ty := .int) (C := RX0) (T := TX0) (N := 3) hx hb hts wiX0_set_X0 tyX0 tyX0_ok nmX0 hown hK hP hD hS 21 rfl rfl 0 (by decide) (hts _ wmX0_set_0) (fun _ h9 => h9) rfl (by decide +kernel) rfl rfl (Nat.le_of_ble_eq_true rfl) dX0_set_2 (fun H locs hP hD hS => ?_)
  have hP : va_P D vwCl (WC_ q cI cZ vnum vsz vfr vfo vli va vb vc ve vth vrk vcm vkx vky vkz vmk vre vro vwi vla vlb vtu k0x k0y k0z p1 k1y k1z k2x k2y k2z k3x k3y k3z) H := hP
  have hD : va_D A (WC_ q cI cZ vnum vsz vfr vfo vli va vb vc ve vth vrk vcm vkx vky vkz vmk vre vro vwi vla vlb vtu k0x k0y k0z p1 k1y k1z k2x k2y k2z k3x k3y k3z) := hD
  refine lv_aload_n hx hb dX0_set_5 rfl (lv_at hl 0 rfl) ?_
  refine lv_iload_n hx hb dX0_set_6 rfl (lv_at hl 2 rfl) ?_
  refine va_put (D := D) (ci := 0) (v := .int p2) (ty := .int) (C := RX0) (T := TX0) (N := 3) hx hb hts wiX0_set_X0 tyX0 tyX0_ok nmX0 hown hK hP hD hS 21 rfl rfl 1 (by decide) (hts _ wmX0_set_1) (fun _ h9 => h9) rfl (by decide +kernel) rfl rfl (Nat.le_of_ble_eq_true rfl) dX0_set_7 (fun H locs hP hD hS => ?_)
  have hP : va_P D vwCl (WC_ q cI cZ vnum vsz vfr vfo vli va vb vc ve vth vrk vcm vkx vky vkz vmk vre vro vwi vla vlb vtu k0x k0y k0z p1 p2 k1z k2x k2y k2z k3x k3y k3z) H := hP
  have hD : va_D A (WC_ q cI cZ vnum vsz vfr vfo vli va vb vc ve vth vrk vcm vkx vky vkz vmk vre vro vwi vla vlb vtu k0x k0y k0z p1 p2 k1z k2x k2y k2z k3x k3y k3z) := hD
  refine lv_aload_n hx hb dX0_set_10 rfl (lv_at hl 0 rfl) ?_
  refine lv_iload_n hx hb dX0_set_11 rfl (lv_at hl 3 rfl) ?_
  refine va_put (D := D) (ci := 0) (v := .int p3) (ty := .int) (C := RX0) (T := TX0) (N := 3) hx hb hts wiX0_set_X0 tyX0 tyX0_ok nmX0 hown hK hP hD hS 21 rfl rfl 2 (by decide) (hts _ wmX0_set_2) (fun _ h9 => h9) rfl (by decide +kernel) rfl rfl (Nat.le_of_ble_eq_true rfl) dX0_set_12 (fun H locs hP hD hS => ?_)
  have hP : va_P D vwCl (WC_ q cI cZ vnum vsz vfr vfo vli va vb vc ve vth vrk vcm vkx vky vkz vmk vre vro vwi vla vlb vtu k0x k0y k0z p1 p2 p3 k2x k2y k2z k3x k3y k3z) H := hP
  have hD : va_D A (WC_ q cI cZ vnum vsz vfr vfo vli va vb vc ve vth vrk vcm vkx vky vkz vmk vre vro vwi vla vlb vtu k0x k0y k0z p1 p2 p3 k2x k2y k2z k3x k3y k3z) := hD
  obtain rfl := Option.some.inj h
  exact W.vret hx hb hr (fun t ht hW => ⟨⟨(), rfl, trivial, by rw [ht]; exact hP, hD⟩, hS.F ht⟩) hS.2.2 dX0_set_15

-- X0_set
set_option maxHeartbeats 8000000 in
set_option maxRecDepth 100000 in
theorem kX0_set_r2 (l : Launch) (D : va_G) (q : Nat → Nat) (cI cJ cZ : ClassId) (tP sz : Nat) (vnum : Int32) (vsz : Int32) (vfr : Int32) (vfo : Int32) (vli : Int32) (va : (Nat → Int32)) (vb : (Nat → Int32)) (vc : (Nat → Int32)) (ve : (Nat → Int32)) (vth : (Nat → Int32)) (vrk : (Nat → Int32)) (vcm : (Nat → Int32)) (vkx : (Nat → Int32)) (vky : (Nat → Int32)) (vkz : (Nat → Int32)) (vmk : (Nat → Int32)) (vre : (Nat → Int32)) (vro : (Nat → Int32)) (vwi : (Nat → Int32)) (vla : (Nat → Int32)) (vlb : (Nat → Int32)) (vtu : (Nat → Int32)) (k0x : Int32) (k0y : Int32) (k0z : Int32) (k1x : Int32) (k1y : Int32) (k1z : Int32) (k2x : Int32) (k2y : Int32) (k2z : Int32) (k3x : Int32) (k3y : Int32) (k3z : Int32) (p1 : Int32) (p2 : Int32) (p3 : Int32) (uu : (Int32 × Int32 × Int32)) (h : fX0_set p1 p2 p3 = some uu) : Met l yX0_set wsX0_set ({ frames := 0, cells := 0, slots := 0, locals := 0 }) (cPre D cI cJ cZ tP (WC_ q cI cZ vnum vsz vfr vfo vli va vb vc ve vth vrk vcm vkx vky vkz vmk vre vro vwi vla vlb vtu k0x k0y k0z k1x k1y k1z k2x k2y k2z k3x k3y k3z) sz [.ref (q 22), .int p1, .int p2, .int p3]) (cQv D (va_A (WC_ q cI cZ vnum vsz vfr vfo vli va vb vc ve vth vrk vcm vkx vky vkz vmk vre vro vwi vla vlb vtu k0x k0y k0z k1x k1y k1z k2x k2y k2z k3x k3y k3z) sz) (WC_ q cI cZ vnum vsz vfr vfo vli va vb vc ve vth vrk vcm vkx vky vkz vmk vre vro vwi vla vlb vtu k0x k0y k0z k1x k1y k1z uu.1 uu.2.1 uu.2.2 k3x k3y k3z)) 0 0 (va_A (WC_ q cI cZ vnum vsz vfr vfo vli va vb vc ve vth vrk vcm vkx vky vkz vmk vre vro vwi vla vlb vtu k0x k0y k0z k1x k1y k1z k2x k2y k2z k3x k3y k3z) sz) := by
  refine Met.ofW (cc := cX0_set) (maxL := 4) (ret := none) (by decide) rfl ?_
  intro p e s m args below meth c s₁ B hml hv
  obtain ⟨rfl, hsz, hP, hK, hN, hD0, hZ⟩ := hv
  have hx := B.exec
  have hb := B.bytes
  have hr := B.returns
  have hts := atoms_spec (ws := wsX0_set) B.pre
  have hown : s.vm.findClass RX0 = some m.cls := findClass_of_methodNamed B.named
  have hlocks := B.notSynchronized
  subst hsz
  have hD := hD0.self (sz := s.heap.size)
  generalize hAe : va_A (WC_ q cI cZ vnum vsz vfr vfo vli va vb vc ve vth vrk vcm vkx vky vkz vmk vre vro vwi vla vlb vtu k0x k0y k0z k1x k1y k1z k2x k2y k2z k3x k3y k3z) s.heap.size = A at hD hZ ⊢
  have hA : ∀ q : Nat, s.heap.size ≤ q → A q := fun q h => by rw [← hAe]; exact Or.inr h
  have hS : va_S A s.heap s.heap [] := va_S.rf
  have hl := lv_entry ([.ref (q 22), .int p1, .int p2, .int p3]) (n := 4) (Nat.le_of_ble_eq_true rfl)
  rw [lg_entry_eq]
  generalize (lg_sl ([.ref (q 22), .int p1, .int p2, .int p3]) ++ List.replicate (4 - (lg_sl ([.ref (q 22), .int p1, .int p2, .int p3])).length) Slot.unset).toArray = ls at hl ⊢
  have hl : lv_has ls 4 [(0, .ref (q 22)), (1, .int p1), (2, .int p2), (3, .int p3)] := hl
  unfold fX0_set at h
  refine lv_aload_n hx hb dX0_set_0 rfl (lv_at hl 0 rfl) ?_
  refine lv_iload_n hx hb dX0_set_1 rfl (lv_at hl 1 rfl) ?_
  refine va_put (D := D) (ci := 0) (v := .int p1) (ty := .int) (C := RX0) (T := TX0) (N := 3) hx hb hts wiX0_set_X0 tyX0 tyX0_ok nmX0 hown hK hP hD hS 22 rfl rfl 0 (by decide) (hts _ wmX0_set_0) (fun _ h9 => h9) rfl (by decide +kernel) rfl rfl (Nat.le_of_ble_eq_true rfl) dX0_set_2 (fun H locs hP hD hS => ?_)
  have hP : va_P D vwCl (WC_ q cI cZ vnum vsz vfr vfo vli va vb vc ve vth vrk vcm vkx vky vkz vmk vre vro vwi vla vlb vtu k0x k0y k0z k1x k1y k1z p1 k2y k2z k3x k3y k3z) H := hP
  have hD : va_D A (WC_ q cI cZ vnum vsz vfr vfo vli va vb vc ve vth vrk vcm vkx vky vkz vmk vre vro vwi vla vlb vtu k0x k0y k0z k1x k1y k1z p1 k2y k2z k3x k3y k3z) := hD
  refine lv_aload_n hx hb dX0_set_5 rfl (lv_at hl 0 rfl) ?_
  refine lv_iload_n hx hb dX0_set_6 rfl (lv_at hl 2 rfl) ?_
  refine va_put (D := D) (ci := 0) (v := .int p2) (ty := .int) (C := RX0) (T := TX0) (N := 3) hx hb hts wiX0_set_X0 tyX0 tyX0_ok nmX0 hown hK hP hD hS 22 rfl rfl 1 (by decide) (hts _ wmX0_set_1) (fun _ h9 => h9) rfl (by decide +kernel) rfl rfl (Nat.le_of_ble_eq_true rfl) dX0_set_7 (fun H locs hP hD hS => ?_)
  have hP : va_P D vwCl (WC_ q cI cZ vnum vsz vfr vfo vli va vb vc ve vth vrk vcm vkx vky vkz vmk vre vro vwi vla vlb vtu k0x k0y k0z k1x k1y k1z p1 p2 k2z k3x k3y k3z) H := hP
  have hD : va_D A (WC_ q cI cZ vnum vsz vfr vfo vli va vb vc ve vth vrk vcm vkx vky vkz vmk vre vro vwi vla vlb vtu k0x k0y k0z k1x k1y k1z p1 p2 k2z k3x k3y k3z) := hD
  refine lv_aload_n hx hb dX0_set_10 rfl (lv_at hl 0 rfl) ?_
  refine lv_iload_n hx hb dX0_set_11 rfl (lv_at hl 3 rfl) ?_
  refine va_put (D := D) (ci := 0) (v := .int p3) (ty := .int) (C := RX0) (T := TX0) (N := 3) hx hb hts wiX0_set_X0 tyX0 tyX0_ok nmX0 hown hK hP hD hS 22 rfl rfl 2 (by decide) (hts _ wmX0_set_2) (fun _ h9 => h9) rfl (by decide +kernel) rfl rfl (Nat.le_of_ble_eq_true rfl) dX0_set_12 (fun H locs hP hD hS => ?_)
  have hP : va_P D vwCl (WC_ q cI cZ vnum vsz vfr vfo vli va vb vc ve vth vrk vcm vkx vky vkz vmk vre vro vwi vla vlb vtu k0x k0y k0z k1x k1y k1z p1 p2 p3 k3x k3y k3z) H := hP
  have hD : va_D A (WC_ q cI cZ vnum vsz vfr vfo vli va vb vc ve vth vrk vcm vkx vky vkz vmk vre vro vwi vla vlb vtu k0x k0y k0z k1x k1y k1z p1 p2 p3 k3x k3y k3z) := hD
  obtain rfl := Option.some.inj h
  exact W.vret hx hb hr (fun t ht hW => ⟨⟨(), rfl, trivial, by rw [ht]; exact hP, hD⟩, hS.F ht⟩) hS.2.2 dX0_set_15

-- X0_set
set_option maxHeartbeats 8000000 in
set_option maxRecDepth 100000 in
theorem kX0_set_r3 (l : Launch) (D : va_G) (q : Nat → Nat) (cI cJ cZ : ClassId) (tP sz : Nat) (vnum : Int32) (vsz : Int32) (vfr : Int32) (vfo : Int32) (vli : Int32) (va : (Nat → Int32)) (vb : (Nat → Int32)) (vc : (Nat → Int32)) (ve : (Nat → Int32)) (vth : (Nat → Int32)) (vrk : (Nat → Int32)) (vcm : (Nat → Int32)) (vkx : (Nat → Int32)) (vky : (Nat → Int32)) (vkz : (Nat → Int32)) (vmk : (Nat → Int32)) (vre : (Nat → Int32)) (vro : (Nat → Int32)) (vwi : (Nat → Int32)) (vla : (Nat → Int32)) (vlb : (Nat → Int32)) (vtu : (Nat → Int32)) (k0x : Int32) (k0y : Int32) (k0z : Int32) (k1x : Int32) (k1y : Int32) (k1z : Int32) (k2x : Int32) (k2y : Int32) (k2z : Int32) (k3x : Int32) (k3y : Int32) (k3z : Int32) (p1 : Int32) (p2 : Int32) (p3 : Int32) (uu : (Int32 × Int32 × Int32)) (h : fX0_set p1 p2 p3 = some uu) : Met l yX0_set wsX0_set ({ frames := 0, cells := 0, slots := 0, locals := 0 }) (cPre D cI cJ cZ tP (WC_ q cI cZ vnum vsz vfr vfo vli va vb vc ve vth vrk vcm vkx vky vkz vmk vre vro vwi vla vlb vtu k0x k0y k0z k1x k1y k1z k2x k2y k2z k3x k3y k3z) sz [.ref (q 23), .int p1, .int p2, .int p3]) (cQv D (va_A (WC_ q cI cZ vnum vsz vfr vfo vli va vb vc ve vth vrk vcm vkx vky vkz vmk vre vro vwi vla vlb vtu k0x k0y k0z k1x k1y k1z k2x k2y k2z k3x k3y k3z) sz) (WC_ q cI cZ vnum vsz vfr vfo vli va vb vc ve vth vrk vcm vkx vky vkz vmk vre vro vwi vla vlb vtu k0x k0y k0z k1x k1y k1z k2x k2y k2z uu.1 uu.2.1 uu.2.2)) 0 0 (va_A (WC_ q cI cZ vnum vsz vfr vfo vli va vb vc ve vth vrk vcm vkx vky vkz vmk vre vro vwi vla vlb vtu k0x k0y k0z k1x k1y k1z k2x k2y k2z k3x k3y k3z) sz) := by
  refine Met.ofW (cc := cX0_set) (maxL := 4) (ret := none) (by decide) rfl ?_
  intro p e s m args below meth c s₁ B hml hv
  obtain ⟨rfl, hsz, hP, hK, hN, hD0, hZ⟩ := hv
  have hx := B.exec
  have hb := B.bytes
  have hr := B.returns
  have hts := atoms_spec (ws := wsX0_set) B.pre
  have hown : s.vm.findClass RX0 = some m.cls := findClass_of_methodNamed B.named
  have hlocks := B.notSynchronized
  subst hsz
  have hD := hD0.self (sz := s.heap.size)
  generalize hAe : va_A (WC_ q cI cZ vnum vsz vfr vfo vli va vb vc ve vth vrk vcm vkx vky vkz vmk vre vro vwi vla vlb vtu k0x k0y k0z k1x k1y k1z k2x k2y k2z k3x k3y k3z) s.heap.size = A at hD hZ ⊢
  have hA : ∀ q : Nat, s.heap.size ≤ q → A q := fun q h => by rw [← hAe]; exact Or.inr h
  have hS : va_S A s.heap s.heap [] := va_S.rf
  have hl := lv_entry ([.ref (q 23), .int p1, .int p2, .int p3]) (n := 4) (Nat.le_of_ble_eq_true rfl)
  rw [lg_entry_eq]
  generalize (lg_sl ([.ref (q 23), .int p1, .int p2, .int p3]) ++ List.replicate (4 - (lg_sl ([.ref (q 23), .int p1, .int p2, .int p3])).length) Slot.unset).toArray = ls at hl ⊢
  have hl : lv_has ls 4 [(0, .ref (q 23)), (1, .int p1), (2, .int p2), (3, .int p3)] := hl
  unfold fX0_set at h
  refine lv_aload_n hx hb dX0_set_0 rfl (lv_at hl 0 rfl) ?_
  refine lv_iload_n hx hb dX0_set_1 rfl (lv_at hl 1 rfl) ?_
  refine va_put (D := D) (ci := 0) (v := .int p1) (ty := .int) (C := RX0) (T := TX0) (N := 3) hx hb hts wiX0_set_X0 tyX0 tyX0_ok nmX0 hown hK hP hD hS 23 rfl rfl 0 (by decide) (hts _ wmX0_set_0) (fun _ h9 => h9) rfl (by decide +kernel) rfl rfl (Nat.le_of_ble_eq_true rfl) dX0_set_2 (fun H locs hP hD hS => ?_)
  have hP : va_P D vwCl (WC_ q cI cZ vnum vsz vfr vfo vli va vb vc ve vth vrk vcm vkx vky vkz vmk vre vro vwi vla vlb vtu k0x k0y k0z k1x k1y k1z k2x k2y k2z p1 k3y k3z) H := hP
  have hD : va_D A (WC_ q cI cZ vnum vsz vfr vfo vli va vb vc ve vth vrk vcm vkx vky vkz vmk vre vro vwi vla vlb vtu k0x k0y k0z k1x k1y k1z k2x k2y k2z p1 k3y k3z) := hD
  refine lv_aload_n hx hb dX0_set_5 rfl (lv_at hl 0 rfl) ?_
  refine lv_iload_n hx hb dX0_set_6 rfl (lv_at hl 2 rfl) ?_
  refine va_put (D := D) (ci := 0) (v := .int p2) (ty := .int) (C := RX0) (T := TX0) (N := 3) hx hb hts wiX0_set_X0 tyX0 tyX0_ok nmX0 hown hK hP hD hS 23 rfl rfl 1 (by decide) (hts _ wmX0_set_1) (fun _ h9 => h9) rfl (by decide +kernel) rfl rfl (Nat.le_of_ble_eq_true rfl) dX0_set_7 (fun H locs hP hD hS => ?_)
  have hP : va_P D vwCl (WC_ q cI cZ vnum vsz vfr vfo vli va vb vc ve vth vrk vcm vkx vky vkz vmk vre vro vwi vla vlb vtu k0x k0y k0z k1x k1y k1z k2x k2y k2z p1 p2 k3z) H := hP
  have hD : va_D A (WC_ q cI cZ vnum vsz vfr vfo vli va vb vc ve vth vrk vcm vkx vky vkz vmk vre vro vwi vla vlb vtu k0x k0y k0z k1x k1y k1z k2x k2y k2z p1 p2 k3z) := hD
  refine lv_aload_n hx hb dX0_set_10 rfl (lv_at hl 0 rfl) ?_
  refine lv_iload_n hx hb dX0_set_11 rfl (lv_at hl 3 rfl) ?_
  refine va_put (D := D) (ci := 0) (v := .int p3) (ty := .int) (C := RX0) (T := TX0) (N := 3) hx hb hts wiX0_set_X0 tyX0 tyX0_ok nmX0 hown hK hP hD hS 23 rfl rfl 2 (by decide) (hts _ wmX0_set_2) (fun _ h9 => h9) rfl (by decide +kernel) rfl rfl (Nat.le_of_ble_eq_true rfl) dX0_set_12 (fun H locs hP hD hS => ?_)
  have hP : va_P D vwCl (WC_ q cI cZ vnum vsz vfr vfo vli va vb vc ve vth vrk vcm vkx vky vkz vmk vre vro vwi vla vlb vtu k0x k0y k0z k1x k1y k1z k2x k2y k2z p1 p2 p3) H := hP
  have hD : va_D A (WC_ q cI cZ vnum vsz vfr vfo vli va vb vc ve vth vrk vcm vkx vky vkz vmk vre vro vwi vla vlb vtu k0x k0y k0z k1x k1y k1z k2x k2y k2z p1 p2 p3) := hD
  obtain rfl := Option.some.inj h
  exact W.vret hx hb hr (fun t ht hW => ⟨⟨(), rfl, trivial, by rw [ht]; exact hP, hD⟩, hS.F ht⟩) hS.2.2 dX0_set_15

-- X0_crossWith
theorem wmX0_crossWith_0 : (.fieldLink RX0 33 "SpaceWalls$Arrow" "y" "I" : Cond) ∈ wsX0_crossWith := by decide +kernel
theorem wmX0_crossWith_1 : (.fieldLink RX0 36 "SpaceWalls$Arrow" "z" "I" : Cond) ∈ wsX0_crossWith := by decide +kernel
theorem wmX0_crossWith_2 : (.fieldLink RX0 29 "SpaceWalls$Arrow" "x" "I" : Cond) ∈ wsX0_crossWith := by decide +kernel
theorem wiX0_crossWith_X3 : ∀ w ∈ u_ws RX3 TX3 7, w ∈ wsX0_crossWith := by decide +kernel
theorem wiX0_crossWith_X0 : ∀ w ∈ u_ws RX0 TX0 3, w ∈ wsX0_crossWith := by decide +kernel
set_option maxHeartbeats 8000000 in
set_option maxRecDepth 100000 in
theorem kX0_crossWith_r0 (l : Launch) (D : va_G) (q : Nat → Nat) (cI cJ cZ : ClassId) (tP sz : Nat) (vnum : Int32) (vsz : Int32) (vfr : Int32) (vfo : Int32) (vli : Int32) (va : (Nat → Int32)) (vb : (Nat → Int32)) (vc : (Nat → Int32)) (ve : (Nat → Int32)) (vth : (Nat → Int32)) (vrk : (Nat → Int32)) (vcm : (Nat → Int32)) (vkx : (Nat → Int32)) (vky : (Nat → Int32)) (vkz : (Nat → Int32)) (vmk : (Nat → Int32)) (vre : (Nat → Int32)) (vro : (Nat → Int32)) (vwi : (Nat → Int32)) (vla : (Nat → Int32)) (vlb : (Nat → Int32)) (vtu : (Nat → Int32)) (k0x : Int32) (k0y : Int32) (k0z : Int32) (k1x : Int32) (k1y : Int32) (k1z : Int32) (k2x : Int32) (k2y : Int32) (k2z : Int32) (k3x : Int32) (k3y : Int32) (k3z : Int32) (p1 : Int32) (uu : (Int32 × Int32 × Int32)) (h : fX0_crossWith va vb vc k0x k0y k0z p1 = some uu) : Met l yX0_crossWith wsX0_crossWith ({ frames := 1, cells := 0, slots := 0, locals := 23 }) (cPre D cI cJ cZ tP (WC_ q cI cZ vnum vsz vfr vfo vli va vb vc ve vth vrk vcm vkx vky vkz vmk vre vro vwi vla vlb vtu k0x k0y k0z k1x k1y k1z k2x k2y k2z k3x k3y k3z) sz [.ref (q 13), .ref (q 1), .int p1]) (cQv D (va_A (WC_ q cI cZ vnum vsz vfr vfo vli va vb vc ve vth vrk vcm vkx vky vkz vmk vre vro vwi vla vlb vtu k0x k0y k0z k1x k1y k1z k2x k2y k2z k3x k3y k3z) sz) (WC_ q cI cZ vnum vsz vfr vfo vli va vb vc ve vth vrk vcm vkx vky vkz vmk vre vro vwi vla vlb vtu uu.1 uu.2.1 uu.2.2 k1x k1y k1z k2x k2y k2z k3x k3y k3z)) 0 0 (va_A (WC_ q cI cZ vnum vsz vfr vfo vli va vb vc ve vth vrk vcm vkx vky vkz vmk vre vro vwi vla vlb vtu k0x k0y k0z k1x k1y k1z k2x k2y k2z k3x k3y k3z) sz) := by
  refine Met.ofW (cc := cX0_crossWith) (maxL := 6) (ret := none) (by decide) rfl ?_
  intro p e s m args below meth c s₁ B hml hv
  obtain ⟨rfl, hsz, hP, hK, hN, hD0, hZ⟩ := hv
  have hx := B.exec
  have hb := B.bytes
  have hr := B.returns
  have hts := atoms_spec (ws := wsX0_crossWith) B.pre
  have hown : s.vm.findClass RX0 = some m.cls := findClass_of_methodNamed B.named
  have hlocks := B.notSynchronized
  subst hsz
  have hD := hD0.self (sz := s.heap.size)
  generalize hAe : va_A (WC_ q cI cZ vnum vsz vfr vfo vli va vb vc ve vth vrk vcm vkx vky vkz vmk vre vro vwi vla vlb vtu k0x k0y k0z k1x k1y k1z k2x k2y k2z k3x k3y k3z) s.heap.size = A at hD hZ ⊢
  have hA : ∀ q : Nat, s.heap.size ≤ q → A q := fun q h => by rw [← hAe]; exact Or.inr h
  have hS : va_S A s.heap s.heap [] := va_S.rf
  have hl := lv_entry ([.ref (q 13), .ref (q 1), .int p1]) (n := 6) (Nat.le_of_ble_eq_true rfl)
  rw [lg_entry_eq]
  generalize (lg_sl ([.ref (q 13), .ref (q 1), .int p1]) ++ List.replicate (6 - (lg_sl ([.ref (q 13), .ref (q 1), .int p1])).length) Slot.unset).toArray = ls at hl ⊢
  have hl : lv_has ls 6 [(0, .ref (q 13)), (1, .ref (q 1)), (2, .int p1)] := hl
  unfold fX0_crossWith at h
  refine lv_aload_n hx hb dX0_crossWith_0 rfl (lv_at hl 1 rfl) ?_
  refine va_getN (D := D) (ci := 3) (v := .ref (q 2)) (C := RX3) (T := TX3) (N := 7) hx hb hts wiX0_crossWith_X3 hown hK hP 1 rfl rfl 1 (by decide) (NW_f hN 10 rfl) (fun _ h9 => h9) rfl dX0_crossWith_1 ?_
  refine lv_iload_n hx hb dX0_crossWith_4 rfl (lv_at hl 2 rfl) ?_
  obtain ⟨i1, h⟩ := ck_some h
  refine va_iald hx hb hK hP 2 0 rfl rfl i1 dX0_crossWith_5 ?_
  refine lv_istore_n (lv' := [(3, .int (va p1.toNatClampNeg)), (0, .ref (q 13)), (1, .ref (q 1)), (2, .int p1)]) hx hb dX0_crossWith_6 rfl hl (by decide) rfl (fun ls hl => ?_)
  refine lv_aload_n hx hb dX0_crossWith_7 rfl (lv_at hl 2 rfl) ?_
  refine va_getN (D := D) (ci := 3) (v := .ref (q 3)) (C := RX3) (T := TX3) (N := 7) hx hb hts wiX0_crossWith_X3 hown hK hP 1 rfl rfl 2 (by decide) (NW_f hN 8 rfl) (fun _ h9 => h9) rfl dX0_crossWith_8 ?_
  refine lv_iload_n hx hb dX0_crossWith_11 rfl (lv_at hl 3 rfl) ?_
  obtain ⟨i2, h⟩ := ck_some h
  refine va_iald hx hb hK hP 3 0 rfl rfl i2 dX0_crossWith_12 ?_
  refine lv_istore (lv' := [(4, .int (vb p1.toNatClampNeg)), (3, .int (va p1.toNatClampNeg)), (0, .ref (q 13)), (1, .ref (q 1)), (2, .int p1)]) hx hb dX0_crossWith_13 hl (by decide) rfl (fun ls hl => ?_)
  refine lv_aload_n hx hb dX0_crossWith_15 rfl (lv_at hl 3 rfl) ?_
  refine va_getN (D := D) (ci := 3) (v := .ref (q 4)) (C := RX3) (T := TX3) (N := 7) hx hb hts wiX0_crossWith_X3 hown hK hP 1 rfl rfl 3 (by decide) (NW_f hN 9 rfl) (fun _ h9 => h9) rfl dX0_crossWith_16 ?_
  refine lv_iload_n hx hb dX0_crossWith_19 rfl (lv_at hl 4 rfl) ?_
  obtain ⟨i3, h⟩ := ck_some h
  refine va_iald hx hb hK hP 4 0 rfl rfl i3 dX0_crossWith_20 ?_
  refine lv_istore (lv' := [(5, .int (vc p1.toNatClampNeg)), (4, .int (vb p1.toNatClampNeg)), (3, .int (va p1.toNatClampNeg)), (0, .ref (q 13)), (1, .ref (q 1)), (2, .int p1)]) hx hb dX0_crossWith_21 hl (by decide) rfl (fun ls hl => ?_)
  refine lv_aload_n hx hb dX0_crossWith_23 rfl (lv_at hl 3 rfl) ?_
  refine lv_aload_n hx hb dX0_crossWith_24 rfl (lv_at hl 3 rfl) ?_
  refine va_get (D := D) (ci := 0) (v := .int k0y) (C := RX0) (T := TX0) (N := 3) hx hb hts wiX0_crossWith_X0 hown hK hP 13 rfl rfl 1 (by decide) (hts _ wmX0_crossWith_0) (fun _ h9 => h9) rfl dX0_crossWith_25 ?_
  refine lv_iload hx hb dX0_crossWith_28 (lv_at hl 0 rfl) ?_
  refine lv_imul hx hb dX0_crossWith_30 ?_
  refine lv_aload_n hx hb dX0_crossWith_31 rfl (lv_at hl 3 rfl) ?_
  refine va_get (D := D) (ci := 0) (v := .int k0z) (C := RX0) (T := TX0) (N := 3) hx hb hts wiX0_crossWith_X0 hown hK hP 13 rfl rfl 2 (by decide) (hts _ wmX0_crossWith_1) (fun _ h9 => h9) rfl dX0_crossWith_32 ?_
  refine lv_iload hx hb dX0_crossWith_35 (lv_at hl 1 rfl) ?_
  refine lv_imul hx hb dX0_crossWith_37 ?_
  refine lv_isub hx hb dX0_crossWith_38 ?_
  refine lv_aload_n hx hb dX0_crossWith_39 rfl (lv_at hl 3 rfl) ?_
  refine va_get (D := D) (ci := 0) (v := .int k0z) (C := RX0) (T := TX0) (N := 3) hx hb hts wiX0_crossWith_X0 hown hK hP 13 rfl rfl 2 (by decide) (hts _ wmX0_crossWith_1) (fun _ h9 => h9) rfl dX0_crossWith_40 ?_
  refine lv_iload_n hx hb dX0_crossWith_43 rfl (lv_at hl 2 rfl) ?_
  refine lv_imul hx hb dX0_crossWith_44 ?_
  refine lv_aload_n hx hb dX0_crossWith_45 rfl (lv_at hl 3 rfl) ?_
  refine va_get (D := D) (ci := 0) (v := .int k0x) (C := RX0) (T := TX0) (N := 3) hx hb hts wiX0_crossWith_X0 hown hK hP 13 rfl rfl 0 (by decide) (hts _ wmX0_crossWith_2) (fun _ h9 => h9) rfl dX0_crossWith_46 ?_
  refine lv_iload hx hb dX0_crossWith_49 (lv_at hl 0 rfl) ?_
  refine lv_imul hx hb dX0_crossWith_51 ?_
  refine lv_isub hx hb dX0_crossWith_52 ?_
  refine lv_aload_n hx hb dX0_crossWith_53 rfl (lv_at hl 3 rfl) ?_
  refine va_get (D := D) (ci := 0) (v := .int k0x) (C := RX0) (T := TX0) (N := 3) hx hb hts wiX0_crossWith_X0 hown hK hP 13 rfl rfl 0 (by decide) (hts _ wmX0_crossWith_2) (fun _ h9 => h9) rfl dX0_crossWith_54 ?_
  refine lv_iload hx hb dX0_crossWith_57 (lv_at hl 1 rfl) ?_
  refine lv_imul hx hb dX0_crossWith_59 ?_
  refine lv_aload_n hx hb dX0_crossWith_60 rfl (lv_at hl 3 rfl) ?_
  refine va_get (D := D) (ci := 0) (v := .int k0y) (C := RX0) (T := TX0) (N := 3) hx hb hts wiX0_crossWith_X0 hown hK hP 13 rfl rfl 1 (by decide) (hts _ wmX0_crossWith_0) (fun _ h9 => h9) rfl dX0_crossWith_61 ?_
  refine lv_iload_n hx hb dX0_crossWith_64 rfl (lv_at hl 2 rfl) ?_
  refine lv_imul hx hb dX0_crossWith_65 ?_
  refine lv_isub hx hb dX0_crossWith_66 ?_
  obtain ⟨u4, e5, h⟩ := bd_some h
  refine k_v (va_runV (As := [.int ((k0y * (vc p1.toNatClampNeg)) - (k0z * (vb p1.toNatClampNeg))), .int ((k0z * (va p1.toNatClampNeg)) - (k0x * (vc p1.toNatClampNeg))), .int ((k0x * (vb p1.toNatClampNeg)) - (k0y * (va p1.toNatClampNeg)))]) (rest := []) ⟨hx, hb, hml, hown, hts⟩ (kX0_set_r0 l D q cI cJ cZ tP s.heap.size vnum vsz vfr vfo vli va vb vc ve vth vrk vcm vkx vky vkz vmk vre vro vwi vla vlb vtu k0x k0y k0z k1x k1y k1z k2x k2y k2z k3x k3y k3z ((k0y * (vc p1.toNatClampNeg)) - (k0z * (vb p1.toNatClampNeg))) ((k0z * (va p1.toNatClampNeg)) - (k0x * (vc p1.toNatClampNeg))) ((k0x * (vb p1.toNatClampNeg)) - (k0y * (va p1.toNatClampNeg))) u4 e5) (cwV 3 hts gX0_crossWith_X0_set rfl rfl rfl (by decide +kernel) ⟨Nat.le_of_ble_eq_true rfl, Nat.le_of_ble_eq_true rfl⟩) ⟨cPre_blind, va_recv hK hP (ci := 0) (q0 := 13) rfl rfl, cPre_at hP hK hN hD hS hA hZ⟩ rfl rfl hl.1 rfl (lv_room (Nat.le_of_ble_eq_true rfl)) dX0_crossWith_67 ⟨Nat.le_of_ble_eq_true rfl, Nat.le_of_ble_eq_true rfl⟩) hD hS hA (fun H locs hP hD hS => ?_)
  obtain rfl := Option.some.inj h
  exact W.vret hx hb hr (fun t ht hW => ⟨⟨(), rfl, trivial, by rw [ht]; exact hP, hD⟩, hS.F ht⟩) hS.2.2 dX0_crossWith_70

-- X0_crossWith
set_option maxHeartbeats 8000000 in
set_option maxRecDepth 100000 in
theorem kX0_crossWith_r1 (l : Launch) (D : va_G) (q : Nat → Nat) (cI cJ cZ : ClassId) (tP sz : Nat) (vnum : Int32) (vsz : Int32) (vfr : Int32) (vfo : Int32) (vli : Int32) (va : (Nat → Int32)) (vb : (Nat → Int32)) (vc : (Nat → Int32)) (ve : (Nat → Int32)) (vth : (Nat → Int32)) (vrk : (Nat → Int32)) (vcm : (Nat → Int32)) (vkx : (Nat → Int32)) (vky : (Nat → Int32)) (vkz : (Nat → Int32)) (vmk : (Nat → Int32)) (vre : (Nat → Int32)) (vro : (Nat → Int32)) (vwi : (Nat → Int32)) (vla : (Nat → Int32)) (vlb : (Nat → Int32)) (vtu : (Nat → Int32)) (k0x : Int32) (k0y : Int32) (k0z : Int32) (k1x : Int32) (k1y : Int32) (k1z : Int32) (k2x : Int32) (k2y : Int32) (k2z : Int32) (k3x : Int32) (k3y : Int32) (k3z : Int32) (p1 : Int32) (uu : (Int32 × Int32 × Int32)) (h : fX0_crossWith va vb vc k1x k1y k1z p1 = some uu) : Met l yX0_crossWith wsX0_crossWith ({ frames := 1, cells := 0, slots := 0, locals := 23 }) (cPre D cI cJ cZ tP (WC_ q cI cZ vnum vsz vfr vfo vli va vb vc ve vth vrk vcm vkx vky vkz vmk vre vro vwi vla vlb vtu k0x k0y k0z k1x k1y k1z k2x k2y k2z k3x k3y k3z) sz [.ref (q 21), .ref (q 1), .int p1]) (cQv D (va_A (WC_ q cI cZ vnum vsz vfr vfo vli va vb vc ve vth vrk vcm vkx vky vkz vmk vre vro vwi vla vlb vtu k0x k0y k0z k1x k1y k1z k2x k2y k2z k3x k3y k3z) sz) (WC_ q cI cZ vnum vsz vfr vfo vli va vb vc ve vth vrk vcm vkx vky vkz vmk vre vro vwi vla vlb vtu k0x k0y k0z uu.1 uu.2.1 uu.2.2 k2x k2y k2z k3x k3y k3z)) 0 0 (va_A (WC_ q cI cZ vnum vsz vfr vfo vli va vb vc ve vth vrk vcm vkx vky vkz vmk vre vro vwi vla vlb vtu k0x k0y k0z k1x k1y k1z k2x k2y k2z k3x k3y k3z) sz) := by
  refine Met.ofW (cc := cX0_crossWith) (maxL := 6) (ret := none) (by decide) rfl ?_
  intro p e s m args below meth c s₁ B hml hv
  obtain ⟨rfl, hsz, hP, hK, hN, hD0, hZ⟩ := hv
  have hx := B.exec
  have hb := B.bytes
  have hr := B.returns
  have hts := atoms_spec (ws := wsX0_crossWith) B.pre
  have hown : s.vm.findClass RX0 = some m.cls := findClass_of_methodNamed B.named
  have hlocks := B.notSynchronized
  subst hsz
  have hD := hD0.self (sz := s.heap.size)
  generalize hAe : va_A (WC_ q cI cZ vnum vsz vfr vfo vli va vb vc ve vth vrk vcm vkx vky vkz vmk vre vro vwi vla vlb vtu k0x k0y k0z k1x k1y k1z k2x k2y k2z k3x k3y k3z) s.heap.size = A at hD hZ ⊢
  have hA : ∀ q : Nat, s.heap.size ≤ q → A q := fun q h => by rw [← hAe]; exact Or.inr h
  have hS : va_S A s.heap s.heap [] := va_S.rf
  have hl := lv_entry ([.ref (q 21), .ref (q 1), .int p1]) (n := 6) (Nat.le_of_ble_eq_true rfl)
  rw [lg_entry_eq]
  generalize (lg_sl ([.ref (q 21), .ref (q 1), .int p1]) ++ List.replicate (6 - (lg_sl ([.ref (q 21), .ref (q 1), .int p1])).length) Slot.unset).toArray = ls at hl ⊢
  have hl : lv_has ls 6 [(0, .ref (q 21)), (1, .ref (q 1)), (2, .int p1)] := hl
  unfold fX0_crossWith at h
  refine lv_aload_n hx hb dX0_crossWith_0 rfl (lv_at hl 1 rfl) ?_
  refine va_getN (D := D) (ci := 3) (v := .ref (q 2)) (C := RX3) (T := TX3) (N := 7) hx hb hts wiX0_crossWith_X3 hown hK hP 1 rfl rfl 1 (by decide) (NW_f hN 10 rfl) (fun _ h9 => h9) rfl dX0_crossWith_1 ?_
  refine lv_iload_n hx hb dX0_crossWith_4 rfl (lv_at hl 2 rfl) ?_
  obtain ⟨i1, h⟩ := ck_some h
  refine va_iald hx hb hK hP 2 0 rfl rfl i1 dX0_crossWith_5 ?_
  refine lv_istore_n (lv' := [(3, .int (va p1.toNatClampNeg)), (0, .ref (q 21)), (1, .ref (q 1)), (2, .int p1)]) hx hb dX0_crossWith_6 rfl hl (by decide) rfl (fun ls hl => ?_)
  refine lv_aload_n hx hb dX0_crossWith_7 rfl (lv_at hl 2 rfl) ?_
  refine va_getN (D := D) (ci := 3) (v := .ref (q 3)) (C := RX3) (T := TX3) (N := 7) hx hb hts wiX0_crossWith_X3 hown hK hP 1 rfl rfl 2 (by decide) (NW_f hN 8 rfl) (fun _ h9 => h9) rfl dX0_crossWith_8 ?_
  refine lv_iload_n hx hb dX0_crossWith_11 rfl (lv_at hl 3 rfl) ?_
  obtain ⟨i2, h⟩ := ck_some h
  refine va_iald hx hb hK hP 3 0 rfl rfl i2 dX0_crossWith_12 ?_
  refine lv_istore (lv' := [(4, .int (vb p1.toNatClampNeg)), (3, .int (va p1.toNatClampNeg)), (0, .ref (q 21)), (1, .ref (q 1)), (2, .int p1)]) hx hb dX0_crossWith_13 hl (by decide) rfl (fun ls hl => ?_)
  refine lv_aload_n hx hb dX0_crossWith_15 rfl (lv_at hl 3 rfl) ?_
  refine va_getN (D := D) (ci := 3) (v := .ref (q 4)) (C := RX3) (T := TX3) (N := 7) hx hb hts wiX0_crossWith_X3 hown hK hP 1 rfl rfl 3 (by decide) (NW_f hN 9 rfl) (fun _ h9 => h9) rfl dX0_crossWith_16 ?_
  refine lv_iload_n hx hb dX0_crossWith_19 rfl (lv_at hl 4 rfl) ?_
  obtain ⟨i3, h⟩ := ck_some h
  refine va_iald hx hb hK hP 4 0 rfl rfl i3 dX0_crossWith_20 ?_
  refine lv_istore (lv' := [(5, .int (vc p1.toNatClampNeg)), (4, .int (vb p1.toNatClampNeg)), (3, .int (va p1.toNatClampNeg)), (0, .ref (q 21)), (1, .ref (q 1)), (2, .int p1)]) hx hb dX0_crossWith_21 hl (by decide) rfl (fun ls hl => ?_)
  refine lv_aload_n hx hb dX0_crossWith_23 rfl (lv_at hl 3 rfl) ?_
  refine lv_aload_n hx hb dX0_crossWith_24 rfl (lv_at hl 3 rfl) ?_
  refine va_get (D := D) (ci := 0) (v := .int k1y) (C := RX0) (T := TX0) (N := 3) hx hb hts wiX0_crossWith_X0 hown hK hP 21 rfl rfl 1 (by decide) (hts _ wmX0_crossWith_0) (fun _ h9 => h9) rfl dX0_crossWith_25 ?_
  refine lv_iload hx hb dX0_crossWith_28 (lv_at hl 0 rfl) ?_
  refine lv_imul hx hb dX0_crossWith_30 ?_
  refine lv_aload_n hx hb dX0_crossWith_31 rfl (lv_at hl 3 rfl) ?_
  refine va_get (D := D) (ci := 0) (v := .int k1z) (C := RX0) (T := TX0) (N := 3) hx hb hts wiX0_crossWith_X0 hown hK hP 21 rfl rfl 2 (by decide) (hts _ wmX0_crossWith_1) (fun _ h9 => h9) rfl dX0_crossWith_32 ?_
  refine lv_iload hx hb dX0_crossWith_35 (lv_at hl 1 rfl) ?_
  refine lv_imul hx hb dX0_crossWith_37 ?_
  refine lv_isub hx hb dX0_crossWith_38 ?_
  refine lv_aload_n hx hb dX0_crossWith_39 rfl (lv_at hl 3 rfl) ?_
  refine va_get (D := D) (ci := 0) (v := .int k1z) (C := RX0) (T := TX0) (N := 3) hx hb hts wiX0_crossWith_X0 hown hK hP 21 rfl rfl 2 (by decide) (hts _ wmX0_crossWith_1) (fun _ h9 => h9) rfl dX0_crossWith_40 ?_
  refine lv_iload_n hx hb dX0_crossWith_43 rfl (lv_at hl 2 rfl) ?_
  refine lv_imul hx hb dX0_crossWith_44 ?_
  refine lv_aload_n hx hb dX0_crossWith_45 rfl (lv_at hl 3 rfl) ?_
  refine va_get (D := D) (ci := 0) (v := .int k1x) (C := RX0) (T := TX0) (N := 3) hx hb hts wiX0_crossWith_X0 hown hK hP 21 rfl rfl 0 (by decide) (hts _ wmX0_crossWith_2) (fun _ h9 => h9) rfl dX0_crossWith_46 ?_
  refine lv_iload hx hb dX0_crossWith_49 (lv_at hl 0 rfl) ?_
  refine lv_imul hx hb dX0_crossWith_51 ?_
  refine lv_isub hx hb dX0_crossWith_52 ?_
  refine lv_aload_n hx hb dX0_crossWith_53 rfl (lv_at hl 3 rfl) ?_
  refine va_get (D := D) (ci := 0) (v := .int k1x) (C := RX0) (T := TX0) (N := 3) hx hb hts wiX0_crossWith_X0 hown hK hP 21 rfl rfl 0 (by decide) (hts _ wmX0_crossWith_2) (fun _ h9 => h9) rfl dX0_crossWith_54 ?_
  refine lv_iload hx hb dX0_crossWith_57 (lv_at hl 1 rfl) ?_
  refine lv_imul hx hb dX0_crossWith_59 ?_
  refine lv_aload_n hx hb dX0_crossWith_60 rfl (lv_at hl 3 rfl) ?_
  refine va_get (D := D) (ci := 0) (v := .int k1y) (C := RX0) (T := TX0) (N := 3) hx hb hts wiX0_crossWith_X0 hown hK hP 21 rfl rfl 1 (by decide) (hts _ wmX0_crossWith_0) (fun _ h9 => h9) rfl dX0_crossWith_61 ?_
  refine lv_iload_n hx hb dX0_crossWith_64 rfl (lv_at hl 2 rfl) ?_
  refine lv_imul hx hb dX0_crossWith_65 ?_
  refine lv_isub hx hb dX0_crossWith_66 ?_
  obtain ⟨u4, e5, h⟩ := bd_some h
  refine k_v (va_runV (As := [.int ((k1y * (vc p1.toNatClampNeg)) - (k1z * (vb p1.toNatClampNeg))), .int ((k1z * (va p1.toNatClampNeg)) - (k1x * (vc p1.toNatClampNeg))), .int ((k1x * (vb p1.toNatClampNeg)) - (k1y * (va p1.toNatClampNeg)))]) (rest := []) ⟨hx, hb, hml, hown, hts⟩ (kX0_set_r1 l D q cI cJ cZ tP s.heap.size vnum vsz vfr vfo vli va vb vc ve vth vrk vcm vkx vky vkz vmk vre vro vwi vla vlb vtu k0x k0y k0z k1x k1y k1z k2x k2y k2z k3x k3y k3z ((k1y * (vc p1.toNatClampNeg)) - (k1z * (vb p1.toNatClampNeg))) ((k1z * (va p1.toNatClampNeg)) - (k1x * (vc p1.toNatClampNeg))) ((k1x * (vb p1.toNatClampNeg)) - (k1y * (va p1.toNatClampNeg))) u4 e5) (cwV 3 hts gX0_crossWith_X0_set rfl rfl rfl (by decide +kernel) ⟨Nat.le_of_ble_eq_true rfl, Nat.le_of_ble_eq_true rfl⟩) ⟨cPre_blind, va_recv hK hP (ci := 0) (q0 := 21) rfl rfl, cPre_at hP hK hN hD hS hA hZ⟩ rfl rfl hl.1 rfl (lv_room (Nat.le_of_ble_eq_true rfl)) dX0_crossWith_67 ⟨Nat.le_of_ble_eq_true rfl, Nat.le_of_ble_eq_true rfl⟩) hD hS hA (fun H locs hP hD hS => ?_)
  obtain rfl := Option.some.inj h
  exact W.vret hx hb hr (fun t ht hW => ⟨⟨(), rfl, trivial, by rw [ht]; exact hP, hD⟩, hS.F ht⟩) hS.2.2 dX0_crossWith_70

-- X0_crossWith
set_option maxHeartbeats 8000000 in
set_option maxRecDepth 100000 in
theorem kX0_crossWith_r2 (l : Launch) (D : va_G) (q : Nat → Nat) (cI cJ cZ : ClassId) (tP sz : Nat) (vnum : Int32) (vsz : Int32) (vfr : Int32) (vfo : Int32) (vli : Int32) (va : (Nat → Int32)) (vb : (Nat → Int32)) (vc : (Nat → Int32)) (ve : (Nat → Int32)) (vth : (Nat → Int32)) (vrk : (Nat → Int32)) (vcm : (Nat → Int32)) (vkx : (Nat → Int32)) (vky : (Nat → Int32)) (vkz : (Nat → Int32)) (vmk : (Nat → Int32)) (vre : (Nat → Int32)) (vro : (Nat → Int32)) (vwi : (Nat → Int32)) (vla : (Nat → Int32)) (vlb : (Nat → Int32)) (vtu : (Nat → Int32)) (k0x : Int32) (k0y : Int32) (k0z : Int32) (k1x : Int32) (k1y : Int32) (k1z : Int32) (k2x : Int32) (k2y : Int32) (k2z : Int32) (k3x : Int32) (k3y : Int32) (k3z : Int32) (p1 : Int32) (uu : (Int32 × Int32 × Int32)) (h : fX0_crossWith va vb vc k2x k2y k2z p1 = some uu) : Met l yX0_crossWith wsX0_crossWith ({ frames := 1, cells := 0, slots := 0, locals := 23 }) (cPre D cI cJ cZ tP (WC_ q cI cZ vnum vsz vfr vfo vli va vb vc ve vth vrk vcm vkx vky vkz vmk vre vro vwi vla vlb vtu k0x k0y k0z k1x k1y k1z k2x k2y k2z k3x k3y k3z) sz [.ref (q 22), .ref (q 1), .int p1]) (cQv D (va_A (WC_ q cI cZ vnum vsz vfr vfo vli va vb vc ve vth vrk vcm vkx vky vkz vmk vre vro vwi vla vlb vtu k0x k0y k0z k1x k1y k1z k2x k2y k2z k3x k3y k3z) sz) (WC_ q cI cZ vnum vsz vfr vfo vli va vb vc ve vth vrk vcm vkx vky vkz vmk vre vro vwi vla vlb vtu k0x k0y k0z k1x k1y k1z uu.1 uu.2.1 uu.2.2 k3x k3y k3z)) 0 0 (va_A (WC_ q cI cZ vnum vsz vfr vfo vli va vb vc ve vth vrk vcm vkx vky vkz vmk vre vro vwi vla vlb vtu k0x k0y k0z k1x k1y k1z k2x k2y k2z k3x k3y k3z) sz) := by
  refine Met.ofW (cc := cX0_crossWith) (maxL := 6) (ret := none) (by decide) rfl ?_
  intro p e s m args below meth c s₁ B hml hv
  obtain ⟨rfl, hsz, hP, hK, hN, hD0, hZ⟩ := hv
  have hx := B.exec
  have hb := B.bytes
  have hr := B.returns
  have hts := atoms_spec (ws := wsX0_crossWith) B.pre
  have hown : s.vm.findClass RX0 = some m.cls := findClass_of_methodNamed B.named
  have hlocks := B.notSynchronized
  subst hsz
  have hD := hD0.self (sz := s.heap.size)
  generalize hAe : va_A (WC_ q cI cZ vnum vsz vfr vfo vli va vb vc ve vth vrk vcm vkx vky vkz vmk vre vro vwi vla vlb vtu k0x k0y k0z k1x k1y k1z k2x k2y k2z k3x k3y k3z) s.heap.size = A at hD hZ ⊢
  have hA : ∀ q : Nat, s.heap.size ≤ q → A q := fun q h => by rw [← hAe]; exact Or.inr h
  have hS : va_S A s.heap s.heap [] := va_S.rf
  have hl := lv_entry ([.ref (q 22), .ref (q 1), .int p1]) (n := 6) (Nat.le_of_ble_eq_true rfl)
  rw [lg_entry_eq]
  generalize (lg_sl ([.ref (q 22), .ref (q 1), .int p1]) ++ List.replicate (6 - (lg_sl ([.ref (q 22), .ref (q 1), .int p1])).length) Slot.unset).toArray = ls at hl ⊢
  have hl : lv_has ls 6 [(0, .ref (q 22)), (1, .ref (q 1)), (2, .int p1)] := hl
  unfold fX0_crossWith at h
  refine lv_aload_n hx hb dX0_crossWith_0 rfl (lv_at hl 1 rfl) ?_
  refine va_getN (D := D) (ci := 3) (v := .ref (q 2)) (C := RX3) (T := TX3) (N := 7) hx hb hts wiX0_crossWith_X3 hown hK hP 1 rfl rfl 1 (by decide) (NW_f hN 10 rfl) (fun _ h9 => h9) rfl dX0_crossWith_1 ?_
  refine lv_iload_n hx hb dX0_crossWith_4 rfl (lv_at hl 2 rfl) ?_
  obtain ⟨i1, h⟩ := ck_some h
  refine va_iald hx hb hK hP 2 0 rfl rfl i1 dX0_crossWith_5 ?_
  refine lv_istore_n (lv' := [(3, .int (va p1.toNatClampNeg)), (0, .ref (q 22)), (1, .ref (q 1)), (2, .int p1)]) hx hb dX0_crossWith_6 rfl hl (by decide) rfl (fun ls hl => ?_)
  refine lv_aload_n hx hb dX0_crossWith_7 rfl (lv_at hl 2 rfl) ?_
  refine va_getN (D := D) (ci := 3) (v := .ref (q 3)) (C := RX3) (T := TX3) (N := 7) hx hb hts wiX0_crossWith_X3 hown hK hP 1 rfl rfl 2 (by decide) (NW_f hN 8 rfl) (fun _ h9 => h9) rfl dX0_crossWith_8 ?_
  refine lv_iload_n hx hb dX0_crossWith_11 rfl (lv_at hl 3 rfl) ?_
  obtain ⟨i2, h⟩ := ck_some h
  refine va_iald hx hb hK hP 3 0 rfl rfl i2 dX0_crossWith_12 ?_
  refine lv_istore (lv' := [(4, .int (vb p1.toNatClampNeg)), (3, .int (va p1.toNatClampNeg)), (0, .ref (q 22)), (1, .ref (q 1)), (2, .int p1)]) hx hb dX0_crossWith_13 hl (by decide) rfl (fun ls hl => ?_)
  refine lv_aload_n hx hb dX0_crossWith_15 rfl (lv_at hl 3 rfl) ?_
  refine va_getN (D := D) (ci := 3) (v := .ref (q 4)) (C := RX3) (T := TX3) (N := 7) hx hb hts wiX0_crossWith_X3 hown hK hP 1 rfl rfl 3 (by decide) (NW_f hN 9 rfl) (fun _ h9 => h9) rfl dX0_crossWith_16 ?_
  refine lv_iload_n hx hb dX0_crossWith_19 rfl (lv_at hl 4 rfl) ?_
  obtain ⟨i3, h⟩ := ck_some h
  refine va_iald hx hb hK hP 4 0 rfl rfl i3 dX0_crossWith_20 ?_
  refine lv_istore (lv' := [(5, .int (vc p1.toNatClampNeg)), (4, .int (vb p1.toNatClampNeg)), (3, .int (va p1.toNatClampNeg)), (0, .ref (q 22)), (1, .ref (q 1)), (2, .int p1)]) hx hb dX0_crossWith_21 hl (by decide) rfl (fun ls hl => ?_)
  refine lv_aload_n hx hb dX0_crossWith_23 rfl (lv_at hl 3 rfl) ?_
  refine lv_aload_n hx hb dX0_crossWith_24 rfl (lv_at hl 3 rfl) ?_
  refine va_get (D := D) (ci := 0) (v := .int k2y) (C := RX0) (T := TX0) (N := 3) hx hb hts wiX0_crossWith_X0 hown hK hP 22 rfl rfl 1 (by decide) (hts _ wmX0_crossWith_0) (fun _ h9 => h9) rfl dX0_crossWith_25 ?_
  refine lv_iload hx hb dX0_crossWith_28 (lv_at hl 0 rfl) ?_
  refine lv_imul hx hb dX0_crossWith_30 ?_
  refine lv_aload_n hx hb dX0_crossWith_31 rfl (lv_at hl 3 rfl) ?_
  refine va_get (D := D) (ci := 0) (v := .int k2z) (C := RX0) (T := TX0) (N := 3) hx hb hts wiX0_crossWith_X0 hown hK hP 22 rfl rfl 2 (by decide) (hts _ wmX0_crossWith_1) (fun _ h9 => h9) rfl dX0_crossWith_32 ?_
  refine lv_iload hx hb dX0_crossWith_35 (lv_at hl 1 rfl) ?_
  refine lv_imul hx hb dX0_crossWith_37 ?_
  refine lv_isub hx hb dX0_crossWith_38 ?_
  refine lv_aload_n hx hb dX0_crossWith_39 rfl (lv_at hl 3 rfl) ?_
  refine va_get (D := D) (ci := 0) (v := .int k2z) (C := RX0) (T := TX0) (N := 3) hx hb hts wiX0_crossWith_X0 hown hK hP 22 rfl rfl 2 (by decide) (hts _ wmX0_crossWith_1) (fun _ h9 => h9) rfl dX0_crossWith_40 ?_
  refine lv_iload_n hx hb dX0_crossWith_43 rfl (lv_at hl 2 rfl) ?_
  refine lv_imul hx hb dX0_crossWith_44 ?_
  refine lv_aload_n hx hb dX0_crossWith_45 rfl (lv_at hl 3 rfl) ?_
  refine va_get (D := D) (ci := 0) (v := .int k2x) (C := RX0) (T := TX0) (N := 3) hx hb hts wiX0_crossWith_X0 hown hK hP 22 rfl rfl 0 (by decide) (hts _ wmX0_crossWith_2) (fun _ h9 => h9) rfl dX0_crossWith_46 ?_
  refine lv_iload hx hb dX0_crossWith_49 (lv_at hl 0 rfl) ?_
  refine lv_imul hx hb dX0_crossWith_51 ?_
  refine lv_isub hx hb dX0_crossWith_52 ?_
  refine lv_aload_n hx hb dX0_crossWith_53 rfl (lv_at hl 3 rfl) ?_
  refine va_get (D := D) (ci := 0) (v := .int k2x) (C := RX0) (T := TX0) (N := 3) hx hb hts wiX0_crossWith_X0 hown hK hP 22 rfl rfl 0 (by decide) (hts _ wmX0_crossWith_2) (fun _ h9 => h9) rfl dX0_crossWith_54 ?_
  refine lv_iload hx hb dX0_crossWith_57 (lv_at hl 1 rfl) ?_
  refine lv_imul hx hb dX0_crossWith_59 ?_
  refine lv_aload_n hx hb dX0_crossWith_60 rfl (lv_at hl 3 rfl) ?_
  refine va_get (D := D) (ci := 0) (v := .int k2y) (C := RX0) (T := TX0) (N := 3) hx hb hts wiX0_crossWith_X0 hown hK hP 22 rfl rfl 1 (by decide) (hts _ wmX0_crossWith_0) (fun _ h9 => h9) rfl dX0_crossWith_61 ?_
  refine lv_iload_n hx hb dX0_crossWith_64 rfl (lv_at hl 2 rfl) ?_
  refine lv_imul hx hb dX0_crossWith_65 ?_
  refine lv_isub hx hb dX0_crossWith_66 ?_
  obtain ⟨u4, e5, h⟩ := bd_some h
  refine k_v (va_runV (As := [.int ((k2y * (vc p1.toNatClampNeg)) - (k2z * (vb p1.toNatClampNeg))), .int ((k2z * (va p1.toNatClampNeg)) - (k2x * (vc p1.toNatClampNeg))), .int ((k2x * (vb p1.toNatClampNeg)) - (k2y * (va p1.toNatClampNeg)))]) (rest := []) ⟨hx, hb, hml, hown, hts⟩ (kX0_set_r2 l D q cI cJ cZ tP s.heap.size vnum vsz vfr vfo vli va vb vc ve vth vrk vcm vkx vky vkz vmk vre vro vwi vla vlb vtu k0x k0y k0z k1x k1y k1z k2x k2y k2z k3x k3y k3z ((k2y * (vc p1.toNatClampNeg)) - (k2z * (vb p1.toNatClampNeg))) ((k2z * (va p1.toNatClampNeg)) - (k2x * (vc p1.toNatClampNeg))) ((k2x * (vb p1.toNatClampNeg)) - (k2y * (va p1.toNatClampNeg))) u4 e5) (cwV 3 hts gX0_crossWith_X0_set rfl rfl rfl (by decide +kernel) ⟨Nat.le_of_ble_eq_true rfl, Nat.le_of_ble_eq_true rfl⟩) ⟨cPre_blind, va_recv hK hP (ci := 0) (q0 := 22) rfl rfl, cPre_at hP hK hN hD hS hA hZ⟩ rfl rfl hl.1 rfl (lv_room (Nat.le_of_ble_eq_true rfl)) dX0_crossWith_67 ⟨Nat.le_of_ble_eq_true rfl, Nat.le_of_ble_eq_true rfl⟩) hD hS hA (fun H locs hP hD hS => ?_)
  obtain rfl := Option.some.inj h
  exact W.vret hx hb hr (fun t ht hW => ⟨⟨(), rfl, trivial, by rw [ht]; exact hP, hD⟩, hS.F ht⟩) hS.2.2 dX0_crossWith_70

-- X0_crossWith
set_option maxHeartbeats 8000000 in
set_option maxRecDepth 100000 in
theorem kX0_crossWith_r3 (l : Launch) (D : va_G) (q : Nat → Nat) (cI cJ cZ : ClassId) (tP sz : Nat) (vnum : Int32) (vsz : Int32) (vfr : Int32) (vfo : Int32) (vli : Int32) (va : (Nat → Int32)) (vb : (Nat → Int32)) (vc : (Nat → Int32)) (ve : (Nat → Int32)) (vth : (Nat → Int32)) (vrk : (Nat → Int32)) (vcm : (Nat → Int32)) (vkx : (Nat → Int32)) (vky : (Nat → Int32)) (vkz : (Nat → Int32)) (vmk : (Nat → Int32)) (vre : (Nat → Int32)) (vro : (Nat → Int32)) (vwi : (Nat → Int32)) (vla : (Nat → Int32)) (vlb : (Nat → Int32)) (vtu : (Nat → Int32)) (k0x : Int32) (k0y : Int32) (k0z : Int32) (k1x : Int32) (k1y : Int32) (k1z : Int32) (k2x : Int32) (k2y : Int32) (k2z : Int32) (k3x : Int32) (k3y : Int32) (k3z : Int32) (p1 : Int32) (uu : (Int32 × Int32 × Int32)) (h : fX0_crossWith va vb vc k3x k3y k3z p1 = some uu) : Met l yX0_crossWith wsX0_crossWith ({ frames := 1, cells := 0, slots := 0, locals := 23 }) (cPre D cI cJ cZ tP (WC_ q cI cZ vnum vsz vfr vfo vli va vb vc ve vth vrk vcm vkx vky vkz vmk vre vro vwi vla vlb vtu k0x k0y k0z k1x k1y k1z k2x k2y k2z k3x k3y k3z) sz [.ref (q 23), .ref (q 1), .int p1]) (cQv D (va_A (WC_ q cI cZ vnum vsz vfr vfo vli va vb vc ve vth vrk vcm vkx vky vkz vmk vre vro vwi vla vlb vtu k0x k0y k0z k1x k1y k1z k2x k2y k2z k3x k3y k3z) sz) (WC_ q cI cZ vnum vsz vfr vfo vli va vb vc ve vth vrk vcm vkx vky vkz vmk vre vro vwi vla vlb vtu k0x k0y k0z k1x k1y k1z k2x k2y k2z uu.1 uu.2.1 uu.2.2)) 0 0 (va_A (WC_ q cI cZ vnum vsz vfr vfo vli va vb vc ve vth vrk vcm vkx vky vkz vmk vre vro vwi vla vlb vtu k0x k0y k0z k1x k1y k1z k2x k2y k2z k3x k3y k3z) sz) := by
  refine Met.ofW (cc := cX0_crossWith) (maxL := 6) (ret := none) (by decide) rfl ?_
  intro p e s m args below meth c s₁ B hml hv
  obtain ⟨rfl, hsz, hP, hK, hN, hD0, hZ⟩ := hv
  have hx := B.exec
  have hb := B.bytes
  have hr := B.returns
  have hts := atoms_spec (ws := wsX0_crossWith) B.pre
  have hown : s.vm.findClass RX0 = some m.cls := findClass_of_methodNamed B.named
  have hlocks := B.notSynchronized
  subst hsz
  have hD := hD0.self (sz := s.heap.size)
  generalize hAe : va_A (WC_ q cI cZ vnum vsz vfr vfo vli va vb vc ve vth vrk vcm vkx vky vkz vmk vre vro vwi vla vlb vtu k0x k0y k0z k1x k1y k1z k2x k2y k2z k3x k3y k3z) s.heap.size = A at hD hZ ⊢
  have hA : ∀ q : Nat, s.heap.size ≤ q → A q := fun q h => by rw [← hAe]; exact Or.inr h
  have hS : va_S A s.heap s.heap [] := va_S.rf
  have hl := lv_entry ([.ref (q 23), .ref (q 1), .int p1]) (n := 6) (Nat.le_of_ble_eq_true rfl)
  rw [lg_entry_eq]
  generalize (lg_sl ([.ref (q 23), .ref (q 1), .int p1]) ++ List.replicate (6 - (lg_sl ([.ref (q 23), .ref (q 1), .int p1])).length) Slot.unset).toArray = ls at hl ⊢
  have hl : lv_has ls 6 [(0, .ref (q 23)), (1, .ref (q 1)), (2, .int p1)] := hl
  unfold fX0_crossWith at h
  refine lv_aload_n hx hb dX0_crossWith_0 rfl (lv_at hl 1 rfl) ?_
  refine va_getN (D := D) (ci := 3) (v := .ref (q 2)) (C := RX3) (T := TX3) (N := 7) hx hb hts wiX0_crossWith_X3 hown hK hP 1 rfl rfl 1 (by decide) (NW_f hN 10 rfl) (fun _ h9 => h9) rfl dX0_crossWith_1 ?_
  refine lv_iload_n hx hb dX0_crossWith_4 rfl (lv_at hl 2 rfl) ?_
  obtain ⟨i1, h⟩ := ck_some h
  refine va_iald hx hb hK hP 2 0 rfl rfl i1 dX0_crossWith_5 ?_
  refine lv_istore_n (lv' := [(3, .int (va p1.toNatClampNeg)), (0, .ref (q 23)), (1, .ref (q 1)), (2, .int p1)]) hx hb dX0_crossWith_6 rfl hl (by decide) rfl (fun ls hl => ?_)
  refine lv_aload_n hx hb dX0_crossWith_7 rfl (lv_at hl 2 rfl) ?_
  refine va_getN (D := D) (ci := 3) (v := .ref (q 3)) (C := RX3) (T := TX3) (N := 7) hx hb hts wiX0_crossWith_X3 hown hK hP 1 rfl rfl 2 (by decide) (NW_f hN 8 rfl) (fun _ h9 => h9) rfl dX0_crossWith_8 ?_
  refine lv_iload_n hx hb dX0_crossWith_11 rfl (lv_at hl 3 rfl) ?_
  obtain ⟨i2, h⟩ := ck_some h
  refine va_iald hx hb hK hP 3 0 rfl rfl i2 dX0_crossWith_12 ?_
  refine lv_istore (lv' := [(4, .int (vb p1.toNatClampNeg)), (3, .int (va p1.toNatClampNeg)), (0, .ref (q 23)), (1, .ref (q 1)), (2, .int p1)]) hx hb dX0_crossWith_13 hl (by decide) rfl (fun ls hl => ?_)
  refine lv_aload_n hx hb dX0_crossWith_15 rfl (lv_at hl 3 rfl) ?_
  refine va_getN (D := D) (ci := 3) (v := .ref (q 4)) (C := RX3) (T := TX3) (N := 7) hx hb hts wiX0_crossWith_X3 hown hK hP 1 rfl rfl 3 (by decide) (NW_f hN 9 rfl) (fun _ h9 => h9) rfl dX0_crossWith_16 ?_
  refine lv_iload_n hx hb dX0_crossWith_19 rfl (lv_at hl 4 rfl) ?_
  obtain ⟨i3, h⟩ := ck_some h
  refine va_iald hx hb hK hP 4 0 rfl rfl i3 dX0_crossWith_20 ?_
  refine lv_istore (lv' := [(5, .int (vc p1.toNatClampNeg)), (4, .int (vb p1.toNatClampNeg)), (3, .int (va p1.toNatClampNeg)), (0, .ref (q 23)), (1, .ref (q 1)), (2, .int p1)]) hx hb dX0_crossWith_21 hl (by decide) rfl (fun ls hl => ?_)
  refine lv_aload_n hx hb dX0_crossWith_23 rfl (lv_at hl 3 rfl) ?_
  refine lv_aload_n hx hb dX0_crossWith_24 rfl (lv_at hl 3 rfl) ?_
  refine va_get (D := D) (ci := 0) (v := .int k3y) (C := RX0) (T := TX0) (N := 3) hx hb hts wiX0_crossWith_X0 hown hK hP 23 rfl rfl 1 (by decide) (hts _ wmX0_crossWith_0) (fun _ h9 => h9) rfl dX0_crossWith_25 ?_
  refine lv_iload hx hb dX0_crossWith_28 (lv_at hl 0 rfl) ?_
  refine lv_imul hx hb dX0_crossWith_30 ?_
  refine lv_aload_n hx hb dX0_crossWith_31 rfl (lv_at hl 3 rfl) ?_
  refine va_get (D := D) (ci := 0) (v := .int k3z) (C := RX0) (T := TX0) (N := 3) hx hb hts wiX0_crossWith_X0 hown hK hP 23 rfl rfl 2 (by decide) (hts _ wmX0_crossWith_1) (fun _ h9 => h9) rfl dX0_crossWith_32 ?_
  refine lv_iload hx hb dX0_crossWith_35 (lv_at hl 1 rfl) ?_
  refine lv_imul hx hb dX0_crossWith_37 ?_
  refine lv_isub hx hb dX0_crossWith_38 ?_
  refine lv_aload_n hx hb dX0_crossWith_39 rfl (lv_at hl 3 rfl) ?_
  refine va_get (D := D) (ci := 0) (v := .int k3z) (C := RX0) (T := TX0) (N := 3) hx hb hts wiX0_crossWith_X0 hown hK hP 23 rfl rfl 2 (by decide) (hts _ wmX0_crossWith_1) (fun _ h9 => h9) rfl dX0_crossWith_40 ?_
  refine lv_iload_n hx hb dX0_crossWith_43 rfl (lv_at hl 2 rfl) ?_
  refine lv_imul hx hb dX0_crossWith_44 ?_
  refine lv_aload_n hx hb dX0_crossWith_45 rfl (lv_at hl 3 rfl) ?_
  refine va_get (D := D) (ci := 0) (v := .int k3x) (C := RX0) (T := TX0) (N := 3) hx hb hts wiX0_crossWith_X0 hown hK hP 23 rfl rfl 0 (by decide) (hts _ wmX0_crossWith_2) (fun _ h9 => h9) rfl dX0_crossWith_46 ?_
  refine lv_iload hx hb dX0_crossWith_49 (lv_at hl 0 rfl) ?_
  refine lv_imul hx hb dX0_crossWith_51 ?_
  refine lv_isub hx hb dX0_crossWith_52 ?_
  refine lv_aload_n hx hb dX0_crossWith_53 rfl (lv_at hl 3 rfl) ?_
  refine va_get (D := D) (ci := 0) (v := .int k3x) (C := RX0) (T := TX0) (N := 3) hx hb hts wiX0_crossWith_X0 hown hK hP 23 rfl rfl 0 (by decide) (hts _ wmX0_crossWith_2) (fun _ h9 => h9) rfl dX0_crossWith_54 ?_
  refine lv_iload hx hb dX0_crossWith_57 (lv_at hl 1 rfl) ?_
  refine lv_imul hx hb dX0_crossWith_59 ?_
  refine lv_aload_n hx hb dX0_crossWith_60 rfl (lv_at hl 3 rfl) ?_
  refine va_get (D := D) (ci := 0) (v := .int k3y) (C := RX0) (T := TX0) (N := 3) hx hb hts wiX0_crossWith_X0 hown hK hP 23 rfl rfl 1 (by decide) (hts _ wmX0_crossWith_0) (fun _ h9 => h9) rfl dX0_crossWith_61 ?_
  refine lv_iload_n hx hb dX0_crossWith_64 rfl (lv_at hl 2 rfl) ?_
  refine lv_imul hx hb dX0_crossWith_65 ?_
  refine lv_isub hx hb dX0_crossWith_66 ?_
  obtain ⟨u4, e5, h⟩ := bd_some h
  refine k_v (va_runV (As := [.int ((k3y * (vc p1.toNatClampNeg)) - (k3z * (vb p1.toNatClampNeg))), .int ((k3z * (va p1.toNatClampNeg)) - (k3x * (vc p1.toNatClampNeg))), .int ((k3x * (vb p1.toNatClampNeg)) - (k3y * (va p1.toNatClampNeg)))]) (rest := []) ⟨hx, hb, hml, hown, hts⟩ (kX0_set_r3 l D q cI cJ cZ tP s.heap.size vnum vsz vfr vfo vli va vb vc ve vth vrk vcm vkx vky vkz vmk vre vro vwi vla vlb vtu k0x k0y k0z k1x k1y k1z k2x k2y k2z k3x k3y k3z ((k3y * (vc p1.toNatClampNeg)) - (k3z * (vb p1.toNatClampNeg))) ((k3z * (va p1.toNatClampNeg)) - (k3x * (vc p1.toNatClampNeg))) ((k3x * (vb p1.toNatClampNeg)) - (k3y * (va p1.toNatClampNeg))) u4 e5) (cwV 3 hts gX0_crossWith_X0_set rfl rfl rfl (by decide +kernel) ⟨Nat.le_of_ble_eq_true rfl, Nat.le_of_ble_eq_true rfl⟩) ⟨cPre_blind, va_recv hK hP (ci := 0) (q0 := 23) rfl rfl, cPre_at hP hK hN hD hS hA hZ⟩ rfl rfl hl.1 rfl (lv_room (Nat.le_of_ble_eq_true rfl)) dX0_crossWith_67 ⟨Nat.le_of_ble_eq_true rfl, Nat.le_of_ble_eq_true rfl⟩) hD hS hA (fun H locs hP hD hS => ?_)
  obtain rfl := Option.some.inj h
  exact W.vret hx hb hr (fun t ht hW => ⟨⟨(), rfl, trivial, by rw [ht]; exact hP, hD⟩, hS.F ht⟩) hS.2.2 dX0_crossWith_70

-- X0_alongBoth
theorem wiX0_alongBoth_X3 : ∀ w ∈ u_ws RX3 TX3 7, w ∈ wsX0_alongBoth := by decide +kernel
set_option maxHeartbeats 8000000 in
set_option maxRecDepth 100000 in
theorem kX0_alongBoth_r0 (l : Launch) (D : va_G) (q : Nat → Nat) (cI cJ cZ : ClassId) (tP sz : Nat) (vnum : Int32) (vsz : Int32) (vfr : Int32) (vfo : Int32) (vli : Int32) (va : (Nat → Int32)) (vb : (Nat → Int32)) (vc : (Nat → Int32)) (ve : (Nat → Int32)) (vth : (Nat → Int32)) (vrk : (Nat → Int32)) (vcm : (Nat → Int32)) (vkx : (Nat → Int32)) (vky : (Nat → Int32)) (vkz : (Nat → Int32)) (vmk : (Nat → Int32)) (vre : (Nat → Int32)) (vro : (Nat → Int32)) (vwi : (Nat → Int32)) (vla : (Nat → Int32)) (vlb : (Nat → Int32)) (vtu : (Nat → Int32)) (k0x : Int32) (k0y : Int32) (k0z : Int32) (k1x : Int32) (k1y : Int32) (k1z : Int32) (k2x : Int32) (k2y : Int32) (k2z : Int32) (k3x : Int32) (k3y : Int32) (k3z : Int32) (p1 : Int32) (p2 : Int32) (uu : (Int32 × Int32 × Int32)) (h : fX0_alongBoth va vb vc p1 p2 = some uu) : Met l yX0_alongBoth wsX0_alongBoth ({ frames := 2, cells := 0, slots := 0, locals := 48 }) (cPre D cI cJ cZ tP (WC_ q cI cZ vnum vsz vfr vfo vli va vb vc ve vth vrk vcm vkx vky vkz vmk vre vro vwi vla vlb vtu k0x k0y k0z k1x k1y k1z k2x k2y k2z k3x k3y k3z) sz [.ref (q 13), .ref (q 1), .int p1, .int p2]) (cQv D (va_A (WC_ q cI cZ vnum vsz vfr vfo vli va vb vc ve vth vrk vcm vkx vky vkz vmk vre vro vwi vla vlb vtu k0x k0y k0z k1x k1y k1z k2x k2y k2z k3x k3y k3z) sz) (WC_ q cI cZ vnum vsz vfr vfo vli va vb vc ve vth vrk vcm vkx vky vkz vmk vre vro vwi vla vlb vtu uu.1 uu.2.1 uu.2.2 k1x k1y k1z k2x k2y k2z k3x k3y k3z)) 0 0 (va_A (WC_ q cI cZ vnum vsz vfr vfo vli va vb vc ve vth vrk vcm vkx vky vkz vmk vre vro vwi vla vlb vtu k0x k0y k0z k1x k1y k1z k2x k2y k2z k3x k3y k3z) sz) := by
  refine Met.ofW (cc := cX0_alongBoth) (maxL := 4) (ret := none) (by decide) rfl ?_
  intro p e s m args below meth c s₁ B hml hv
  obtain ⟨rfl, hsz, hP, hK, hN, hD0, hZ⟩ := hv
  have hx := B.exec
  have hb := B.bytes
  have hr := B.returns
  have hts := atoms_spec (ws := wsX0_alongBoth) B.pre
  have hown : s.vm.findClass RX0 = some m.cls := findClass_of_methodNamed B.named
  have hlocks := B.notSynchronized
  subst hsz
  have hD := hD0.self (sz := s.heap.size)
  generalize hAe : va_A (WC_ q cI cZ vnum vsz vfr vfo vli va vb vc ve vth vrk vcm vkx vky vkz vmk vre vro vwi vla vlb vtu k0x k0y k0z k1x k1y k1z k2x k2y k2z k3x k3y k3z) s.heap.size = A at hD hZ ⊢
  have hA : ∀ q : Nat, s.heap.size ≤ q → A q := fun q h => by rw [← hAe]; exact Or.inr h
  have hS : va_S A s.heap s.heap [] := va_S.rf
  have hl := lv_entry ([.ref (q 13), .ref (q 1), .int p1, .int p2]) (n := 4) (Nat.le_of_ble_eq_true rfl)
  rw [lg_entry_eq]
  generalize (lg_sl ([.ref (q 13), .ref (q 1), .int p1, .int p2]) ++ List.replicate (4 - (lg_sl ([.ref (q 13), .ref (q 1), .int p1, .int p2])).length) Slot.unset).toArray = ls at hl ⊢
  have hl : lv_has ls 4 [(0, .ref (q 13)), (1, .ref (q 1)), (2, .int p1), (3, .int p2)] := hl
  unfold fX0_alongBoth at h
  refine lv_aload_n hx hb dX0_alongBoth_0 rfl (lv_at hl 0 rfl) ?_
  refine lv_aload_n hx hb dX0_alongBoth_1 rfl (lv_at hl 1 rfl) ?_
  refine va_getN (D := D) (ci := 3) (v := .ref (q 2)) (C := RX3) (T := TX3) (N := 7) hx hb hts wiX0_alongBoth_X3 hown hK hP 1 rfl rfl 1 (by decide) (NW_f hN 10 rfl) (fun _ h9 => h9) rfl dX0_alongBoth_2 ?_
  refine lv_iload_n hx hb dX0_alongBoth_5 rfl (lv_at hl 2 rfl) ?_
  obtain ⟨i1, h⟩ := ck_some h
  refine va_iald hx hb hK hP 2 0 rfl rfl i1 dX0_alongBoth_6 ?_
  refine lv_aload_n hx hb dX0_alongBoth_7 rfl (lv_at hl 1 rfl) ?_
  refine va_getN (D := D) (ci := 3) (v := .ref (q 3)) (C := RX3) (T := TX3) (N := 7) hx hb hts wiX0_alongBoth_X3 hown hK hP 1 rfl rfl 2 (by decide) (NW_f hN 8 rfl) (fun _ h9 => h9) rfl dX0_alongBoth_8 ?_
  refine lv_iload_n hx hb dX0_alongBoth_11 rfl (lv_at hl 2 rfl) ?_
  obtain ⟨i2, h⟩ := ck_some h
  refine va_iald hx hb hK hP 3 0 rfl rfl i2 dX0_alongBoth_12 ?_
  refine lv_aload_n hx hb dX0_alongBoth_13 rfl (lv_at hl 1 rfl) ?_
  refine va_getN (D := D) (ci := 3) (v := .ref (q 4)) (C := RX3) (T := TX3) (N := 7) hx hb hts wiX0_alongBoth_X3 hown hK hP 1 rfl rfl 3 (by decide) (NW_f hN 9 rfl) (fun _ h9 => h9) rfl dX0_alongBoth_14 ?_
  refine lv_iload_n hx hb dX0_alongBoth_17 rfl (lv_at hl 2 rfl) ?_
  obtain ⟨i3, h⟩ := ck_some h
  refine va_iald hx hb hK hP 4 0 rfl rfl i3 dX0_alongBoth_18 ?_
  obtain ⟨u4, e5, h⟩ := bd_some h
  refine k_v (va_runV (As := [.int (va p1.toNatClampNeg), .int (vb p1.toNatClampNeg), .int (vc p1.toNatClampNeg)]) (rest := []) ⟨hx, hb, hml, hown, hts⟩ (kX0_set_r0 l D q cI cJ cZ tP s.heap.size vnum vsz vfr vfo vli va vb vc ve vth vrk vcm vkx vky vkz vmk vre vro vwi vla vlb vtu k0x k0y k0z k1x k1y k1z k2x k2y k2z k3x k3y k3z (va p1.toNatClampNeg) (vb p1.toNatClampNeg) (vc p1.toNatClampNeg) u4 e5) (cwV 3 hts gX0_alongBoth_X0_set rfl rfl rfl (by decide +kernel) ⟨Nat.le_of_ble_eq_true rfl, Nat.le_of_ble_eq_true rfl⟩) ⟨cPre_blind, va_recv hK hP (ci := 0) (q0 := 13) rfl rfl, cPre_at hP hK hN hD hS hA hZ⟩ rfl rfl hl.1 rfl (lv_room (Nat.le_of_ble_eq_true rfl)) dX0_alongBoth_19 ⟨Nat.le_of_ble_eq_true rfl, Nat.le_of_ble_eq_true rfl⟩) hD hS hA (fun H locs hP hD hS => ?_)
  refine lv_aload_n hx hb dX0_alongBoth_22 rfl (lv_at hl 0 rfl) ?_
  refine lv_aload_n hx hb dX0_alongBoth_23 rfl (lv_at hl 1 rfl) ?_
  refine lv_iload_n hx hb dX0_alongBoth_24 rfl (lv_at hl 3 rfl) ?_
  obtain ⟨u6, e7, h⟩ := bd_some h
  refine k_v (va_runV (As := [.ref (q 1), .int p2]) (rest := []) ⟨hx, hb, hml, hown, hts⟩ (kX0_crossWith_r0 l D q cI cJ cZ tP H.size vnum vsz vfr vfo vli va vb vc ve vth vrk vcm vkx vky vkz vmk vre vro vwi vla vlb vtu u4.1 u4.2.1 u4.2.2 k1x k1y k1z k2x k2y k2z k3x k3y k3z p2 u6 e7) (cwV 2 hts gX0_alongBoth_X0_crossWith rfl rfl rfl (by decide +kernel) ⟨Nat.le_of_ble_eq_true rfl, Nat.le_of_ble_eq_true rfl⟩) ⟨cPre_blind, va_recv hK hP (ci := 0) (q0 := 13) rfl rfl, cPre_at hP hK hN hD hS hA hZ⟩ rfl rfl hl.1 rfl (lv_room (Nat.le_of_ble_eq_true rfl)) dX0_alongBoth_25 ⟨Nat.le_of_ble_eq_true rfl, Nat.le_of_ble_eq_true rfl⟩) hD hS hA (fun H locs hP hD hS => ?_)
  obtain rfl := Option.some.inj h
  exact W.vret hx hb hr (fun t ht hW => ⟨⟨(), rfl, trivial, by rw [ht]; exact hP, hD⟩, hS.F ht⟩) hS.2.2 dX0_alongBoth_28

-- X0_alongBoth
set_option maxHeartbeats 8000000 in
set_option maxRecDepth 100000 in
theorem kX0_alongBoth_r1 (l : Launch) (D : va_G) (q : Nat → Nat) (cI cJ cZ : ClassId) (tP sz : Nat) (vnum : Int32) (vsz : Int32) (vfr : Int32) (vfo : Int32) (vli : Int32) (va : (Nat → Int32)) (vb : (Nat → Int32)) (vc : (Nat → Int32)) (ve : (Nat → Int32)) (vth : (Nat → Int32)) (vrk : (Nat → Int32)) (vcm : (Nat → Int32)) (vkx : (Nat → Int32)) (vky : (Nat → Int32)) (vkz : (Nat → Int32)) (vmk : (Nat → Int32)) (vre : (Nat → Int32)) (vro : (Nat → Int32)) (vwi : (Nat → Int32)) (vla : (Nat → Int32)) (vlb : (Nat → Int32)) (vtu : (Nat → Int32)) (k0x : Int32) (k0y : Int32) (k0z : Int32) (k1x : Int32) (k1y : Int32) (k1z : Int32) (k2x : Int32) (k2y : Int32) (k2z : Int32) (k3x : Int32) (k3y : Int32) (k3z : Int32) (p1 : Int32) (p2 : Int32) (uu : (Int32 × Int32 × Int32)) (h : fX0_alongBoth va vb vc p1 p2 = some uu) : Met l yX0_alongBoth wsX0_alongBoth ({ frames := 2, cells := 0, slots := 0, locals := 48 }) (cPre D cI cJ cZ tP (WC_ q cI cZ vnum vsz vfr vfo vli va vb vc ve vth vrk vcm vkx vky vkz vmk vre vro vwi vla vlb vtu k0x k0y k0z k1x k1y k1z k2x k2y k2z k3x k3y k3z) sz [.ref (q 21), .ref (q 1), .int p1, .int p2]) (cQv D (va_A (WC_ q cI cZ vnum vsz vfr vfo vli va vb vc ve vth vrk vcm vkx vky vkz vmk vre vro vwi vla vlb vtu k0x k0y k0z k1x k1y k1z k2x k2y k2z k3x k3y k3z) sz) (WC_ q cI cZ vnum vsz vfr vfo vli va vb vc ve vth vrk vcm vkx vky vkz vmk vre vro vwi vla vlb vtu k0x k0y k0z uu.1 uu.2.1 uu.2.2 k2x k2y k2z k3x k3y k3z)) 0 0 (va_A (WC_ q cI cZ vnum vsz vfr vfo vli va vb vc ve vth vrk vcm vkx vky vkz vmk vre vro vwi vla vlb vtu k0x k0y k0z k1x k1y k1z k2x k2y k2z k3x k3y k3z) sz) := by
  refine Met.ofW (cc := cX0_alongBoth) (maxL := 4) (ret := none) (by decide) rfl ?_
  intro p e s m args below meth c s₁ B hml hv
  obtain ⟨rfl, hsz, hP, hK, hN, hD0, hZ⟩ := hv
  have hx := B.exec
  have hb := B.bytes
  have hr := B.returns
  have hts := atoms_spec (ws := wsX0_alongBoth) B.pre
  have hown : s.vm.findClass RX0 = some m.cls := findClass_of_methodNamed B.named
  have hlocks := B.notSynchronized
  subst hsz
  have hD := hD0.self (sz := s.heap.size)
  generalize hAe : va_A (WC_ q cI cZ vnum vsz vfr vfo vli va vb vc ve vth vrk vcm vkx vky vkz vmk vre vro vwi vla vlb vtu k0x k0y k0z k1x k1y k1z k2x k2y k2z k3x k3y k3z) s.heap.size = A at hD hZ ⊢
  have hA : ∀ q : Nat, s.heap.size ≤ q → A q := fun q h => by rw [← hAe]; exact Or.inr h
  have hS : va_S A s.heap s.heap [] := va_S.rf
  have hl := lv_entry ([.ref (q 21), .ref (q 1), .int p1, .int p2]) (n := 4) (Nat.le_of_ble_eq_true rfl)
  rw [lg_entry_eq]
  generalize (lg_sl ([.ref (q 21), .ref (q 1), .int p1, .int p2]) ++ List.replicate (4 - (lg_sl ([.ref (q 21), .ref (q 1), .int p1, .int p2])).length) Slot.unset).toArray = ls at hl ⊢
  have hl : lv_has ls 4 [(0, .ref (q 21)), (1, .ref (q 1)), (2, .int p1), (3, .int p2)] := hl
  unfold fX0_alongBoth at h
  refine lv_aload_n hx hb dX0_alongBoth_0 rfl (lv_at hl 0 rfl) ?_
  refine lv_aload_n hx hb dX0_alongBoth_1 rfl (lv_at hl 1 rfl) ?_
  refine va_getN (D := D) (ci := 3) (v := .ref (q 2)) (C := RX3) (T := TX3) (N := 7) hx hb hts wiX0_alongBoth_X3 hown hK hP 1 rfl rfl 1 (by decide) (NW_f hN 10 rfl) (fun _ h9 => h9) rfl dX0_alongBoth_2 ?_
  refine lv_iload_n hx hb dX0_alongBoth_5 rfl (lv_at hl 2 rfl) ?_
  obtain ⟨i1, h⟩ := ck_some h
  refine va_iald hx hb hK hP 2 0 rfl rfl i1 dX0_alongBoth_6 ?_
  refine lv_aload_n hx hb dX0_alongBoth_7 rfl (lv_at hl 1 rfl) ?_
  refine va_getN (D := D) (ci := 3) (v := .ref (q 3)) (C := RX3) (T := TX3) (N := 7) hx hb hts wiX0_alongBoth_X3 hown hK hP 1 rfl rfl 2 (by decide) (NW_f hN 8 rfl) (fun _ h9 => h9) rfl dX0_alongBoth_8 ?_
  refine lv_iload_n hx hb dX0_alongBoth_11 rfl (lv_at hl 2 rfl) ?_
  obtain ⟨i2, h⟩ := ck_some h
  refine va_iald hx hb hK hP 3 0 rfl rfl i2 dX0_alongBoth_12 ?_
  refine lv_aload_n hx hb dX0_alongBoth_13 rfl (lv_at hl 1 rfl) ?_
  refine va_getN (D := D) (ci := 3) (v := .ref (q 4)) (C := RX3) (T := TX3) (N := 7) hx hb hts wiX0_alongBoth_X3 hown hK hP 1 rfl rfl 3 (by decide) (NW_f hN 9 rfl) (fun _ h9 => h9) rfl dX0_alongBoth_14 ?_
  refine lv_iload_n hx hb dX0_alongBoth_17 rfl (lv_at hl 2 rfl) ?_
  obtain ⟨i3, h⟩ := ck_some h
  refine va_iald hx hb hK hP 4 0 rfl rfl i3 dX0_alongBoth_18 ?_
  obtain ⟨u4, e5, h⟩ := bd_some h
  refine k_v (va_runV (As := [.int (va p1.toNatClampNeg), .int (vb p1.toNatClampNeg), .int (vc p1.toNatClampNeg)]) (rest := []) ⟨hx, hb, hml, hown, hts⟩ (kX0_set_r1 l D q cI cJ cZ tP s.heap.size vnum vsz vfr vfo vli va vb vc ve vth vrk vcm vkx vky vkz vmk vre vro vwi vla vlb vtu k0x k0y k0z k1x k1y k1z k2x k2y k2z k3x k3y k3z (va p1.toNatClampNeg) (vb p1.toNatClampNeg) (vc p1.toNatClampNeg) u4 e5) (cwV 3 hts gX0_alongBoth_X0_set rfl rfl rfl (by decide +kernel) ⟨Nat.le_of_ble_eq_true rfl, Nat.le_of_ble_eq_true rfl⟩) ⟨cPre_blind, va_recv hK hP (ci := 0) (q0 := 21) rfl rfl, cPre_at hP hK hN hD hS hA hZ⟩ rfl rfl hl.1 rfl (lv_room (Nat.le_of_ble_eq_true rfl)) dX0_alongBoth_19 ⟨Nat.le_of_ble_eq_true rfl, Nat.le_of_ble_eq_true rfl⟩) hD hS hA (fun H locs hP hD hS => ?_)
  refine lv_aload_n hx hb dX0_alongBoth_22 rfl (lv_at hl 0 rfl) ?_
  refine lv_aload_n hx hb dX0_alongBoth_23 rfl (lv_at hl 1 rfl) ?_
  refine lv_iload_n hx hb dX0_alongBoth_24 rfl (lv_at hl 3 rfl) ?_
  obtain ⟨u6, e7, h⟩ := bd_some h
  refine k_v (va_runV (As := [.ref (q 1), .int p2]) (rest := []) ⟨hx, hb, hml, hown, hts⟩ (kX0_crossWith_r1 l D q cI cJ cZ tP H.size vnum vsz vfr vfo vli va vb vc ve vth vrk vcm vkx vky vkz vmk vre vro vwi vla vlb vtu k0x k0y k0z u4.1 u4.2.1 u4.2.2 k2x k2y k2z k3x k3y k3z p2 u6 e7) (cwV 2 hts gX0_alongBoth_X0_crossWith rfl rfl rfl (by decide +kernel) ⟨Nat.le_of_ble_eq_true rfl, Nat.le_of_ble_eq_true rfl⟩) ⟨cPre_blind, va_recv hK hP (ci := 0) (q0 := 21) rfl rfl, cPre_at hP hK hN hD hS hA hZ⟩ rfl rfl hl.1 rfl (lv_room (Nat.le_of_ble_eq_true rfl)) dX0_alongBoth_25 ⟨Nat.le_of_ble_eq_true rfl, Nat.le_of_ble_eq_true rfl⟩) hD hS hA (fun H locs hP hD hS => ?_)
  obtain rfl := Option.some.inj h
  exact W.vret hx hb hr (fun t ht hW => ⟨⟨(), rfl, trivial, by rw [ht]; exact hP, hD⟩, hS.F ht⟩) hS.2.2 dX0_alongBoth_28

-- X0_alongBoth
set_option maxHeartbeats 8000000 in
set_option maxRecDepth 100000 in
theorem kX0_alongBoth_r2 (l : Launch) (D : va_G) (q : Nat → Nat) (cI cJ cZ : ClassId) (tP sz : Nat) (vnum : Int32) (vsz : Int32) (vfr : Int32) (vfo : Int32) (vli : Int32) (va : (Nat → Int32)) (vb : (Nat → Int32)) (vc : (Nat → Int32)) (ve : (Nat → Int32)) (vth : (Nat → Int32)) (vrk : (Nat → Int32)) (vcm : (Nat → Int32)) (vkx : (Nat → Int32)) (vky : (Nat → Int32)) (vkz : (Nat → Int32)) (vmk : (Nat → Int32)) (vre : (Nat → Int32)) (vro : (Nat → Int32)) (vwi : (Nat → Int32)) (vla : (Nat → Int32)) (vlb : (Nat → Int32)) (vtu : (Nat → Int32)) (k0x : Int32) (k0y : Int32) (k0z : Int32) (k1x : Int32) (k1y : Int32) (k1z : Int32) (k2x : Int32) (k2y : Int32) (k2z : Int32) (k3x : Int32) (k3y : Int32) (k3z : Int32) (p1 : Int32) (p2 : Int32) (uu : (Int32 × Int32 × Int32)) (h : fX0_alongBoth va vb vc p1 p2 = some uu) : Met l yX0_alongBoth wsX0_alongBoth ({ frames := 2, cells := 0, slots := 0, locals := 48 }) (cPre D cI cJ cZ tP (WC_ q cI cZ vnum vsz vfr vfo vli va vb vc ve vth vrk vcm vkx vky vkz vmk vre vro vwi vla vlb vtu k0x k0y k0z k1x k1y k1z k2x k2y k2z k3x k3y k3z) sz [.ref (q 22), .ref (q 1), .int p1, .int p2]) (cQv D (va_A (WC_ q cI cZ vnum vsz vfr vfo vli va vb vc ve vth vrk vcm vkx vky vkz vmk vre vro vwi vla vlb vtu k0x k0y k0z k1x k1y k1z k2x k2y k2z k3x k3y k3z) sz) (WC_ q cI cZ vnum vsz vfr vfo vli va vb vc ve vth vrk vcm vkx vky vkz vmk vre vro vwi vla vlb vtu k0x k0y k0z k1x k1y k1z uu.1 uu.2.1 uu.2.2 k3x k3y k3z)) 0 0 (va_A (WC_ q cI cZ vnum vsz vfr vfo vli va vb vc ve vth vrk vcm vkx vky vkz vmk vre vro vwi vla vlb vtu k0x k0y k0z k1x k1y k1z k2x k2y k2z k3x k3y k3z) sz) := by
  refine Met.ofW (cc := cX0_alongBoth) (maxL := 4) (ret := none) (by decide) rfl ?_
  intro p e s m args below meth c s₁ B hml hv
  obtain ⟨rfl, hsz, hP, hK, hN, hD0, hZ⟩ := hv
  have hx := B.exec
  have hb := B.bytes
  have hr := B.returns
  have hts := atoms_spec (ws := wsX0_alongBoth) B.pre
  have hown : s.vm.findClass RX0 = some m.cls := findClass_of_methodNamed B.named
  have hlocks := B.notSynchronized
  subst hsz
  have hD := hD0.self (sz := s.heap.size)
  generalize hAe : va_A (WC_ q cI cZ vnum vsz vfr vfo vli va vb vc ve vth vrk vcm vkx vky vkz vmk vre vro vwi vla vlb vtu k0x k0y k0z k1x k1y k1z k2x k2y k2z k3x k3y k3z) s.heap.size = A at hD hZ ⊢
  have hA : ∀ q : Nat, s.heap.size ≤ q → A q := fun q h => by rw [← hAe]; exact Or.inr h
  have hS : va_S A s.heap s.heap [] := va_S.rf
  have hl := lv_entry ([.ref (q 22), .ref (q 1), .int p1, .int p2]) (n := 4) (Nat.le_of_ble_eq_true rfl)
  rw [lg_entry_eq]
  generalize (lg_sl ([.ref (q 22), .ref (q 1), .int p1, .int p2]) ++ List.replicate (4 - (lg_sl ([.ref (q 22), .ref (q 1), .int p1, .int p2])).length) Slot.unset).toArray = ls at hl ⊢
  have hl : lv_has ls 4 [(0, .ref (q 22)), (1, .ref (q 1)), (2, .int p1), (3, .int p2)] := hl
  unfold fX0_alongBoth at h
  refine lv_aload_n hx hb dX0_alongBoth_0 rfl (lv_at hl 0 rfl) ?_
  refine lv_aload_n hx hb dX0_alongBoth_1 rfl (lv_at hl 1 rfl) ?_
  refine va_getN (D := D) (ci := 3) (v := .ref (q 2)) (C := RX3) (T := TX3) (N := 7) hx hb hts wiX0_alongBoth_X3 hown hK hP 1 rfl rfl 1 (by decide) (NW_f hN 10 rfl) (fun _ h9 => h9) rfl dX0_alongBoth_2 ?_
  refine lv_iload_n hx hb dX0_alongBoth_5 rfl (lv_at hl 2 rfl) ?_
  obtain ⟨i1, h⟩ := ck_some h
  refine va_iald hx hb hK hP 2 0 rfl rfl i1 dX0_alongBoth_6 ?_
  refine lv_aload_n hx hb dX0_alongBoth_7 rfl (lv_at hl 1 rfl) ?_
  refine va_getN (D := D) (ci := 3) (v := .ref (q 3)) (C := RX3) (T := TX3) (N := 7) hx hb hts wiX0_alongBoth_X3 hown hK hP 1 rfl rfl 2 (by decide) (NW_f hN 8 rfl) (fun _ h9 => h9) rfl dX0_alongBoth_8 ?_
  refine lv_iload_n hx hb dX0_alongBoth_11 rfl (lv_at hl 2 rfl) ?_
  obtain ⟨i2, h⟩ := ck_some h
  refine va_iald hx hb hK hP 3 0 rfl rfl i2 dX0_alongBoth_12 ?_
  refine lv_aload_n hx hb dX0_alongBoth_13 rfl (lv_at hl 1 rfl) ?_
  refine va_getN (D := D) (ci := 3) (v := .ref (q 4)) (C := RX3) (T := TX3) (N := 7) hx hb hts wiX0_alongBoth_X3 hown hK hP 1 rfl rfl 3 (by decide) (NW_f hN 9 rfl) (fun _ h9 => h9) rfl dX0_alongBoth_14 ?_
  refine lv_iload_n hx hb dX0_alongBoth_17 rfl (lv_at hl 2 rfl) ?_
  obtain ⟨i3, h⟩ := ck_some h
  refine va_iald hx hb hK hP 4 0 rfl rfl i3 dX0_alongBoth_18 ?_
  obtain ⟨u4, e5, h⟩ := bd_some h
  refine k_v (va_runV (As := [.int (va p1.toNatClampNeg), .int (vb p1.toNatClampNeg), .int (vc p1.toNatClampNeg)]) (rest := []) ⟨hx, hb, hml, hown, hts⟩ (kX0_set_r2 l D q cI cJ cZ tP s.heap.size vnum vsz vfr vfo vli va vb vc ve vth vrk vcm vkx vky vkz vmk vre vro vwi vla vlb vtu k0x k0y k0z k1x k1y k1z k2x k2y k2z k3x k3y k3z (va p1.toNatClampNeg) (vb p1.toNatClampNeg) (vc p1.toNatClampNeg) u4 e5) (cwV 3 hts gX0_alongBoth_X0_set rfl rfl rfl (by decide +kernel) ⟨Nat.le_of_ble_eq_true rfl, Nat.le_of_ble_eq_true rfl⟩) ⟨cPre_blind, va_recv hK hP (ci := 0) (q0 := 22) rfl rfl, cPre_at hP hK hN hD hS hA hZ⟩ rfl rfl hl.1 rfl (lv_room (Nat.le_of_ble_eq_true rfl)) dX0_alongBoth_19 ⟨Nat.le_of_ble_eq_true rfl, Nat.le_of_ble_eq_true rfl⟩) hD hS hA (fun H locs hP hD hS => ?_)
  refine lv_aload_n hx hb dX0_alongBoth_22 rfl (lv_at hl 0 rfl) ?_
  refine lv_aload_n hx hb dX0_alongBoth_23 rfl (lv_at hl 1 rfl) ?_
  refine lv_iload_n hx hb dX0_alongBoth_24 rfl (lv_at hl 3 rfl) ?_
  obtain ⟨u6, e7, h⟩ := bd_some h
  refine k_v (va_runV (As := [.ref (q 1), .int p2]) (rest := []) ⟨hx, hb, hml, hown, hts⟩ (kX0_crossWith_r2 l D q cI cJ cZ tP H.size vnum vsz vfr vfo vli va vb vc ve vth vrk vcm vkx vky vkz vmk vre vro vwi vla vlb vtu k0x k0y k0z k1x k1y k1z u4.1 u4.2.1 u4.2.2 k3x k3y k3z p2 u6 e7) (cwV 2 hts gX0_alongBoth_X0_crossWith rfl rfl rfl (by decide +kernel) ⟨Nat.le_of_ble_eq_true rfl, Nat.le_of_ble_eq_true rfl⟩) ⟨cPre_blind, va_recv hK hP (ci := 0) (q0 := 22) rfl rfl, cPre_at hP hK hN hD hS hA hZ⟩ rfl rfl hl.1 rfl (lv_room (Nat.le_of_ble_eq_true rfl)) dX0_alongBoth_25 ⟨Nat.le_of_ble_eq_true rfl, Nat.le_of_ble_eq_true rfl⟩) hD hS hA (fun H locs hP hD hS => ?_)
  obtain rfl := Option.some.inj h
  exact W.vret hx hb hr (fun t ht hW => ⟨⟨(), rfl, trivial, by rw [ht]; exact hP, hD⟩, hS.F ht⟩) hS.2.2 dX0_alongBoth_28

-- X0_alongBoth
set_option maxHeartbeats 8000000 in
set_option maxRecDepth 100000 in
theorem kX0_alongBoth_r3 (l : Launch) (D : va_G) (q : Nat → Nat) (cI cJ cZ : ClassId) (tP sz : Nat) (vnum : Int32) (vsz : Int32) (vfr : Int32) (vfo : Int32) (vli : Int32) (va : (Nat → Int32)) (vb : (Nat → Int32)) (vc : (Nat → Int32)) (ve : (Nat → Int32)) (vth : (Nat → Int32)) (vrk : (Nat → Int32)) (vcm : (Nat → Int32)) (vkx : (Nat → Int32)) (vky : (Nat → Int32)) (vkz : (Nat → Int32)) (vmk : (Nat → Int32)) (vre : (Nat → Int32)) (vro : (Nat → Int32)) (vwi : (Nat → Int32)) (vla : (Nat → Int32)) (vlb : (Nat → Int32)) (vtu : (Nat → Int32)) (k0x : Int32) (k0y : Int32) (k0z : Int32) (k1x : Int32) (k1y : Int32) (k1z : Int32) (k2x : Int32) (k2y : Int32) (k2z : Int32) (k3x : Int32) (k3y : Int32) (k3z : Int32) (p1 : Int32) (p2 : Int32) (uu : (Int32 × Int32 × Int32)) (h : fX0_alongBoth va vb vc p1 p2 = some uu) : Met l yX0_alongBoth wsX0_alongBoth ({ frames := 2, cells := 0, slots := 0, locals := 48 }) (cPre D cI cJ cZ tP (WC_ q cI cZ vnum vsz vfr vfo vli va vb vc ve vth vrk vcm vkx vky vkz vmk vre vro vwi vla vlb vtu k0x k0y k0z k1x k1y k1z k2x k2y k2z k3x k3y k3z) sz [.ref (q 23), .ref (q 1), .int p1, .int p2]) (cQv D (va_A (WC_ q cI cZ vnum vsz vfr vfo vli va vb vc ve vth vrk vcm vkx vky vkz vmk vre vro vwi vla vlb vtu k0x k0y k0z k1x k1y k1z k2x k2y k2z k3x k3y k3z) sz) (WC_ q cI cZ vnum vsz vfr vfo vli va vb vc ve vth vrk vcm vkx vky vkz vmk vre vro vwi vla vlb vtu k0x k0y k0z k1x k1y k1z k2x k2y k2z uu.1 uu.2.1 uu.2.2)) 0 0 (va_A (WC_ q cI cZ vnum vsz vfr vfo vli va vb vc ve vth vrk vcm vkx vky vkz vmk vre vro vwi vla vlb vtu k0x k0y k0z k1x k1y k1z k2x k2y k2z k3x k3y k3z) sz) := by
  refine Met.ofW (cc := cX0_alongBoth) (maxL := 4) (ret := none) (by decide) rfl ?_
  intro p e s m args below meth c s₁ B hml hv
  obtain ⟨rfl, hsz, hP, hK, hN, hD0, hZ⟩ := hv
  have hx := B.exec
  have hb := B.bytes
  have hr := B.returns
  have hts := atoms_spec (ws := wsX0_alongBoth) B.pre
  have hown : s.vm.findClass RX0 = some m.cls := findClass_of_methodNamed B.named
  have hlocks := B.notSynchronized
  subst hsz
  have hD := hD0.self (sz := s.heap.size)
  generalize hAe : va_A (WC_ q cI cZ vnum vsz vfr vfo vli va vb vc ve vth vrk vcm vkx vky vkz vmk vre vro vwi vla vlb vtu k0x k0y k0z k1x k1y k1z k2x k2y k2z k3x k3y k3z) s.heap.size = A at hD hZ ⊢
  have hA : ∀ q : Nat, s.heap.size ≤ q → A q := fun q h => by rw [← hAe]; exact Or.inr h
  have hS : va_S A s.heap s.heap [] := va_S.rf
  have hl := lv_entry ([.ref (q 23), .ref (q 1), .int p1, .int p2]) (n := 4) (Nat.le_of_ble_eq_true rfl)
  rw [lg_entry_eq]
  generalize (lg_sl ([.ref (q 23), .ref (q 1), .int p1, .int p2]) ++ List.replicate (4 - (lg_sl ([.ref (q 23), .ref (q 1), .int p1, .int p2])).length) Slot.unset).toArray = ls at hl ⊢
  have hl : lv_has ls 4 [(0, .ref (q 23)), (1, .ref (q 1)), (2, .int p1), (3, .int p2)] := hl
  unfold fX0_alongBoth at h
  refine lv_aload_n hx hb dX0_alongBoth_0 rfl (lv_at hl 0 rfl) ?_
  refine lv_aload_n hx hb dX0_alongBoth_1 rfl (lv_at hl 1 rfl) ?_
  refine va_getN (D := D) (ci := 3) (v := .ref (q 2)) (C := RX3) (T := TX3) (N := 7) hx hb hts wiX0_alongBoth_X3 hown hK hP 1 rfl rfl 1 (by decide) (NW_f hN 10 rfl) (fun _ h9 => h9) rfl dX0_alongBoth_2 ?_
  refine lv_iload_n hx hb dX0_alongBoth_5 rfl (lv_at hl 2 rfl) ?_
  obtain ⟨i1, h⟩ := ck_some h
  refine va_iald hx hb hK hP 2 0 rfl rfl i1 dX0_alongBoth_6 ?_
  refine lv_aload_n hx hb dX0_alongBoth_7 rfl (lv_at hl 1 rfl) ?_
  refine va_getN (D := D) (ci := 3) (v := .ref (q 3)) (C := RX3) (T := TX3) (N := 7) hx hb hts wiX0_alongBoth_X3 hown hK hP 1 rfl rfl 2 (by decide) (NW_f hN 8 rfl) (fun _ h9 => h9) rfl dX0_alongBoth_8 ?_
  refine lv_iload_n hx hb dX0_alongBoth_11 rfl (lv_at hl 2 rfl) ?_
  obtain ⟨i2, h⟩ := ck_some h
  refine va_iald hx hb hK hP 3 0 rfl rfl i2 dX0_alongBoth_12 ?_
  refine lv_aload_n hx hb dX0_alongBoth_13 rfl (lv_at hl 1 rfl) ?_
  refine va_getN (D := D) (ci := 3) (v := .ref (q 4)) (C := RX3) (T := TX3) (N := 7) hx hb hts wiX0_alongBoth_X3 hown hK hP 1 rfl rfl 3 (by decide) (NW_f hN 9 rfl) (fun _ h9 => h9) rfl dX0_alongBoth_14 ?_
  refine lv_iload_n hx hb dX0_alongBoth_17 rfl (lv_at hl 2 rfl) ?_
  obtain ⟨i3, h⟩ := ck_some h
  refine va_iald hx hb hK hP 4 0 rfl rfl i3 dX0_alongBoth_18 ?_
  obtain ⟨u4, e5, h⟩ := bd_some h
  refine k_v (va_runV (As := [.int (va p1.toNatClampNeg), .int (vb p1.toNatClampNeg), .int (vc p1.toNatClampNeg)]) (rest := []) ⟨hx, hb, hml, hown, hts⟩ (kX0_set_r3 l D q cI cJ cZ tP s.heap.size vnum vsz vfr vfo vli va vb vc ve vth vrk vcm vkx vky vkz vmk vre vro vwi vla vlb vtu k0x k0y k0z k1x k1y k1z k2x k2y k2z k3x k3y k3z (va p1.toNatClampNeg) (vb p1.toNatClampNeg) (vc p1.toNatClampNeg) u4 e5) (cwV 3 hts gX0_alongBoth_X0_set rfl rfl rfl (by decide +kernel) ⟨Nat.le_of_ble_eq_true rfl, Nat.le_of_ble_eq_true rfl⟩) ⟨cPre_blind, va_recv hK hP (ci := 0) (q0 := 23) rfl rfl, cPre_at hP hK hN hD hS hA hZ⟩ rfl rfl hl.1 rfl (lv_room (Nat.le_of_ble_eq_true rfl)) dX0_alongBoth_19 ⟨Nat.le_of_ble_eq_true rfl, Nat.le_of_ble_eq_true rfl⟩) hD hS hA (fun H locs hP hD hS => ?_)
  refine lv_aload_n hx hb dX0_alongBoth_22 rfl (lv_at hl 0 rfl) ?_
  refine lv_aload_n hx hb dX0_alongBoth_23 rfl (lv_at hl 1 rfl) ?_
  refine lv_iload_n hx hb dX0_alongBoth_24 rfl (lv_at hl 3 rfl) ?_
  obtain ⟨u6, e7, h⟩ := bd_some h
  refine k_v (va_runV (As := [.ref (q 1), .int p2]) (rest := []) ⟨hx, hb, hml, hown, hts⟩ (kX0_crossWith_r3 l D q cI cJ cZ tP H.size vnum vsz vfr vfo vli va vb vc ve vth vrk vcm vkx vky vkz vmk vre vro vwi vla vlb vtu k0x k0y k0z k1x k1y k1z k2x k2y k2z u4.1 u4.2.1 u4.2.2 p2 u6 e7) (cwV 2 hts gX0_alongBoth_X0_crossWith rfl rfl rfl (by decide +kernel) ⟨Nat.le_of_ble_eq_true rfl, Nat.le_of_ble_eq_true rfl⟩) ⟨cPre_blind, va_recv hK hP (ci := 0) (q0 := 23) rfl rfl, cPre_at hP hK hN hD hS hA hZ⟩ rfl rfl hl.1 rfl (lv_room (Nat.le_of_ble_eq_true rfl)) dX0_alongBoth_25 ⟨Nat.le_of_ble_eq_true rfl, Nat.le_of_ble_eq_true rfl⟩) hD hS hA (fun H locs hP hD hS => ?_)
  obtain rfl := Option.some.inj h
  exact W.vret hx hb hr (fun t ht hW => ⟨⟨(), rfl, trivial, by rw [ht]; exact hP, hD⟩, hS.F ht⟩) hS.2.2 dX0_alongBoth_28

-- X0_climb
theorem wmX0_climb_0 : (.fieldLink RX0 29 "SpaceWalls$Arrow" "x" "I" : Cond) ∈ wsX0_climb := by decide +kernel
theorem wmX0_climb_1 : (.fieldLink RX0 33 "SpaceWalls$Arrow" "y" "I" : Cond) ∈ wsX0_climb := by decide +kernel
theorem wmX0_climb_2 : (.fieldLink RX0 36 "SpaceWalls$Arrow" "z" "I" : Cond) ∈ wsX0_climb := by decide +kernel
theorem wiX0_climb_X3 : ∀ w ∈ u_ws RX3 TX3 7, w ∈ wsX0_climb := by decide +kernel
theorem wiX0_climb_X0 : ∀ w ∈ u_ws RX0 TX0 3, w ∈ wsX0_climb := by decide +kernel
set_option maxHeartbeats 8000000 in
set_option maxRecDepth 100000 in
theorem kX0_climb_r0 (l : Launch) (D : va_G) (q : Nat → Nat) (cI cJ cZ : ClassId) (tP sz : Nat) (vnum : Int32) (vsz : Int32) (vfr : Int32) (vfo : Int32) (vli : Int32) (va : (Nat → Int32)) (vb : (Nat → Int32)) (vc : (Nat → Int32)) (ve : (Nat → Int32)) (vth : (Nat → Int32)) (vrk : (Nat → Int32)) (vcm : (Nat → Int32)) (vkx : (Nat → Int32)) (vky : (Nat → Int32)) (vkz : (Nat → Int32)) (vmk : (Nat → Int32)) (vre : (Nat → Int32)) (vro : (Nat → Int32)) (vwi : (Nat → Int32)) (vla : (Nat → Int32)) (vlb : (Nat → Int32)) (vtu : (Nat → Int32)) (k0x : Int32) (k0y : Int32) (k0z : Int32) (k1x : Int32) (k1y : Int32) (k1z : Int32) (k2x : Int32) (k2y : Int32) (k2z : Int32) (k3x : Int32) (k3y : Int32) (k3z : Int32) (p1 : Int32) (uu : Int32) (h : fX0_climb va vb vc k0x k0y k0z p1 = some uu) : Met l yX0_climb wsX0_climb ({ frames := 0, cells := 0, slots := 0, locals := 0 }) (cPre D cI cJ cZ tP (WC_ q cI cZ vnum vsz vfr vfo vli va vb vc ve vth vrk vcm vkx vky vkz vmk vre vro vwi vla vlb vtu k0x k0y k0z k1x k1y k1z k2x k2y k2z k3x k3y k3z) sz [.ref (q 13), .ref (q 1), .int p1]) (cQi D (va_A (WC_ q cI cZ vnum vsz vfr vfo vli va vb vc ve vth vrk vcm vkx vky vkz vmk vre vro vwi vla vlb vtu k0x k0y k0z k1x k1y k1z k2x k2y k2z k3x k3y k3z) sz) (WC_ q cI cZ vnum vsz vfr vfo vli va vb vc ve vth vrk vcm vkx vky vkz vmk vre vro vwi vla vlb vtu k0x k0y k0z k1x k1y k1z k2x k2y k2z k3x k3y k3z) uu) 0 0 (va_A (WC_ q cI cZ vnum vsz vfr vfo vli va vb vc ve vth vrk vcm vkx vky vkz vmk vre vro vwi vla vlb vtu k0x k0y k0z k1x k1y k1z k2x k2y k2z k3x k3y k3z) sz) := by
  refine Met.ofW (cc := cX0_climb) (maxL := 3) (ret := (some .int)) (by decide) rfl ?_
  intro p e s m args below meth c s₁ B hml hv
  obtain ⟨rfl, hsz, hP, hK, hN, hD0, hZ⟩ := hv
  have hx := B.exec
  have hb := B.bytes
  have hr := B.returns
  have hts := atoms_spec (ws := wsX0_climb) B.pre
  have hown : s.vm.findClass RX0 = some m.cls := findClass_of_methodNamed B.named
  have hlocks := B.notSynchronized
  subst hsz
  have hD := hD0.self (sz := s.heap.size)
  generalize hAe : va_A (WC_ q cI cZ vnum vsz vfr vfo vli va vb vc ve vth vrk vcm vkx vky vkz vmk vre vro vwi vla vlb vtu k0x k0y k0z k1x k1y k1z k2x k2y k2z k3x k3y k3z) s.heap.size = A at hD hZ ⊢
  have hA : ∀ q : Nat, s.heap.size ≤ q → A q := fun q h => by rw [← hAe]; exact Or.inr h
  have hS : va_S A s.heap s.heap [] := va_S.rf
  have hl := lv_entry ([.ref (q 13), .ref (q 1), .int p1]) (n := 3) (Nat.le_of_ble_eq_true rfl)
  rw [lg_entry_eq]
  generalize (lg_sl ([.ref (q 13), .ref (q 1), .int p1]) ++ List.replicate (3 - (lg_sl ([.ref (q 13), .ref (q 1), .int p1])).length) Slot.unset).toArray = ls at hl ⊢
  have hl : lv_has ls 3 [(0, .ref (q 13)), (1, .ref (q 1)), (2, .int p1)] := hl
  unfold fX0_climb at h
  refine lv_aload_n hx hb dX0_climb_0 rfl (lv_at hl 1 rfl) ?_
  refine va_getN (D := D) (ci := 3) (v := .ref (q 2)) (C := RX3) (T := TX3) (N := 7) hx hb hts wiX0_climb_X3 hown hK hP 1 rfl rfl 1 (by decide) (NW_f hN 10 rfl) (fun _ h9 => h9) rfl dX0_climb_1 ?_
  refine lv_iload_n hx hb dX0_climb_4 rfl (lv_at hl 2 rfl) ?_
  obtain ⟨i1, h⟩ := ck_some h
  refine va_iald hx hb hK hP 2 0 rfl rfl i1 dX0_climb_5 ?_
  refine lv_aload_n hx hb dX0_climb_6 rfl (lv_at hl 0 rfl) ?_
  refine va_get (D := D) (ci := 0) (v := .int k0x) (C := RX0) (T := TX0) (N := 3) hx hb hts wiX0_climb_X0 hown hK hP 13 rfl rfl 0 (by decide) (hts _ wmX0_climb_0) (fun _ h9 => h9) rfl dX0_climb_7 ?_
  refine lv_imul hx hb dX0_climb_10 ?_
  refine lv_aload_n hx hb dX0_climb_11 rfl (lv_at hl 1 rfl) ?_
  refine va_getN (D := D) (ci := 3) (v := .ref (q 3)) (C := RX3) (T := TX3) (N := 7) hx hb hts wiX0_climb_X3 hown hK hP 1 rfl rfl 2 (by decide) (NW_f hN 8 rfl) (fun _ h9 => h9) rfl dX0_climb_12 ?_
  refine lv_iload_n hx hb dX0_climb_15 rfl (lv_at hl 2 rfl) ?_
  obtain ⟨i2, h⟩ := ck_some h
  refine va_iald hx hb hK hP 3 0 rfl rfl i2 dX0_climb_16 ?_
  refine lv_aload_n hx hb dX0_climb_17 rfl (lv_at hl 0 rfl) ?_
  refine va_get (D := D) (ci := 0) (v := .int k0y) (C := RX0) (T := TX0) (N := 3) hx hb hts wiX0_climb_X0 hown hK hP 13 rfl rfl 1 (by decide) (hts _ wmX0_climb_1) (fun _ h9 => h9) rfl dX0_climb_18 ?_
  refine lv_imul hx hb dX0_climb_21 ?_
  refine lv_iadd hx hb dX0_climb_22 ?_
  refine lv_aload_n hx hb dX0_climb_23 rfl (lv_at hl 1 rfl) ?_
  refine va_getN (D := D) (ci := 3) (v := .ref (q 4)) (C := RX3) (T := TX3) (N := 7) hx hb hts wiX0_climb_X3 hown hK hP 1 rfl rfl 3 (by decide) (NW_f hN 9 rfl) (fun _ h9 => h9) rfl dX0_climb_24 ?_
  refine lv_iload_n hx hb dX0_climb_27 rfl (lv_at hl 2 rfl) ?_
  obtain ⟨i3, h⟩ := ck_some h
  refine va_iald hx hb hK hP 4 0 rfl rfl i3 dX0_climb_28 ?_
  refine lv_aload_n hx hb dX0_climb_29 rfl (lv_at hl 0 rfl) ?_
  refine va_get (D := D) (ci := 0) (v := .int k0z) (C := RX0) (T := TX0) (N := 3) hx hb hts wiX0_climb_X0 hown hK hP 13 rfl rfl 2 (by decide) (hts _ wmX0_climb_2) (fun _ h9 => h9) rfl dX0_climb_30 ?_
  refine lv_imul hx hb dX0_climb_33 ?_
  refine lv_iadd hx hb dX0_climb_34 ?_
  obtain rfl := Option.some.inj h
  exact W.iret (v := ((((va p1.toNatClampNeg) * k0x) + ((vb p1.toNatClampNeg) * k0y)) + ((vc p1.toNatClampNeg) * k0z))) hx hb hr (fun t ht hW => ⟨⟨((((va p1.toNatClampNeg) * k0x) + ((vb p1.toNatClampNeg) * k0y)) + ((vc p1.toNatClampNeg) * k0z)), (), rfl, rfl, by rw [ht]; exact hP, hD⟩, hS.F ht⟩) hS.2.2 dX0_climb_35

-- X0_climb
set_option maxHeartbeats 8000000 in
set_option maxRecDepth 100000 in
theorem kX0_climb_r1 (l : Launch) (D : va_G) (q : Nat → Nat) (cI cJ cZ : ClassId) (tP sz : Nat) (vnum : Int32) (vsz : Int32) (vfr : Int32) (vfo : Int32) (vli : Int32) (va : (Nat → Int32)) (vb : (Nat → Int32)) (vc : (Nat → Int32)) (ve : (Nat → Int32)) (vth : (Nat → Int32)) (vrk : (Nat → Int32)) (vcm : (Nat → Int32)) (vkx : (Nat → Int32)) (vky : (Nat → Int32)) (vkz : (Nat → Int32)) (vmk : (Nat → Int32)) (vre : (Nat → Int32)) (vro : (Nat → Int32)) (vwi : (Nat → Int32)) (vla : (Nat → Int32)) (vlb : (Nat → Int32)) (vtu : (Nat → Int32)) (k0x : Int32) (k0y : Int32) (k0z : Int32) (k1x : Int32) (k1y : Int32) (k1z : Int32) (k2x : Int32) (k2y : Int32) (k2z : Int32) (k3x : Int32) (k3y : Int32) (k3z : Int32) (p1 : Int32) (uu : Int32) (h : fX0_climb va vb vc k1x k1y k1z p1 = some uu) : Met l yX0_climb wsX0_climb ({ frames := 0, cells := 0, slots := 0, locals := 0 }) (cPre D cI cJ cZ tP (WC_ q cI cZ vnum vsz vfr vfo vli va vb vc ve vth vrk vcm vkx vky vkz vmk vre vro vwi vla vlb vtu k0x k0y k0z k1x k1y k1z k2x k2y k2z k3x k3y k3z) sz [.ref (q 21), .ref (q 1), .int p1]) (cQi D (va_A (WC_ q cI cZ vnum vsz vfr vfo vli va vb vc ve vth vrk vcm vkx vky vkz vmk vre vro vwi vla vlb vtu k0x k0y k0z k1x k1y k1z k2x k2y k2z k3x k3y k3z) sz) (WC_ q cI cZ vnum vsz vfr vfo vli va vb vc ve vth vrk vcm vkx vky vkz vmk vre vro vwi vla vlb vtu k0x k0y k0z k1x k1y k1z k2x k2y k2z k3x k3y k3z) uu) 0 0 (va_A (WC_ q cI cZ vnum vsz vfr vfo vli va vb vc ve vth vrk vcm vkx vky vkz vmk vre vro vwi vla vlb vtu k0x k0y k0z k1x k1y k1z k2x k2y k2z k3x k3y k3z) sz) := by
  refine Met.ofW (cc := cX0_climb) (maxL := 3) (ret := (some .int)) (by decide) rfl ?_
  intro p e s m args below meth c s₁ B hml hv
  obtain ⟨rfl, hsz, hP, hK, hN, hD0, hZ⟩ := hv
  have hx := B.exec
  have hb := B.bytes
  have hr := B.returns
  have hts := atoms_spec (ws := wsX0_climb) B.pre
  have hown : s.vm.findClass RX0 = some m.cls := findClass_of_methodNamed B.named
  have hlocks := B.notSynchronized
  subst hsz
  have hD := hD0.self (sz := s.heap.size)
  generalize hAe : va_A (WC_ q cI cZ vnum vsz vfr vfo vli va vb vc ve vth vrk vcm vkx vky vkz vmk vre vro vwi vla vlb vtu k0x k0y k0z k1x k1y k1z k2x k2y k2z k3x k3y k3z) s.heap.size = A at hD hZ ⊢
  have hA : ∀ q : Nat, s.heap.size ≤ q → A q := fun q h => by rw [← hAe]; exact Or.inr h
  have hS : va_S A s.heap s.heap [] := va_S.rf
  have hl := lv_entry ([.ref (q 21), .ref (q 1), .int p1]) (n := 3) (Nat.le_of_ble_eq_true rfl)
  rw [lg_entry_eq]
  generalize (lg_sl ([.ref (q 21), .ref (q 1), .int p1]) ++ List.replicate (3 - (lg_sl ([.ref (q 21), .ref (q 1), .int p1])).length) Slot.unset).toArray = ls at hl ⊢
  have hl : lv_has ls 3 [(0, .ref (q 21)), (1, .ref (q 1)), (2, .int p1)] := hl
  unfold fX0_climb at h
  refine lv_aload_n hx hb dX0_climb_0 rfl (lv_at hl 1 rfl) ?_
  refine va_getN (D := D) (ci := 3) (v := .ref (q 2)) (C := RX3) (T := TX3) (N := 7) hx hb hts wiX0_climb_X3 hown hK hP 1 rfl rfl 1 (by decide) (NW_f hN 10 rfl) (fun _ h9 => h9) rfl dX0_climb_1 ?_
  refine lv_iload_n hx hb dX0_climb_4 rfl (lv_at hl 2 rfl) ?_
  obtain ⟨i1, h⟩ := ck_some h
  refine va_iald hx hb hK hP 2 0 rfl rfl i1 dX0_climb_5 ?_
  refine lv_aload_n hx hb dX0_climb_6 rfl (lv_at hl 0 rfl) ?_
  refine va_get (D := D) (ci := 0) (v := .int k1x) (C := RX0) (T := TX0) (N := 3) hx hb hts wiX0_climb_X0 hown hK hP 21 rfl rfl 0 (by decide) (hts _ wmX0_climb_0) (fun _ h9 => h9) rfl dX0_climb_7 ?_
  refine lv_imul hx hb dX0_climb_10 ?_
  refine lv_aload_n hx hb dX0_climb_11 rfl (lv_at hl 1 rfl) ?_
  refine va_getN (D := D) (ci := 3) (v := .ref (q 3)) (C := RX3) (T := TX3) (N := 7) hx hb hts wiX0_climb_X3 hown hK hP 1 rfl rfl 2 (by decide) (NW_f hN 8 rfl) (fun _ h9 => h9) rfl dX0_climb_12 ?_
  refine lv_iload_n hx hb dX0_climb_15 rfl (lv_at hl 2 rfl) ?_
  obtain ⟨i2, h⟩ := ck_some h
  refine va_iald hx hb hK hP 3 0 rfl rfl i2 dX0_climb_16 ?_
  refine lv_aload_n hx hb dX0_climb_17 rfl (lv_at hl 0 rfl) ?_
  refine va_get (D := D) (ci := 0) (v := .int k1y) (C := RX0) (T := TX0) (N := 3) hx hb hts wiX0_climb_X0 hown hK hP 21 rfl rfl 1 (by decide) (hts _ wmX0_climb_1) (fun _ h9 => h9) rfl dX0_climb_18 ?_
  refine lv_imul hx hb dX0_climb_21 ?_
  refine lv_iadd hx hb dX0_climb_22 ?_
  refine lv_aload_n hx hb dX0_climb_23 rfl (lv_at hl 1 rfl) ?_
  refine va_getN (D := D) (ci := 3) (v := .ref (q 4)) (C := RX3) (T := TX3) (N := 7) hx hb hts wiX0_climb_X3 hown hK hP 1 rfl rfl 3 (by decide) (NW_f hN 9 rfl) (fun _ h9 => h9) rfl dX0_climb_24 ?_
  refine lv_iload_n hx hb dX0_climb_27 rfl (lv_at hl 2 rfl) ?_
  obtain ⟨i3, h⟩ := ck_some h
  refine va_iald hx hb hK hP 4 0 rfl rfl i3 dX0_climb_28 ?_
  refine lv_aload_n hx hb dX0_climb_29 rfl (lv_at hl 0 rfl) ?_
  refine va_get (D := D) (ci := 0) (v := .int k1z) (C := RX0) (T := TX0) (N := 3) hx hb hts wiX0_climb_X0 hown hK hP 21 rfl rfl 2 (by decide) (hts _ wmX0_climb_2) (fun _ h9 => h9) rfl dX0_climb_30 ?_
  refine lv_imul hx hb dX0_climb_33 ?_
  refine lv_iadd hx hb dX0_climb_34 ?_
  obtain rfl := Option.some.inj h
  exact W.iret (v := ((((va p1.toNatClampNeg) * k1x) + ((vb p1.toNatClampNeg) * k1y)) + ((vc p1.toNatClampNeg) * k1z))) hx hb hr (fun t ht hW => ⟨⟨((((va p1.toNatClampNeg) * k1x) + ((vb p1.toNatClampNeg) * k1y)) + ((vc p1.toNatClampNeg) * k1z)), (), rfl, rfl, by rw [ht]; exact hP, hD⟩, hS.F ht⟩) hS.2.2 dX0_climb_35

-- X0_isNothing
theorem wmX0_isNothing_0 : (.fieldLink RX0 29 "SpaceWalls$Arrow" "x" "I" : Cond) ∈ wsX0_isNothing := by decide +kernel
theorem wmX0_isNothing_1 : (.fieldLink RX0 33 "SpaceWalls$Arrow" "y" "I" : Cond) ∈ wsX0_isNothing := by decide +kernel
theorem wmX0_isNothing_2 : (.fieldLink RX0 36 "SpaceWalls$Arrow" "z" "I" : Cond) ∈ wsX0_isNothing := by decide +kernel
theorem wiX0_isNothing_X0 : ∀ w ∈ u_ws RX0 TX0 3, w ∈ wsX0_isNothing := by decide +kernel
set_option maxHeartbeats 8000000 in
set_option maxRecDepth 100000 in
theorem kX0_isNothing_r0 (l : Launch) (D : va_G) (q : Nat → Nat) (cI cJ cZ : ClassId) (tP sz : Nat) (vnum : Int32) (vsz : Int32) (vfr : Int32) (vfo : Int32) (vli : Int32) (va : (Nat → Int32)) (vb : (Nat → Int32)) (vc : (Nat → Int32)) (ve : (Nat → Int32)) (vth : (Nat → Int32)) (vrk : (Nat → Int32)) (vcm : (Nat → Int32)) (vkx : (Nat → Int32)) (vky : (Nat → Int32)) (vkz : (Nat → Int32)) (vmk : (Nat → Int32)) (vre : (Nat → Int32)) (vro : (Nat → Int32)) (vwi : (Nat → Int32)) (vla : (Nat → Int32)) (vlb : (Nat → Int32)) (vtu : (Nat → Int32)) (k0x : Int32) (k0y : Int32) (k0z : Int32) (k1x : Int32) (k1y : Int32) (k1z : Int32) (k2x : Int32) (k2y : Int32) (k2z : Int32) (k3x : Int32) (k3y : Int32) (k3z : Int32)  (uu : Int32) (h : fX0_isNothing k0x k0y k0z = some uu) : Met l yX0_isNothing wsX0_isNothing ({ frames := 0, cells := 0, slots := 0, locals := 0 }) (cPre D cI cJ cZ tP (WC_ q cI cZ vnum vsz vfr vfo vli va vb vc ve vth vrk vcm vkx vky vkz vmk vre vro vwi vla vlb vtu k0x k0y k0z k1x k1y k1z k2x k2y k2z k3x k3y k3z) sz [.ref (q 13)]) (cQi D (va_A (WC_ q cI cZ vnum vsz vfr vfo vli va vb vc ve vth vrk vcm vkx vky vkz vmk vre vro vwi vla vlb vtu k0x k0y k0z k1x k1y k1z k2x k2y k2z k3x k3y k3z) sz) (WC_ q cI cZ vnum vsz vfr vfo vli va vb vc ve vth vrk vcm vkx vky vkz vmk vre vro vwi vla vlb vtu k0x k0y k0z k1x k1y k1z k2x k2y k2z k3x k3y k3z) uu) 0 0 (va_A (WC_ q cI cZ vnum vsz vfr vfo vli va vb vc ve vth vrk vcm vkx vky vkz vmk vre vro vwi vla vlb vtu k0x k0y k0z k1x k1y k1z k2x k2y k2z k3x k3y k3z) sz) := by
  refine Met.ofW (cc := cX0_isNothing) (maxL := 1) (ret := (some .boolean)) (by decide) rfl ?_
  intro p e s m args below meth c s₁ B hml hv
  obtain ⟨rfl, hsz, hP, hK, hN, hD0, hZ⟩ := hv
  have hx := B.exec
  have hb := B.bytes
  have hr := B.returns
  have hts := atoms_spec (ws := wsX0_isNothing) B.pre
  have hown : s.vm.findClass RX0 = some m.cls := findClass_of_methodNamed B.named
  have hlocks := B.notSynchronized
  subst hsz
  have hD := hD0.self (sz := s.heap.size)
  generalize hAe : va_A (WC_ q cI cZ vnum vsz vfr vfo vli va vb vc ve vth vrk vcm vkx vky vkz vmk vre vro vwi vla vlb vtu k0x k0y k0z k1x k1y k1z k2x k2y k2z k3x k3y k3z) s.heap.size = A at hD hZ ⊢
  have hA : ∀ q : Nat, s.heap.size ≤ q → A q := fun q h => by rw [← hAe]; exact Or.inr h
  have hS : va_S A s.heap s.heap [] := va_S.rf
  have hl := lv_entry ([.ref (q 13)]) (n := 1) (Nat.le_of_ble_eq_true rfl)
  rw [lg_entry_eq]
  generalize (lg_sl ([.ref (q 13)]) ++ List.replicate (1 - (lg_sl ([.ref (q 13)])).length) Slot.unset).toArray = ls at hl ⊢
  have hl : lv_has ls 1 [(0, .ref (q 13))] := hl
  unfold fX0_isNothing at h
  refine lv_aload_n hx hb dX0_isNothing_0 rfl (lv_at hl 0 rfl) ?_
  refine va_get (D := D) (ci := 0) (v := .int k0x) (C := RX0) (T := TX0) (N := 3) hx hb hts wiX0_isNothing_X0 hown hK hP 13 rfl rfl 0 (by decide) (hts _ wmX0_isNothing_0) (fun _ h9 => h9) rfl dX0_isNothing_1 ?_
  refine lv_if_ne (tgt := 25) hx hb dX0_isNothing_4 (by decide) (fun c1 => ?_) (fun c1 => ?_)
  · have h := (if_neg c1).symm.trans h
    refine lv_iconst (v := (0 : Int32)) hx hb dX0_isNothing_25 (by decide) ?_
    obtain rfl := Option.some.inj h
    exact W.zret (v := (0 : Int32)) hx hb hr (by decide) (fun t ht hW => ⟨⟨(0 : Int32), (), rfl, rfl, by rw [ht]; exact hP, hD⟩, hS.F ht⟩) hS.2.2 dX0_isNothing_26
  · have h := (if_pos c1).symm.trans h
    refine lv_aload_n hx hb dX0_isNothing_7 rfl (lv_at hl 0 rfl) ?_
    refine va_get (D := D) (ci := 0) (v := .int k0y) (C := RX0) (T := TX0) (N := 3) hx hb hts wiX0_isNothing_X0 hown hK hP 13 rfl rfl 1 (by decide) (hts _ wmX0_isNothing_1) (fun _ h9 => h9) rfl dX0_isNothing_8 ?_
    refine lv_if_ne (tgt := 25) hx hb dX0_isNothing_11 (by decide) (fun c2 => ?_) (fun c2 => ?_)
    · have h := (if_neg c2).symm.trans h
      refine lv_iconst (v := (0 : Int32)) hx hb dX0_isNothing_25 (by decide) ?_
      obtain rfl := Option.some.inj h
      exact W.zret (v := (0 : Int32)) hx hb hr (by decide) (fun t ht hW => ⟨⟨(0 : Int32), (), rfl, rfl, by rw [ht]; exact hP, hD⟩, hS.F ht⟩) hS.2.2 dX0_isNothing_26
    · have h := (if_pos c2).symm.trans h
      refine lv_aload_n hx hb dX0_isNothing_14 rfl (lv_at hl 0 rfl) ?_
      refine va_get (D := D) (ci := 0) (v := .int k0z) (C := RX0) (T := TX0) (N := 3) hx hb hts wiX0_isNothing_X0 hown hK hP 13 rfl rfl 2 (by decide) (hts _ wmX0_isNothing_2) (fun _ h9 => h9) rfl dX0_isNothing_15 ?_
      refine lv_if_ne (tgt := 25) hx hb dX0_isNothing_18 (by decide) (fun c3 => ?_) (fun c3 => ?_)
      · have h := (if_neg c3).symm.trans h
        refine lv_iconst (v := (0 : Int32)) hx hb dX0_isNothing_25 (by decide) ?_
        obtain rfl := Option.some.inj h
        exact W.zret (v := (0 : Int32)) hx hb hr (by decide) (fun t ht hW => ⟨⟨(0 : Int32), (), rfl, rfl, by rw [ht]; exact hP, hD⟩, hS.F ht⟩) hS.2.2 dX0_isNothing_26
      · have h := (if_pos c3).symm.trans h
        refine lv_iconst (v := (1 : Int32)) hx hb dX0_isNothing_21 (by decide) ?_
        refine lv_goto (tgt := 26) hx hb dX0_isNothing_22 (by decide) ?_
        obtain rfl := Option.some.inj h
        exact W.zret (v := (1 : Int32)) hx hb hr (by decide) (fun t ht hW => ⟨⟨(1 : Int32), (), rfl, rfl, by rw [ht]; exact hP, hD⟩, hS.F ht⟩) hS.2.2 dX0_isNothing_26

-- X0_isNothing
set_option maxHeartbeats 8000000 in
set_option maxRecDepth 100000 in
theorem kX0_isNothing_r1 (l : Launch) (D : va_G) (q : Nat → Nat) (cI cJ cZ : ClassId) (tP sz : Nat) (vnum : Int32) (vsz : Int32) (vfr : Int32) (vfo : Int32) (vli : Int32) (va : (Nat → Int32)) (vb : (Nat → Int32)) (vc : (Nat → Int32)) (ve : (Nat → Int32)) (vth : (Nat → Int32)) (vrk : (Nat → Int32)) (vcm : (Nat → Int32)) (vkx : (Nat → Int32)) (vky : (Nat → Int32)) (vkz : (Nat → Int32)) (vmk : (Nat → Int32)) (vre : (Nat → Int32)) (vro : (Nat → Int32)) (vwi : (Nat → Int32)) (vla : (Nat → Int32)) (vlb : (Nat → Int32)) (vtu : (Nat → Int32)) (k0x : Int32) (k0y : Int32) (k0z : Int32) (k1x : Int32) (k1y : Int32) (k1z : Int32) (k2x : Int32) (k2y : Int32) (k2z : Int32) (k3x : Int32) (k3y : Int32) (k3z : Int32)  (uu : Int32) (h : fX0_isNothing k1x k1y k1z = some uu) : Met l yX0_isNothing wsX0_isNothing ({ frames := 0, cells := 0, slots := 0, locals := 0 }) (cPre D cI cJ cZ tP (WC_ q cI cZ vnum vsz vfr vfo vli va vb vc ve vth vrk vcm vkx vky vkz vmk vre vro vwi vla vlb vtu k0x k0y k0z k1x k1y k1z k2x k2y k2z k3x k3y k3z) sz [.ref (q 21)]) (cQi D (va_A (WC_ q cI cZ vnum vsz vfr vfo vli va vb vc ve vth vrk vcm vkx vky vkz vmk vre vro vwi vla vlb vtu k0x k0y k0z k1x k1y k1z k2x k2y k2z k3x k3y k3z) sz) (WC_ q cI cZ vnum vsz vfr vfo vli va vb vc ve vth vrk vcm vkx vky vkz vmk vre vro vwi vla vlb vtu k0x k0y k0z k1x k1y k1z k2x k2y k2z k3x k3y k3z) uu) 0 0 (va_A (WC_ q cI cZ vnum vsz vfr vfo vli va vb vc ve vth vrk vcm vkx vky vkz vmk vre vro vwi vla vlb vtu k0x k0y k0z k1x k1y k1z k2x k2y k2z k3x k3y k3z) sz) := by
  refine Met.ofW (cc := cX0_isNothing) (maxL := 1) (ret := (some .boolean)) (by decide) rfl ?_
  intro p e s m args below meth c s₁ B hml hv
  obtain ⟨rfl, hsz, hP, hK, hN, hD0, hZ⟩ := hv
  have hx := B.exec
  have hb := B.bytes
  have hr := B.returns
  have hts := atoms_spec (ws := wsX0_isNothing) B.pre
  have hown : s.vm.findClass RX0 = some m.cls := findClass_of_methodNamed B.named
  have hlocks := B.notSynchronized
  subst hsz
  have hD := hD0.self (sz := s.heap.size)
  generalize hAe : va_A (WC_ q cI cZ vnum vsz vfr vfo vli va vb vc ve vth vrk vcm vkx vky vkz vmk vre vro vwi vla vlb vtu k0x k0y k0z k1x k1y k1z k2x k2y k2z k3x k3y k3z) s.heap.size = A at hD hZ ⊢
  have hA : ∀ q : Nat, s.heap.size ≤ q → A q := fun q h => by rw [← hAe]; exact Or.inr h
  have hS : va_S A s.heap s.heap [] := va_S.rf
  have hl := lv_entry ([.ref (q 21)]) (n := 1) (Nat.le_of_ble_eq_true rfl)
  rw [lg_entry_eq]
  generalize (lg_sl ([.ref (q 21)]) ++ List.replicate (1 - (lg_sl ([.ref (q 21)])).length) Slot.unset).toArray = ls at hl ⊢
  have hl : lv_has ls 1 [(0, .ref (q 21))] := hl
  unfold fX0_isNothing at h
  refine lv_aload_n hx hb dX0_isNothing_0 rfl (lv_at hl 0 rfl) ?_
  refine va_get (D := D) (ci := 0) (v := .int k1x) (C := RX0) (T := TX0) (N := 3) hx hb hts wiX0_isNothing_X0 hown hK hP 21 rfl rfl 0 (by decide) (hts _ wmX0_isNothing_0) (fun _ h9 => h9) rfl dX0_isNothing_1 ?_
  refine lv_if_ne (tgt := 25) hx hb dX0_isNothing_4 (by decide) (fun c1 => ?_) (fun c1 => ?_)
  · have h := (if_neg c1).symm.trans h
    refine lv_iconst (v := (0 : Int32)) hx hb dX0_isNothing_25 (by decide) ?_
    obtain rfl := Option.some.inj h
    exact W.zret (v := (0 : Int32)) hx hb hr (by decide) (fun t ht hW => ⟨⟨(0 : Int32), (), rfl, rfl, by rw [ht]; exact hP, hD⟩, hS.F ht⟩) hS.2.2 dX0_isNothing_26
  · have h := (if_pos c1).symm.trans h
    refine lv_aload_n hx hb dX0_isNothing_7 rfl (lv_at hl 0 rfl) ?_
    refine va_get (D := D) (ci := 0) (v := .int k1y) (C := RX0) (T := TX0) (N := 3) hx hb hts wiX0_isNothing_X0 hown hK hP 21 rfl rfl 1 (by decide) (hts _ wmX0_isNothing_1) (fun _ h9 => h9) rfl dX0_isNothing_8 ?_
    refine lv_if_ne (tgt := 25) hx hb dX0_isNothing_11 (by decide) (fun c2 => ?_) (fun c2 => ?_)
    · have h := (if_neg c2).symm.trans h
      refine lv_iconst (v := (0 : Int32)) hx hb dX0_isNothing_25 (by decide) ?_
      obtain rfl := Option.some.inj h
      exact W.zret (v := (0 : Int32)) hx hb hr (by decide) (fun t ht hW => ⟨⟨(0 : Int32), (), rfl, rfl, by rw [ht]; exact hP, hD⟩, hS.F ht⟩) hS.2.2 dX0_isNothing_26
    · have h := (if_pos c2).symm.trans h
      refine lv_aload_n hx hb dX0_isNothing_14 rfl (lv_at hl 0 rfl) ?_
      refine va_get (D := D) (ci := 0) (v := .int k1z) (C := RX0) (T := TX0) (N := 3) hx hb hts wiX0_isNothing_X0 hown hK hP 21 rfl rfl 2 (by decide) (hts _ wmX0_isNothing_2) (fun _ h9 => h9) rfl dX0_isNothing_15 ?_
      refine lv_if_ne (tgt := 25) hx hb dX0_isNothing_18 (by decide) (fun c3 => ?_) (fun c3 => ?_)
      · have h := (if_neg c3).symm.trans h
        refine lv_iconst (v := (0 : Int32)) hx hb dX0_isNothing_25 (by decide) ?_
        obtain rfl := Option.some.inj h
        exact W.zret (v := (0 : Int32)) hx hb hr (by decide) (fun t ht hW => ⟨⟨(0 : Int32), (), rfl, rfl, by rw [ht]; exact hP, hD⟩, hS.F ht⟩) hS.2.2 dX0_isNothing_26
      · have h := (if_pos c3).symm.trans h
        refine lv_iconst (v := (1 : Int32)) hx hb dX0_isNothing_21 (by decide) ?_
        refine lv_goto (tgt := 26) hx hb dX0_isNothing_22 (by decide) ?_
        obtain rfl := Option.some.inj h
        exact W.zret (v := (1 : Int32)) hx hb hr (by decide) (fun t ht hW => ⟨⟨(1 : Int32), (), rfl, rfl, by rw [ht]; exact hP, hD⟩, hS.F ht⟩) hS.2.2 dX0_isNothing_26
