-- X3_holds
theorem wmX3_holds_0 : (.fieldLink RX3 31 "SpaceWalls$Planes" "size" "I" : Cond) ∈ wsX3_holds := by decide +kernel
theorem wiX3_holds_X3 : ∀ w ∈ u_ws RX3 TX3 7, w ∈ wsX3_holds := by decide +kernel
set_option maxHeartbeats 8000000 in
set_option maxRecDepth 100000 in
theorem kX3_holds (l : Launch) (D : va_G) (q : Nat → Nat) (cI cJ cZ : ClassId) (tP sz : Nat) (vnum : Int32) (vsz : Int32) (vfr : Int32) (vfo : Int32) (vli : Int32) (va : (Nat → Int32)) (vb : (Nat → Int32)) (vc : (Nat → Int32)) (ve : (Nat → Int32)) (vth : (Nat → Int32)) (vrk : (Nat → Int32)) (vcm : (Nat → Int32)) (vkx : (Nat → Int32)) (vky : (Nat → Int32)) (vkz : (Nat → Int32)) (vmk : (Nat → Int32)) (vre : (Nat → Int32)) (vro : (Nat → Int32)) (vwi : (Nat → Int32)) (vla : (Nat → Int32)) (vlb : (Nat → Int32)) (vtu : (Nat → Int32)) (k0x : Int32) (k0y : Int32) (k0z : Int32) (k1x : Int32) (k1y : Int32) (k1z : Int32) (k2x : Int32) (k2y : Int32) (k2z : Int32) (k3x : Int32) (k3y : Int32) (k3z : Int32) (p1 : Int32) (uu : Int32) (h : fX3_holds vsz p1 = some uu) : Met l yX3_holds wsX3_holds ({ frames := 0, cells := 0, slots := 0, locals := 0 }) (cPre D cI cJ cZ tP (WC_ q cI cZ vnum vsz vfr vfo vli va vb vc ve vth vrk vcm vkx vky vkz vmk vre vro vwi vla vlb vtu k0x k0y k0z k1x k1y k1z k2x k2y k2z k3x k3y k3z) sz [.ref (q 1), .int p1]) (cQi D (va_A (WC_ q cI cZ vnum vsz vfr vfo vli va vb vc ve vth vrk vcm vkx vky vkz vmk vre vro vwi vla vlb vtu k0x k0y k0z k1x k1y k1z k2x k2y k2z k3x k3y k3z) sz) (WC_ q cI cZ vnum vsz vfr vfo vli va vb vc ve vth vrk vcm vkx vky vkz vmk vre vro vwi vla vlb vtu k0x k0y k0z k1x k1y k1z k2x k2y k2z k3x k3y k3z) uu) 0 0 (va_A (WC_ q cI cZ vnum vsz vfr vfo vli va vb vc ve vth vrk vcm vkx vky vkz vmk vre vro vwi vla vlb vtu k0x k0y k0z k1x k1y k1z k2x k2y k2z k3x k3y k3z) sz) := by
  refine Met.ofW (cc := cX3_holds) (maxL := 2) (ret := (some .boolean)) (by decide) rfl ?_
  intro p e s m args below meth c s₁ B hml hv
  obtain ⟨rfl, hsz, hP, hK, hN, hD0, hZ⟩ := hv
  have hx := B.exec
  have hb := B.bytes
  have hr := B.returns
  have hts := atoms_spec (ws := wsX3_holds) B.pre
  have hown : s.vm.findClass RX3 = some m.cls := findClass_of_methodNamed B.named
  have hlocks := B.notSynchronized
  subst hsz
  have hD := hD0.self (sz := s.heap.size)
  generalize hAe : va_A (WC_ q cI cZ vnum vsz vfr vfo vli va vb vc ve vth vrk vcm vkx vky vkz vmk vre vro vwi vla vlb vtu k0x k0y k0z k1x k1y k1z k2x k2y k2z k3x k3y k3z) s.heap.size = A at hD hZ ⊢
  have hA : ∀ q : Nat, s.heap.size ≤ q → A q := fun q h => by rw [← hAe]; exact Or.inr h
  have hS : va_S A s.heap s.heap [] := va_S.rf
  have hl := lv_entry ([.ref (q 1), .int p1]) (n := 2) (Nat.le_of_ble_eq_true rfl)
  rw [lg_entry_eq]
  generalize (lg_sl ([.ref (q 1), .int p1]) ++ List.replicate (2 - (lg_sl ([.ref (q 1), .int p1])).length) Slot.unset).toArray = ls at hl ⊢
  have hl : lv_has ls 2 [(0, .ref (q 1)), (1, .int p1)] := hl
  unfold fX3_holds at h
  refine lv_iload_n hx hb dX3_holds_0 rfl (lv_at hl 1 rfl) ?_
  refine lv_if_lt (tgt := 16) hx hb dX3_holds_1 (by decide) (fun c1 => ?_) (fun c1 => ?_)
  · have h := (if_pos c1).symm.trans h
    refine lv_iconst (v := (0 : Int32)) hx hb dX3_holds_16 (by decide) ?_
    obtain rfl := Option.some.inj h
    exact W.zret (v := (0 : Int32)) hx hb hr (by decide) (fun t ht hW => ⟨⟨(0 : Int32), (), rfl, rfl, by rw [ht]; exact hP, hD⟩, hS.F ht⟩) hS.2.2 dX3_holds_17
  · have h := (if_neg c1).symm.trans h
    refine lv_iload_n hx hb dX3_holds_4 rfl (lv_at hl 1 rfl) ?_
    refine lv_aload_n hx hb dX3_holds_5 rfl (lv_at hl 0 rfl) ?_
    refine va_get (D := D) (ci := 3) (v := .int vsz) (C := RX3) (T := TX3) (N := 7) hx hb hts wiX3_holds_X3 hown hK hP 1 rfl rfl 6 (by decide) (hts _ wmX3_holds_0) (fun _ h9 => h9) rfl dX3_holds_6 ?_
    refine lv_icmp_ge (tgt := 16) hx hb dX3_holds_9 (by decide) (fun c2 => ?_) (fun c2 => ?_)
    · have h := (if_pos c2).symm.trans h
      refine lv_iconst (v := (0 : Int32)) hx hb dX3_holds_16 (by decide) ?_
      obtain rfl := Option.some.inj h
      exact W.zret (v := (0 : Int32)) hx hb hr (by decide) (fun t ht hW => ⟨⟨(0 : Int32), (), rfl, rfl, by rw [ht]; exact hP, hD⟩, hS.F ht⟩) hS.2.2 dX3_holds_17
    · have h := (if_neg c2).symm.trans h
      refine lv_iconst (v := (1 : Int32)) hx hb dX3_holds_12 (by decide) ?_
      refine lv_goto (tgt := 17) hx hb dX3_holds_13 (by decide) ?_
      obtain rfl := Option.some.inj h
      exact W.zret (v := (1 : Int32)) hx hb hr (by decide) (fun t ht hW => ⟨⟨(1 : Int32), (), rfl, rfl, by rw [ht]; exact hP, hD⟩, hS.F ht⟩) hS.2.2 dX3_holds_17

-- X3_isPlane
theorem wmX3_isPlane_0 : (.fieldLink RX3 27 "SpaceWalls$Planes" "numbers" "I" : Cond) ∈ wsX3_isPlane := by decide +kernel
theorem wiX3_isPlane_X3 : ∀ w ∈ u_ws RX3 TX3 7, w ∈ wsX3_isPlane := by decide +kernel
set_option maxHeartbeats 8000000 in
set_option maxRecDepth 100000 in
theorem kX3_isPlane (l : Launch) (D : va_G) (q : Nat → Nat) (cI cJ cZ : ClassId) (tP sz : Nat) (vnum : Int32) (vsz : Int32) (vfr : Int32) (vfo : Int32) (vli : Int32) (va : (Nat → Int32)) (vb : (Nat → Int32)) (vc : (Nat → Int32)) (ve : (Nat → Int32)) (vth : (Nat → Int32)) (vrk : (Nat → Int32)) (vcm : (Nat → Int32)) (vkx : (Nat → Int32)) (vky : (Nat → Int32)) (vkz : (Nat → Int32)) (vmk : (Nat → Int32)) (vre : (Nat → Int32)) (vro : (Nat → Int32)) (vwi : (Nat → Int32)) (vla : (Nat → Int32)) (vlb : (Nat → Int32)) (vtu : (Nat → Int32)) (k0x : Int32) (k0y : Int32) (k0z : Int32) (k1x : Int32) (k1y : Int32) (k1z : Int32) (k2x : Int32) (k2y : Int32) (k2z : Int32) (k3x : Int32) (k3y : Int32) (k3z : Int32) (p1 : Int32) (p2 : Int32) (p3 : Int32) (p4 : Int32) (uu : Int32) (h : fX3_isPlane vnum p1 p2 p3 p4 = some uu) : Met l yX3_isPlane wsX3_isPlane ({ frames := 1, cells := 0, slots := 0, locals := 21 }) (cPre D cI cJ cZ tP (WC_ q cI cZ vnum vsz vfr vfo vli va vb vc ve vth vrk vcm vkx vky vkz vmk vre vro vwi vla vlb vtu k0x k0y k0z k1x k1y k1z k2x k2y k2z k3x k3y k3z) sz [.ref (q 1), .int p1, .int p2, .int p3, .int p4]) (cQi D (va_A (WC_ q cI cZ vnum vsz vfr vfo vli va vb vc ve vth vrk vcm vkx vky vkz vmk vre vro vwi vla vlb vtu k0x k0y k0z k1x k1y k1z k2x k2y k2z k3x k3y k3z) sz) (WC_ q cI cZ vnum vsz vfr vfo vli va vb vc ve vth vrk vcm vkx vky vkz vmk vre vro vwi vla vlb vtu k0x k0y k0z k1x k1y k1z k2x k2y k2z k3x k3y k3z) uu) 0 0 (va_A (WC_ q cI cZ vnum vsz vfr vfo vli va vb vc ve vth vrk vcm vkx vky vkz vmk vre vro vwi vla vlb vtu k0x k0y k0z k1x k1y k1z k2x k2y k2z k3x k3y k3z) sz) := by
  refine Met.ofW (cc := cX3_isPlane) (maxL := 5) (ret := (some .boolean)) (by decide) rfl ?_
  intro p e s m args below meth c s₁ B hml hv
  obtain ⟨rfl, hsz, hP, hK, hN, hD0, hZ⟩ := hv
  have hx := B.exec
  have hb := B.bytes
  have hr := B.returns
  have hts := atoms_spec (ws := wsX3_isPlane) B.pre
  have hown : s.vm.findClass RX3 = some m.cls := findClass_of_methodNamed B.named
  have hlocks := B.notSynchronized
  subst hsz
  have hD := hD0.self (sz := s.heap.size)
  generalize hAe : va_A (WC_ q cI cZ vnum vsz vfr vfo vli va vb vc ve vth vrk vcm vkx vky vkz vmk vre vro vwi vla vlb vtu k0x k0y k0z k1x k1y k1z k2x k2y k2z k3x k3y k3z) s.heap.size = A at hD hZ ⊢
  have hA : ∀ q : Nat, s.heap.size ≤ q → A q := fun q h => by rw [← hAe]; exact Or.inr h
  have hS : va_S A s.heap s.heap [] := va_S.rf
  have hl := lv_entry ([.ref (q 1), .int p1, .int p2, .int p3, .int p4]) (n := 5) (Nat.le_of_ble_eq_true rfl)
  rw [lg_entry_eq]
  generalize (lg_sl ([.ref (q 1), .int p1, .int p2, .int p3, .int p4]) ++ List.replicate (5 - (lg_sl ([.ref (q 1), .int p1, .int p2, .int p3, .int p4])).length) Slot.unset).toArray = ls at hl ⊢
  have hl : lv_has ls 5 [(0, .ref (q 1)), (1, .int p1), (2, .int p2), (3, .int p3), (4, .int p4)] := hl
  unfold fX3_isPlane at h
  refine lv_iload_n hx hb dX3_isPlane_0 rfl (lv_at hl 1 rfl) ?_
  refine lv_bipush (v := (9 : Int32)) hx hb dX3_isPlane_1 (by decide) ?_
  obtain ⟨u1, e2, h⟩ := bd_some h
  refine k_i0 (va_runS (As := [.int p1, .int (9 : Int32)]) (rest := []) ⟨hx, hb, hml, hown, hts⟩ (kX3_isWithin l D cI cJ cZ tP s.heap.size  p1 (9 : Int32) u1 e2) (va_cwS 2 hts gX3_isPlane_X3_isWithin rfl rfl rfl (by decide +kernel) ⟨Nat.le_of_ble_eq_true rfl, Nat.le_of_ble_eq_true rfl⟩) ⟨cPre_blind, cPre_at0 hK hN hS hA hZ⟩ rfl rfl hl.1 rfl (lv_room (Nat.le_of_ble_eq_true rfl)) dX3_isPlane_3 ⟨Nat.le_of_ble_eq_true rfl, Nat.le_of_ble_eq_true rfl⟩) hP hS hA (fun H locs hP hS => ?_)
  refine lv_if_eq (tgt := 37) hx hb dX3_isPlane_6 (by decide) (fun c3 => ?_) (fun c3 => ?_)
  · have h := (if_pos c3).symm.trans h
    refine lv_iconst (v := (0 : Int32)) hx hb dX3_isPlane_37 (by decide) ?_
    obtain rfl := Option.some.inj h
    exact W.zret (v := (0 : Int32)) hx hb hr (by decide) (fun t ht hW => ⟨⟨(0 : Int32), (), rfl, rfl, by rw [ht]; exact hP, hD⟩, hS.F ht⟩) hS.2.2 dX3_isPlane_38
  · have h := (if_neg c3).symm.trans h
    refine lv_iload_n hx hb dX3_isPlane_9 rfl (lv_at hl 2 rfl) ?_
    refine lv_bipush (v := (9 : Int32)) hx hb dX3_isPlane_10 (by decide) ?_
    obtain ⟨u4, e5, h⟩ := bd_some h
    refine k_i0 (va_runS (As := [.int p2, .int (9 : Int32)]) (rest := []) ⟨hx, hb, hml, hown, hts⟩ (kX3_isWithin l D cI cJ cZ tP H.size  p2 (9 : Int32) u4 e5) (va_cwS 2 hts gX3_isPlane_X3_isWithin rfl rfl rfl (by decide +kernel) ⟨Nat.le_of_ble_eq_true rfl, Nat.le_of_ble_eq_true rfl⟩) ⟨cPre_blind, cPre_at0 hK hN hS hA hZ⟩ rfl rfl hl.1 rfl (lv_room (Nat.le_of_ble_eq_true rfl)) dX3_isPlane_12 ⟨Nat.le_of_ble_eq_true rfl, Nat.le_of_ble_eq_true rfl⟩) hP hS hA (fun H locs hP hS => ?_)
    refine lv_if_eq (tgt := 37) hx hb dX3_isPlane_15 (by decide) (fun c6 => ?_) (fun c6 => ?_)
    · have h := (if_pos c6).symm.trans h
      refine lv_iconst (v := (0 : Int32)) hx hb dX3_isPlane_37 (by decide) ?_
      obtain rfl := Option.some.inj h
      exact W.zret (v := (0 : Int32)) hx hb hr (by decide) (fun t ht hW => ⟨⟨(0 : Int32), (), rfl, rfl, by rw [ht]; exact hP, hD⟩, hS.F ht⟩) hS.2.2 dX3_isPlane_38
    · have h := (if_neg c6).symm.trans h
      refine lv_iload_n hx hb dX3_isPlane_18 rfl (lv_at hl 3 rfl) ?_
      refine lv_bipush (v := (9 : Int32)) hx hb dX3_isPlane_19 (by decide) ?_
      obtain ⟨u7, e8, h⟩ := bd_some h
      refine k_i0 (va_runS (As := [.int p3, .int (9 : Int32)]) (rest := []) ⟨hx, hb, hml, hown, hts⟩ (kX3_isWithin l D cI cJ cZ tP H.size  p3 (9 : Int32) u7 e8) (va_cwS 2 hts gX3_isPlane_X3_isWithin rfl rfl rfl (by decide +kernel) ⟨Nat.le_of_ble_eq_true rfl, Nat.le_of_ble_eq_true rfl⟩) ⟨cPre_blind, cPre_at0 hK hN hS hA hZ⟩ rfl rfl hl.1 rfl (lv_room (Nat.le_of_ble_eq_true rfl)) dX3_isPlane_21 ⟨Nat.le_of_ble_eq_true rfl, Nat.le_of_ble_eq_true rfl⟩) hP hS hA (fun H locs hP hS => ?_)
      refine lv_if_eq (tgt := 37) hx hb dX3_isPlane_24 (by decide) (fun c9 => ?_) (fun c9 => ?_)
      · have h := (if_pos c9).symm.trans h
        refine lv_iconst (v := (0 : Int32)) hx hb dX3_isPlane_37 (by decide) ?_
        obtain rfl := Option.some.inj h
        exact W.zret (v := (0 : Int32)) hx hb hr (by decide) (fun t ht hW => ⟨⟨(0 : Int32), (), rfl, rfl, by rw [ht]; exact hP, hD⟩, hS.F ht⟩) hS.2.2 dX3_isPlane_38
      · have h := (if_neg c9).symm.trans h
        refine lv_iload hx hb dX3_isPlane_27 (lv_at hl 4 rfl) ?_
        refine lv_bipush (v := (99 : Int32)) hx hb dX3_isPlane_29 (by decide) ?_
        obtain ⟨u10, e11, h⟩ := bd_some h
        refine k_i0 (va_runS (As := [.int p4, .int (99 : Int32)]) (rest := []) ⟨hx, hb, hml, hown, hts⟩ (kX3_isWithin l D cI cJ cZ tP H.size  p4 (99 : Int32) u10 e11) (va_cwS 2 hts gX3_isPlane_X3_isWithin rfl rfl rfl (by decide +kernel) ⟨Nat.le_of_ble_eq_true rfl, Nat.le_of_ble_eq_true rfl⟩) ⟨cPre_blind, cPre_at0 hK hN hS hA hZ⟩ rfl rfl hl.1 rfl (lv_room (Nat.le_of_ble_eq_true rfl)) dX3_isPlane_31 ⟨Nat.le_of_ble_eq_true rfl, Nat.le_of_ble_eq_true rfl⟩) hP hS hA (fun H locs hP hS => ?_)
        refine lv_if_ne (tgt := 39) hx hb dX3_isPlane_34 (by decide) (fun c12 => ?_) (fun c12 => ?_)
        · have h := (if_neg c12).symm.trans h
          refine lv_aload_n hx hb dX3_isPlane_39 rfl (lv_at hl 0 rfl) ?_
          refine va_get (D := D) (ci := 3) (v := .int vnum) (C := RX3) (T := TX3) (N := 7) hx hb hts wiX3_isPlane_X3 hown hK hP 1 rfl rfl 0 (by decide) (hts _ wmX3_isPlane_0) (fun _ h9 => h9) rfl dX3_isPlane_40 ?_
          refine lv_iconst (v := (2 : Int32)) hx hb dX3_isPlane_43 (by decide) ?_
          refine lv_icmp_ge (tgt := 51) hx hb dX3_isPlane_44 (by decide) (fun c13 => ?_) (fun c13 => ?_)
          · have h := (if_pos c13).symm.trans h
            refine lv_aload_n hx hb dX3_isPlane_51 rfl (lv_at hl 0 rfl) ?_
            refine va_get (D := D) (ci := 3) (v := .int vnum) (C := RX3) (T := TX3) (N := 7) hx hb hts wiX3_isPlane_X3 hown hK hP 1 rfl rfl 0 (by decide) (hts _ wmX3_isPlane_0) (fun _ h9 => h9) rfl dX3_isPlane_52 ?_
            refine lv_iconst (v := (3 : Int32)) hx hb dX3_isPlane_55 (by decide) ?_
            refine lv_icmp_ge (tgt := 65) hx hb dX3_isPlane_56 (by decide) (fun c14 => ?_) (fun c14 => ?_)
            · have h := (if_pos c14).symm.trans h
              refine lv_iload_n hx hb dX3_isPlane_65 rfl (lv_at hl 1 rfl) ?_
              refine lv_if_ne (tgt := 77) hx hb dX3_isPlane_66 (by decide) (fun c15 => ?_) (fun c15 => ?_)
              · have h := (if_neg c15).symm.trans h
                refine lv_iconst (v := (1 : Int32)) hx hb dX3_isPlane_77 (by decide) ?_
                refine lv_goto (tgt := 82) hx hb dX3_isPlane_78 (by decide) ?_
                obtain rfl := Option.some.inj h
                exact W.zret (v := (1 : Int32)) hx hb hr (by decide) (fun t ht hW => ⟨⟨(1 : Int32), (), rfl, rfl, by rw [ht]; exact hP, hD⟩, hS.F ht⟩) hS.2.2 dX3_isPlane_82
              · have h := (if_pos c15).symm.trans h
                refine lv_iload_n hx hb dX3_isPlane_69 rfl (lv_at hl 2 rfl) ?_
                refine lv_if_ne (tgt := 77) hx hb dX3_isPlane_70 (by decide) (fun c16 => ?_) (fun c16 => ?_)
                · have h := (if_neg c16).symm.trans h
                  refine lv_iconst (v := (1 : Int32)) hx hb dX3_isPlane_77 (by decide) ?_
                  refine lv_goto (tgt := 82) hx hb dX3_isPlane_78 (by decide) ?_
                  obtain rfl := Option.some.inj h
                  exact W.zret (v := (1 : Int32)) hx hb hr (by decide) (fun t ht hW => ⟨⟨(1 : Int32), (), rfl, rfl, by rw [ht]; exact hP, hD⟩, hS.F ht⟩) hS.2.2 dX3_isPlane_82
                · have h := (if_pos c16).symm.trans h
                  refine lv_iload_n hx hb dX3_isPlane_73 rfl (lv_at hl 3 rfl) ?_
                  refine lv_if_eq (tgt := 81) hx hb dX3_isPlane_74 (by decide) (fun c17 => ?_) (fun c17 => ?_)
                  · have h := (if_pos c17).symm.trans h
                    refine lv_iconst (v := (0 : Int32)) hx hb dX3_isPlane_81 (by decide) ?_
                    obtain rfl := Option.some.inj h
                    exact W.zret (v := (0 : Int32)) hx hb hr (by decide) (fun t ht hW => ⟨⟨(0 : Int32), (), rfl, rfl, by rw [ht]; exact hP, hD⟩, hS.F ht⟩) hS.2.2 dX3_isPlane_82
                  · have h := (if_neg c17).symm.trans h
                    refine lv_iconst (v := (1 : Int32)) hx hb dX3_isPlane_77 (by decide) ?_
                    refine lv_goto (tgt := 82) hx hb dX3_isPlane_78 (by decide) ?_
                    obtain rfl := Option.some.inj h
                    exact W.zret (v := (1 : Int32)) hx hb hr (by decide) (fun t ht hW => ⟨⟨(1 : Int32), (), rfl, rfl, by rw [ht]; exact hP, hD⟩, hS.F ht⟩) hS.2.2 dX3_isPlane_82
            · have h := (if_neg c14).symm.trans h
              refine lv_iload_n hx hb dX3_isPlane_59 rfl (lv_at hl 3 rfl) ?_
              refine lv_if_eq (tgt := 65) hx hb dX3_isPlane_60 (by decide) (fun c18 => ?_) (fun c18 => ?_)
              · have h := (if_pos c18).symm.trans h
                refine lv_iload_n hx hb dX3_isPlane_65 rfl (lv_at hl 1 rfl) ?_
                refine lv_if_ne (tgt := 77) hx hb dX3_isPlane_66 (by decide) (fun c19 => ?_) (fun c19 => ?_)
                · have h := (if_neg c19).symm.trans h
                  refine lv_iconst (v := (1 : Int32)) hx hb dX3_isPlane_77 (by decide) ?_
                  refine lv_goto (tgt := 82) hx hb dX3_isPlane_78 (by decide) ?_
                  obtain rfl := Option.some.inj h
                  exact W.zret (v := (1 : Int32)) hx hb hr (by decide) (fun t ht hW => ⟨⟨(1 : Int32), (), rfl, rfl, by rw [ht]; exact hP, hD⟩, hS.F ht⟩) hS.2.2 dX3_isPlane_82
                · have h := (if_pos c19).symm.trans h
                  refine lv_iload_n hx hb dX3_isPlane_69 rfl (lv_at hl 2 rfl) ?_
                  refine lv_if_ne (tgt := 77) hx hb dX3_isPlane_70 (by decide) (fun c20 => ?_) (fun c20 => ?_)
                  · have h := (if_neg c20).symm.trans h
                    refine lv_iconst (v := (1 : Int32)) hx hb dX3_isPlane_77 (by decide) ?_
                    refine lv_goto (tgt := 82) hx hb dX3_isPlane_78 (by decide) ?_
                    obtain rfl := Option.some.inj h
                    exact W.zret (v := (1 : Int32)) hx hb hr (by decide) (fun t ht hW => ⟨⟨(1 : Int32), (), rfl, rfl, by rw [ht]; exact hP, hD⟩, hS.F ht⟩) hS.2.2 dX3_isPlane_82
                  · have h := (if_pos c20).symm.trans h
                    refine lv_iload_n hx hb dX3_isPlane_73 rfl (lv_at hl 3 rfl) ?_
                    refine lv_if_eq (tgt := 81) hx hb dX3_isPlane_74 (by decide) (fun c21 => ?_) (fun c21 => ?_)
                    · have h := (if_pos c21).symm.trans h
                      refine lv_iconst (v := (0 : Int32)) hx hb dX3_isPlane_81 (by decide) ?_
                      obtain rfl := Option.some.inj h
                      exact W.zret (v := (0 : Int32)) hx hb hr (by decide) (fun t ht hW => ⟨⟨(0 : Int32), (), rfl, rfl, by rw [ht]; exact hP, hD⟩, hS.F ht⟩) hS.2.2 dX3_isPlane_82
                    · have h := (if_neg c21).symm.trans h
                      refine lv_iconst (v := (1 : Int32)) hx hb dX3_isPlane_77 (by decide) ?_
                      refine lv_goto (tgt := 82) hx hb dX3_isPlane_78 (by decide) ?_
                      obtain rfl := Option.some.inj h
                      exact W.zret (v := (1 : Int32)) hx hb hr (by decide) (fun t ht hW => ⟨⟨(1 : Int32), (), rfl, rfl, by rw [ht]; exact hP, hD⟩, hS.F ht⟩) hS.2.2 dX3_isPlane_82
              · have h := (if_neg c18).symm.trans h
                refine lv_iconst (v := (0 : Int32)) hx hb dX3_isPlane_63 (by decide) ?_
                obtain rfl := Option.some.inj h
                exact W.zret (v := (0 : Int32)) hx hb hr (by decide) (fun t ht hW => ⟨⟨(0 : Int32), (), rfl, rfl, by rw [ht]; exact hP, hD⟩, hS.F ht⟩) hS.2.2 dX3_isPlane_64
          · have h := (if_neg c13).symm.trans h
            refine lv_iload_n hx hb dX3_isPlane_47 rfl (lv_at hl 2 rfl) ?_
            refine lv_if_ne (tgt := 63) hx hb dX3_isPlane_48 (by decide) (fun c22 => ?_) (fun c22 => ?_)
            · have h := (if_neg c22).symm.trans h
              refine lv_iconst (v := (0 : Int32)) hx hb dX3_isPlane_63 (by decide) ?_
              obtain rfl := Option.some.inj h
              exact W.zret (v := (0 : Int32)) hx hb hr (by decide) (fun t ht hW => ⟨⟨(0 : Int32), (), rfl, rfl, by rw [ht]; exact hP, hD⟩, hS.F ht⟩) hS.2.2 dX3_isPlane_64
            · have h := (if_pos c22).symm.trans h
              refine lv_aload_n hx hb dX3_isPlane_51 rfl (lv_at hl 0 rfl) ?_
              refine va_get (D := D) (ci := 3) (v := .int vnum) (C := RX3) (T := TX3) (N := 7) hx hb hts wiX3_isPlane_X3 hown hK hP 1 rfl rfl 0 (by decide) (hts _ wmX3_isPlane_0) (fun _ h9 => h9) rfl dX3_isPlane_52 ?_
              refine lv_iconst (v := (3 : Int32)) hx hb dX3_isPlane_55 (by decide) ?_
              refine lv_icmp_ge (tgt := 65) hx hb dX3_isPlane_56 (by decide) (fun c23 => ?_) (fun c23 => ?_)
              · have h := (if_pos c23).symm.trans h
                refine lv_iload_n hx hb dX3_isPlane_65 rfl (lv_at hl 1 rfl) ?_
                refine lv_if_ne (tgt := 77) hx hb dX3_isPlane_66 (by decide) (fun c24 => ?_) (fun c24 => ?_)
                · have h := (if_neg c24).symm.trans h
                  refine lv_iconst (v := (1 : Int32)) hx hb dX3_isPlane_77 (by decide) ?_
                  refine lv_goto (tgt := 82) hx hb dX3_isPlane_78 (by decide) ?_
                  obtain rfl := Option.some.inj h
                  exact W.zret (v := (1 : Int32)) hx hb hr (by decide) (fun t ht hW => ⟨⟨(1 : Int32), (), rfl, rfl, by rw [ht]; exact hP, hD⟩, hS.F ht⟩) hS.2.2 dX3_isPlane_82
                · have h := (if_pos c24).symm.trans h
                  refine lv_iload_n hx hb dX3_isPlane_69 rfl (lv_at hl 2 rfl) ?_
                  refine lv_if_ne (tgt := 77) hx hb dX3_isPlane_70 (by decide) (fun c25 => ?_) (fun c25 => ?_)
                  · have h := (if_neg c25).symm.trans h
                    refine lv_iconst (v := (1 : Int32)) hx hb dX3_isPlane_77 (by decide) ?_
                    refine lv_goto (tgt := 82) hx hb dX3_isPlane_78 (by decide) ?_
                    obtain rfl := Option.some.inj h
                    exact W.zret (v := (1 : Int32)) hx hb hr (by decide) (fun t ht hW => ⟨⟨(1 : Int32), (), rfl, rfl, by rw [ht]; exact hP, hD⟩, hS.F ht⟩) hS.2.2 dX3_isPlane_82
                  · have h := (if_pos c25).symm.trans h
                    refine lv_iload_n hx hb dX3_isPlane_73 rfl (lv_at hl 3 rfl) ?_
                    refine lv_if_eq (tgt := 81) hx hb dX3_isPlane_74 (by decide) (fun c26 => ?_) (fun c26 => ?_)
                    · have h := (if_pos c26).symm.trans h
                      refine lv_iconst (v := (0 : Int32)) hx hb dX3_isPlane_81 (by decide) ?_
                      obtain rfl := Option.some.inj h
                      exact W.zret (v := (0 : Int32)) hx hb hr (by decide) (fun t ht hW => ⟨⟨(0 : Int32), (), rfl, rfl, by rw [ht]; exact hP, hD⟩, hS.F ht⟩) hS.2.2 dX3_isPlane_82
                    · have h := (if_neg c26).symm.trans h
                      refine lv_iconst (v := (1 : Int32)) hx hb dX3_isPlane_77 (by decide) ?_
                      refine lv_goto (tgt := 82) hx hb dX3_isPlane_78 (by decide) ?_
                      obtain rfl := Option.some.inj h
                      exact W.zret (v := (1 : Int32)) hx hb hr (by decide) (fun t ht hW => ⟨⟨(1 : Int32), (), rfl, rfl, by rw [ht]; exact hP, hD⟩, hS.F ht⟩) hS.2.2 dX3_isPlane_82
              · have h := (if_neg c23).symm.trans h
                refine lv_iload_n hx hb dX3_isPlane_59 rfl (lv_at hl 3 rfl) ?_
                refine lv_if_eq (tgt := 65) hx hb dX3_isPlane_60 (by decide) (fun c27 => ?_) (fun c27 => ?_)
                · have h := (if_pos c27).symm.trans h
                  refine lv_iload_n hx hb dX3_isPlane_65 rfl (lv_at hl 1 rfl) ?_
                  refine lv_if_ne (tgt := 77) hx hb dX3_isPlane_66 (by decide) (fun c28 => ?_) (fun c28 => ?_)
                  · have h := (if_neg c28).symm.trans h
                    refine lv_iconst (v := (1 : Int32)) hx hb dX3_isPlane_77 (by decide) ?_
                    refine lv_goto (tgt := 82) hx hb dX3_isPlane_78 (by decide) ?_
                    obtain rfl := Option.some.inj h
                    exact W.zret (v := (1 : Int32)) hx hb hr (by decide) (fun t ht hW => ⟨⟨(1 : Int32), (), rfl, rfl, by rw [ht]; exact hP, hD⟩, hS.F ht⟩) hS.2.2 dX3_isPlane_82
                  · have h := (if_pos c28).symm.trans h
                    refine lv_iload_n hx hb dX3_isPlane_69 rfl (lv_at hl 2 rfl) ?_
                    refine lv_if_ne (tgt := 77) hx hb dX3_isPlane_70 (by decide) (fun c29 => ?_) (fun c29 => ?_)
                    · have h := (if_neg c29).symm.trans h
                      refine lv_iconst (v := (1 : Int32)) hx hb dX3_isPlane_77 (by decide) ?_
                      refine lv_goto (tgt := 82) hx hb dX3_isPlane_78 (by decide) ?_
                      obtain rfl := Option.some.inj h
                      exact W.zret (v := (1 : Int32)) hx hb hr (by decide) (fun t ht hW => ⟨⟨(1 : Int32), (), rfl, rfl, by rw [ht]; exact hP, hD⟩, hS.F ht⟩) hS.2.2 dX3_isPlane_82
                    · have h := (if_pos c29).symm.trans h
                      refine lv_iload_n hx hb dX3_isPlane_73 rfl (lv_at hl 3 rfl) ?_
                      refine lv_if_eq (tgt := 81) hx hb dX3_isPlane_74 (by decide) (fun c30 => ?_) (fun c30 => ?_)
                      · have h := (if_pos c30).symm.trans h
                        refine lv_iconst (v := (0 : Int32)) hx hb dX3_isPlane_81 (by decide) ?_
                        obtain rfl := Option.some.inj h
                        exact W.zret (v := (0 : Int32)) hx hb hr (by decide) (fun t ht hW => ⟨⟨(0 : Int32), (), rfl, rfl, by rw [ht]; exact hP, hD⟩, hS.F ht⟩) hS.2.2 dX3_isPlane_82
                      · have h := (if_neg c30).symm.trans h
                        refine lv_iconst (v := (1 : Int32)) hx hb dX3_isPlane_77 (by decide) ?_
                        refine lv_goto (tgt := 82) hx hb dX3_isPlane_78 (by decide) ?_
                        obtain rfl := Option.some.inj h
                        exact W.zret (v := (1 : Int32)) hx hb hr (by decide) (fun t ht hW => ⟨⟨(1 : Int32), (), rfl, rfl, by rw [ht]; exact hP, hD⟩, hS.F ht⟩) hS.2.2 dX3_isPlane_82
                · have h := (if_neg c27).symm.trans h
                  refine lv_iconst (v := (0 : Int32)) hx hb dX3_isPlane_63 (by decide) ?_
                  obtain rfl := Option.some.inj h
                  exact W.zret (v := (0 : Int32)) hx hb hr (by decide) (fun t ht hW => ⟨⟨(0 : Int32), (), rfl, rfl, by rw [ht]; exact hP, hD⟩, hS.F ht⟩) hS.2.2 dX3_isPlane_64
        · have h := (if_pos c12).symm.trans h
          refine lv_iconst (v := (0 : Int32)) hx hb dX3_isPlane_37 (by decide) ?_
          obtain rfl := Option.some.inj h
          exact W.zret (v := (0 : Int32)) hx hb hr (by decide) (fun t ht hW => ⟨⟨(0 : Int32), (), rfl, rfl, by rw [ht]; exact hP, hD⟩, hS.F ht⟩) hS.2.2 dX3_isPlane_38

-- X3_isThere
theorem wmX3_isThere_0 : (.fieldLink RX3 31 "SpaceWalls$Planes" "size" "I" : Cond) ∈ wsX3_isThere := by decide +kernel
theorem wmX3_isThere_1 : (.fieldLink RX3 9 "SpaceWalls$Planes" "a" "[I" : Cond) ∈ wsX3_isThere := by decide +kernel
theorem wmX3_isThere_2 : (.fieldLink RX3 15 "SpaceWalls$Planes" "b" "[I" : Cond) ∈ wsX3_isThere := by decide +kernel
theorem wmX3_isThere_3 : (.fieldLink RX3 18 "SpaceWalls$Planes" "c" "[I" : Cond) ∈ wsX3_isThere := by decide +kernel
theorem wmX3_isThere_4 : (.fieldLink RX3 21 "SpaceWalls$Planes" "e" "[I" : Cond) ∈ wsX3_isThere := by decide +kernel
theorem wiX3_isThere_X3 : ∀ w ∈ u_ws RX3 TX3 7, w ∈ wsX3_isThere := by decide +kernel
set_option maxHeartbeats 8000000 in
set_option maxRecDepth 100000 in
theorem kX3_isThere (l : Launch) (D : va_G) (q : Nat → Nat) (cI cJ cZ : ClassId) (tP sz : Nat) (vnum : Int32) (vsz : Int32) (vfr : Int32) (vfo : Int32) (vli : Int32) (va : (Nat → Int32)) (vb : (Nat → Int32)) (vc : (Nat → Int32)) (ve : (Nat → Int32)) (vth : (Nat → Int32)) (vrk : (Nat → Int32)) (vcm : (Nat → Int32)) (vkx : (Nat → Int32)) (vky : (Nat → Int32)) (vkz : (Nat → Int32)) (vmk : (Nat → Int32)) (vre : (Nat → Int32)) (vro : (Nat → Int32)) (vwi : (Nat → Int32)) (vla : (Nat → Int32)) (vlb : (Nat → Int32)) (vtu : (Nat → Int32)) (k0x : Int32) (k0y : Int32) (k0z : Int32) (k1x : Int32) (k1y : Int32) (k1z : Int32) (k2x : Int32) (k2y : Int32) (k2z : Int32) (k3x : Int32) (k3y : Int32) (k3z : Int32) (p1 : Int32) (p2 : Int32) (p3 : Int32) (p4 : Int32) (uu : Int32) (h : fX3_isThere vsz va vb vc ve p1 p2 p3 p4 = some uu) : Met l yX3_isThere wsX3_isThere ({ frames := 0, cells := 0, slots := 0, locals := 0 }) (cPre D cI cJ cZ tP (WC_ q cI cZ vnum vsz vfr vfo vli va vb vc ve vth vrk vcm vkx vky vkz vmk vre vro vwi vla vlb vtu k0x k0y k0z k1x k1y k1z k2x k2y k2z k3x k3y k3z) sz [.ref (q 1), .int p1, .int p2, .int p3, .int p4]) (cQi D (va_A (WC_ q cI cZ vnum vsz vfr vfo vli va vb vc ve vth vrk vcm vkx vky vkz vmk vre vro vwi vla vlb vtu k0x k0y k0z k1x k1y k1z k2x k2y k2z k3x k3y k3z) sz) (WC_ q cI cZ vnum vsz vfr vfo vli va vb vc ve vth vrk vcm vkx vky vkz vmk vre vro vwi vla vlb vtu k0x k0y k0z k1x k1y k1z k2x k2y k2z k3x k3y k3z) uu) 0 0 (va_A (WC_ q cI cZ vnum vsz vfr vfo vli va vb vc ve vth vrk vcm vkx vky vkz vmk vre vro vwi vla vlb vtu k0x k0y k0z k1x k1y k1z k2x k2y k2z k3x k3y k3z) sz) := by
  refine Met.ofW (cc := cX3_isThere) (maxL := 6) (ret := (some .boolean)) (by decide) rfl ?_
  intro p e s m args below meth c s₁ B hml hv
  obtain ⟨rfl, hsz, hP, hK, hN, hD0, hZ⟩ := hv
  have hx := B.exec
  have hb := B.bytes
  have hr := B.returns
  have hts := atoms_spec (ws := wsX3_isThere) B.pre
  have hown : s.vm.findClass RX3 = some m.cls := findClass_of_methodNamed B.named
  have hlocks := B.notSynchronized
  subst hsz
  have hD := hD0.self (sz := s.heap.size)
  generalize hAe : va_A (WC_ q cI cZ vnum vsz vfr vfo vli va vb vc ve vth vrk vcm vkx vky vkz vmk vre vro vwi vla vlb vtu k0x k0y k0z k1x k1y k1z k2x k2y k2z k3x k3y k3z) s.heap.size = A at hD hZ ⊢
  have hA : ∀ q : Nat, s.heap.size ≤ q → A q := fun q h => by rw [← hAe]; exact Or.inr h
  have hS : va_S A s.heap s.heap [] := va_S.rf
  have hl := lv_entry ([.ref (q 1), .int p1, .int p2, .int p3, .int p4]) (n := 6) (Nat.le_of_ble_eq_true rfl)
  rw [lg_entry_eq]
  generalize (lg_sl ([.ref (q 1), .int p1, .int p2, .int p3, .int p4]) ++ List.replicate (6 - (lg_sl ([.ref (q 1), .int p1, .int p2, .int p3, .int p4])).length) Slot.unset).toArray = ls at hl ⊢
  have hl : lv_has ls 6 [(0, .ref (q 1)), (1, .int p1), (2, .int p2), (3, .int p3), (4, .int p4)] := hl
  unfold fX3_isThere at h
  refine lv_iconst (v := (0 : Int32)) hx hb dX3_isThere_0 (by decide) ?_
  refine lv_istore (lv' := [(5, .int (0 : Int32)), (0, .ref (q 1)), (1, .int p1), (2, .int p2), (3, .int p3), (4, .int p4)]) hx hb dX3_isThere_1 hl (by decide) rfl (fun ls hl => ?_)
  obtain ⟨u2, e3, h⟩ := bd_some h
  have KR5 : ∀ y7, Sum.inr y7 = u2 → y7 = uu := by
    intro y7 hy
    subst hy
    have h := se_inr h
    exact Option.some.inj h
  refine W_leave (P := fun (y : Int32) H locs ls => u2 = Sum.inl y ∧ va_P D vwCl (WC_ q cI cZ vnum vsz vfr vfo vli va vb vc ve vth vrk vcm vkx vky vkz vmk vre vro vwi vla vlb vtu k0x k0y k0z k1x k1y k1z k2x k2y k2z k3x k3y k3z) H ∧ va_D A (WC_ q cI cZ vnum vsz vfr vfo vli va vb vc ve vth vrk vcm vkx vky vkz vmk vre vro vwi vla vlb vtu k0x k0y k0z k1x k1y k1z k2x k2y k2z k3x k3y k3z) ∧ va_S A s.heap H locs ∧ lv_has ls 6 [(5, .int y), (0, .ref (q 1)), (1, .int p1), (2, .int p2), (3, .int p3), (4, .int p4)]) (g := fun ls => F0 m 149 ls []) ?_ ?_
  · intro x6 H locs ls hq
    obtain ⟨hy, hP, hD, hS, hl⟩ := hq
    subst hy
    have h := se_inl h
    refine lv_iconst (v := (0 : Int32)) hx hb dX3_isThere_149 (by decide) ?_
    obtain rfl := Option.some.inj h
    exact W.zret (v := (0 : Int32)) hx hb hr (by decide) (fun t ht hW => ⟨⟨(0 : Int32), (), rfl, rfl, by rw [ht]; exact hP, hD⟩, hS.F ht⟩) hS.2.2 dX3_isThere_150
  · intro K4
    refine W_lp (body := (fun (st : Int32) => fX3_isThere_L3 vsz va p2 vb p1 p3 vc p4 ve st)) (P := fun (st : Int32) H locs ls => va_P D vwCl (WC_ q cI cZ vnum vsz vfr vfo vli va vb vc ve vth vrk vcm vkx vky vkz vmk vre vro vwi vla vlb vtu k0x k0y k0z k1x k1y k1z k2x k2y k2z k3x k3y k3z) H ∧ va_D A (WC_ q cI cZ vnum vsz vfr vfo vli va vb vc ve vth vrk vcm vkx vky vkz vmk vre vro vwi vla vlb vtu k0x k0y k0z k1x k1y k1z k2x k2y k2z k3x k3y k3z) ∧ va_S A s.heap H locs ∧ lv_has ls 6 [(5, .int st), (0, .ref (q 1)), (1, .int p1), (2, .int p2), (3, .int p3), (4, .int p4)]) (g := fun _ ls => F0 m 3 ls []) (r := u2) ?_ fu_ (0 : Int32) _ _ _ e3 ⟨hP, hD, hS, lv_sub hl [0, 1, 2, 3, 4, 5] rfl⟩
    intro v1 xx10 H locs ls h hq ih9 hR8
    obtain ⟨hP, hD, hS, hl⟩ := hq
    have hP : va_P D vwCl (WC_ q cI cZ vnum vsz vfr vfo vli va vb vc ve vth vrk vcm vkx vky vkz vmk vre vro vwi vla vlb vtu k0x k0y k0z k1x k1y k1z k2x k2y k2z k3x k3y k3z) H := hP
    have hD : va_D A (WC_ q cI cZ vnum vsz vfr vfo vli va vb vc ve vth vrk vcm vkx vky vkz vmk vre vro vwi vla vlb vtu k0x k0y k0z k1x k1y k1z k2x k2y k2z k3x k3y k3z) := hD
    have hl : lv_has ls 6 [(5, .int v1), (0, .ref (q 1)), (1, .int p1), (2, .int p2), (3, .int p3), (4, .int p4)] := hl
    have h : fX3_isThere_L3 vsz va p2 vb p1 p3 vc p4 ve v1 = some xx10 := h
    unfold fX3_isThere_L3 at h
    refine lv_iload hx hb dX3_isThere_3 (lv_at hl 0 rfl) ?_
    refine lv_aload_n hx hb dX3_isThere_5 rfl (lv_at hl 1 rfl) ?_
    refine va_get (D := D) (ci := 3) (v := .int vsz) (C := RX3) (T := TX3) (N := 7) hx hb hts wiX3_isThere_X3 hown hK hP 1 rfl rfl 6 (by decide) (hts _ wmX3_isThere_0) (fun _ h9 => h9) rfl dX3_isThere_6 ?_
    refine lv_icmp_ge (tgt := 149) hx hb dX3_isThere_9 (by decide) (fun c11 => ?_) (fun c11 => ?_)
    · have h := (if_pos c11).symm.trans h
      exact K4 _ _ _ _ ⟨(hR8 _ (Option.some.inj h).symm).symm, hP, hD, hS, lv_sub hl [0, 1, 2, 3, 4, 5] rfl⟩
    · have h := (if_neg c11).symm.trans h
      refine lv_aload_n hx hb dX3_isThere_12 rfl (lv_at hl 1 rfl) ?_
      refine va_get (D := D) (ci := 3) (v := .ref (q 2)) (C := RX3) (T := TX3) (N := 7) hx hb hts wiX3_isThere_X3 hown hK hP 1 rfl rfl 1 (by decide) (hts _ wmX3_isThere_1) (fun _ h9 => h9) rfl dX3_isThere_13 ?_
      refine lv_iload hx hb dX3_isThere_16 (lv_at hl 0 rfl) ?_
      obtain ⟨i12, h⟩ := ck_some h
      refine va_iald hx hb hK hP 2 0 rfl rfl i12 dX3_isThere_18 ?_
      refine lv_iload_n hx hb dX3_isThere_19 rfl (lv_at hl 3 rfl) ?_
      refine lv_imul hx hb dX3_isThere_20 ?_
      refine lv_aload_n hx hb dX3_isThere_21 rfl (lv_at hl 1 rfl) ?_
      refine va_get (D := D) (ci := 3) (v := .ref (q 3)) (C := RX3) (T := TX3) (N := 7) hx hb hts wiX3_isThere_X3 hown hK hP 1 rfl rfl 2 (by decide) (hts _ wmX3_isThere_2) (fun _ h9 => h9) rfl dX3_isThere_22 ?_
      refine lv_iload hx hb dX3_isThere_25 (lv_at hl 0 rfl) ?_
      obtain ⟨i13, h⟩ := ck_some h
      refine va_iald hx hb hK hP 3 0 rfl rfl i13 dX3_isThere_27 ?_
      refine lv_iload_n hx hb dX3_isThere_28 rfl (lv_at hl 2 rfl) ?_
      refine lv_imul hx hb dX3_isThere_29 ?_
      refine lv_icmp_ne (tgt := 143) hx hb dX3_isThere_30 (by decide) (fun c14 => ?_) (fun c14 => ?_)
      · have h := (if_neg c14).symm.trans h
        refine lv_iinc (v := (v1 + (1 : Int32))) (lv' := [(5, .int (v1 + (1 : Int32))), (0, .ref (q 1)), (1, .int p1), (2, .int p2), (3, .int p3), (4, .int p4)]) hx hb dX3_isThere_143 hl (k := 0) rfl rfl (by decide) rfl (fun ls hl => ?_)
        refine lv_goto (tgt := 3) hx hb dX3_isThere_146 (by decide) ?_
        exact ih9 _ _ _ _ (Option.some.inj h).symm ⟨hP, hD, hS, lv_sub hl [0, 1, 2, 3, 4, 5] rfl⟩
      · have h := (if_pos c14).symm.trans h
        refine lv_aload_n hx hb dX3_isThere_33 rfl (lv_at hl 1 rfl) ?_
        refine va_get (D := D) (ci := 3) (v := .ref (q 2)) (C := RX3) (T := TX3) (N := 7) hx hb hts wiX3_isThere_X3 hown hK hP 1 rfl rfl 1 (by decide) (hts _ wmX3_isThere_1) (fun _ h9 => h9) rfl dX3_isThere_34 ?_
        refine lv_iload hx hb dX3_isThere_37 (lv_at hl 0 rfl) ?_
        obtain ⟨i15, h⟩ := ck_some h
        refine va_iald hx hb hK hP 2 0 rfl rfl i15 dX3_isThere_39 ?_
        refine lv_iload_n hx hb dX3_isThere_40 rfl (lv_at hl 4 rfl) ?_
        refine lv_imul hx hb dX3_isThere_41 ?_
        refine lv_aload_n hx hb dX3_isThere_42 rfl (lv_at hl 1 rfl) ?_
        refine va_get (D := D) (ci := 3) (v := .ref (q 4)) (C := RX3) (T := TX3) (N := 7) hx hb hts wiX3_isThere_X3 hown hK hP 1 rfl rfl 3 (by decide) (hts _ wmX3_isThere_3) (fun _ h9 => h9) rfl dX3_isThere_43 ?_
        refine lv_iload hx hb dX3_isThere_46 (lv_at hl 0 rfl) ?_
        obtain ⟨i16, h⟩ := ck_some h
        refine va_iald hx hb hK hP 4 0 rfl rfl i16 dX3_isThere_48 ?_
        refine lv_iload_n hx hb dX3_isThere_49 rfl (lv_at hl 2 rfl) ?_
        refine lv_imul hx hb dX3_isThere_50 ?_
        refine lv_icmp_ne (tgt := 143) hx hb dX3_isThere_51 (by decide) (fun c17 => ?_) (fun c17 => ?_)
        · have h := (if_neg c17).symm.trans h
          refine lv_iinc (v := (v1 + (1 : Int32))) (lv' := [(5, .int (v1 + (1 : Int32))), (0, .ref (q 1)), (1, .int p1), (2, .int p2), (3, .int p3), (4, .int p4)]) hx hb dX3_isThere_143 hl (k := 0) rfl rfl (by decide) rfl (fun ls hl => ?_)
          refine lv_goto (tgt := 3) hx hb dX3_isThere_146 (by decide) ?_
          exact ih9 _ _ _ _ (Option.some.inj h).symm ⟨hP, hD, hS, lv_sub hl [0, 1, 2, 3, 4, 5] rfl⟩
        · have h := (if_pos c17).symm.trans h
          refine lv_aload_n hx hb dX3_isThere_54 rfl (lv_at hl 1 rfl) ?_
          refine va_get (D := D) (ci := 3) (v := .ref (q 3)) (C := RX3) (T := TX3) (N := 7) hx hb hts wiX3_isThere_X3 hown hK hP 1 rfl rfl 2 (by decide) (hts _ wmX3_isThere_2) (fun _ h9 => h9) rfl dX3_isThere_55 ?_
          refine lv_iload hx hb dX3_isThere_58 (lv_at hl 0 rfl) ?_
          obtain ⟨i18, h⟩ := ck_some h
          refine va_iald hx hb hK hP 3 0 rfl rfl i18 dX3_isThere_60 ?_
          refine lv_iload_n hx hb dX3_isThere_61 rfl (lv_at hl 4 rfl) ?_
          refine lv_imul hx hb dX3_isThere_62 ?_
          refine lv_aload_n hx hb dX3_isThere_63 rfl (lv_at hl 1 rfl) ?_
          refine va_get (D := D) (ci := 3) (v := .ref (q 4)) (C := RX3) (T := TX3) (N := 7) hx hb hts wiX3_isThere_X3 hown hK hP 1 rfl rfl 3 (by decide) (hts _ wmX3_isThere_3) (fun _ h9 => h9) rfl dX3_isThere_64 ?_
          refine lv_iload hx hb dX3_isThere_67 (lv_at hl 0 rfl) ?_
          obtain ⟨i19, h⟩ := ck_some h
          refine va_iald hx hb hK hP 4 0 rfl rfl i19 dX3_isThere_69 ?_
          refine lv_iload_n hx hb dX3_isThere_70 rfl (lv_at hl 3 rfl) ?_
          refine lv_imul hx hb dX3_isThere_71 ?_
          refine lv_icmp_ne (tgt := 143) hx hb dX3_isThere_72 (by decide) (fun c20 => ?_) (fun c20 => ?_)
          · have h := (if_neg c20).symm.trans h
            refine lv_iinc (v := (v1 + (1 : Int32))) (lv' := [(5, .int (v1 + (1 : Int32))), (0, .ref (q 1)), (1, .int p1), (2, .int p2), (3, .int p3), (4, .int p4)]) hx hb dX3_isThere_143 hl (k := 0) rfl rfl (by decide) rfl (fun ls hl => ?_)
            refine lv_goto (tgt := 3) hx hb dX3_isThere_146 (by decide) ?_
            exact ih9 _ _ _ _ (Option.some.inj h).symm ⟨hP, hD, hS, lv_sub hl [0, 1, 2, 3, 4, 5] rfl⟩
          · have h := (if_pos c20).symm.trans h
            refine lv_aload_n hx hb dX3_isThere_75 rfl (lv_at hl 1 rfl) ?_
            refine va_get (D := D) (ci := 3) (v := .ref (q 2)) (C := RX3) (T := TX3) (N := 7) hx hb hts wiX3_isThere_X3 hown hK hP 1 rfl rfl 1 (by decide) (hts _ wmX3_isThere_1) (fun _ h9 => h9) rfl dX3_isThere_76 ?_
            refine lv_iload hx hb dX3_isThere_79 (lv_at hl 0 rfl) ?_
            obtain ⟨i21, h⟩ := ck_some h
            refine va_iald hx hb hK hP 2 0 rfl rfl i21 dX3_isThere_81 ?_
            refine lv_iload hx hb dX3_isThere_82 (lv_at hl 5 rfl) ?_
            refine lv_imul hx hb dX3_isThere_84 ?_
            refine lv_aload_n hx hb dX3_isThere_85 rfl (lv_at hl 1 rfl) ?_
            refine va_get (D := D) (ci := 3) (v := .ref (q 5)) (C := RX3) (T := TX3) (N := 7) hx hb hts wiX3_isThere_X3 hown hK hP 1 rfl rfl 4 (by decide) (hts _ wmX3_isThere_4) (fun _ h9 => h9) rfl dX3_isThere_86 ?_
            refine lv_iload hx hb dX3_isThere_89 (lv_at hl 0 rfl) ?_
            obtain ⟨i22, h⟩ := ck_some h
            refine va_iald hx hb hK hP 5 0 rfl rfl i22 dX3_isThere_91 ?_
            refine lv_iload_n hx hb dX3_isThere_92 rfl (lv_at hl 2 rfl) ?_
            refine lv_imul hx hb dX3_isThere_93 ?_
            refine lv_icmp_ne (tgt := 143) hx hb dX3_isThere_94 (by decide) (fun c23 => ?_) (fun c23 => ?_)
            · have h := (if_neg c23).symm.trans h
              refine lv_iinc (v := (v1 + (1 : Int32))) (lv' := [(5, .int (v1 + (1 : Int32))), (0, .ref (q 1)), (1, .int p1), (2, .int p2), (3, .int p3), (4, .int p4)]) hx hb dX3_isThere_143 hl (k := 0) rfl rfl (by decide) rfl (fun ls hl => ?_)
              refine lv_goto (tgt := 3) hx hb dX3_isThere_146 (by decide) ?_
              exact ih9 _ _ _ _ (Option.some.inj h).symm ⟨hP, hD, hS, lv_sub hl [0, 1, 2, 3, 4, 5] rfl⟩
            · have h := (if_pos c23).symm.trans h
              refine lv_aload_n hx hb dX3_isThere_97 rfl (lv_at hl 1 rfl) ?_
              refine va_get (D := D) (ci := 3) (v := .ref (q 3)) (C := RX3) (T := TX3) (N := 7) hx hb hts wiX3_isThere_X3 hown hK hP 1 rfl rfl 2 (by decide) (hts _ wmX3_isThere_2) (fun _ h9 => h9) rfl dX3_isThere_98 ?_
              refine lv_iload hx hb dX3_isThere_101 (lv_at hl 0 rfl) ?_
              obtain ⟨i24, h⟩ := ck_some h
              refine va_iald hx hb hK hP 3 0 rfl rfl i24 dX3_isThere_103 ?_
              refine lv_iload hx hb dX3_isThere_104 (lv_at hl 5 rfl) ?_
              refine lv_imul hx hb dX3_isThere_106 ?_
              refine lv_aload_n hx hb dX3_isThere_107 rfl (lv_at hl 1 rfl) ?_
              refine va_get (D := D) (ci := 3) (v := .ref (q 5)) (C := RX3) (T := TX3) (N := 7) hx hb hts wiX3_isThere_X3 hown hK hP 1 rfl rfl 4 (by decide) (hts _ wmX3_isThere_4) (fun _ h9 => h9) rfl dX3_isThere_108 ?_
              refine lv_iload hx hb dX3_isThere_111 (lv_at hl 0 rfl) ?_
              obtain ⟨i25, h⟩ := ck_some h
              refine va_iald hx hb hK hP 5 0 rfl rfl i25 dX3_isThere_113 ?_
              refine lv_iload_n hx hb dX3_isThere_114 rfl (lv_at hl 3 rfl) ?_
              refine lv_imul hx hb dX3_isThere_115 ?_
              refine lv_icmp_ne (tgt := 143) hx hb dX3_isThere_116 (by decide) (fun c26 => ?_) (fun c26 => ?_)
              · have h := (if_neg c26).symm.trans h
                refine lv_iinc (v := (v1 + (1 : Int32))) (lv' := [(5, .int (v1 + (1 : Int32))), (0, .ref (q 1)), (1, .int p1), (2, .int p2), (3, .int p3), (4, .int p4)]) hx hb dX3_isThere_143 hl (k := 0) rfl rfl (by decide) rfl (fun ls hl => ?_)
                refine lv_goto (tgt := 3) hx hb dX3_isThere_146 (by decide) ?_
                exact ih9 _ _ _ _ (Option.some.inj h).symm ⟨hP, hD, hS, lv_sub hl [0, 1, 2, 3, 4, 5] rfl⟩
              · have h := (if_pos c26).symm.trans h
                refine lv_aload_n hx hb dX3_isThere_119 rfl (lv_at hl 1 rfl) ?_
                refine va_get (D := D) (ci := 3) (v := .ref (q 4)) (C := RX3) (T := TX3) (N := 7) hx hb hts wiX3_isThere_X3 hown hK hP 1 rfl rfl 3 (by decide) (hts _ wmX3_isThere_3) (fun _ h9 => h9) rfl dX3_isThere_120 ?_
                refine lv_iload hx hb dX3_isThere_123 (lv_at hl 0 rfl) ?_
                obtain ⟨i27, h⟩ := ck_some h
                refine va_iald hx hb hK hP 4 0 rfl rfl i27 dX3_isThere_125 ?_
                refine lv_iload hx hb dX3_isThere_126 (lv_at hl 5 rfl) ?_
                refine lv_imul hx hb dX3_isThere_128 ?_
                refine lv_aload_n hx hb dX3_isThere_129 rfl (lv_at hl 1 rfl) ?_
                refine va_get (D := D) (ci := 3) (v := .ref (q 5)) (C := RX3) (T := TX3) (N := 7) hx hb hts wiX3_isThere_X3 hown hK hP 1 rfl rfl 4 (by decide) (hts _ wmX3_isThere_4) (fun _ h9 => h9) rfl dX3_isThere_130 ?_
                refine lv_iload hx hb dX3_isThere_133 (lv_at hl 0 rfl) ?_
                obtain ⟨i28, h⟩ := ck_some h
                refine va_iald hx hb hK hP 5 0 rfl rfl i28 dX3_isThere_135 ?_
                refine lv_iload_n hx hb dX3_isThere_136 rfl (lv_at hl 4 rfl) ?_
                refine lv_imul hx hb dX3_isThere_137 ?_
                refine lv_icmp_ne (tgt := 143) hx hb dX3_isThere_138 (by decide) (fun c29 => ?_) (fun c29 => ?_)
                · have h := (if_neg c29).symm.trans h
                  refine lv_iinc (v := (v1 + (1 : Int32))) (lv' := [(5, .int (v1 + (1 : Int32))), (0, .ref (q 1)), (1, .int p1), (2, .int p2), (3, .int p3), (4, .int p4)]) hx hb dX3_isThere_143 hl (k := 0) rfl rfl (by decide) rfl (fun ls hl => ?_)
                  refine lv_goto (tgt := 3) hx hb dX3_isThere_146 (by decide) ?_
                  exact ih9 _ _ _ _ (Option.some.inj h).symm ⟨hP, hD, hS, lv_sub hl [0, 1, 2, 3, 4, 5] rfl⟩
                · have h := (if_pos c29).symm.trans h
                  refine lv_iconst (v := (1 : Int32)) hx hb dX3_isThere_141 (by decide) ?_
                  have hu := KR5 _ (hR8 _ (Option.some.inj h).symm)
                  subst hu
                  exact W.zret (v := (1 : Int32)) hx hb hr (by decide) (fun t ht hW => ⟨⟨(1 : Int32), (), rfl, rfl, by rw [ht]; exact hP, hD⟩, hS.F ht⟩) hS.2.2 dX3_isThere_142

-- X3_append
theorem wmX3_append_0 : (.fieldLink RX3 31 "SpaceWalls$Planes" "size" "I" : Cond) ∈ wsX3_append := by decide +kernel
theorem wmX3_append_1 : (.fieldLink RX3 9 "SpaceWalls$Planes" "a" "[I" : Cond) ∈ wsX3_append := by decide +kernel
theorem wmX3_append_2 : (.fieldLink RX3 15 "SpaceWalls$Planes" "b" "[I" : Cond) ∈ wsX3_append := by decide +kernel
theorem wmX3_append_3 : (.fieldLink RX3 18 "SpaceWalls$Planes" "c" "[I" : Cond) ∈ wsX3_append := by decide +kernel
theorem wmX3_append_4 : (.fieldLink RX3 21 "SpaceWalls$Planes" "e" "[I" : Cond) ∈ wsX3_append := by decide +kernel
theorem wiX3_append_X3 : ∀ w ∈ u_ws RX3 TX3 7, w ∈ wsX3_append := by decide +kernel
set_option maxHeartbeats 8000000 in
set_option maxRecDepth 100000 in
theorem kX3_append (l : Launch) (D : va_G) (q : Nat → Nat) (cI cJ cZ : ClassId) (tP sz : Nat) (vnum : Int32) (vsz : Int32) (vfr : Int32) (vfo : Int32) (vli : Int32) (va : (Nat → Int32)) (vb : (Nat → Int32)) (vc : (Nat → Int32)) (ve : (Nat → Int32)) (vth : (Nat → Int32)) (vrk : (Nat → Int32)) (vcm : (Nat → Int32)) (vkx : (Nat → Int32)) (vky : (Nat → Int32)) (vkz : (Nat → Int32)) (vmk : (Nat → Int32)) (vre : (Nat → Int32)) (vro : (Nat → Int32)) (vwi : (Nat → Int32)) (vla : (Nat → Int32)) (vlb : (Nat → Int32)) (vtu : (Nat → Int32)) (k0x : Int32) (k0y : Int32) (k0z : Int32) (k1x : Int32) (k1y : Int32) (k1z : Int32) (k2x : Int32) (k2y : Int32) (k2z : Int32) (k3x : Int32) (k3y : Int32) (k3z : Int32) (p1 : Int32) (p2 : Int32) (p3 : Int32) (p4 : Int32) (uu : (Int32 × (Nat → Int32) × (Nat → Int32) × (Nat → Int32) × (Nat → Int32))) (h : fX3_append vsz va vb vc ve p1 p2 p3 p4 = some uu) : Met l yX3_append wsX3_append ({ frames := 0, cells := 0, slots := 0, locals := 0 }) (cPre D cI cJ cZ tP (WC_ q cI cZ vnum vsz vfr vfo vli va vb vc ve vth vrk vcm vkx vky vkz vmk vre vro vwi vla vlb vtu k0x k0y k0z k1x k1y k1z k2x k2y k2z k3x k3y k3z) sz [.ref (q 1), .int p1, .int p2, .int p3, .int p4]) (cQv D (va_A (WC_ q cI cZ vnum vsz vfr vfo vli va vb vc ve vth vrk vcm vkx vky vkz vmk vre vro vwi vla vlb vtu k0x k0y k0z k1x k1y k1z k2x k2y k2z k3x k3y k3z) sz) (WC_ q cI cZ vnum uu.1 vfr vfo vli uu.2.1 uu.2.2.1 uu.2.2.2.1 uu.2.2.2.2 vth vrk vcm vkx vky vkz vmk vre vro vwi vla vlb vtu k0x k0y k0z k1x k1y k1z k2x k2y k2z k3x k3y k3z)) 0 0 (va_A (WC_ q cI cZ vnum vsz vfr vfo vli va vb vc ve vth vrk vcm vkx vky vkz vmk vre vro vwi vla vlb vtu k0x k0y k0z k1x k1y k1z k2x k2y k2z k3x k3y k3z) sz) := by
  refine Met.ofW (cc := cX3_append) (maxL := 5) (ret := none) (by decide) rfl ?_
  intro p e s m args below meth c s₁ B hml hv
  obtain ⟨rfl, hsz, hP, hK, hN, hD0, hZ⟩ := hv
  have hx := B.exec
  have hb := B.bytes
  have hr := B.returns
  have hts := atoms_spec (ws := wsX3_append) B.pre
  have hown : s.vm.findClass RX3 = some m.cls := findClass_of_methodNamed B.named
  have hlocks := B.notSynchronized
  subst hsz
  have hD := hD0.self (sz := s.heap.size)
  generalize hAe : va_A (WC_ q cI cZ vnum vsz vfr vfo vli va vb vc ve vth vrk vcm vkx vky vkz vmk vre vro vwi vla vlb vtu k0x k0y k0z k1x k1y k1z k2x k2y k2z k3x k3y k3z) s.heap.size = A at hD hZ ⊢
  have hA : ∀ q : Nat, s.heap.size ≤ q → A q := fun q h => by rw [← hAe]; exact Or.inr h
  have hS : va_S A s.heap s.heap [] := va_S.rf
  have hl := lv_entry ([.ref (q 1), .int p1, .int p2, .int p3, .int p4]) (n := 5) (Nat.le_of_ble_eq_true rfl)
  rw [lg_entry_eq]
  generalize (lg_sl ([.ref (q 1), .int p1, .int p2, .int p3, .int p4]) ++ List.replicate (5 - (lg_sl ([.ref (q 1), .int p1, .int p2, .int p3, .int p4])).length) Slot.unset).toArray = ls at hl ⊢
  have hl : lv_has ls 5 [(0, .ref (q 1)), (1, .int p1), (2, .int p2), (3, .int p3), (4, .int p4)] := hl
  unfold fX3_append at h
  refine lv_aload_n hx hb dX3_append_0 rfl (lv_at hl 0 rfl) ?_
  refine va_get (D := D) (ci := 3) (v := .int vsz) (C := RX3) (T := TX3) (N := 7) hx hb hts wiX3_append_X3 hown hK hP 1 rfl rfl 6 (by decide) (hts _ wmX3_append_0) (fun _ h9 => h9) rfl dX3_append_1 ?_
  refine lv_bipush (v := (8 : Int32)) hx hb dX3_append_4 (by decide) ?_
  refine lv_icmp_lt (tgt := 10) hx hb dX3_append_6 (by decide) (fun c1 => ?_) (fun c1 => ?_)
  · have h := (if_pos c1).symm.trans h
    refine lv_aload_n hx hb dX3_append_10 rfl (lv_at hl 0 rfl) ?_
    refine va_get (D := D) (ci := 3) (v := .ref (q 2)) (C := RX3) (T := TX3) (N := 7) hx hb hts wiX3_append_X3 hown hK hP 1 rfl rfl 1 (by decide) (hts _ wmX3_append_1) (fun _ h9 => h9) rfl dX3_append_11 ?_
    refine lv_aload_n hx hb dX3_append_14 rfl (lv_at hl 0 rfl) ?_
    refine va_get (D := D) (ci := 3) (v := .int vsz) (C := RX3) (T := TX3) (N := 7) hx hb hts wiX3_append_X3 hown hK hP 1 rfl rfl 6 (by decide) (hts _ wmX3_append_0) (fun _ h9 => h9) rfl dX3_append_15 ?_
    refine lv_iload_n hx hb dX3_append_18 rfl (lv_at hl 1 rfl) ?_
    obtain ⟨i2, h⟩ := ck_some h
    refine va_iast hx hb hK hP hD hS 2 0 rfl rfl i2 dX3_append_19 (fun H locs hP hD hS => ?_)
    have hP : va_P D vwCl (WC_ q cI cZ vnum vsz vfr vfo vli (upd va vsz.toNatClampNeg p1) vb vc ve vth vrk vcm vkx vky vkz vmk vre vro vwi vla vlb vtu k0x k0y k0z k1x k1y k1z k2x k2y k2z k3x k3y k3z) H := hP
    have hD : va_D A (WC_ q cI cZ vnum vsz vfr vfo vli (upd va vsz.toNatClampNeg p1) vb vc ve vth vrk vcm vkx vky vkz vmk vre vro vwi vla vlb vtu k0x k0y k0z k1x k1y k1z k2x k2y k2z k3x k3y k3z) := hD
    refine lv_aload_n hx hb dX3_append_20 rfl (lv_at hl 0 rfl) ?_
    refine va_get (D := D) (ci := 3) (v := .ref (q 3)) (C := RX3) (T := TX3) (N := 7) hx hb hts wiX3_append_X3 hown hK hP 1 rfl rfl 2 (by decide) (hts _ wmX3_append_2) (fun _ h9 => h9) rfl dX3_append_21 ?_
    refine lv_aload_n hx hb dX3_append_24 rfl (lv_at hl 0 rfl) ?_
    refine va_get (D := D) (ci := 3) (v := .int vsz) (C := RX3) (T := TX3) (N := 7) hx hb hts wiX3_append_X3 hown hK hP 1 rfl rfl 6 (by decide) (hts _ wmX3_append_0) (fun _ h9 => h9) rfl dX3_append_25 ?_
    refine lv_iload_n hx hb dX3_append_28 rfl (lv_at hl 2 rfl) ?_
    obtain ⟨i3, h⟩ := ck_some h
    refine va_iast hx hb hK hP hD hS 3 0 rfl rfl i3 dX3_append_29 (fun H locs hP hD hS => ?_)
    have hP : va_P D vwCl (WC_ q cI cZ vnum vsz vfr vfo vli (upd va vsz.toNatClampNeg p1) (upd vb vsz.toNatClampNeg p2) vc ve vth vrk vcm vkx vky vkz vmk vre vro vwi vla vlb vtu k0x k0y k0z k1x k1y k1z k2x k2y k2z k3x k3y k3z) H := hP
    have hD : va_D A (WC_ q cI cZ vnum vsz vfr vfo vli (upd va vsz.toNatClampNeg p1) (upd vb vsz.toNatClampNeg p2) vc ve vth vrk vcm vkx vky vkz vmk vre vro vwi vla vlb vtu k0x k0y k0z k1x k1y k1z k2x k2y k2z k3x k3y k3z) := hD
    refine lv_aload_n hx hb dX3_append_30 rfl (lv_at hl 0 rfl) ?_
    refine va_get (D := D) (ci := 3) (v := .ref (q 4)) (C := RX3) (T := TX3) (N := 7) hx hb hts wiX3_append_X3 hown hK hP 1 rfl rfl 3 (by decide) (hts _ wmX3_append_3) (fun _ h9 => h9) rfl dX3_append_31 ?_
    refine lv_aload_n hx hb dX3_append_34 rfl (lv_at hl 0 rfl) ?_
    refine va_get (D := D) (ci := 3) (v := .int vsz) (C := RX3) (T := TX3) (N := 7) hx hb hts wiX3_append_X3 hown hK hP 1 rfl rfl 6 (by decide) (hts _ wmX3_append_0) (fun _ h9 => h9) rfl dX3_append_35 ?_
    refine lv_iload_n hx hb dX3_append_38 rfl (lv_at hl 3 rfl) ?_
    obtain ⟨i4, h⟩ := ck_some h
    refine va_iast hx hb hK hP hD hS 4 0 rfl rfl i4 dX3_append_39 (fun H locs hP hD hS => ?_)
    have hP : va_P D vwCl (WC_ q cI cZ vnum vsz vfr vfo vli (upd va vsz.toNatClampNeg p1) (upd vb vsz.toNatClampNeg p2) (upd vc vsz.toNatClampNeg p3) ve vth vrk vcm vkx vky vkz vmk vre vro vwi vla vlb vtu k0x k0y k0z k1x k1y k1z k2x k2y k2z k3x k3y k3z) H := hP
    have hD : va_D A (WC_ q cI cZ vnum vsz vfr vfo vli (upd va vsz.toNatClampNeg p1) (upd vb vsz.toNatClampNeg p2) (upd vc vsz.toNatClampNeg p3) ve vth vrk vcm vkx vky vkz vmk vre vro vwi vla vlb vtu k0x k0y k0z k1x k1y k1z k2x k2y k2z k3x k3y k3z) := hD
    refine lv_aload_n hx hb dX3_append_40 rfl (lv_at hl 0 rfl) ?_
    refine va_get (D := D) (ci := 3) (v := .ref (q 5)) (C := RX3) (T := TX3) (N := 7) hx hb hts wiX3_append_X3 hown hK hP 1 rfl rfl 4 (by decide) (hts _ wmX3_append_4) (fun _ h9 => h9) rfl dX3_append_41 ?_
    refine lv_aload_n hx hb dX3_append_44 rfl (lv_at hl 0 rfl) ?_
    refine va_get (D := D) (ci := 3) (v := .int vsz) (C := RX3) (T := TX3) (N := 7) hx hb hts wiX3_append_X3 hown hK hP 1 rfl rfl 6 (by decide) (hts _ wmX3_append_0) (fun _ h9 => h9) rfl dX3_append_45 ?_
    refine lv_iload hx hb dX3_append_48 (lv_at hl 4 rfl) ?_
    obtain ⟨i5, h⟩ := ck_some h
    refine va_iast hx hb hK hP hD hS 5 0 rfl rfl i5 dX3_append_50 (fun H locs hP hD hS => ?_)
    have hP : va_P D vwCl (WC_ q cI cZ vnum vsz vfr vfo vli (upd va vsz.toNatClampNeg p1) (upd vb vsz.toNatClampNeg p2) (upd vc vsz.toNatClampNeg p3) (upd ve vsz.toNatClampNeg p4) vth vrk vcm vkx vky vkz vmk vre vro vwi vla vlb vtu k0x k0y k0z k1x k1y k1z k2x k2y k2z k3x k3y k3z) H := hP
    have hD : va_D A (WC_ q cI cZ vnum vsz vfr vfo vli (upd va vsz.toNatClampNeg p1) (upd vb vsz.toNatClampNeg p2) (upd vc vsz.toNatClampNeg p3) (upd ve vsz.toNatClampNeg p4) vth vrk vcm vkx vky vkz vmk vre vro vwi vla vlb vtu k0x k0y k0z k1x k1y k1z k2x k2y k2z k3x k3y k3z) := hD
    refine lv_aload_n hx hb dX3_append_51 rfl (lv_at hl 0 rfl) ?_
    refine lv_dup hx hb dX3_append_52 rfl ?_
    refine va_get (D := D) (ci := 3) (v := .int vsz) (C := RX3) (T := TX3) (N := 7) hx hb hts wiX3_append_X3 hown hK hP 1 rfl rfl 6 (by decide) (hts _ wmX3_append_0) (fun _ h9 => h9) rfl dX3_append_53 ?_
    refine lv_iconst (v := (1 : Int32)) hx hb dX3_append_56 (by decide) ?_
    refine lv_iadd hx hb dX3_append_57 ?_
    refine va_put (D := D) (ci := 3) (v := .int (vsz + (1 : Int32))) (ty := .int) (C := RX3) (T := TX3) (N := 7) hx hb hts wiX3_append_X3 tyX3 tyX3_ok nmX3 hown hK hP hD hS 1 rfl rfl 6 (by decide) (hts _ wmX3_append_0) (fun _ h9 => h9) rfl (by decide +kernel) rfl rfl (Nat.le_of_ble_eq_true rfl) dX3_append_58 (fun H locs hP hD hS => ?_)
    have hP : va_P D vwCl (WC_ q cI cZ vnum (vsz + (1 : Int32)) vfr vfo vli (upd va vsz.toNatClampNeg p1) (upd vb vsz.toNatClampNeg p2) (upd vc vsz.toNatClampNeg p3) (upd ve vsz.toNatClampNeg p4) vth vrk vcm vkx vky vkz vmk vre vro vwi vla vlb vtu k0x k0y k0z k1x k1y k1z k2x k2y k2z k3x k3y k3z) H := hP
    have hD : va_D A (WC_ q cI cZ vnum (vsz + (1 : Int32)) vfr vfo vli (upd va vsz.toNatClampNeg p1) (upd vb vsz.toNatClampNeg p2) (upd vc vsz.toNatClampNeg p3) (upd ve vsz.toNatClampNeg p4) vth vrk vcm vkx vky vkz vmk vre vro vwi vla vlb vtu k0x k0y k0z k1x k1y k1z k2x k2y k2z k3x k3y k3z) := hD
    obtain rfl := Option.some.inj h
    exact W.vret hx hb hr (fun t ht hW => ⟨⟨(), rfl, trivial, by rw [ht]; exact hP, hD⟩, hS.F ht⟩) hS.2.2 dX3_append_61
  · have h := (if_neg c1).symm.trans h
    obtain rfl := Option.some.inj h
    exact W.vret hx hb hr (fun t ht hW => ⟨⟨(), rfl, trivial, by rw [ht]; exact hP, hD⟩, hS.F ht⟩) hS.2.2 dX3_append_9

-- X3_drop
theorem wmX3_drop_0 : (.fieldLink RX3 31 "SpaceWalls$Planes" "size" "I" : Cond) ∈ wsX3_drop := by decide +kernel
theorem wmX3_drop_1 : (.fieldLink RX3 9 "SpaceWalls$Planes" "a" "[I" : Cond) ∈ wsX3_drop := by decide +kernel
theorem wmX3_drop_2 : (.fieldLink RX3 15 "SpaceWalls$Planes" "b" "[I" : Cond) ∈ wsX3_drop := by decide +kernel
theorem wmX3_drop_3 : (.fieldLink RX3 18 "SpaceWalls$Planes" "c" "[I" : Cond) ∈ wsX3_drop := by decide +kernel
theorem wmX3_drop_4 : (.fieldLink RX3 21 "SpaceWalls$Planes" "e" "[I" : Cond) ∈ wsX3_drop := by decide +kernel
theorem wiX3_drop_X3 : ∀ w ∈ u_ws RX3 TX3 7, w ∈ wsX3_drop := by decide +kernel
set_option maxHeartbeats 8000000 in
set_option maxRecDepth 100000 in
theorem kX3_drop (l : Launch) (D : va_G) (q : Nat → Nat) (cI cJ cZ : ClassId) (tP sz : Nat) (vnum : Int32) (vsz : Int32) (vfr : Int32) (vfo : Int32) (vli : Int32) (va : (Nat → Int32)) (vb : (Nat → Int32)) (vc : (Nat → Int32)) (ve : (Nat → Int32)) (vth : (Nat → Int32)) (vrk : (Nat → Int32)) (vcm : (Nat → Int32)) (vkx : (Nat → Int32)) (vky : (Nat → Int32)) (vkz : (Nat → Int32)) (vmk : (Nat → Int32)) (vre : (Nat → Int32)) (vro : (Nat → Int32)) (vwi : (Nat → Int32)) (vla : (Nat → Int32)) (vlb : (Nat → Int32)) (vtu : (Nat → Int32)) (k0x : Int32) (k0y : Int32) (k0z : Int32) (k1x : Int32) (k1y : Int32) (k1z : Int32) (k2x : Int32) (k2y : Int32) (k2z : Int32) (k3x : Int32) (k3y : Int32) (k3z : Int32) (p1 : Int32) (uu : (Int32 × (Nat → Int32) × (Nat → Int32) × (Nat → Int32) × (Nat → Int32))) (h : fX3_drop vsz va vb vc ve p1 = some uu) : Met l yX3_drop wsX3_drop ({ frames := 1, cells := 0, slots := 0, locals := 21 }) (cPre D cI cJ cZ tP (WC_ q cI cZ vnum vsz vfr vfo vli va vb vc ve vth vrk vcm vkx vky vkz vmk vre vro vwi vla vlb vtu k0x k0y k0z k1x k1y k1z k2x k2y k2z k3x k3y k3z) sz [.ref (q 1), .int p1]) (cQv D (va_A (WC_ q cI cZ vnum vsz vfr vfo vli va vb vc ve vth vrk vcm vkx vky vkz vmk vre vro vwi vla vlb vtu k0x k0y k0z k1x k1y k1z k2x k2y k2z k3x k3y k3z) sz) (WC_ q cI cZ vnum uu.1 vfr vfo vli uu.2.1 uu.2.2.1 uu.2.2.2.1 uu.2.2.2.2 vth vrk vcm vkx vky vkz vmk vre vro vwi vla vlb vtu k0x k0y k0z k1x k1y k1z k2x k2y k2z k3x k3y k3z)) 0 0 (va_A (WC_ q cI cZ vnum vsz vfr vfo vli va vb vc ve vth vrk vcm vkx vky vkz vmk vre vro vwi vla vlb vtu k0x k0y k0z k1x k1y k1z k2x k2y k2z k3x k3y k3z) sz) := by
  refine Met.ofW (cc := cX3_drop) (maxL := 3) (ret := none) (by decide) rfl ?_
  intro p e s m args below meth c s₁ B hml hv
  obtain ⟨rfl, hsz, hP, hK, hN, hD0, hZ⟩ := hv
  have hx := B.exec
  have hb := B.bytes
  have hr := B.returns
  have hts := atoms_spec (ws := wsX3_drop) B.pre
  have hown : s.vm.findClass RX3 = some m.cls := findClass_of_methodNamed B.named
  have hlocks := B.notSynchronized
  subst hsz
  have hD := hD0.self (sz := s.heap.size)
  generalize hAe : va_A (WC_ q cI cZ vnum vsz vfr vfo vli va vb vc ve vth vrk vcm vkx vky vkz vmk vre vro vwi vla vlb vtu k0x k0y k0z k1x k1y k1z k2x k2y k2z k3x k3y k3z) s.heap.size = A at hD hZ ⊢
  have hA : ∀ q : Nat, s.heap.size ≤ q → A q := fun q h => by rw [← hAe]; exact Or.inr h
  have hS : va_S A s.heap s.heap [] := va_S.rf
  have hl := lv_entry ([.ref (q 1), .int p1]) (n := 3) (Nat.le_of_ble_eq_true rfl)
  rw [lg_entry_eq]
  generalize (lg_sl ([.ref (q 1), .int p1]) ++ List.replicate (3 - (lg_sl ([.ref (q 1), .int p1])).length) Slot.unset).toArray = ls at hl ⊢
  have hl : lv_has ls 3 [(0, .ref (q 1)), (1, .int p1)] := hl
  unfold fX3_drop at h
  refine lv_aload_n hx hb dX3_drop_0 rfl (lv_at hl 0 rfl) ?_
  refine lv_iload_n hx hb dX3_drop_1 rfl (lv_at hl 1 rfl) ?_
  obtain ⟨u1, e2, h⟩ := bd_some h
  refine k_i (va_runV (As := [.int p1]) (rest := []) ⟨hx, hb, hml, hown, hts⟩ (kX3_holds l D q cI cJ cZ tP s.heap.size vnum vsz vfr vfo vli va vb vc ve vth vrk vcm vkx vky vkz vmk vre vro vwi vla vlb vtu k0x k0y k0z k1x k1y k1z k2x k2y k2z k3x k3y k3z p1 u1 e2) (cwV 1 hts gX3_drop_X3_holds rfl rfl rfl (by decide +kernel) ⟨Nat.le_of_ble_eq_true rfl, Nat.le_of_ble_eq_true rfl⟩) ⟨cPre_blind, va_recv hK hP (ci := 3) (q0 := 1) rfl rfl, cPre_at hP hK hN hD hS hA hZ⟩ rfl rfl hl.1 rfl (lv_room (Nat.le_of_ble_eq_true rfl)) dX3_drop_2 ⟨Nat.le_of_ble_eq_true rfl, Nat.le_of_ble_eq_true rfl⟩) hD hS hA (fun H locs hP hD hS => ?_)
  refine lv_if_ne (tgt := 9) hx hb dX3_drop_5 (by decide) (fun c3 => ?_) (fun c3 => ?_)
  · have h := (if_neg c3).symm.trans h
    refine lv_iload_n hx hb dX3_drop_9 rfl (lv_at hl 1 rfl) ?_
    refine lv_istore_n (lv' := [(2, .int p1), (0, .ref (q 1)), (1, .int p1)]) hx hb dX3_drop_10 rfl hl (by decide) rfl (fun ls hl => ?_)
    obtain ⟨u9, e10, h⟩ := bd_some h
    refine W_leave (P := fun (y : (Int32 × (Nat → Int32) × (Nat → Int32) × (Nat → Int32) × (Nat → Int32))) H locs ls => u9 = y ∧ va_P D vwCl (WC_ q cI cZ vnum vsz vfr vfo vli y.2.1 y.2.2.1 y.2.2.2.1 y.2.2.2.2 vth vrk vcm vkx vky vkz vmk vre vro vwi vla vlb vtu k0x k0y k0z k1x k1y k1z k2x k2y k2z k3x k3y k3z) H ∧ va_D A (WC_ q cI cZ vnum vsz vfr vfo vli y.2.1 y.2.2.1 y.2.2.2.1 y.2.2.2.2 vth vrk vcm vkx vky vkz vmk vre vro vwi vla vlb vtu k0x k0y k0z k1x k1y k1z k2x k2y k2z k3x k3y k3z) ∧ va_S A s.heap H locs ∧ lv_has ls 3 [(2, .int y.1), (0, .ref (q 1)), (1, .int p1)]) (g := fun ls => F0 m 83 ls []) ?_ ?_
    · intro y H locs ls hq
      obtain ⟨hy, hP, hD, hS, hl⟩ := hq
      subst hy
      have hl : lv_has ls 3 [(2, .int u9.1), (0, .ref (q 1)), (1, .int p1)] := hl
      refine lv_aload_n hx hb dX3_drop_83 rfl (lv_at hl 1 rfl) ?_
      refine lv_dup hx hb dX3_drop_84 rfl ?_
      refine va_get (D := D) (ci := 3) (v := .int vsz) (C := RX3) (T := TX3) (N := 7) hx hb hts wiX3_drop_X3 hown hK hP 1 rfl rfl 6 (by decide) (hts _ wmX3_drop_0) (fun _ h9 => h9) rfl dX3_drop_85 ?_
      refine lv_iconst (v := (1 : Int32)) hx hb dX3_drop_88 (by decide) ?_
      refine lv_isub hx hb dX3_drop_89 ?_
      refine va_put (D := D) (ci := 3) (v := .int (vsz - (1 : Int32))) (ty := .int) (C := RX3) (T := TX3) (N := 7) hx hb hts wiX3_drop_X3 tyX3 tyX3_ok nmX3 hown hK hP hD hS 1 rfl rfl 6 (by decide) (hts _ wmX3_drop_0) (fun _ h9 => h9) rfl (by decide +kernel) rfl rfl (Nat.le_of_ble_eq_true rfl) dX3_drop_90 (fun H locs hP hD hS => ?_)
      have hP : va_P D vwCl (WC_ q cI cZ vnum (vsz - (1 : Int32)) vfr vfo vli u9.2.1 u9.2.2.1 u9.2.2.2.1 u9.2.2.2.2 vth vrk vcm vkx vky vkz vmk vre vro vwi vla vlb vtu k0x k0y k0z k1x k1y k1z k2x k2y k2z k3x k3y k3z) H := hP
      have hD : va_D A (WC_ q cI cZ vnum (vsz - (1 : Int32)) vfr vfo vli u9.2.1 u9.2.2.1 u9.2.2.2.1 u9.2.2.2.2 vth vrk vcm vkx vky vkz vmk vre vro vwi vla vlb vtu k0x k0y k0z k1x k1y k1z k2x k2y k2z k3x k3y k3z) := hD
      obtain rfl := Option.some.inj h
      exact W.vret hx hb hr (fun t ht hW => ⟨⟨(), rfl, trivial, by rw [ht]; exact hP, hD⟩, hS.F ht⟩) hS.2.2 dX3_drop_93
    · intro K11
      refine W_lp (body := (fun (st : (Int32 × (Nat → Int32) × (Nat → Int32) × (Nat → Int32) × (Nat → Int32))) => fX3_drop_L11 vsz st.1 st.2.1 st.2.2.1 st.2.2.2.1 st.2.2.2.2)) (P := fun (st : (Int32 × (Nat → Int32) × (Nat → Int32) × (Nat → Int32) × (Nat → Int32))) H locs ls => va_P D vwCl (WC_ q cI cZ vnum vsz vfr vfo vli st.2.1 st.2.2.1 st.2.2.2.1 st.2.2.2.2 vth vrk vcm vkx vky vkz vmk vre vro vwi vla vlb vtu k0x k0y k0z k1x k1y k1z k2x k2y k2z k3x k3y k3z) H ∧ va_D A (WC_ q cI cZ vnum vsz vfr vfo vli st.2.1 st.2.2.1 st.2.2.2.1 st.2.2.2.2 vth vrk vcm vkx vky vkz vmk vre vro vwi vla vlb vtu k0x k0y k0z k1x k1y k1z k2x k2y k2z k3x k3y k3z) ∧ va_S A s.heap H locs ∧ lv_has ls 3 [(2, .int st.1), (0, .ref (q 1)), (1, .int p1)]) (g := fun _ ls => F0 m 11 ls []) (r := u9) ?_ fu_ (p1, va, vb, vc, ve) _ _ _ e10 ⟨hP, hD, hS, lv_sub hl [0, 1, 2] rfl⟩
      intro st xx15 H locs ls h hq ih14 hR13
      obtain ⟨hP, hD, hS, hl⟩ := hq
      obtain ⟨v4, v5, v6, v7, v8⟩ := st
      have hP : va_P D vwCl (WC_ q cI cZ vnum vsz vfr vfo vli v5 v6 v7 v8 vth vrk vcm vkx vky vkz vmk vre vro vwi vla vlb vtu k0x k0y k0z k1x k1y k1z k2x k2y k2z k3x k3y k3z) H := hP
      have hD : va_D A (WC_ q cI cZ vnum vsz vfr vfo vli v5 v6 v7 v8 vth vrk vcm vkx vky vkz vmk vre vro vwi vla vlb vtu k0x k0y k0z k1x k1y k1z k2x k2y k2z k3x k3y k3z) := hD
      have hl : lv_has ls 3 [(2, .int v4), (0, .ref (q 1)), (1, .int p1)] := hl
      have h : fX3_drop_L11 vsz v4 v5 v6 v7 v8 = some xx15 := h
      unfold fX3_drop_L11 at h
      refine lv_iload_n hx hb dX3_drop_11 rfl (lv_at hl 0 rfl) ?_
      refine lv_iconst (v := (1 : Int32)) hx hb dX3_drop_12 (by decide) ?_
      refine lv_iadd hx hb dX3_drop_13 ?_
      refine lv_aload_n hx hb dX3_drop_14 rfl (lv_at hl 1 rfl) ?_
      refine va_get (D := D) (ci := 3) (v := .int vsz) (C := RX3) (T := TX3) (N := 7) hx hb hts wiX3_drop_X3 hown hK hP 1 rfl rfl 6 (by decide) (hts _ wmX3_drop_0) (fun _ h9 => h9) rfl dX3_drop_15 ?_
      refine lv_icmp_ge (tgt := 83) hx hb dX3_drop_18 (by decide) (fun c16 => ?_) (fun c16 => ?_)
      · have h := (if_pos c16).symm.trans h
        exact K11 _ _ _ _ ⟨(hR13 _ (Option.some.inj h).symm).symm, hP, hD, hS, lv_sub hl [0, 1, 2] rfl⟩
      · have h := (if_neg c16).symm.trans h
        refine lv_aload_n hx hb dX3_drop_21 rfl (lv_at hl 1 rfl) ?_
        refine va_get (D := D) (ci := 3) (v := .ref (q 2)) (C := RX3) (T := TX3) (N := 7) hx hb hts wiX3_drop_X3 hown hK hP 1 rfl rfl 1 (by decide) (hts _ wmX3_drop_1) (fun _ h9 => h9) rfl dX3_drop_22 ?_
        refine lv_iload_n hx hb dX3_drop_25 rfl (lv_at hl 0 rfl) ?_
        refine lv_aload_n hx hb dX3_drop_26 rfl (lv_at hl 1 rfl) ?_
        refine va_get (D := D) (ci := 3) (v := .ref (q 2)) (C := RX3) (T := TX3) (N := 7) hx hb hts wiX3_drop_X3 hown hK hP 1 rfl rfl 1 (by decide) (hts _ wmX3_drop_1) (fun _ h9 => h9) rfl dX3_drop_27 ?_
        refine lv_iload_n hx hb dX3_drop_30 rfl (lv_at hl 0 rfl) ?_
        refine lv_iconst (v := (1 : Int32)) hx hb dX3_drop_31 (by decide) ?_
        refine lv_iadd hx hb dX3_drop_32 ?_
        obtain ⟨i17, h⟩ := ck_some h
        refine va_iald hx hb hK hP 2 0 rfl rfl i17 dX3_drop_33 ?_
        obtain ⟨i18, h⟩ := ck_some h
        refine va_iast hx hb hK hP hD hS 2 0 rfl rfl i18 dX3_drop_34 (fun H locs hP hD hS => ?_)
        have hP : va_P D vwCl (WC_ q cI cZ vnum vsz vfr vfo vli (upd v5 v4.toNatClampNeg (v5 (v4 + (1 : Int32)).toNatClampNeg)) v6 v7 v8 vth vrk vcm vkx vky vkz vmk vre vro vwi vla vlb vtu k0x k0y k0z k1x k1y k1z k2x k2y k2z k3x k3y k3z) H := hP
        have hD : va_D A (WC_ q cI cZ vnum vsz vfr vfo vli (upd v5 v4.toNatClampNeg (v5 (v4 + (1 : Int32)).toNatClampNeg)) v6 v7 v8 vth vrk vcm vkx vky vkz vmk vre vro vwi vla vlb vtu k0x k0y k0z k1x k1y k1z k2x k2y k2z k3x k3y k3z) := hD
        refine lv_aload_n hx hb dX3_drop_35 rfl (lv_at hl 1 rfl) ?_
        refine va_get (D := D) (ci := 3) (v := .ref (q 3)) (C := RX3) (T := TX3) (N := 7) hx hb hts wiX3_drop_X3 hown hK hP 1 rfl rfl 2 (by decide) (hts _ wmX3_drop_2) (fun _ h9 => h9) rfl dX3_drop_36 ?_
        refine lv_iload_n hx hb dX3_drop_39 rfl (lv_at hl 0 rfl) ?_
        refine lv_aload_n hx hb dX3_drop_40 rfl (lv_at hl 1 rfl) ?_
        refine va_get (D := D) (ci := 3) (v := .ref (q 3)) (C := RX3) (T := TX3) (N := 7) hx hb hts wiX3_drop_X3 hown hK hP 1 rfl rfl 2 (by decide) (hts _ wmX3_drop_2) (fun _ h9 => h9) rfl dX3_drop_41 ?_
        refine lv_iload_n hx hb dX3_drop_44 rfl (lv_at hl 0 rfl) ?_
        refine lv_iconst (v := (1 : Int32)) hx hb dX3_drop_45 (by decide) ?_
        refine lv_iadd hx hb dX3_drop_46 ?_
        obtain ⟨i19, h⟩ := ck_some h
        refine va_iald hx hb hK hP 3 0 rfl rfl i19 dX3_drop_47 ?_
        obtain ⟨i20, h⟩ := ck_some h
        refine va_iast hx hb hK hP hD hS 3 0 rfl rfl i20 dX3_drop_48 (fun H locs hP hD hS => ?_)
        have hP : va_P D vwCl (WC_ q cI cZ vnum vsz vfr vfo vli (upd v5 v4.toNatClampNeg (v5 (v4 + (1 : Int32)).toNatClampNeg)) (upd v6 v4.toNatClampNeg (v6 (v4 + (1 : Int32)).toNatClampNeg)) v7 v8 vth vrk vcm vkx vky vkz vmk vre vro vwi vla vlb vtu k0x k0y k0z k1x k1y k1z k2x k2y k2z k3x k3y k3z) H := hP
        have hD : va_D A (WC_ q cI cZ vnum vsz vfr vfo vli (upd v5 v4.toNatClampNeg (v5 (v4 + (1 : Int32)).toNatClampNeg)) (upd v6 v4.toNatClampNeg (v6 (v4 + (1 : Int32)).toNatClampNeg)) v7 v8 vth vrk vcm vkx vky vkz vmk vre vro vwi vla vlb vtu k0x k0y k0z k1x k1y k1z k2x k2y k2z k3x k3y k3z) := hD
        refine lv_aload_n hx hb dX3_drop_49 rfl (lv_at hl 1 rfl) ?_
        refine va_get (D := D) (ci := 3) (v := .ref (q 4)) (C := RX3) (T := TX3) (N := 7) hx hb hts wiX3_drop_X3 hown hK hP 1 rfl rfl 3 (by decide) (hts _ wmX3_drop_3) (fun _ h9 => h9) rfl dX3_drop_50 ?_
        refine lv_iload_n hx hb dX3_drop_53 rfl (lv_at hl 0 rfl) ?_
        refine lv_aload_n hx hb dX3_drop_54 rfl (lv_at hl 1 rfl) ?_
        refine va_get (D := D) (ci := 3) (v := .ref (q 4)) (C := RX3) (T := TX3) (N := 7) hx hb hts wiX3_drop_X3 hown hK hP 1 rfl rfl 3 (by decide) (hts _ wmX3_drop_3) (fun _ h9 => h9) rfl dX3_drop_55 ?_
        refine lv_iload_n hx hb dX3_drop_58 rfl (lv_at hl 0 rfl) ?_
        refine lv_iconst (v := (1 : Int32)) hx hb dX3_drop_59 (by decide) ?_
        refine lv_iadd hx hb dX3_drop_60 ?_
        obtain ⟨i21, h⟩ := ck_some h
        refine va_iald hx hb hK hP 4 0 rfl rfl i21 dX3_drop_61 ?_
        obtain ⟨i22, h⟩ := ck_some h
        refine va_iast hx hb hK hP hD hS 4 0 rfl rfl i22 dX3_drop_62 (fun H locs hP hD hS => ?_)
        have hP : va_P D vwCl (WC_ q cI cZ vnum vsz vfr vfo vli (upd v5 v4.toNatClampNeg (v5 (v4 + (1 : Int32)).toNatClampNeg)) (upd v6 v4.toNatClampNeg (v6 (v4 + (1 : Int32)).toNatClampNeg)) (upd v7 v4.toNatClampNeg (v7 (v4 + (1 : Int32)).toNatClampNeg)) v8 vth vrk vcm vkx vky vkz vmk vre vro vwi vla vlb vtu k0x k0y k0z k1x k1y k1z k2x k2y k2z k3x k3y k3z) H := hP
        have hD : va_D A (WC_ q cI cZ vnum vsz vfr vfo vli (upd v5 v4.toNatClampNeg (v5 (v4 + (1 : Int32)).toNatClampNeg)) (upd v6 v4.toNatClampNeg (v6 (v4 + (1 : Int32)).toNatClampNeg)) (upd v7 v4.toNatClampNeg (v7 (v4 + (1 : Int32)).toNatClampNeg)) v8 vth vrk vcm vkx vky vkz vmk vre vro vwi vla vlb vtu k0x k0y k0z k1x k1y k1z k2x k2y k2z k3x k3y k3z) := hD
        refine lv_aload_n hx hb dX3_drop_63 rfl (lv_at hl 1 rfl) ?_
        refine va_get (D := D) (ci := 3) (v := .ref (q 5)) (C := RX3) (T := TX3) (N := 7) hx hb hts wiX3_drop_X3 hown hK hP 1 rfl rfl 4 (by decide) (hts _ wmX3_drop_4) (fun _ h9 => h9) rfl dX3_drop_64 ?_
        refine lv_iload_n hx hb dX3_drop_67 rfl (lv_at hl 0 rfl) ?_
        refine lv_aload_n hx hb dX3_drop_68 rfl (lv_at hl 1 rfl) ?_
        refine va_get (D := D) (ci := 3) (v := .ref (q 5)) (C := RX3) (T := TX3) (N := 7) hx hb hts wiX3_drop_X3 hown hK hP 1 rfl rfl 4 (by decide) (hts _ wmX3_drop_4) (fun _ h9 => h9) rfl dX3_drop_69 ?_
        refine lv_iload_n hx hb dX3_drop_72 rfl (lv_at hl 0 rfl) ?_
        refine lv_iconst (v := (1 : Int32)) hx hb dX3_drop_73 (by decide) ?_
        refine lv_iadd hx hb dX3_drop_74 ?_
        obtain ⟨i23, h⟩ := ck_some h
        refine va_iald hx hb hK hP 5 0 rfl rfl i23 dX3_drop_75 ?_
        obtain ⟨i24, h⟩ := ck_some h
        refine va_iast hx hb hK hP hD hS 5 0 rfl rfl i24 dX3_drop_76 (fun H locs hP hD hS => ?_)
        have hP : va_P D vwCl (WC_ q cI cZ vnum vsz vfr vfo vli (upd v5 v4.toNatClampNeg (v5 (v4 + (1 : Int32)).toNatClampNeg)) (upd v6 v4.toNatClampNeg (v6 (v4 + (1 : Int32)).toNatClampNeg)) (upd v7 v4.toNatClampNeg (v7 (v4 + (1 : Int32)).toNatClampNeg)) (upd v8 v4.toNatClampNeg (v8 (v4 + (1 : Int32)).toNatClampNeg)) vth vrk vcm vkx vky vkz vmk vre vro vwi vla vlb vtu k0x k0y k0z k1x k1y k1z k2x k2y k2z k3x k3y k3z) H := hP
        have hD : va_D A (WC_ q cI cZ vnum vsz vfr vfo vli (upd v5 v4.toNatClampNeg (v5 (v4 + (1 : Int32)).toNatClampNeg)) (upd v6 v4.toNatClampNeg (v6 (v4 + (1 : Int32)).toNatClampNeg)) (upd v7 v4.toNatClampNeg (v7 (v4 + (1 : Int32)).toNatClampNeg)) (upd v8 v4.toNatClampNeg (v8 (v4 + (1 : Int32)).toNatClampNeg)) vth vrk vcm vkx vky vkz vmk vre vro vwi vla vlb vtu k0x k0y k0z k1x k1y k1z k2x k2y k2z k3x k3y k3z) := hD
        refine lv_iinc (v := (v4 + (1 : Int32))) (lv' := [(2, .int (v4 + (1 : Int32))), (0, .ref (q 1)), (1, .int p1)]) hx hb dX3_drop_77 hl (k := 0) rfl rfl (by decide) rfl (fun ls hl => ?_)
        refine lv_goto (tgt := 11) hx hb dX3_drop_80 (by decide) ?_
        exact ih14 _ _ _ _ (Option.some.inj h).symm ⟨hP, hD, hS, lv_sub hl [0, 1, 2] rfl⟩
  · have h := (if_pos c3).symm.trans h
    obtain rfl := Option.some.inj h
    exact W.vret hx hb hr (fun t ht hW => ⟨⟨(), rfl, trivial, by rw [ht]; exact hP, hD⟩, hS.F ht⟩) hS.2.2 dX3_drop_8

-- X3_indexOf
theorem wmX3_indexOf_0 : (.fieldLink RX3 31 "SpaceWalls$Planes" "size" "I" : Cond) ∈ wsX3_indexOf := by decide +kernel
theorem wmX3_indexOf_1 : (.methodLink RX3 45 Lib.Math.min.name : Cond) ∈ wsX3_indexOf := by decide +kernel
theorem wmX3_indexOf_2 : (.static Lib.Math.min.name : Cond) ∈ wsX3_indexOf := by decide +kernel
theorem wmX3_indexOf_3 : (.initialized "java/lang/Math" : Cond) ∈ wsX3_indexOf := by decide +kernel
theorem wmX3_indexOf_4 : (.code Lib.Math.min.name Lib.Math.min.code 2 (some .int) : Cond) ∈ wsX3_indexOf := by decide +kernel
theorem wiX3_indexOf_X3 : ∀ w ∈ u_ws RX3 TX3 7, w ∈ wsX3_indexOf := by decide +kernel
set_option maxHeartbeats 8000000 in
set_option maxRecDepth 100000 in
theorem kX3_indexOf (l : Launch) (D : va_G) (q : Nat → Nat) (cI cJ cZ : ClassId) (tP sz : Nat) (vnum : Int32) (vsz : Int32) (vfr : Int32) (vfo : Int32) (vli : Int32) (va : (Nat → Int32)) (vb : (Nat → Int32)) (vc : (Nat → Int32)) (ve : (Nat → Int32)) (vth : (Nat → Int32)) (vrk : (Nat → Int32)) (vcm : (Nat → Int32)) (vkx : (Nat → Int32)) (vky : (Nat → Int32)) (vkz : (Nat → Int32)) (vmk : (Nat → Int32)) (vre : (Nat → Int32)) (vro : (Nat → Int32)) (vwi : (Nat → Int32)) (vla : (Nat → Int32)) (vlb : (Nat → Int32)) (vtu : (Nat → Int32)) (k0x : Int32) (k0y : Int32) (k0z : Int32) (k1x : Int32) (k1y : Int32) (k1z : Int32) (k2x : Int32) (k2y : Int32) (k2z : Int32) (k3x : Int32) (k3y : Int32) (k3z : Int32) (p1 : Int32) (uu : Int32) (h : fX3_indexOf vsz p1 = some uu) : Met l yX3_indexOf wsX3_indexOf ({ frames := 1, cells := 0, slots := 0, locals := 21 }) (cPre D cI cJ cZ tP (WC_ q cI cZ vnum vsz vfr vfo vli va vb vc ve vth vrk vcm vkx vky vkz vmk vre vro vwi vla vlb vtu k0x k0y k0z k1x k1y k1z k2x k2y k2z k3x k3y k3z) sz [.ref (q 1), .int p1]) (cQi D (va_A (WC_ q cI cZ vnum vsz vfr vfo vli va vb vc ve vth vrk vcm vkx vky vkz vmk vre vro vwi vla vlb vtu k0x k0y k0z k1x k1y k1z k2x k2y k2z k3x k3y k3z) sz) (WC_ q cI cZ vnum vsz vfr vfo vli va vb vc ve vth vrk vcm vkx vky vkz vmk vre vro vwi vla vlb vtu k0x k0y k0z k1x k1y k1z k2x k2y k2z k3x k3y k3z) uu) 0 0 (va_A (WC_ q cI cZ vnum vsz vfr vfo vli va vb vc ve vth vrk vcm vkx vky vkz vmk vre vro vwi vla vlb vtu k0x k0y k0z k1x k1y k1z k2x k2y k2z k3x k3y k3z) sz) := by
  refine Met.ofW (cc := cX3_indexOf) (maxL := 2) (ret := (some .int)) (by decide) rfl ?_
  intro p e s m args below meth c s₁ B hml hv
  obtain ⟨rfl, hsz, hP, hK, hN, hD0, hZ⟩ := hv
  have hx := B.exec
  have hb := B.bytes
  have hr := B.returns
  have hts := atoms_spec (ws := wsX3_indexOf) B.pre
  have hown : s.vm.findClass RX3 = some m.cls := findClass_of_methodNamed B.named
  have hlocks := B.notSynchronized
  subst hsz
  have hD := hD0.self (sz := s.heap.size)
  generalize hAe : va_A (WC_ q cI cZ vnum vsz vfr vfo vli va vb vc ve vth vrk vcm vkx vky vkz vmk vre vro vwi vla vlb vtu k0x k0y k0z k1x k1y k1z k2x k2y k2z k3x k3y k3z) s.heap.size = A at hD hZ ⊢
  have hA : ∀ q : Nat, s.heap.size ≤ q → A q := fun q h => by rw [← hAe]; exact Or.inr h
  have hS : va_S A s.heap s.heap [] := va_S.rf
  have hl := lv_entry ([.ref (q 1), .int p1]) (n := 2) (Nat.le_of_ble_eq_true rfl)
  rw [lg_entry_eq]
  generalize (lg_sl ([.ref (q 1), .int p1]) ++ List.replicate (2 - (lg_sl ([.ref (q 1), .int p1])).length) Slot.unset).toArray = ls at hl ⊢
  have hl : lv_has ls 2 [(0, .ref (q 1)), (1, .int p1)] := hl
  unfold fX3_indexOf at h
  refine lv_iload_n hx hb dX3_indexOf_0 rfl (lv_at hl 1 rfl) ?_
  refine lv_aload_n hx hb dX3_indexOf_1 rfl (lv_at hl 0 rfl) ?_
  refine va_get (D := D) (ci := 3) (v := .int vsz) (C := RX3) (T := TX3) (N := 7) hx hb hts wiX3_indexOf_X3 hown hK hP 1 rfl rfl 6 (by decide) (hts _ wmX3_indexOf_0) (fun _ h9 => h9) rfl dX3_indexOf_2 ?_
  refine lv_icmp_ge (tgt := 12) hx hb dX3_indexOf_5 (by decide) (fun c1 => ?_) (fun c1 => ?_)
  · have h := (if_pos c1).symm.trans h
    refine lv_bipush (v := (8 : Int32)) hx hb dX3_indexOf_12 (by decide) ?_
    refine lv_iload_n hx hb dX3_indexOf_14 rfl (lv_at hl 1 rfl) ?_
    refine lv_iadd hx hb dX3_indexOf_15 ?_
    refine lv_aload_n hx hb dX3_indexOf_16 rfl (lv_at hl 0 rfl) ?_
    refine va_get (D := D) (ci := 3) (v := .int vsz) (C := RX3) (T := TX3) (N := 7) hx hb hts wiX3_indexOf_X3 hown hK hP 1 rfl rfl 6 (by decide) (hts _ wmX3_indexOf_0) (fun _ h9 => h9) rfl dX3_indexOf_17 ?_
    refine lv_isub hx hb dX3_indexOf_20 ?_
    refine lv_bipush (v := (10 : Int32)) hx hb dX3_indexOf_21 (by decide) ?_
    refine va_mmin hx hb (hml.trans hl.1.symm) hown (hts _ wmX3_indexOf_1) (hts _ wmX3_indexOf_2) (hts _ wmX3_indexOf_3) (hts _ wmX3_indexOf_4) (Nat.le_of_ble_eq_true rfl) (Nat.le_of_ble_eq_true rfl) (Nat.le_of_ble_eq_true rfl) (Nat.le_of_ble_eq_true rfl) dX3_indexOf_23 ?_
    obtain rfl := Option.some.inj h
    exact W.iret (v := (if (10 : Int32) < (((8 : Int32) + p1) - vsz) then (10 : Int32) else (((8 : Int32) + p1) - vsz))) hx hb hr (fun t ht hW => ⟨⟨(if (10 : Int32) < (((8 : Int32) + p1) - vsz) then (10 : Int32) else (((8 : Int32) + p1) - vsz)), (), rfl, rfl, by rw [ht]; exact hP, hD⟩, hS.F ht⟩) hS.2.2 dX3_indexOf_26
  · have h := (if_neg c1).symm.trans h
    refine lv_iload_n hx hb dX3_indexOf_8 rfl (lv_at hl 1 rfl) ?_
    refine lv_goto (tgt := 26) hx hb dX3_indexOf_9 (by decide) ?_
    obtain rfl := Option.some.inj h
    exact W.iret (v := p1) hx hb hr (fun t ht hW => ⟨⟨p1, (), rfl, rfl, by rw [ht]; exact hP, hD⟩, hS.F ht⟩) hS.2.2 dX3_indexOf_26

-- X3_signs
theorem wmX3_signs_0 : (.fieldLink RX3 31 "SpaceWalls$Planes" "size" "I" : Cond) ∈ wsX3_signs := by decide +kernel
theorem wmX3_signs_1 : (.fieldLink RX3 9 "SpaceWalls$Planes" "a" "[I" : Cond) ∈ wsX3_signs := by decide +kernel
theorem wmX3_signs_2 : (.fieldLink RX3 15 "SpaceWalls$Planes" "b" "[I" : Cond) ∈ wsX3_signs := by decide +kernel
theorem wmX3_signs_3 : (.fieldLink RX3 18 "SpaceWalls$Planes" "c" "[I" : Cond) ∈ wsX3_signs := by decide +kernel
theorem wmX3_signs_4 : (.fieldLink RX3 21 "SpaceWalls$Planes" "e" "[I" : Cond) ∈ wsX3_signs := by decide +kernel
theorem wiX3_signs_X3 : ∀ w ∈ u_ws RX3 TX3 7, w ∈ wsX3_signs := by decide +kernel
set_option maxHeartbeats 8000000 in
set_option maxRecDepth 100000 in
theorem kX3_signs (l : Launch) (D : va_G) (q : Nat → Nat) (cI cJ cZ : ClassId) (tP sz : Nat) (vnum : Int32) (vsz : Int32) (vfr : Int32) (vfo : Int32) (vli : Int32) (va : (Nat → Int32)) (vb : (Nat → Int32)) (vc : (Nat → Int32)) (ve : (Nat → Int32)) (vth : (Nat → Int32)) (vrk : (Nat → Int32)) (vcm : (Nat → Int32)) (vkx : (Nat → Int32)) (vky : (Nat → Int32)) (vkz : (Nat → Int32)) (vmk : (Nat → Int32)) (vre : (Nat → Int32)) (vro : (Nat → Int32)) (vwi : (Nat → Int32)) (vla : (Nat → Int32)) (vlb : (Nat → Int32)) (vtu : (Nat → Int32)) (k0x : Int32) (k0y : Int32) (k0z : Int32) (k1x : Int32) (k1y : Int32) (k1z : Int32) (k2x : Int32) (k2y : Int32) (k2z : Int32) (k3x : Int32) (k3y : Int32) (k3z : Int32) (p1 : Int32) (p2 : Int32) (p3 : Int32) (p4 : Int32) (uu : Int32) (h : fX3_signs vsz va vb vc ve p1 p2 p3 p4 = some uu) : Met l yX3_signs wsX3_signs ({ frames := 0, cells := 0, slots := 0, locals := 0 }) (cPre D cI cJ cZ tP (WC_ q cI cZ vnum vsz vfr vfo vli va vb vc ve vth vrk vcm vkx vky vkz vmk vre vro vwi vla vlb vtu k0x k0y k0z k1x k1y k1z k2x k2y k2z k3x k3y k3z) sz [.ref (q 1), .int p1, .int p2, .int p3, .int p4]) (cQi D (va_A (WC_ q cI cZ vnum vsz vfr vfo vli va vb vc ve vth vrk vcm vkx vky vkz vmk vre vro vwi vla vlb vtu k0x k0y k0z k1x k1y k1z k2x k2y k2z k3x k3y k3z) sz) (WC_ q cI cZ vnum vsz vfr vfo vli va vb vc ve vth vrk vcm vkx vky vkz vmk vre vro vwi vla vlb vtu k0x k0y k0z k1x k1y k1z k2x k2y k2z k3x k3y k3z) uu) 0 0 (va_A (WC_ q cI cZ vnum vsz vfr vfo vli va vb vc ve vth vrk vcm vkx vky vkz vmk vre vro vwi vla vlb vtu k0x k0y k0z k1x k1y k1z k2x k2y k2z k3x k3y k3z) sz) := by
  refine Met.ofW (cc := cX3_signs) (maxL := 8) (ret := (some .int)) (by decide) rfl ?_
  intro p e s m args below meth c s₁ B hml hv
  obtain ⟨rfl, hsz, hP, hK, hN, hD0, hZ⟩ := hv
  have hx := B.exec
  have hb := B.bytes
  have hr := B.returns
  have hts := atoms_spec (ws := wsX3_signs) B.pre
  have hown : s.vm.findClass RX3 = some m.cls := findClass_of_methodNamed B.named
  have hlocks := B.notSynchronized
  subst hsz
  have hD := hD0.self (sz := s.heap.size)
  generalize hAe : va_A (WC_ q cI cZ vnum vsz vfr vfo vli va vb vc ve vth vrk vcm vkx vky vkz vmk vre vro vwi vla vlb vtu k0x k0y k0z k1x k1y k1z k2x k2y k2z k3x k3y k3z) s.heap.size = A at hD hZ ⊢
  have hA : ∀ q : Nat, s.heap.size ≤ q → A q := fun q h => by rw [← hAe]; exact Or.inr h
  have hS : va_S A s.heap s.heap [] := va_S.rf
  have hl := lv_entry ([.ref (q 1), .int p1, .int p2, .int p3, .int p4]) (n := 8) (Nat.le_of_ble_eq_true rfl)
  rw [lg_entry_eq]
  generalize (lg_sl ([.ref (q 1), .int p1, .int p2, .int p3, .int p4]) ++ List.replicate (8 - (lg_sl ([.ref (q 1), .int p1, .int p2, .int p3, .int p4])).length) Slot.unset).toArray = ls at hl ⊢
  have hl : lv_has ls 8 [(0, .ref (q 1)), (1, .int p1), (2, .int p2), (3, .int p3), (4, .int p4)] := hl
  unfold fX3_signs at h
  refine lv_iconst (v := (0 : Int32)) hx hb dX3_signs_0 (by decide) ?_
  refine lv_istore (lv' := [(5, .int (0 : Int32)), (0, .ref (q 1)), (1, .int p1), (2, .int p2), (3, .int p3), (4, .int p4)]) hx hb dX3_signs_1 hl (by decide) rfl (fun ls hl => ?_)
  refine lv_iconst (v := (0 : Int32)) hx hb dX3_signs_3 (by decide) ?_
  refine lv_istore (lv' := [(6, .int (0 : Int32)), (5, .int (0 : Int32)), (0, .ref (q 1)), (1, .int p1), (2, .int p2), (3, .int p3), (4, .int p4)]) hx hb dX3_signs_4 hl (by decide) rfl (fun ls hl => ?_)
  obtain ⟨u3, e4, h⟩ := bd_some h
  refine W_leave (P := fun (y : (Int32 × Int32)) H locs ls => u3 = y ∧ va_P D vwCl (WC_ q cI cZ vnum vsz vfr vfo vli va vb vc ve vth vrk vcm vkx vky vkz vmk vre vro vwi vla vlb vtu k0x k0y k0z k1x k1y k1z k2x k2y k2z k3x k3y k3z) H ∧ va_D A (WC_ q cI cZ vnum vsz vfr vfo vli va vb vc ve vth vrk vcm vkx vky vkz vmk vre vro vwi vla vlb vtu k0x k0y k0z k1x k1y k1z k2x k2y k2z k3x k3y k3z) ∧ va_S A s.heap H locs ∧ lv_has ls 8 [(6, .int y.1), (5, .int y.2), (0, .ref (q 1)), (1, .int p1), (2, .int p2), (3, .int p3), (4, .int p4)]) (g := fun ls => F0 m 97 ls []) ?_ ?_
  · intro y H locs ls hq
    obtain ⟨hy, hP, hD, hS, hl⟩ := hq
    subst hy
    have hl : lv_has ls 8 [(6, .int u3.1), (5, .int u3.2), (0, .ref (q 1)), (1, .int p1), (2, .int p2), (3, .int p3), (4, .int p4)] := hl
    refine lv_iload hx hb dX3_signs_97 (lv_at hl 1 rfl) ?_
    obtain rfl := Option.some.inj h
    exact W.iret (v := u3.2) hx hb hr (fun t ht hW => ⟨⟨u3.2, (), rfl, rfl, by rw [ht]; exact hP, hD⟩, hS.F ht⟩) hS.2.2 dX3_signs_99
  · intro K5
    refine W_lp (body := (fun (st : (Int32 × Int32)) => fX3_signs_L6 vsz va p1 vb p2 vc p3 ve p4 st.1 st.2)) (P := fun (st : (Int32 × Int32)) H locs ls => va_P D vwCl (WC_ q cI cZ vnum vsz vfr vfo vli va vb vc ve vth vrk vcm vkx vky vkz vmk vre vro vwi vla vlb vtu k0x k0y k0z k1x k1y k1z k2x k2y k2z k3x k3y k3z) H ∧ va_D A (WC_ q cI cZ vnum vsz vfr vfo vli va vb vc ve vth vrk vcm vkx vky vkz vmk vre vro vwi vla vlb vtu k0x k0y k0z k1x k1y k1z k2x k2y k2z k3x k3y k3z) ∧ va_S A s.heap H locs ∧ lv_has ls 8 [(6, .int st.1), (5, .int st.2), (0, .ref (q 1)), (1, .int p1), (2, .int p2), (3, .int p3), (4, .int p4)]) (g := fun _ ls => F0 m 6 ls []) (r := u3) ?_ fu_ ((0 : Int32), (0 : Int32)) _ _ _ e4 ⟨hP, hD, hS, lv_sub hl [0, 1, 2, 3, 4, 5, 6] rfl⟩
    intro st xx9 H locs ls h hq ih8 hR7
    obtain ⟨hP, hD, hS, hl⟩ := hq
    obtain ⟨v1, v2⟩ := st
    have hP : va_P D vwCl (WC_ q cI cZ vnum vsz vfr vfo vli va vb vc ve vth vrk vcm vkx vky vkz vmk vre vro vwi vla vlb vtu k0x k0y k0z k1x k1y k1z k2x k2y k2z k3x k3y k3z) H := hP
    have hD : va_D A (WC_ q cI cZ vnum vsz vfr vfo vli va vb vc ve vth vrk vcm vkx vky vkz vmk vre vro vwi vla vlb vtu k0x k0y k0z k1x k1y k1z k2x k2y k2z k3x k3y k3z) := hD
    have hl : lv_has ls 8 [(6, .int v1), (5, .int v2), (0, .ref (q 1)), (1, .int p1), (2, .int p2), (3, .int p3), (4, .int p4)] := hl
    have h : fX3_signs_L6 vsz va p1 vb p2 vc p3 ve p4 v1 v2 = some xx9 := h
    unfold fX3_signs_L6 at h
    refine lv_iload hx hb dX3_signs_6 (lv_at hl 0 rfl) ?_
    refine lv_aload_n hx hb dX3_signs_8 rfl (lv_at hl 2 rfl) ?_
    refine va_get (D := D) (ci := 3) (v := .int vsz) (C := RX3) (T := TX3) (N := 7) hx hb hts wiX3_signs_X3 hown hK hP 1 rfl rfl 6 (by decide) (hts _ wmX3_signs_0) (fun _ h9 => h9) rfl dX3_signs_9 ?_
    refine lv_icmp_ge (tgt := 97) hx hb dX3_signs_12 (by decide) (fun c10 => ?_) (fun c10 => ?_)
    · have h := (if_pos c10).symm.trans h
      exact K5 _ _ _ _ ⟨(hR7 _ (Option.some.inj h).symm).symm, hP, hD, hS, lv_sub hl [0, 1, 2, 3, 4, 5, 6] rfl⟩
    · have h := (if_neg c10).symm.trans h
      refine lv_aload_n hx hb dX3_signs_15 rfl (lv_at hl 2 rfl) ?_
      refine va_get (D := D) (ci := 3) (v := .ref (q 2)) (C := RX3) (T := TX3) (N := 7) hx hb hts wiX3_signs_X3 hown hK hP 1 rfl rfl 1 (by decide) (hts _ wmX3_signs_1) (fun _ h9 => h9) rfl dX3_signs_16 ?_
      refine lv_iload hx hb dX3_signs_19 (lv_at hl 0 rfl) ?_
      obtain ⟨i11, h⟩ := ck_some h
      refine va_iald hx hb hK hP 2 0 rfl rfl i11 dX3_signs_21 ?_
      refine lv_iload_n hx hb dX3_signs_22 rfl (lv_at hl 3 rfl) ?_
      refine lv_imul hx hb dX3_signs_23 ?_
      refine lv_aload_n hx hb dX3_signs_24 rfl (lv_at hl 2 rfl) ?_
      refine va_get (D := D) (ci := 3) (v := .ref (q 3)) (C := RX3) (T := TX3) (N := 7) hx hb hts wiX3_signs_X3 hown hK hP 1 rfl rfl 2 (by decide) (hts _ wmX3_signs_2) (fun _ h9 => h9) rfl dX3_signs_25 ?_
      refine lv_iload hx hb dX3_signs_28 (lv_at hl 0 rfl) ?_
      obtain ⟨i12, h⟩ := ck_some h
      refine va_iald hx hb hK hP 3 0 rfl rfl i12 dX3_signs_30 ?_
      refine lv_iload_n hx hb dX3_signs_31 rfl (lv_at hl 4 rfl) ?_
      refine lv_imul hx hb dX3_signs_32 ?_
      refine lv_iadd hx hb dX3_signs_33 ?_
      refine lv_aload_n hx hb dX3_signs_34 rfl (lv_at hl 2 rfl) ?_
      refine va_get (D := D) (ci := 3) (v := .ref (q 4)) (C := RX3) (T := TX3) (N := 7) hx hb hts wiX3_signs_X3 hown hK hP 1 rfl rfl 3 (by decide) (hts _ wmX3_signs_3) (fun _ h9 => h9) rfl dX3_signs_35 ?_
      refine lv_iload hx hb dX3_signs_38 (lv_at hl 0 rfl) ?_
      obtain ⟨i13, h⟩ := ck_some h
      refine va_iald hx hb hK hP 4 0 rfl rfl i13 dX3_signs_40 ?_
      refine lv_iload_n hx hb dX3_signs_41 rfl (lv_at hl 5 rfl) ?_
      refine lv_imul hx hb dX3_signs_42 ?_
      refine lv_iadd hx hb dX3_signs_43 ?_
      refine lv_aload_n hx hb dX3_signs_44 rfl (lv_at hl 2 rfl) ?_
      refine va_get (D := D) (ci := 3) (v := .ref (q 5)) (C := RX3) (T := TX3) (N := 7) hx hb hts wiX3_signs_X3 hown hK hP 1 rfl rfl 4 (by decide) (hts _ wmX3_signs_4) (fun _ h9 => h9) rfl dX3_signs_45 ?_
      refine lv_iload hx hb dX3_signs_48 (lv_at hl 0 rfl) ?_
      obtain ⟨i14, h⟩ := ck_some h
      refine va_iald hx hb hK hP 5 0 rfl rfl i14 dX3_signs_50 ?_
      refine lv_iload hx hb dX3_signs_51 (lv_at hl 6 rfl) ?_
      refine lv_imul hx hb dX3_signs_53 ?_
      refine lv_isub hx hb dX3_signs_54 ?_
      refine lv_topi (fun n15 en15 => ?_)
      have h := nm_some en15 h
      refine lv_istore (lv' := [(7, .int n15), (6, .int v1), (5, .int v2), (0, .ref (q 1)), (1, .int p1), (2, .int p2), (3, .int p3), (4, .int p4)]) hx hb dX3_signs_55 hl (by decide) rfl (fun ls hl => ?_)
      refine lv_iload hx hb dX3_signs_57 (lv_at hl 0 rfl) ?_
      refine lv_if_ne (tgt := 74) hx hb dX3_signs_59 (by decide) (fun c16 => ?_) (fun c16 => ?_)
      · have h := (if_neg c16).symm.trans h
        refine lv_iload hx hb dX3_signs_74 (lv_at hl 0 rfl) ?_
        refine lv_if_le (tgt := 91) hx hb dX3_signs_76 (by decide) (fun c17 => ?_) (fun c17 => ?_)
        · have h := (if_pos c17).symm.trans h
          refine lv_iinc (v := (v1 + (1 : Int32))) (lv' := [(6, .int (v1 + (1 : Int32))), (7, .int n15), (5, .int v2), (0, .ref (q 1)), (1, .int p1), (2, .int p2), (3, .int p3), (4, .int p4)]) hx hb dX3_signs_91 hl (k := 1) rfl rfl (by decide) rfl (fun ls hl => ?_)
          refine lv_goto (tgt := 6) hx hb dX3_signs_94 (by decide) ?_
          exact ih8 _ _ _ _ (Option.some.inj h).symm ⟨hP, hD, hS, lv_sub hl [0, 2, 3, 4, 5, 6, 7] rfl⟩
        · have h := (if_neg c17).symm.trans h
          refine lv_iload hx hb dX3_signs_79 (lv_at hl 2 rfl) ?_
          refine lv_iconst (v := (1 : Int32)) hx hb dX3_signs_81 (by decide) ?_
          refine lv_iload hx hb dX3_signs_82 (lv_at hl 1 rfl) ?_
          refine lv_bipush (v := (8 : Int32)) hx hb dX3_signs_84 (by decide) ?_
          refine lv_iadd hx hb dX3_signs_86 ?_
          refine lv_ishl hx hb dX3_signs_87 ?_
          refine lv_ior hx hb dX3_signs_88 ?_
          refine lv_istore (lv' := [(5, .int (v2 ||| ((1 : Int32) <<< ((v1 + (8 : Int32)) &&& 31)))), (7, .int n15), (6, .int v1), (0, .ref (q 1)), (1, .int p1), (2, .int p2), (3, .int p3), (4, .int p4)]) hx hb dX3_signs_89 hl (by decide) rfl (fun ls hl => ?_)
          refine lv_iinc (v := (v1 + (1 : Int32))) (lv' := [(6, .int (v1 + (1 : Int32))), (5, .int (v2 ||| ((1 : Int32) <<< ((v1 + (8 : Int32)) &&& 31)))), (7, .int n15), (0, .ref (q 1)), (1, .int p1), (2, .int p2), (3, .int p3), (4, .int p4)]) hx hb dX3_signs_91 hl (k := 2) rfl rfl (by decide) rfl (fun ls hl => ?_)
          refine lv_goto (tgt := 6) hx hb dX3_signs_94 (by decide) ?_
          exact ih8 _ _ _ _ (Option.some.inj h).symm ⟨hP, hD, hS, lv_sub hl [0, 1, 3, 4, 5, 6, 7] rfl⟩
      · have h := (if_pos c16).symm.trans h
        refine lv_iload hx hb dX3_signs_62 (lv_at hl 2 rfl) ?_
        refine lv_iconst (v := (1 : Int32)) hx hb dX3_signs_64 (by decide) ?_
        refine lv_iload hx hb dX3_signs_65 (lv_at hl 1 rfl) ?_
        refine lv_ishl hx hb dX3_signs_67 ?_
        refine lv_ior hx hb dX3_signs_68 ?_
        refine lv_istore (lv' := [(5, .int (v2 ||| ((1 : Int32) <<< (v1 &&& 31)))), (7, .int n15), (6, .int v1), (0, .ref (q 1)), (1, .int p1), (2, .int p2), (3, .int p3), (4, .int p4)]) hx hb dX3_signs_69 hl (by decide) rfl (fun ls hl => ?_)
        refine lv_goto (tgt := 91) hx hb dX3_signs_71 (by decide) ?_
        refine lv_iinc (v := (v1 + (1 : Int32))) (lv' := [(6, .int (v1 + (1 : Int32))), (5, .int (v2 ||| ((1 : Int32) <<< (v1 &&& 31)))), (7, .int n15), (0, .ref (q 1)), (1, .int p1), (2, .int p2), (3, .int p3), (4, .int p4)]) hx hb dX3_signs_91 hl (k := 2) rfl rfl (by decide) rfl (fun ls hl => ?_)
        refine lv_goto (tgt := 6) hx hb dX3_signs_94 (by decide) ?_
        exact ih8 _ _ _ _ (Option.some.inj h).symm ⟨hP, hD, hS, lv_sub hl [0, 1, 3, 4, 5, 6, 7] rfl⟩

-- X3_rowOf
theorem wmX3_rowOf_0 : (.fieldLink RX3 24 "SpaceWalls$Planes" "threes" "[I" : Cond) ∈ wsX3_rowOf := by decide +kernel
theorem wmX3_rowOf_1 : (.initialized RX5 : Cond) ∈ wsX3_rowOf := by decide +kernel
theorem wmX3_rowOf_2 : (.static yX5_onMask : Cond) ∈ wsX3_rowOf := by decide +kernel
theorem wmX3_rowOf_3 : (.static yX5_aboveMask : Cond) ∈ wsX3_rowOf := by decide +kernel
theorem wiX3_rowOf_X3 : ∀ w ∈ u_ws RX3 TX3 7, w ∈ wsX3_rowOf := by decide +kernel
set_option maxHeartbeats 8000000 in
set_option maxRecDepth 100000 in
theorem kX3_rowOf (l : Launch) (D : va_G) (q : Nat → Nat) (cI cJ cZ : ClassId) (tP sz : Nat) (vnum : Int32) (vsz : Int32) (vfr : Int32) (vfo : Int32) (vli : Int32) (va : (Nat → Int32)) (vb : (Nat → Int32)) (vc : (Nat → Int32)) (ve : (Nat → Int32)) (vth : (Nat → Int32)) (vrk : (Nat → Int32)) (vcm : (Nat → Int32)) (vkx : (Nat → Int32)) (vky : (Nat → Int32)) (vkz : (Nat → Int32)) (vmk : (Nat → Int32)) (vre : (Nat → Int32)) (vro : (Nat → Int32)) (vwi : (Nat → Int32)) (vla : (Nat → Int32)) (vlb : (Nat → Int32)) (vtu : (Nat → Int32)) (k0x : Int32) (k0y : Int32) (k0z : Int32) (k1x : Int32) (k1y : Int32) (k1z : Int32) (k2x : Int32) (k2y : Int32) (k2z : Int32) (k3x : Int32) (k3y : Int32) (k3z : Int32) (p1 : Int32) (uu : Int32) (h : fX3_rowOf vth p1 = some uu) : Met l yX3_rowOf wsX3_rowOf ({ frames := 1, cells := 0, slots := 0, locals := 20 }) (cPre D cI cJ cZ tP (WC_ q cI cZ vnum vsz vfr vfo vli va vb vc ve vth vrk vcm vkx vky vkz vmk vre vro vwi vla vlb vtu k0x k0y k0z k1x k1y k1z k2x k2y k2z k3x k3y k3z) sz [.ref (q 1), .int p1]) (cQi D (va_A (WC_ q cI cZ vnum vsz vfr vfo vli va vb vc ve vth vrk vcm vkx vky vkz vmk vre vro vwi vla vlb vtu k0x k0y k0z k1x k1y k1z k2x k2y k2z k3x k3y k3z) sz) (WC_ q cI cZ vnum vsz vfr vfo vli va vb vc ve vth vrk vcm vkx vky vkz vmk vre vro vwi vla vlb vtu k0x k0y k0z k1x k1y k1z k2x k2y k2z k3x k3y k3z) uu) 0 0 (va_A (WC_ q cI cZ vnum vsz vfr vfo vli va vb vc ve vth vrk vcm vkx vky vkz vmk vre vro vwi vla vlb vtu k0x k0y k0z k1x k1y k1z k2x k2y k2z k3x k3y k3z) sz) := by
  refine Met.ofW (cc := cX3_rowOf) (maxL := 2) (ret := (some .int)) (by decide) rfl ?_
  intro p e s m args below meth c s₁ B hml hv
  obtain ⟨rfl, hsz, hP, hK, hN, hD0, hZ⟩ := hv
  have hx := B.exec
  have hb := B.bytes
  have hr := B.returns
  have hts := atoms_spec (ws := wsX3_rowOf) B.pre
  have hown : s.vm.findClass RX3 = some m.cls := findClass_of_methodNamed B.named
  have hlocks := B.notSynchronized
  subst hsz
  have hD := hD0.self (sz := s.heap.size)
  generalize hAe : va_A (WC_ q cI cZ vnum vsz vfr vfo vli va vb vc ve vth vrk vcm vkx vky vkz vmk vre vro vwi vla vlb vtu k0x k0y k0z k1x k1y k1z k2x k2y k2z k3x k3y k3z) s.heap.size = A at hD hZ ⊢
  have hA : ∀ q : Nat, s.heap.size ≤ q → A q := fun q h => by rw [← hAe]; exact Or.inr h
  have hS : va_S A s.heap s.heap [] := va_S.rf
  have hl := lv_entry ([.ref (q 1), .int p1]) (n := 2) (Nat.le_of_ble_eq_true rfl)
  rw [lg_entry_eq]
  generalize (lg_sl ([.ref (q 1), .int p1]) ++ List.replicate (2 - (lg_sl ([.ref (q 1), .int p1])).length) Slot.unset).toArray = ls at hl ⊢
  have hl : lv_has ls 2 [(0, .ref (q 1)), (1, .int p1)] := hl
  unfold fX3_rowOf at h
  refine lv_aload_n hx hb dX3_rowOf_0 rfl (lv_at hl 0 rfl) ?_
  refine va_get (D := D) (ci := 3) (v := .ref (q 6)) (C := RX3) (T := TX3) (N := 7) hx hb hts wiX3_rowOf_X3 hown hK hP 1 rfl rfl 5 (by decide) (hts _ wmX3_rowOf_0) (fun _ h9 => h9) rfl dX3_rowOf_1 ?_
  refine lv_iload_n hx hb dX3_rowOf_4 rfl (lv_at hl 1 rfl) ?_
  obtain ⟨u1, e2, h⟩ := bd_some h
  refine k_i0 (va_runSN (As := [.int p1]) (rest := [.ref (q 6)]) ⟨hx, hb, hml, hown, hts⟩ (kX5_onMask l D cI cJ cZ tP s.heap.size  p1 u1 e2) ⟨va_cnB 1 hts gX3_rowOf_X5_onMask_n51 rfl rfl rfl (NW_m hN 6 rfl) (hts _ wmX3_rowOf_1) (by decide +kernel) ⟨Nat.le_of_ble_eq_true rfl, Nat.le_of_ble_eq_true rfl⟩, (hts _ wmX3_rowOf_2), trivial⟩ ⟨cPre_blind, cPre_at0 hK hN hS hA hZ⟩ rfl rfl hl.1 rfl (lv_room (Nat.le_of_ble_eq_true rfl)) dX3_rowOf_5 ⟨Nat.le_of_ble_eq_true rfl, Nat.le_of_ble_eq_true rfl⟩) hP hS hA (fun H locs hP hS => ?_)
  obtain ⟨i3, h⟩ := ck_some h
  refine va_iald hx hb hK hP 6 0 rfl rfl i3 dX3_rowOf_8 ?_
  refine lv_iconst (v := (2 : Int32)) hx hb dX3_rowOf_9 (by decide) ?_
  refine lv_aload_n hx hb dX3_rowOf_10 rfl (lv_at hl 0 rfl) ?_
  refine va_get (D := D) (ci := 3) (v := .ref (q 6)) (C := RX3) (T := TX3) (N := 7) hx hb hts wiX3_rowOf_X3 hown hK hP 1 rfl rfl 5 (by decide) (hts _ wmX3_rowOf_0) (fun _ h9 => h9) rfl dX3_rowOf_11 ?_
  refine lv_iload_n hx hb dX3_rowOf_14 rfl (lv_at hl 1 rfl) ?_
  obtain ⟨u4, e5, h⟩ := bd_some h
  refine k_i0 (va_runSN (As := [.int p1]) (rest := [.ref (q 6), .int (2 : Int32), .int (vth u1.toNatClampNeg)]) ⟨hx, hb, hml, hown, hts⟩ (kX5_aboveMask l D cI cJ cZ tP H.size  p1 u4 e5) ⟨va_cnB 1 hts gX3_rowOf_X5_aboveMask_n55 rfl rfl rfl (NW_m hN 7 rfl) (hts _ wmX3_rowOf_1) (by decide +kernel) ⟨Nat.le_of_ble_eq_true rfl, Nat.le_of_ble_eq_true rfl⟩, (hts _ wmX3_rowOf_3), trivial⟩ ⟨cPre_blind, cPre_at0 hK hN hS hA hZ⟩ rfl rfl hl.1 rfl (lv_room (Nat.le_of_ble_eq_true rfl)) dX3_rowOf_15 ⟨Nat.le_of_ble_eq_true rfl, Nat.le_of_ble_eq_true rfl⟩) hP hS hA (fun H locs hP hS => ?_)
  obtain ⟨i6, h⟩ := ck_some h
  refine va_iald hx hb hK hP 6 0 rfl rfl i6 dX3_rowOf_18 ?_
  refine lv_imul hx hb dX3_rowOf_19 ?_
  refine lv_iadd hx hb dX3_rowOf_20 ?_
  obtain rfl := Option.some.inj h
  exact W.iret (v := ((vth u1.toNatClampNeg) + ((2 : Int32) * (vth u4.toNatClampNeg)))) hx hb hr (fun t ht hW => ⟨⟨((vth u1.toNatClampNeg) + ((2 : Int32) * (vth u4.toNatClampNeg))), (), rfl, rfl, by rw [ht]; exact hP, hD⟩, hS.F ht⟩) hS.2.2 dX3_rowOf_21
