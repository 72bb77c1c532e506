-- X4_hits
theorem wmX4_hits_0 : (.fieldLink RX4 15 "SpaceWalls$PrimeCounter" "planes" "LSpaceWalls$Planes;" : Cond) ∈ wsX4_hits := by decide +kernel
theorem wmX4_hits_1 : (.fieldLink RX4 9 "SpaceWalls$PrimeCounter" "turned" "[I" : Cond) ∈ wsX4_hits := by decide +kernel
theorem wiX4_hits_X4 : ∀ w ∈ u_ws RX4 TX4 2, w ∈ wsX4_hits := by decide +kernel
theorem wiX4_hits_X3 : ∀ w ∈ u_ws RX3 TX3 7, w ∈ wsX4_hits := by decide +kernel
set_option maxHeartbeats 8000000 in
set_option maxRecDepth 100000 in
theorem kX4_hits (l : Launch) (D : va_G) (q : Nat → Nat) (cI cJ cZ : ClassId) (tP sz : Nat) (vnum : Int32) (vsz : Int32) (vfr : Int32) (vfo : Int32) (vli : Int32) (va : (Nat → Int32)) (vb : (Nat → Int32)) (vc : (Nat → Int32)) (ve : (Nat → Int32)) (vth : (Nat → Int32)) (vrk : (Nat → Int32)) (vcm : (Nat → Int32)) (vkx : (Nat → Int32)) (vky : (Nat → Int32)) (vkz : (Nat → Int32)) (vmk : (Nat → Int32)) (vre : (Nat → Int32)) (vro : (Nat → Int32)) (vwi : (Nat → Int32)) (vla : (Nat → Int32)) (vlb : (Nat → Int32)) (vtu : (Nat → Int32)) (k0x : Int32) (k0y : Int32) (k0z : Int32) (k1x : Int32) (k1y : Int32) (k1z : Int32) (k2x : Int32) (k2y : Int32) (k2z : Int32) (k3x : Int32) (k3y : Int32) (k3z : Int32) (p1 : Int32) (p2 : Int32) (p3 : Int32) (uu : Int32) (h : fX4_hits vsz vb vc ve vtu p1 p2 p3 = some uu) : Met l yX4_hits wsX4_hits ({ frames := 1, cells := 0, slots := 0, locals := 22 }) (cPre D cI cJ cZ tP (WC_ q cI cZ vnum vsz vfr vfo vli va vb vc ve vth vrk vcm vkx vky vkz vmk vre vro vwi vla vlb vtu k0x k0y k0z k1x k1y k1z k2x k2y k2z k3x k3y k3z) sz [.ref (q 24), .int p1, .int p2, .int p3]) (cQi D (va_A (WC_ q cI cZ vnum vsz vfr vfo vli va vb vc ve vth vrk vcm vkx vky vkz vmk vre vro vwi vla vlb vtu k0x k0y k0z k1x k1y k1z k2x k2y k2z k3x k3y k3z) sz) (WC_ q cI cZ vnum vsz vfr vfo vli va vb vc ve vth vrk vcm vkx vky vkz vmk vre vro vwi vla vlb vtu k0x k0y k0z k1x k1y k1z k2x k2y k2z k3x k3y k3z) uu) 0 0 (va_A (WC_ q cI cZ vnum vsz vfr vfo vli va vb vc ve vth vrk vcm vkx vky vkz vmk vre vro vwi vla vlb vtu k0x k0y k0z k1x k1y k1z k2x k2y k2z k3x k3y k3z) sz) := by
  refine Met.ofW (cc := cX4_hits) (maxL := 7) (ret := (some .int)) (by decide) rfl ?_
  intro p e s m args below meth c s₁ B hml hv
  obtain ⟨rfl, hsz, hP, hK, hN, hD0, hZ⟩ := hv
  have hx := B.exec
  have hb := B.bytes
  have hr := B.returns
  have hts := atoms_spec (ws := wsX4_hits) B.pre
  have hown : s.vm.findClass RX4 = some m.cls := findClass_of_methodNamed B.named
  have hlocks := B.notSynchronized
  subst hsz
  have hD := hD0.self (sz := s.heap.size)
  generalize hAe : va_A (WC_ q cI cZ vnum vsz vfr vfo vli va vb vc ve vth vrk vcm vkx vky vkz vmk vre vro vwi vla vlb vtu k0x k0y k0z k1x k1y k1z k2x k2y k2z k3x k3y k3z) s.heap.size = A at hD hZ ⊢
  have hA : ∀ q : Nat, s.heap.size ≤ q → A q := fun q h => by rw [← hAe]; exact Or.inr h
  have hS : va_S A s.heap s.heap [] := va_S.rf
  have hl := lv_entry ([.ref (q 24), .int p1, .int p2, .int p3]) (n := 7) (Nat.le_of_ble_eq_true rfl)
  rw [lg_entry_eq]
  generalize (lg_sl ([.ref (q 24), .int p1, .int p2, .int p3]) ++ List.replicate (7 - (lg_sl ([.ref (q 24), .int p1, .int p2, .int p3])).length) Slot.unset).toArray = ls at hl ⊢
  have hl : lv_has ls 7 [(0, .ref (q 24)), (1, .int p1), (2, .int p2), (3, .int p3)] := hl
  unfold fX4_hits at h
  refine lv_iconst (v := (0 : Int32)) hx hb dX4_hits_0 (by decide) ?_
  refine lv_istore (lv' := [(4, .int (0 : Int32)), (0, .ref (q 24)), (1, .int p1), (2, .int p2), (3, .int p3)]) hx hb dX4_hits_1 hl (by decide) rfl (fun ls hl => ?_)
  refine lv_iconst (v := (0 : Int32)) hx hb dX4_hits_3 (by decide) ?_
  refine lv_istore (lv' := [(5, .int (0 : Int32)), (4, .int (0 : Int32)), (0, .ref (q 24)), (1, .int p1), (2, .int p2), (3, .int p3)]) hx hb dX4_hits_4 hl (by decide) rfl (fun ls hl => ?_)
  obtain ⟨u3, e4, h⟩ := bd_some h
  have KR6 : ∀ y8, Sum.inr y8 = u3 → y8 = uu := by
    intro y8 hy
    subst hy
    have h := se_inr h
    exact Option.some.inj h
  refine W_leave (P := fun (y : (Int32 × Int32)) H locs ls => u3 = Sum.inl y ∧ va_P D vwCl (WC_ q cI cZ vnum vsz vfr vfo vli va vb vc ve vth vrk vcm vkx vky vkz vmk vre vro vwi vla vlb vtu k0x k0y k0z k1x k1y k1z k2x k2y k2z k3x k3y k3z) H ∧ va_D A (WC_ q cI cZ vnum vsz vfr vfo vli va vb vc ve vth vrk vcm vkx vky vkz vmk vre vro vwi vla vlb vtu k0x k0y k0z k1x k1y k1z k2x k2y k2z k3x k3y k3z) ∧ va_S A s.heap H locs ∧ lv_has ls 7 [(5, .int y.1), (4, .int y.2), (0, .ref (q 24)), (1, .int p1), (2, .int p2), (3, .int p3)]) (g := fun ls => F0 m 109 ls []) ?_ ?_
  · intro x7 H locs ls hq
    obtain ⟨hy, hP, hD, hS, hl⟩ := hq
    subst hy
    have h := se_inl h
    refine lv_iload hx hb dX4_hits_109 (lv_at hl 1 rfl) ?_
    obtain rfl := Option.some.inj h
    exact W.iret (v := x7.2) hx hb hr (fun t ht hW => ⟨⟨x7.2, (), rfl, rfl, by rw [ht]; exact hP, hD⟩, hS.F ht⟩) hS.2.2 dX4_hits_111
  · intro K5
    refine W_lp (body := (fun (st : (Int32 × Int32)) => fX4_hits_L6 vsz ve vb p1 vc p2 p3 vtu st.1 st.2)) (P := fun (st : (Int32 × Int32)) H locs ls => va_P D vwCl (WC_ q cI cZ vnum vsz vfr vfo vli va vb vc ve vth vrk vcm vkx vky vkz vmk vre vro vwi vla vlb vtu k0x k0y k0z k1x k1y k1z k2x k2y k2z k3x k3y k3z) H ∧ va_D A (WC_ q cI cZ vnum vsz vfr vfo vli va vb vc ve vth vrk vcm vkx vky vkz vmk vre vro vwi vla vlb vtu k0x k0y k0z k1x k1y k1z k2x k2y k2z k3x k3y k3z) ∧ va_S A s.heap H locs ∧ lv_has ls 7 [(5, .int st.1), (4, .int st.2), (0, .ref (q 24)), (1, .int p1), (2, .int p2), (3, .int p3)]) (g := fun _ ls => F0 m 6 ls []) (r := u3) ?_ fu_ ((0 : Int32), (0 : Int32)) _ _ _ e4 ⟨hP, hD, hS, lv_sub hl [0, 1, 2, 3, 4, 5] rfl⟩
    intro st xx11 H locs ls h hq ih10 hR9
    obtain ⟨hP, hD, hS, hl⟩ := hq
    obtain ⟨v1, v2⟩ := st
    have hP : va_P D vwCl (WC_ q cI cZ vnum vsz vfr vfo vli va vb vc ve vth vrk vcm vkx vky vkz vmk vre vro vwi vla vlb vtu k0x k0y k0z k1x k1y k1z k2x k2y k2z k3x k3y k3z) H := hP
    have hD : va_D A (WC_ q cI cZ vnum vsz vfr vfo vli va vb vc ve vth vrk vcm vkx vky vkz vmk vre vro vwi vla vlb vtu k0x k0y k0z k1x k1y k1z k2x k2y k2z k3x k3y k3z) := hD
    have hl : lv_has ls 7 [(5, .int v1), (4, .int v2), (0, .ref (q 24)), (1, .int p1), (2, .int p2), (3, .int p3)] := hl
    have h : fX4_hits_L6 vsz ve vb p1 vc p2 p3 vtu v1 v2 = some xx11 := h
    unfold fX4_hits_L6 at h
    refine lv_iload hx hb dX4_hits_6 (lv_at hl 0 rfl) ?_
    refine lv_aload_n hx hb dX4_hits_8 rfl (lv_at hl 2 rfl) ?_
    refine va_get (D := D) (ci := 4) (v := .ref (q 1)) (C := RX4) (T := TX4) (N := 2) hx hb hts wiX4_hits_X4 hown hK hP 24 rfl rfl 0 (by decide) (hts _ wmX4_hits_0) (fun _ h9 => h9) rfl dX4_hits_9 ?_
    refine va_getN (D := D) (ci := 3) (v := .int vsz) (C := RX3) (T := TX3) (N := 7) hx hb hts wiX4_hits_X3 hown hK hP 1 rfl rfl 6 (by decide) (NW_f hN 28 rfl) (fun _ h9 => h9) rfl dX4_hits_12 ?_
    refine lv_icmp_ge (tgt := 109) hx hb dX4_hits_15 (by decide) (fun c12 => ?_) (fun c12 => ?_)
    · have h := (if_pos c12).symm.trans h
      exact K5 _ _ _ _ ⟨(hR9 _ (Option.some.inj h).symm).symm, hP, hD, hS, lv_sub hl [0, 1, 2, 3, 4, 5] rfl⟩
    · have h := (if_neg c12).symm.trans h
      refine lv_aload_n hx hb dX4_hits_18 rfl (lv_at hl 2 rfl) ?_
      refine va_get (D := D) (ci := 4) (v := .ref (q 1)) (C := RX4) (T := TX4) (N := 2) hx hb hts wiX4_hits_X4 hown hK hP 24 rfl rfl 0 (by decide) (hts _ wmX4_hits_0) (fun _ h9 => h9) rfl dX4_hits_19 ?_
      refine va_getN (D := D) (ci := 3) (v := .ref (q 5)) (C := RX3) (T := TX3) (N := 7) hx hb hts wiX4_hits_X3 hown hK hP 1 rfl rfl 4 (by decide) (NW_f hN 31 rfl) (fun _ h9 => h9) rfl dX4_hits_22 ?_
      refine lv_iload hx hb dX4_hits_25 (lv_at hl 0 rfl) ?_
      obtain ⟨i13, h⟩ := ck_some h
      refine va_iald hx hb hK hP 5 0 rfl rfl i13 dX4_hits_27 ?_
      refine lv_aload_n hx hb dX4_hits_28 rfl (lv_at hl 2 rfl) ?_
      refine va_get (D := D) (ci := 4) (v := .ref (q 1)) (C := RX4) (T := TX4) (N := 2) hx hb hts wiX4_hits_X4 hown hK hP 24 rfl rfl 0 (by decide) (hts _ wmX4_hits_0) (fun _ h9 => h9) rfl dX4_hits_29 ?_
      refine va_getN (D := D) (ci := 3) (v := .ref (q 3)) (C := RX3) (T := TX3) (N := 7) hx hb hts wiX4_hits_X3 hown hK hP 1 rfl rfl 2 (by decide) (NW_f hN 32 rfl) (fun _ h9 => h9) rfl dX4_hits_32 ?_
      refine lv_iload hx hb dX4_hits_35 (lv_at hl 0 rfl) ?_
      obtain ⟨i14, h⟩ := ck_some h
      refine va_iald hx hb hK hP 3 0 rfl rfl i14 dX4_hits_37 ?_
      refine lv_iload_n hx hb dX4_hits_38 rfl (lv_at hl 3 rfl) ?_
      refine lv_imul hx hb dX4_hits_39 ?_
      refine lv_isub hx hb dX4_hits_40 ?_
      refine lv_aload_n hx hb dX4_hits_41 rfl (lv_at hl 2 rfl) ?_
      refine va_get (D := D) (ci := 4) (v := .ref (q 1)) (C := RX4) (T := TX4) (N := 2) hx hb hts wiX4_hits_X4 hown hK hP 24 rfl rfl 0 (by decide) (hts _ wmX4_hits_0) (fun _ h9 => h9) rfl dX4_hits_42 ?_
      refine va_getN (D := D) (ci := 3) (v := .ref (q 4)) (C := RX3) (T := TX3) (N := 7) hx hb hts wiX4_hits_X3 hown hK hP 1 rfl rfl 3 (by decide) (NW_f hN 33 rfl) (fun _ h9 => h9) rfl dX4_hits_45 ?_
      refine lv_iload hx hb dX4_hits_48 (lv_at hl 0 rfl) ?_
      obtain ⟨i15, h⟩ := ck_some h
      refine va_iald hx hb hK hP 4 0 rfl rfl i15 dX4_hits_50 ?_
      refine lv_iload_n hx hb dX4_hits_51 rfl (lv_at hl 4 rfl) ?_
      refine lv_imul hx hb dX4_hits_52 ?_
      refine lv_isub hx hb dX4_hits_53 ?_
      refine lv_iload_n hx hb dX4_hits_54 rfl (lv_at hl 5 rfl) ?_
      obtain ⟨u16, e17, h⟩ := bd_some h
      refine k_i0 (va_runS (As := [.int (((ve v1.toNatClampNeg) - ((vb v1.toNatClampNeg) * p1)) - ((vc v1.toNatClampNeg) * p2)), .int p3]) (rest := []) ⟨hx, hb, hml, hown, hts⟩ (kJ9_floorMod_7cf53 l D cI cJ cZ tP H.size  (((ve v1.toNatClampNeg) - ((vb v1.toNatClampNeg) * p1)) - ((vc v1.toNatClampNeg) * p2)) p3 u16 e17) (va_cwS 2 hts gX4_hits_J9_floorMod_7cf53 rfl rfl rfl (by decide +kernel) ⟨Nat.le_of_ble_eq_true rfl, Nat.le_of_ble_eq_true rfl⟩) ⟨cPre_blind, cPre_at0 hK hN hS hA hZ⟩ rfl rfl hl.1 rfl (lv_room (Nat.le_of_ble_eq_true rfl)) dX4_hits_55 ⟨Nat.le_of_ble_eq_true rfl, Nat.le_of_ble_eq_true rfl⟩) hP hS hA (fun H locs hP hS => ?_)
      refine lv_istore (lv' := [(6, .int u16), (5, .int v1), (4, .int v2), (0, .ref (q 24)), (1, .int p1), (2, .int p2), (3, .int p3)]) hx hb dX4_hits_58 hl (by decide) rfl (fun ls hl => ?_)
      refine lv_aload_n hx hb dX4_hits_60 rfl (lv_at hl 3 rfl) ?_
      refine va_get (D := D) (ci := 4) (v := .ref (q 25)) (C := RX4) (T := TX4) (N := 2) hx hb hts wiX4_hits_X4 hown hK hP 24 rfl rfl 1 (by decide) (hts _ wmX4_hits_1) (fun _ h9 => h9) rfl dX4_hits_61 ?_
      refine lv_iload hx hb dX4_hits_64 (lv_at hl 1 rfl) ?_
      obtain ⟨i18, h⟩ := ck_some h
      refine va_iald hx hb hK hP 25 0 rfl rfl i18 dX4_hits_66 ?_
      refine lv_if_eq (tgt := 92) hx hb dX4_hits_67 (by decide) (fun c19 => ?_) (fun c19 => ?_)
      · have h := (if_pos c19).symm.trans h
        refine lv_iload hx hb dX4_hits_92 (lv_at hl 0 rfl) ?_
        refine lv_if_ne (tgt := 103) hx hb dX4_hits_94 (by decide) (fun c20 => ?_) (fun c20 => ?_)
        · have h := (if_neg c20).symm.trans h
          refine lv_iinc (v := (v1 + (1 : Int32))) (lv' := [(5, .int (v1 + (1 : Int32))), (6, .int u16), (4, .int v2), (0, .ref (q 24)), (1, .int p1), (2, .int p2), (3, .int p3)]) hx hb dX4_hits_103 hl (k := 1) rfl rfl (by decide) rfl (fun ls hl => ?_)
          refine lv_goto (tgt := 6) hx hb dX4_hits_106 (by decide) ?_
          exact ih10 _ _ _ _ (Option.some.inj h).symm ⟨hP, hD, hS, lv_sub hl [0, 2, 3, 4, 5, 6] rfl⟩
        · have h := (if_pos c20).symm.trans h
          refine lv_iconst (v := (1 : Int32)) hx hb dX4_hits_97 (by decide) ?_
          refine lv_iload_n hx hb dX4_hits_98 rfl (lv_at hl 6 rfl) ?_
          refine lv_ishl hx hb dX4_hits_99 ?_
          refine lv_iconst (v := (1 : Int32)) hx hb dX4_hits_100 (by decide) ?_
          refine lv_isub hx hb dX4_hits_101 ?_
          have hu := KR6 _ (hR9 _ (Option.some.inj h).symm)
          subst hu
          exact W.iret (v := (((1 : Int32) <<< (p3 &&& 31)) - (1 : Int32))) hx hb hr (fun t ht hW => ⟨⟨(((1 : Int32) <<< (p3 &&& 31)) - (1 : Int32)), (), rfl, rfl, by rw [ht]; exact hP, hD⟩, hS.F ht⟩) hS.2.2 dX4_hits_102
      · have h := (if_neg c19).symm.trans h
        refine lv_iload hx hb dX4_hits_70 (lv_at hl 2 rfl) ?_
        refine lv_iconst (v := (1 : Int32)) hx hb dX4_hits_72 (by decide) ?_
        refine lv_iload hx hb dX4_hits_73 (lv_at hl 0 rfl) ?_
        refine lv_aload_n hx hb dX4_hits_75 rfl (lv_at hl 3 rfl) ?_
        refine va_get (D := D) (ci := 4) (v := .ref (q 25)) (C := RX4) (T := TX4) (N := 2) hx hb hts wiX4_hits_X4 hown hK hP 24 rfl rfl 1 (by decide) (hts _ wmX4_hits_1) (fun _ h9 => h9) rfl dX4_hits_76 ?_
        refine lv_iload hx hb dX4_hits_79 (lv_at hl 1 rfl) ?_
        obtain ⟨i21, h⟩ := ck_some h
        refine va_iald hx hb hK hP 25 0 rfl rfl i21 dX4_hits_81 ?_
        refine lv_imul hx hb dX4_hits_82 ?_
        refine lv_iload_n hx hb dX4_hits_83 rfl (lv_at hl 6 rfl) ?_
        obtain ⟨i22, h⟩ := ck_some h
        refine lv_irem hx hb dX4_hits_84 i22 ?_
        refine lv_ishl hx hb dX4_hits_85 ?_
        refine lv_ior hx hb dX4_hits_86 ?_
        refine lv_topi (fun n23 en23 => ?_)
        have h := nm_some en23 h
        refine lv_istore (lv' := [(4, .int n23), (6, .int u16), (5, .int v1), (0, .ref (q 24)), (1, .int p1), (2, .int p2), (3, .int p3)]) hx hb dX4_hits_87 hl (by decide) rfl (fun ls hl => ?_)
        refine lv_goto (tgt := 103) hx hb dX4_hits_89 (by decide) ?_
        refine lv_iinc (v := (v1 + (1 : Int32))) (lv' := [(5, .int (v1 + (1 : Int32))), (4, .int n23), (6, .int u16), (0, .ref (q 24)), (1, .int p1), (2, .int p2), (3, .int p3)]) hx hb dX4_hits_103 hl (k := 2) rfl rfl (by decide) rfl (fun ls hl => ?_)
        refine lv_goto (tgt := 6) hx hb dX4_hits_106 (by decide) ?_
        exact ih10 _ _ _ _ (Option.some.inj h).symm ⟨hP, hD, hS, lv_sub hl [0, 1, 3, 4, 5, 6] rfl⟩

-- X4_countMissed
theorem wmX4_countMissed_0 : (.fieldLink RX4 15 "SpaceWalls$PrimeCounter" "planes" "LSpaceWalls$Planes;" : Cond) ∈ wsX4_countMissed := by decide +kernel
theorem wmX4_countMissed_1 : (.fieldLink RX4 9 "SpaceWalls$PrimeCounter" "turned" "[I" : Cond) ∈ wsX4_countMissed := by decide +kernel
theorem wiX4_countMissed_X4 : ∀ w ∈ u_ws RX4 TX4 2, w ∈ wsX4_countMissed := by decide +kernel
theorem wiX4_countMissed_X3 : ∀ w ∈ u_ws RX3 TX3 7, w ∈ wsX4_countMissed := by decide +kernel
set_option maxHeartbeats 8000000 in
set_option maxRecDepth 100000 in
theorem kX4_countMissed (l : Launch) (D : va_G) (q : Nat → Nat) (cI cJ cZ : ClassId) (tP sz : Nat) (vnum : Int32) (vsz : Int32) (vfr : Int32) (vfo : Int32) (vli : Int32) (va : (Nat → Int32)) (vb : (Nat → Int32)) (vc : (Nat → Int32)) (ve : (Nat → Int32)) (vth : (Nat → Int32)) (vrk : (Nat → Int32)) (vcm : (Nat → Int32)) (vkx : (Nat → Int32)) (vky : (Nat → Int32)) (vkz : (Nat → Int32)) (vmk : (Nat → Int32)) (vre : (Nat → Int32)) (vro : (Nat → Int32)) (vwi : (Nat → Int32)) (vla : (Nat → Int32)) (vlb : (Nat → Int32)) (vtu : (Nat → Int32)) (k0x : Int32) (k0y : Int32) (k0z : Int32) (k1x : Int32) (k1y : Int32) (k1z : Int32) (k2x : Int32) (k2y : Int32) (k2z : Int32) (k3x : Int32) (k3y : Int32) (k3z : Int32) (p1 : Int32) (uu : (Int32 × (Nat → Int32))) (h : fX4_countMissed vnum vsz va vb vc ve vtu p1 = some uu) : Met l yX4_countMissed wsX4_countMissed ({ frames := 2, cells := 0, slots := 0, locals := 48 }) (cPre D cI cJ cZ tP (WC_ q cI cZ vnum vsz vfr vfo vli va vb vc ve vth vrk vcm vkx vky vkz vmk vre vro vwi vla vlb vtu k0x k0y k0z k1x k1y k1z k2x k2y k2z k3x k3y k3z) sz [.ref (q 24), .int p1]) (cQi D (va_A (WC_ q cI cZ vnum vsz vfr vfo vli va vb vc ve vth vrk vcm vkx vky vkz vmk vre vro vwi vla vlb vtu k0x k0y k0z k1x k1y k1z k2x k2y k2z k3x k3y k3z) sz) (WC_ q cI cZ vnum vsz vfr vfo vli va vb vc ve vth vrk vcm vkx vky vkz vmk vre vro vwi vla vlb uu.2 k0x k0y k0z k1x k1y k1z k2x k2y k2z k3x k3y k3z) uu.1) 0 0 (va_A (WC_ q cI cZ vnum vsz vfr vfo vli va vb vc ve vth vrk vcm vkx vky vkz vmk vre vro vwi vla vlb vtu k0x k0y k0z k1x k1y k1z k2x k2y k2z k3x k3y k3z) sz) := by
  refine Met.ofW (cc := cX4_countMissed) (maxL := 7) (ret := (some .int)) (by decide) rfl ?_
  intro p e s m args below meth c s₁ B hml hv
  obtain ⟨rfl, hsz, hP, hK, hN, hD0, hZ⟩ := hv
  have hx := B.exec
  have hb := B.bytes
  have hr := B.returns
  have hts := atoms_spec (ws := wsX4_countMissed) B.pre
  have hown : s.vm.findClass RX4 = some m.cls := findClass_of_methodNamed B.named
  have hlocks := B.notSynchronized
  subst hsz
  have hD := hD0.self (sz := s.heap.size)
  generalize hAe : va_A (WC_ q cI cZ vnum vsz vfr vfo vli va vb vc ve vth vrk vcm vkx vky vkz vmk vre vro vwi vla vlb vtu k0x k0y k0z k1x k1y k1z k2x k2y k2z k3x k3y k3z) s.heap.size = A at hD hZ ⊢
  have hA : ∀ q : Nat, s.heap.size ≤ q → A q := fun q h => by rw [← hAe]; exact Or.inr h
  have hS : va_S A s.heap s.heap [] := va_S.rf
  have hl := lv_entry ([.ref (q 24), .int p1]) (n := 7) (Nat.le_of_ble_eq_true rfl)
  rw [lg_entry_eq]
  generalize (lg_sl ([.ref (q 24), .int p1]) ++ List.replicate (7 - (lg_sl ([.ref (q 24), .int p1])).length) Slot.unset).toArray = ls at hl ⊢
  have hl : lv_has ls 7 [(0, .ref (q 24)), (1, .int p1)] := hl
  unfold fX4_countMissed at h
  refine lv_iconst (v := (0 : Int32)) hx hb dX4_countMissed_0 (by decide) ?_
  refine lv_istore_n (lv' := [(2, .int (0 : Int32)), (0, .ref (q 24)), (1, .int p1)]) hx hb dX4_countMissed_1 rfl hl (by decide) rfl (fun ls hl => ?_)
  obtain ⟨u3, e4, h⟩ := bd_some h
  refine W_leave (P := fun (y : (Int32 × (Nat → Int32))) H locs ls => u3 = y ∧ va_P D vwCl (WC_ q cI cZ vnum vsz vfr vfo vli va vb vc ve vth vrk vcm vkx vky vkz vmk vre vro vwi vla vlb y.2 k0x k0y k0z k1x k1y k1z k2x k2y k2z k3x k3y k3z) H ∧ va_D A (WC_ q cI cZ vnum vsz vfr vfo vli va vb vc ve vth vrk vcm vkx vky vkz vmk vre vro vwi vla vlb y.2 k0x k0y k0z k1x k1y k1z k2x k2y k2z k3x k3y k3z) ∧ va_S A s.heap H locs ∧ lv_has ls 7 [(2, .int y.1), (0, .ref (q 24)), (1, .int p1)]) (g := fun ls => F0 m 42 ls []) ?_ ?_
  · intro y H locs ls hq
    obtain ⟨hy, hP, hD, hS, hl⟩ := hq
    subst hy
    have hl : lv_has ls 7 [(2, .int u3.1), (0, .ref (q 24)), (1, .int p1)] := hl
    refine lv_aload_n hx hb dX4_countMissed_42 rfl (lv_at hl 1 rfl) ?_
    refine va_get (D := D) (ci := 4) (v := .ref (q 1)) (C := RX4) (T := TX4) (N := 2) hx hb hts wiX4_countMissed_X4 hown hK hP 24 rfl rfl 0 (by decide) (hts _ wmX4_countMissed_0) (fun _ h9 => h9) rfl dX4_countMissed_43 ?_
    refine va_getN (D := D) (ci := 3) (v := .int vnum) (C := RX3) (T := TX3) (N := 7) hx hb hts wiX4_countMissed_X3 hown hK hP 1 rfl rfl 0 (by decide) (NW_f hN 30 rfl) (fun _ h9 => h9) rfl dX4_countMissed_46 ?_
    refine lv_iconst (v := (2 : Int32)) hx hb dX4_countMissed_49 (by decide) ?_
    obtain ⟨u7, e8, h⟩ := bd_some h
    refine W_join (P := fun H locs ls => va_P D vwCl (WC_ q cI cZ vnum vsz vfr vfo vli va vb vc ve vth vrk vcm vkx vky vkz vmk vre vro vwi vla vlb u3.2 k0x k0y k0z k1x k1y k1z k2x k2y k2z k3x k3y k3z) H ∧ va_D A (WC_ q cI cZ vnum vsz vfr vfo vli va vb vc ve vth vrk vcm vkx vky vkz vmk vre vro vwi vla vlb u3.2 k0x k0y k0z k1x k1y k1z k2x k2y k2z k3x k3y k3z) ∧ va_S A s.heap H locs ∧ lv_has ls 7 [(2, .int u3.1), (0, .ref (q 24)), (1, .int p1)]) (g := fun ls => F0 m 58 ls [.int u7]) ?_ ?_
    · intro H locs ls hq
      obtain ⟨hP, hD, hS, hl⟩ := hq
      refine lv_istore_n (lv' := [(2, .int u7), (0, .ref (q 24)), (1, .int p1)]) hx hb dX4_countMissed_58 rfl hl (by decide) rfl (fun ls hl => ?_)
      refine lv_aload_n hx hb dX4_countMissed_59 rfl (lv_at hl 1 rfl) ?_
      refine va_get (D := D) (ci := 4) (v := .ref (q 1)) (C := RX4) (T := TX4) (N := 2) hx hb hts wiX4_countMissed_X4 hown hK hP 24 rfl rfl 0 (by decide) (hts _ wmX4_countMissed_0) (fun _ h9 => h9) rfl dX4_countMissed_60 ?_
      refine va_getN (D := D) (ci := 3) (v := .int vnum) (C := RX3) (T := TX3) (N := 7) hx hb hts wiX4_countMissed_X3 hown hK hP 1 rfl rfl 0 (by decide) (NW_f hN 30 rfl) (fun _ h9 => h9) rfl dX4_countMissed_63 ?_
      refine lv_iconst (v := (3 : Int32)) hx hb dX4_countMissed_66 (by decide) ?_
      obtain ⟨u10, e11, h⟩ := bd_some h
      refine W_join (P := fun H locs ls => va_P D vwCl (WC_ q cI cZ vnum vsz vfr vfo vli va vb vc ve vth vrk vcm vkx vky vkz vmk vre vro vwi vla vlb u3.2 k0x k0y k0z k1x k1y k1z k2x k2y k2z k3x k3y k3z) H ∧ va_D A (WC_ q cI cZ vnum vsz vfr vfo vli va vb vc ve vth vrk vcm vkx vky vkz vmk vre vro vwi vla vlb u3.2 k0x k0y k0z k1x k1y k1z k2x k2y k2z k3x k3y k3z) ∧ va_S A s.heap H locs ∧ lv_has ls 7 [(2, .int u7), (0, .ref (q 24)), (1, .int p1)]) (g := fun ls => F0 m 75 ls [.int u10]) ?_ ?_
      · intro H locs ls hq
        obtain ⟨hP, hD, hS, hl⟩ := hq
        refine lv_istore_n (lv' := [(3, .int u10), (2, .int u7), (0, .ref (q 24)), (1, .int p1)]) hx hb dX4_countMissed_75 rfl hl (by decide) rfl (fun ls hl => ?_)
        refine lv_iconst (v := (0 : Int32)) hx hb dX4_countMissed_76 (by decide) ?_
        refine lv_istore (lv' := [(4, .int (0 : Int32)), (3, .int u10), (2, .int u7), (0, .ref (q 24)), (1, .int p1)]) hx hb dX4_countMissed_77 hl (by decide) rfl (fun ls hl => ?_)
        refine lv_iconst (v := (0 : Int32)) hx hb dX4_countMissed_79 (by decide) ?_
        refine lv_istore (lv' := [(5, .int (0 : Int32)), (4, .int (0 : Int32)), (3, .int u10), (2, .int u7), (0, .ref (q 24)), (1, .int p1)]) hx hb dX4_countMissed_80 hl (by decide) rfl (fun ls hl => ?_)
        obtain ⟨u15, e16, h⟩ := bd_some h
        refine W_leave (P := fun (y : (Int32 × Int32)) H locs ls => u15 = y ∧ va_P D vwCl (WC_ q cI cZ vnum vsz vfr vfo vli va vb vc ve vth vrk vcm vkx vky vkz vmk vre vro vwi vla vlb u3.2 k0x k0y k0z k1x k1y k1z k2x k2y k2z k3x k3y k3z) H ∧ va_D A (WC_ q cI cZ vnum vsz vfr vfo vli va vb vc ve vth vrk vcm vkx vky vkz vmk vre vro vwi vla vlb u3.2 k0x k0y k0z k1x k1y k1z k2x k2y k2z k3x k3y k3z) ∧ va_S A s.heap H locs ∧ lv_has ls 7 [(5, .int y.1), (4, .int y.2), (3, .int u10), (2, .int u7), (0, .ref (q 24)), (1, .int p1)]) (g := fun ls => F0 m 128 ls []) ?_ ?_
        · intro y H locs ls hq
          obtain ⟨hy, hP, hD, hS, hl⟩ := hq
          subst hy
          have hl : lv_has ls 7 [(5, .int u15.1), (4, .int u15.2), (3, .int u10), (2, .int u7), (0, .ref (q 24)), (1, .int p1)] := hl
          refine lv_iload hx hb dX4_countMissed_128 (lv_at hl 1 rfl) ?_
          obtain rfl := Option.some.inj h
          exact W.iret (v := u15.2) hx hb hr (fun t ht hW => ⟨⟨u15.2, (), rfl, rfl, by rw [ht]; exact hP, hD⟩, hS.F ht⟩) hS.2.2 dX4_countMissed_130
        · intro K17
          refine W_lp (body := (fun (st : (Int32 × Int32)) => fX4_countMissed_L82 u7 u10 vsz vb vc ve u3 p1 st.1 st.2)) (P := fun (st : (Int32 × Int32)) H locs ls => va_P D vwCl (WC_ q cI cZ vnum vsz vfr vfo vli va vb vc ve vth vrk vcm vkx vky vkz vmk vre vro vwi vla vlb u3.2 k0x k0y k0z k1x k1y k1z k2x k2y k2z k3x k3y k3z) H ∧ va_D A (WC_ q cI cZ vnum vsz vfr vfo vli va vb vc ve vth vrk vcm vkx vky vkz vmk vre vro vwi vla vlb u3.2 k0x k0y k0z k1x k1y k1z k2x k2y k2z k3x k3y k3z) ∧ va_S A s.heap H locs ∧ lv_has ls 7 [(5, .int st.1), (4, .int st.2), (3, .int u10), (2, .int u7), (0, .ref (q 24)), (1, .int p1)]) (g := fun _ ls => F0 m 82 ls []) (r := u15) ?_ fu_ ((0 : Int32), (0 : Int32)) _ _ _ e16 ⟨hP, hD, hS, lv_sub hl [0, 1, 2, 3, 4, 5] rfl⟩
          intro st xx21 H locs ls h hq ih20 hR19
          obtain ⟨hP, hD, hS, hl⟩ := hq
          obtain ⟨v13, v14⟩ := st
          have hP : va_P D vwCl (WC_ q cI cZ vnum vsz vfr vfo vli va vb vc ve vth vrk vcm vkx vky vkz vmk vre vro vwi vla vlb u3.2 k0x k0y k0z k1x k1y k1z k2x k2y k2z k3x k3y k3z) H := hP
          have hD : va_D A (WC_ q cI cZ vnum vsz vfr vfo vli va vb vc ve vth vrk vcm vkx vky vkz vmk vre vro vwi vla vlb u3.2 k0x k0y k0z k1x k1y k1z k2x k2y k2z k3x k3y k3z) := hD
          have hl : lv_has ls 7 [(5, .int v13), (4, .int v14), (3, .int u10), (2, .int u7), (0, .ref (q 24)), (1, .int p1)] := hl
          have h : fX4_countMissed_L82 u7 u10 vsz vb vc ve u3 p1 v13 v14 = some xx21 := h
          unfold fX4_countMissed_L82 at h
          refine lv_iload hx hb dX4_countMissed_82 (lv_at hl 0 rfl) ?_
          refine lv_iload_n hx hb dX4_countMissed_84 rfl (lv_at hl 3 rfl) ?_
          refine lv_icmp_ge (tgt := 128) hx hb dX4_countMissed_85 (by decide) (fun c22 => ?_) (fun c22 => ?_)
          · have h := (if_pos c22).symm.trans h
            exact K17 _ _ _ _ ⟨(hR19 _ (Option.some.inj h).symm).symm, hP, hD, hS, lv_sub hl [0, 1, 2, 3, 4, 5] rfl⟩
          · have h := (if_neg c22).symm.trans h
            refine lv_iconst (v := (0 : Int32)) hx hb dX4_countMissed_88 (by decide) ?_
            refine lv_istore (lv' := [(6, .int (0 : Int32)), (5, .int v13), (4, .int v14), (3, .int u10), (2, .int u7), (0, .ref (q 24)), (1, .int p1)]) hx hb dX4_countMissed_89 hl (by decide) rfl (fun ls hl => ?_)
            obtain ⟨u25, e26, h⟩ := bd_some h
            refine W_leave (P := fun (y : (Int32 × Int32)) H locs ls => u25 = y ∧ va_P D vwCl (WC_ q cI cZ vnum vsz vfr vfo vli va vb vc ve vth vrk vcm vkx vky vkz vmk vre vro vwi vla vlb u3.2 k0x k0y k0z k1x k1y k1z k2x k2y k2z k3x k3y k3z) H ∧ va_D A (WC_ q cI cZ vnum vsz vfr vfo vli va vb vc ve vth vrk vcm vkx vky vkz vmk vre vro vwi vla vlb u3.2 k0x k0y k0z k1x k1y k1z k2x k2y k2z k3x k3y k3z) ∧ va_S A s.heap H locs ∧ lv_has ls 7 [(6, .int y.1), (5, .int v13), (4, .int y.2), (3, .int u10), (2, .int u7), (0, .ref (q 24)), (1, .int p1)]) (g := fun ls => F0 m 122 ls []) ?_ ?_
            · intro y H locs ls hq
              obtain ⟨hy, hP, hD, hS, hl⟩ := hq
              subst hy
              have hl : lv_has ls 7 [(6, .int u25.1), (5, .int v13), (4, .int u25.2), (3, .int u10), (2, .int u7), (0, .ref (q 24)), (1, .int p1)] := hl
              refine lv_iinc (v := (v13 + (1 : Int32))) (lv' := [(5, .int (v13 + (1 : Int32))), (6, .int u25.1), (4, .int u25.2), (3, .int u10), (2, .int u7), (0, .ref (q 24)), (1, .int p1)]) hx hb dX4_countMissed_122 hl (k := 1) rfl rfl (by decide) rfl (fun ls hl => ?_)
              refine lv_goto (tgt := 82) hx hb dX4_countMissed_125 (by decide) ?_
              exact ih20 _ _ _ _ (Option.some.inj h).symm ⟨hP, hD, hS, lv_sub hl [0, 2, 3, 4, 5, 6] rfl⟩
            · intro K27
              refine W_lp (body := (fun (st : (Int32 × Int32)) => fX4_countMissed_L91 u10 vsz vb vc ve u3 v13 p1 st.1 st.2)) (P := fun (st : (Int32 × Int32)) H locs ls => va_P D vwCl (WC_ q cI cZ vnum vsz vfr vfo vli va vb vc ve vth vrk vcm vkx vky vkz vmk vre vro vwi vla vlb u3.2 k0x k0y k0z k1x k1y k1z k2x k2y k2z k3x k3y k3z) H ∧ va_D A (WC_ q cI cZ vnum vsz vfr vfo vli va vb vc ve vth vrk vcm vkx vky vkz vmk vre vro vwi vla vlb u3.2 k0x k0y k0z k1x k1y k1z k2x k2y k2z k3x k3y k3z) ∧ va_S A s.heap H locs ∧ lv_has ls 7 [(6, .int st.1), (5, .int v13), (4, .int st.2), (3, .int u10), (2, .int u7), (0, .ref (q 24)), (1, .int p1)]) (g := fun _ ls => F0 m 91 ls []) (r := u25) ?_ fu_ ((0 : Int32), v14) _ _ _ e26 ⟨hP, hD, hS, lv_sub hl [0, 1, 2, 3, 4, 5, 6] rfl⟩
              intro st xx31 H locs ls h hq ih30 hR29
              obtain ⟨hP, hD, hS, hl⟩ := hq
              obtain ⟨v23, v24⟩ := st
              have hP : va_P D vwCl (WC_ q cI cZ vnum vsz vfr vfo vli va vb vc ve vth vrk vcm vkx vky vkz vmk vre vro vwi vla vlb u3.2 k0x k0y k0z k1x k1y k1z k2x k2y k2z k3x k3y k3z) H := hP
              have hD : va_D A (WC_ q cI cZ vnum vsz vfr vfo vli va vb vc ve vth vrk vcm vkx vky vkz vmk vre vro vwi vla vlb u3.2 k0x k0y k0z k1x k1y k1z k2x k2y k2z k3x k3y k3z) := hD
              have hl : lv_has ls 7 [(6, .int v23), (5, .int v13), (4, .int v24), (3, .int u10), (2, .int u7), (0, .ref (q 24)), (1, .int p1)] := hl
              have h : fX4_countMissed_L91 u10 vsz vb vc ve u3 v13 p1 v23 v24 = some xx31 := h
              unfold fX4_countMissed_L91 at h
              refine lv_iload hx hb dX4_countMissed_91 (lv_at hl 0 rfl) ?_
              refine lv_iload_n hx hb dX4_countMissed_93 rfl (lv_at hl 3 rfl) ?_
              refine lv_icmp_ge (tgt := 122) hx hb dX4_countMissed_94 (by decide) (fun c32 => ?_) (fun c32 => ?_)
              · have h := (if_pos c32).symm.trans h
                exact K27 _ _ _ _ ⟨(hR29 _ (Option.some.inj h).symm).symm, hP, hD, hS, lv_sub hl [0, 1, 2, 3, 4, 5, 6] rfl⟩
              · have h := (if_neg c32).symm.trans h
                refine lv_iload hx hb dX4_countMissed_97 (lv_at hl 2 rfl) ?_
                refine lv_iload_n hx hb dX4_countMissed_99 rfl (lv_at hl 6 rfl) ?_
                refine lv_aload_n hx hb dX4_countMissed_100 rfl (lv_at hl 5 rfl) ?_
                refine lv_iload hx hb dX4_countMissed_101 (lv_at hl 1 rfl) ?_
                refine lv_iload hx hb dX4_countMissed_103 (lv_at hl 0 rfl) ?_
                refine lv_iload_n hx hb dX4_countMissed_105 rfl (lv_at hl 6 rfl) ?_
                obtain ⟨u33, e34, h⟩ := bd_some h
                refine k_i (va_runV (As := [.int v13, .int v23, .int p1]) (rest := [.int p1, .int v24]) ⟨hx, hb, hml, hown, hts⟩ (kX4_hits l D q cI cJ cZ tP H.size vnum vsz vfr vfo vli va vb vc ve vth vrk vcm vkx vky vkz vmk vre vro vwi vla vlb u3.2 k0x k0y k0z k1x k1y k1z k2x k2y k2z k3x k3y k3z v13 v23 p1 u33 e34) (cwV 3 hts gX4_countMissed_X4_hits rfl rfl rfl (by decide +kernel) ⟨Nat.le_of_ble_eq_true rfl, Nat.le_of_ble_eq_true rfl⟩) ⟨cPre_blind, va_recv hK hP (ci := 4) (q0 := 24) rfl rfl, cPre_at hP hK hN hD hS hA hZ⟩ rfl rfl hl.1 rfl (lv_room (Nat.le_of_ble_eq_true rfl)) dX4_countMissed_106 ⟨Nat.le_of_ble_eq_true rfl, Nat.le_of_ble_eq_true rfl⟩) hD hS hA (fun H locs hP hD hS => ?_)
                obtain ⟨u35, e36, h⟩ := bd_some h
                refine k_i0 (va_runS (As := [.int u33]) (rest := [.int p1, .int v24]) ⟨hx, hb, hml, hown, hts⟩ (kJ6_bitCount_0f7a4 l D cI cJ cZ tP H.size  u33 u35 e36) (va_cwS 1 hts gX4_countMissed_J6_bitCount_0f7a4 rfl rfl rfl (by decide +kernel) ⟨Nat.le_of_ble_eq_true rfl, Nat.le_of_ble_eq_true rfl⟩) ⟨cPre_blind, cPre_at0 hK hN hS hA hZ⟩ rfl rfl hl.1 rfl (lv_room (Nat.le_of_ble_eq_true rfl)) dX4_countMissed_109 ⟨Nat.le_of_ble_eq_true rfl, Nat.le_of_ble_eq_true rfl⟩) hP hS hA (fun H locs hP hS => ?_)
                refine lv_isub hx hb dX4_countMissed_112 ?_
                refine lv_iadd hx hb dX4_countMissed_113 ?_
                refine lv_istore (lv' := [(4, .int (v24 + (p1 - u35))), (6, .int v23), (5, .int v13), (3, .int u10), (2, .int u7), (0, .ref (q 24)), (1, .int p1)]) hx hb dX4_countMissed_114 hl (by decide) rfl (fun ls hl => ?_)
                refine lv_iinc (v := (v23 + (1 : Int32))) (lv' := [(6, .int (v23 + (1 : Int32))), (4, .int (v24 + (p1 - u35))), (5, .int v13), (3, .int u10), (2, .int u7), (0, .ref (q 24)), (1, .int p1)]) hx hb dX4_countMissed_116 hl (k := 1) rfl rfl (by decide) rfl (fun ls hl => ?_)
                refine lv_goto (tgt := 91) hx hb dX4_countMissed_119 (by decide) ?_
                exact ih30 _ _ _ _ (Option.some.inj h).symm ⟨hP, hD, hS, lv_sub hl [0, 2, 1, 3, 4, 5, 6] rfl⟩
      · intro J12
        have h := e11
        refine lv_icmp_lt (tgt := 74) hx hb dX4_countMissed_67 (by decide) (fun c37 => ?_) (fun c37 => ?_)
        · have h := (if_pos c37).symm.trans h
          refine lv_iconst (v := (1 : Int32)) hx hb dX4_countMissed_74 (by decide) ?_
          obtain rfl := Option.some.inj h
          exact J12 _ _ _ ⟨hP, hD, hS, lv_sub hl [0, 1, 2] rfl⟩
        · have h := (if_neg c37).symm.trans h
          refine lv_iload_n hx hb dX4_countMissed_70 rfl (lv_at hl 2 rfl) ?_
          refine lv_goto (tgt := 75) hx hb dX4_countMissed_71 (by decide) ?_
          obtain rfl := Option.some.inj h
          exact J12 _ _ _ ⟨hP, hD, hS, lv_sub hl [0, 1, 2] rfl⟩
    · intro J9
      have h := e8
      refine lv_icmp_lt (tgt := 57) hx hb dX4_countMissed_50 (by decide) (fun c38 => ?_) (fun c38 => ?_)
      · have h := (if_pos c38).symm.trans h
        refine lv_iconst (v := (1 : Int32)) hx hb dX4_countMissed_57 (by decide) ?_
        obtain rfl := Option.some.inj h
        exact J9 _ _ _ ⟨hP, hD, hS, lv_sub hl [0, 1, 2] rfl⟩
      · have h := (if_neg c38).symm.trans h
        refine lv_iload_n hx hb dX4_countMissed_53 rfl (lv_at hl 2 rfl) ?_
        refine lv_goto (tgt := 58) hx hb dX4_countMissed_54 (by decide) ?_
        obtain rfl := Option.some.inj h
        exact J9 _ _ _ ⟨hP, hD, hS, lv_sub hl [0, 1, 2] rfl⟩
  · intro K5
    refine W_lp (body := (fun (st : (Int32 × (Nat → Int32))) => fX4_countMissed_L2 vsz va p1 st.1 st.2)) (P := fun (st : (Int32 × (Nat → Int32))) H locs ls => va_P D vwCl (WC_ q cI cZ vnum vsz vfr vfo vli va vb vc ve vth vrk vcm vkx vky vkz vmk vre vro vwi vla vlb st.2 k0x k0y k0z k1x k1y k1z k2x k2y k2z k3x k3y k3z) H ∧ va_D A (WC_ q cI cZ vnum vsz vfr vfo vli va vb vc ve vth vrk vcm vkx vky vkz vmk vre vro vwi vla vlb st.2 k0x k0y k0z k1x k1y k1z k2x k2y k2z k3x k3y k3z) ∧ va_S A s.heap H locs ∧ lv_has ls 7 [(2, .int st.1), (0, .ref (q 24)), (1, .int p1)]) (g := fun _ ls => F0 m 2 ls []) (r := u3) ?_ fu_ ((0 : Int32), vtu) _ _ _ e4 ⟨hP, hD, hS, lv_sub hl [0, 1, 2] rfl⟩
    intro st xx41 H locs ls h hq ih40 hR39
    obtain ⟨hP, hD, hS, hl⟩ := hq
    obtain ⟨v1, v2⟩ := st
    have hP : va_P D vwCl (WC_ q cI cZ vnum vsz vfr vfo vli va vb vc ve vth vrk vcm vkx vky vkz vmk vre vro vwi vla vlb v2 k0x k0y k0z k1x k1y k1z k2x k2y k2z k3x k3y k3z) H := hP
    have hD : va_D A (WC_ q cI cZ vnum vsz vfr vfo vli va vb vc ve vth vrk vcm vkx vky vkz vmk vre vro vwi vla vlb v2 k0x k0y k0z k1x k1y k1z k2x k2y k2z k3x k3y k3z) := hD
    have hl : lv_has ls 7 [(2, .int v1), (0, .ref (q 24)), (1, .int p1)] := hl
    have h : fX4_countMissed_L2 vsz va p1 v1 v2 = some xx41 := h
    unfold fX4_countMissed_L2 at h
    refine lv_iload_n hx hb dX4_countMissed_2 rfl (lv_at hl 0 rfl) ?_
    refine lv_aload_n hx hb dX4_countMissed_3 rfl (lv_at hl 1 rfl) ?_
    refine va_get (D := D) (ci := 4) (v := .ref (q 1)) (C := RX4) (T := TX4) (N := 2) hx hb hts wiX4_countMissed_X4 hown hK hP 24 rfl rfl 0 (by decide) (hts _ wmX4_countMissed_0) (fun _ h9 => h9) rfl dX4_countMissed_4 ?_
    refine va_getN (D := D) (ci := 3) (v := .int vsz) (C := RX3) (T := TX3) (N := 7) hx hb hts wiX4_countMissed_X3 hown hK hP 1 rfl rfl 6 (by decide) (NW_f hN 28 rfl) (fun _ h9 => h9) rfl dX4_countMissed_7 ?_
    refine lv_icmp_ge (tgt := 42) hx hb dX4_countMissed_10 (by decide) (fun c42 => ?_) (fun c42 => ?_)
    · have h := (if_pos c42).symm.trans h
      exact K5 _ _ _ _ ⟨(hR39 _ (Option.some.inj h).symm).symm, hP, hD, hS, lv_sub hl [0, 1, 2] rfl⟩
    · have h := (if_neg c42).symm.trans h
      refine lv_aload_n hx hb dX4_countMissed_13 rfl (lv_at hl 1 rfl) ?_
      refine va_get (D := D) (ci := 4) (v := .ref (q 25)) (C := RX4) (T := TX4) (N := 2) hx hb hts wiX4_countMissed_X4 hown hK hP 24 rfl rfl 1 (by decide) (hts _ wmX4_countMissed_1) (fun _ h9 => h9) rfl dX4_countMissed_14 ?_
      refine lv_iload_n hx hb dX4_countMissed_17 rfl (lv_at hl 0 rfl) ?_
      refine lv_aload_n hx hb dX4_countMissed_18 rfl (lv_at hl 1 rfl) ?_
      refine va_get (D := D) (ci := 4) (v := .ref (q 1)) (C := RX4) (T := TX4) (N := 2) hx hb hts wiX4_countMissed_X4 hown hK hP 24 rfl rfl 0 (by decide) (hts _ wmX4_countMissed_0) (fun _ h9 => h9) rfl dX4_countMissed_19 ?_
      refine va_getN (D := D) (ci := 3) (v := .ref (q 2)) (C := RX3) (T := TX3) (N := 7) hx hb hts wiX4_countMissed_X3 hown hK hP 1 rfl rfl 1 (by decide) (NW_f hN 29 rfl) (fun _ h9 => h9) rfl dX4_countMissed_22 ?_
      refine lv_iload_n hx hb dX4_countMissed_25 rfl (lv_at hl 0 rfl) ?_
      obtain ⟨i43, h⟩ := ck_some h
      refine va_iald hx hb hK hP 2 0 rfl rfl i43 dX4_countMissed_26 ?_
      refine lv_iload_n hx hb dX4_countMissed_27 rfl (lv_at hl 2 rfl) ?_
      obtain ⟨u44, e45, h⟩ := bd_some h
      refine k_i0 (va_runS (As := [.int (va v1.toNatClampNeg), .int p1]) (rest := [.int v1, .ref (q 25)]) ⟨hx, hb, hml, hown, hts⟩ (kJ9_floorMod_7cf53 l D cI cJ cZ tP H.size  (va v1.toNatClampNeg) p1 u44 e45) (va_cwS 2 hts gX4_countMissed_J9_floorMod_7cf53 rfl rfl rfl (by decide +kernel) ⟨Nat.le_of_ble_eq_true rfl, Nat.le_of_ble_eq_true rfl⟩) ⟨cPre_blind, cPre_at0 hK hN hS hA hZ⟩ rfl rfl hl.1 rfl (lv_room (Nat.le_of_ble_eq_true rfl)) dX4_countMissed_28 ⟨Nat.le_of_ble_eq_true rfl, Nat.le_of_ble_eq_true rfl⟩) hP hS hA (fun H locs hP hS => ?_)
      refine lv_iload_n hx hb dX4_countMissed_31 rfl (lv_at hl 2 rfl) ?_
      obtain ⟨u46, e47, h⟩ := bd_some h
      refine k_i0 (va_runS (As := [.int u44, .int p1]) (rest := [.int v1, .ref (q 25)]) ⟨hx, hb, hml, hown, hts⟩ (kX4_inverse l D cI cJ cZ tP H.size  u44 p1 u46 e47) (va_cwS 2 hts gX4_countMissed_X4_inverse rfl rfl rfl (by decide +kernel) ⟨Nat.le_of_ble_eq_true rfl, Nat.le_of_ble_eq_true rfl⟩) ⟨cPre_blind, cPre_at0 hK hN hS hA hZ⟩ rfl rfl hl.1 rfl (lv_room (Nat.le_of_ble_eq_true rfl)) dX4_countMissed_32 ⟨Nat.le_of_ble_eq_true rfl, Nat.le_of_ble_eq_true rfl⟩) hP hS hA (fun H locs hP hS => ?_)
      obtain ⟨i48, h⟩ := ck_some h
      refine va_iast hx hb hK hP hD hS 25 0 rfl rfl i48 dX4_countMissed_35 (fun H locs hP hD hS => ?_)
      have hP : va_P D vwCl (WC_ q cI cZ vnum vsz vfr vfo vli va vb vc ve vth vrk vcm vkx vky vkz vmk vre vro vwi vla vlb (upd v2 v1.toNatClampNeg u46) k0x k0y k0z k1x k1y k1z k2x k2y k2z k3x k3y k3z) H := hP
      have hD : va_D A (WC_ q cI cZ vnum vsz vfr vfo vli va vb vc ve vth vrk vcm vkx vky vkz vmk vre vro vwi vla vlb (upd v2 v1.toNatClampNeg u46) k0x k0y k0z k1x k1y k1z k2x k2y k2z k3x k3y k3z) := hD
      refine lv_iinc (v := (v1 + (1 : Int32))) (lv' := [(2, .int (v1 + (1 : Int32))), (0, .ref (q 24)), (1, .int p1)]) hx hb dX4_countMissed_36 hl (k := 0) rfl rfl (by decide) rfl (fun ls hl => ?_)
      refine lv_goto (tgt := 2) hx hb dX4_countMissed_39 (by decide) ?_
      exact ih40 _ _ _ _ (Option.some.inj h).symm ⟨hP, hD, hS, lv_sub hl [0, 1, 2] rfl⟩
