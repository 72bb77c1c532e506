-- X6_face
theorem wmX6_face_0 : (.fieldLink RX6 37 "SpaceWallsModel" "wide" "I" : Cond) ∈ wsX6_face := by decide +kernel
theorem wmX6_face_1 : (.fieldLink RX6 49 "SpaceWallsModel" "many" "I" : Cond) ∈ wsX6_face := by decide +kernel
theorem wiX6_face_X6 : ∀ w ∈ u_ws RX6 TX6 12, w ∈ wsX6_face := by decide +kernel
set_option maxHeartbeats 8000000 in
set_option maxRecDepth 100000 in
theorem kX6_face (l : Launch) (D : va_G) (q : Nat → Nat) (cI cJ cZ : ClassId) (tP sz : Nat) (wwd : Int32) (wmn : Int32) (wod : Int32) (wsm : Int32) (wnm : Int32) (wwl : (Nat → Int32)) (wif : (Nat → Int32)) (wev : (Nat → Int32)) (wne : (Nat → Int32)) (wsu : (Nat → Int64)) (wnx : (Nat → Int64)) (wta : (Nat → Int64)) (p1 : Int32) (p2 : Int32) (uu : (Int32 × Int32 × Int32 × Int32 × (Nat → Int32) × (Nat → Int32) × (Nat → Int32) × (Nat → Int64) × (Nat → Int64) × (Nat → Int64))) (h : fX6_face wwd wmn wod wsm wnm wwl wif wev wne wsu wnx wta p1 p2 = some uu) : Met l yX6_face wsX6_face ({ frames := 6, cells := 0, slots := 0, locals := 146 }) (cPre D cI cJ cZ tP (WM_ q cI cJ cZ wwd wmn wod wsm wnm wwl wif wev wne wsu wnx wta) sz [.ref (q 0), .int p1, .int p2]) (cQi D (va_A (WM_ q cI cJ cZ wwd wmn wod wsm wnm wwl wif wev wne wsu wnx wta) sz) (WM_ q cI cJ cZ wwd wmn uu.2.1 uu.2.2.1 uu.2.2.2.1 wwl uu.2.2.2.2.1 uu.2.2.2.2.2.1 uu.2.2.2.2.2.2.1 uu.2.2.2.2.2.2.2.1 uu.2.2.2.2.2.2.2.2.1 uu.2.2.2.2.2.2.2.2.2) uu.1) 0 0 (va_A (WM_ q cI cJ cZ wwd wmn wod wsm wnm wwl wif wev wne wsu wnx wta) sz) := by
  refine Met.ofW (cc := cX6_face) (maxL := 5) (ret := (some .int)) (by decide) rfl ?_
  intro p e s m args below meth c s₁ B hml hv
  obtain ⟨rfl, hsz, hP, hK, hN, hD0, hZ⟩ := hv
  have hx := B.exec
  have hb := B.bytes
  have hr := B.returns
  have hts := atoms_spec (ws := wsX6_face) B.pre
  have hown : s.vm.findClass RX6 = some m.cls := findClass_of_methodNamed B.named
  have hlocks := B.notSynchronized
  subst hsz
  have hD := hD0.self (sz := s.heap.size)
  generalize hAe : va_A (WM_ q cI cJ cZ wwd wmn wod wsm wnm wwl wif wev wne wsu wnx wta) s.heap.size = A at hD hZ ⊢
  have hA : ∀ q : Nat, s.heap.size ≤ q → A q := fun q h => by rw [← hAe]; exact Or.inr h
  have hS : va_S A s.heap s.heap [] := va_S.rf
  have hl := lv_entry ([.ref (q 0), .int p1, .int p2]) (n := 5) (Nat.le_of_ble_eq_true rfl)
  rw [lg_entry_eq]
  generalize (lg_sl ([.ref (q 0), .int p1, .int p2]) ++ List.replicate (5 - (lg_sl ([.ref (q 0), .int p1, .int p2])).length) Slot.unset).toArray = ls at hl ⊢
  have hl : lv_has ls 5 [(0, .ref (q 0)), (1, .int p1), (2, .int p2)] := hl
  unfold fX6_face at h
  refine lv_iload_n hx hb dX6_face_0 rfl (lv_at hl 1 rfl) ?_
  refine lv_iconst (v := (0 : Int32)) hx hb dX6_face_1 (by decide) ?_
  refine lv_aload_n hx hb dX6_face_2 rfl (lv_at hl 0 rfl) ?_
  refine va_get (D := D) (ci := 6) (v := .int wwd) (C := RX6) (T := TX6) (N := 12) hx hb hts wiX6_face_X6 hown hK hP 0 rfl rfl 0 (by decide) (hts _ wmX6_face_0) (fun _ h9 => h9) rfl dX6_face_3 ?_
  obtain ⟨u1, e2, h⟩ := bd_some h
  refine k_i0 (va_runS (As := [.int p1, .int (0 : Int32), .int wwd]) (rest := []) ⟨hx, hb, hml, hown, hts⟩ (kX6_in l D cI cJ cZ tP s.heap.size  p1 (0 : Int32) wwd u1 e2) (va_cwS 3 hts gX6_face_X6_in rfl rfl rfl (by decide +kernel) ⟨Nat.le_of_ble_eq_true rfl, Nat.le_of_ble_eq_true rfl⟩) ⟨cPre_blind, cPre_at0 hK hN hS hA hZ⟩ rfl rfl hl.1 rfl (lv_room (Nat.le_of_ble_eq_true rfl)) dX6_face_6 ⟨Nat.le_of_ble_eq_true rfl, Nat.le_of_ble_eq_true rfl⟩) hP hS hA (fun H locs hP hS => ?_)
  refine lv_if_eq (tgt := 16) hx hb dX6_face_9 (by decide) (fun c3 => ?_) (fun c3 => ?_)
  · have h := (if_pos c3).symm.trans h
    refine lv_iconst (v := (-1 : Int32)) hx hb dX6_face_16 (by decide) ?_
    obtain rfl := Option.some.inj h
    exact W.iret (v := (-1 : Int32)) hx hb hr (fun t ht hW => ⟨⟨(-1 : Int32), (), rfl, rfl, by rw [ht]; exact hP, hD⟩, hS.F ht⟩) hS.2.2 dX6_face_17
  · have h := (if_neg c3).symm.trans h
    refine lv_iload_n hx hb dX6_face_12 rfl (lv_at hl 2 rfl) ?_
    refine lv_if_ge (tgt := 18) hx hb dX6_face_13 (by decide) (fun c4 => ?_) (fun c4 => ?_)
    · have h := (if_pos c4).symm.trans h
      refine lv_iload_n hx hb dX6_face_18 rfl (lv_at hl 2 rfl) ?_
      refine lv_istore_n (lv' := [(3, .int p2), (0, .ref (q 0)), (1, .int p1), (2, .int p2)]) hx hb dX6_face_19 rfl hl (by decide) rfl (fun ls hl => ?_)
      refine lv_iconst (v := (0 : Int32)) hx hb dX6_face_20 (by decide) ?_
      refine lv_istore (lv' := [(4, .int (0 : Int32)), (3, .int p2), (0, .ref (q 0)), (1, .int p1), (2, .int p2)]) hx hb dX6_face_21 hl (by decide) rfl (fun ls hl => ?_)
      obtain ⟨u16, e17, h⟩ := bd_some h
      have KR19 : ∀ y21, Sum.inr y21 = u16 → y21 = uu := by
        intro y21 hy
        subst hy
        have h := se_inr h
        exact Option.some.inj h
      refine W_leave (P := fun (y : (Int32 × Int32 × Int32 × Int32 × Int32 × (Nat → Int32) × (Nat → Int32) × (Nat → Int32) × (Nat → Int64) × (Nat → Int64) × (Nat → Int64))) H locs ls => u16 = Sum.inl y ∧ va_P D vwCl (WM_ q cI cJ cZ wwd wmn y.2.2.1 y.2.2.2.1 y.2.2.2.2.1 wwl y.2.2.2.2.2.1 y.2.2.2.2.2.2.1 y.2.2.2.2.2.2.2.1 y.2.2.2.2.2.2.2.2.1 y.2.2.2.2.2.2.2.2.2.1 y.2.2.2.2.2.2.2.2.2.2) H ∧ va_D A (WM_ q cI cJ cZ wwd wmn y.2.2.1 y.2.2.2.1 y.2.2.2.2.1 wwl y.2.2.2.2.2.1 y.2.2.2.2.2.2.1 y.2.2.2.2.2.2.2.1 y.2.2.2.2.2.2.2.2.1 y.2.2.2.2.2.2.2.2.2.1 y.2.2.2.2.2.2.2.2.2.2) ∧ va_S A s.heap H locs ∧ lv_has ls 5 [(4, .int y.1), (3, .int y.2.1), (0, .ref (q 0)), (1, .int p1), (2, .int p2)]) (g := fun ls => F0 m 64 ls []) ?_ ?_
      · intro x20 H locs ls hq
        obtain ⟨hy, hP, hD, hS, hl⟩ := hq
        subst hy
        have h := se_inl h
        refine lv_iconst (v := (-1 : Int32)) hx hb dX6_face_64 (by decide) ?_
        obtain rfl := Option.some.inj h
        exact W.iret (v := (-1 : Int32)) hx hb hr (fun t ht hW => ⟨⟨(-1 : Int32), (), rfl, rfl, by rw [ht]; exact hP, hD⟩, hS.F ht⟩) hS.2.2 dX6_face_65
      · intro K18
        refine W_lp (body := (fun (st : (Int32 × Int32 × Int32 × Int32 × Int32 × (Nat → Int32) × (Nat → Int32) × (Nat → Int32) × (Nat → Int64) × (Nat → Int64) × (Nat → Int64))) => fX6_face_L23 wmn wwd wwl p1 st.1 st.2.1 st.2.2.1 st.2.2.2.1 st.2.2.2.2.1 st.2.2.2.2.2.1 st.2.2.2.2.2.2.1 st.2.2.2.2.2.2.2.1 st.2.2.2.2.2.2.2.2.1 st.2.2.2.2.2.2.2.2.2.1 st.2.2.2.2.2.2.2.2.2.2)) (P := fun (st : (Int32 × Int32 × Int32 × Int32 × Int32 × (Nat → Int32) × (Nat → Int32) × (Nat → Int32) × (Nat → Int64) × (Nat → Int64) × (Nat → Int64))) H locs ls => va_P D vwCl (WM_ q cI cJ cZ wwd wmn st.2.2.1 st.2.2.2.1 st.2.2.2.2.1 wwl st.2.2.2.2.2.1 st.2.2.2.2.2.2.1 st.2.2.2.2.2.2.2.1 st.2.2.2.2.2.2.2.2.1 st.2.2.2.2.2.2.2.2.2.1 st.2.2.2.2.2.2.2.2.2.2) H ∧ va_D A (WM_ q cI cJ cZ wwd wmn st.2.2.1 st.2.2.2.1 st.2.2.2.2.1 wwl st.2.2.2.2.2.1 st.2.2.2.2.2.2.1 st.2.2.2.2.2.2.2.1 st.2.2.2.2.2.2.2.2.1 st.2.2.2.2.2.2.2.2.2.1 st.2.2.2.2.2.2.2.2.2.2) ∧ va_S A s.heap H locs ∧ lv_has ls 5 [(4, .int st.1), (3, .int st.2.1), (0, .ref (q 0)), (1, .int p1), (2, .int p2)]) (g := fun _ ls => F0 m 23 ls []) (r := u16) ?_ fu_ ((0 : Int32), p2, wod, wsm, wnm, wif, wev, wne, wsu, wnx, wta) _ _ _ e17 ⟨hP, hD, hS, lv_sub hl [0, 1, 2, 3, 4] rfl⟩
        intro st xx24 H locs ls h hq ih23 hR22
        obtain ⟨hP, hD, hS, hl⟩ := hq
        obtain ⟨v5, v6, v7, v8, v9, v10, v11, v12, v13, v14, v15⟩ := st
        have hP : va_P D vwCl (WM_ q cI cJ cZ wwd wmn v7 v8 v9 wwl v10 v11 v12 v13 v14 v15) H := hP
        have hD : va_D A (WM_ q cI cJ cZ wwd wmn v7 v8 v9 wwl v10 v11 v12 v13 v14 v15) := hD
        have hl : lv_has ls 5 [(4, .int v5), (3, .int v6), (0, .ref (q 0)), (1, .int p1), (2, .int p2)] := hl
        have h : fX6_face_L23 wmn wwd wwl p1 v5 v6 v7 v8 v9 v10 v11 v12 v13 v14 v15 = some xx24 := h
        unfold fX6_face_L23 at h
        refine lv_iload hx hb dX6_face_23 (lv_at hl 0 rfl) ?_
        refine lv_aload_n hx hb dX6_face_25 rfl (lv_at hl 2 rfl) ?_
        refine va_get (D := D) (ci := 6) (v := .int wmn) (C := RX6) (T := TX6) (N := 12) hx hb hts wiX6_face_X6 hown hK hP 0 rfl rfl 1 (by decide) (hts _ wmX6_face_1) (fun _ h9 => h9) rfl dX6_face_26 ?_
        obtain ⟨u25, e26, h⟩ := bd_some h
        refine k_i0 (va_runS (As := [.int wmn]) (rest := [.int v5]) ⟨hx, hb, hml, hown, hts⟩ (kX6_power l D cI cJ cZ tP H.size  wmn u25 e26) (va_cwS 1 hts gX6_face_X6_power rfl rfl rfl (by decide +kernel) ⟨Nat.le_of_ble_eq_true rfl, Nat.le_of_ble_eq_true rfl⟩) ⟨cPre_blind, cPre_at0 hK hN hS hA hZ⟩ rfl rfl hl.1 rfl (lv_room (Nat.le_of_ble_eq_true rfl)) dX6_face_29 ⟨Nat.le_of_ble_eq_true rfl, Nat.le_of_ble_eq_true rfl⟩) hP hS hA (fun H locs hP hS => ?_)
        refine lv_icmp_ge (tgt := 64) hx hb dX6_face_32 (by decide) (fun c27 => ?_) (fun c27 => ?_)
        · have h := (if_pos c27).symm.trans h
          exact K18 _ _ _ _ ⟨(hR22 _ (Option.some.inj h).symm).symm, hP, hD, hS, lv_sub hl [0, 1, 2, 3, 4] rfl⟩
        · have h := (if_neg c27).symm.trans h
          refine lv_aload_n hx hb dX6_face_35 rfl (lv_at hl 2 rfl) ?_
          refine lv_iload hx hb dX6_face_36 (lv_at hl 0 rfl) ?_
          obtain ⟨u28, e29, h⟩ := bd_some h
          refine k_i (va_runV (As := [.int v5]) (rest := []) ⟨hx, hb, hml, hown, hts⟩ (kX6_width l D q cI cJ cZ tP H.size wwd wmn v7 v8 v9 wwl v10 v11 v12 v13 v14 v15 v5 u28 e29) (cwV 1 hts gX6_face_X6_width rfl rfl rfl (by decide +kernel) ⟨Nat.le_of_ble_eq_true rfl, Nat.le_of_ble_eq_true rfl⟩) ⟨cPre_blind, va_recv hK hP (ci := 6) (q0 := 0) rfl rfl, cPre_at hP hK hN hD hS hA hZ⟩ rfl rfl hl.1 rfl (lv_room (Nat.le_of_ble_eq_true rfl)) dX6_face_38 ⟨Nat.le_of_ble_eq_true rfl, Nat.le_of_ble_eq_true rfl⟩) hD hS hA (fun H locs hP hD hS => ?_)
          refine lv_iload_n hx hb dX6_face_41 rfl (lv_at hl 3 rfl) ?_
          refine lv_icmp_eq (tgt := 48) hx hb dX6_face_42 (by decide) (fun c30 => ?_) (fun c30 => ?_)
          · have h := (if_pos c30).symm.trans h
            refine lv_iload_n hx hb dX6_face_48 rfl (lv_at hl 1 rfl) ?_
            refine lv_if_ne (tgt := 55) hx hb dX6_face_49 (by decide) (fun c31 => ?_) (fun c31 => ?_)
            · have h := (if_neg c31).symm.trans h
              obtain ⟨z6, hz6⟩ : ∃ z : Int32, z = v6 + (-1 : Int32) := ⟨_, rfl⟩
              rw [← hz6] at h
              refine lv_iinc (v := z6) (lv' := [(3, .int z6), (4, .int v5), (0, .ref (q 0)), (1, .int p1), (2, .int p2)]) hx hb dX6_face_55 hl (k := 1) rfl (hz6.trans (congrArg (fun z : Int32 => v6 + z) (show (-1 : Int32) = Int32.ofInt (-1) by decide))).symm (by decide) rfl (fun ls hl => ?_)
              refine lv_iinc (v := (v5 + (1 : Int32))) (lv' := [(4, .int (v5 + (1 : Int32))), (3, .int z6), (0, .ref (q 0)), (1, .int p1), (2, .int p2)]) hx hb dX6_face_58 hl (k := 1) rfl rfl (by decide) rfl (fun ls hl => ?_)
              refine lv_goto (tgt := 23) hx hb dX6_face_61 (by decide) ?_
              exact ih23 _ _ _ _ (Option.some.inj h).symm ⟨hP, hD, hS, lv_sub hl [0, 1, 2, 3, 4] rfl⟩
            · have h := (if_pos c31).symm.trans h
              refine lv_iload hx hb dX6_face_52 (lv_at hl 0 rfl) ?_
              have hu := KR19 _ (hR22 _ (Option.some.inj h).symm)
              subst hu
              exact W.iret (v := v5) hx hb hr (fun t ht hW => ⟨⟨v5, (), rfl, rfl, by rw [ht]; exact hP, hD⟩, hS.F ht⟩) hS.2.2 dX6_face_54
          · have h := (if_neg c30).symm.trans h
            refine lv_goto (tgt := 58) hx hb dX6_face_45 (by decide) ?_
            refine lv_iinc (v := (v5 + (1 : Int32))) (lv' := [(4, .int (v5 + (1 : Int32))), (3, .int v6), (0, .ref (q 0)), (1, .int p1), (2, .int p2)]) hx hb dX6_face_58 hl (k := 0) rfl rfl (by decide) rfl (fun ls hl => ?_)
            refine lv_goto (tgt := 23) hx hb dX6_face_61 (by decide) ?_
            exact ih23 _ _ _ _ (Option.some.inj h).symm ⟨hP, hD, hS, lv_sub hl [0, 1, 2, 3, 4] rfl⟩
    · have h := (if_neg c4).symm.trans h
      refine lv_iconst (v := (-1 : Int32)) hx hb dX6_face_16 (by decide) ?_
      obtain rfl := Option.some.inj h
      exact W.iret (v := (-1 : Int32)) hx hb hr (fun t ht hW => ⟨⟨(-1 : Int32), (), rfl, rfl, by rw [ht]; exact hP, hD⟩, hS.F ht⟩) hS.2.2 dX6_face_17
