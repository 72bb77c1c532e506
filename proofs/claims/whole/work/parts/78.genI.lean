-- X6_width
theorem wmX6_width_0 : (.fieldLink RX6 37 "SpaceWallsModel" "wide" "I" : Cond) ∈ wsX6_width := by decide +kernel
theorem wiX6_width_X6 : ∀ w ∈ u_ws RX6 TX6 12, w ∈ wsX6_width := by decide +kernel
set_option maxHeartbeats 8000000 in
set_option maxRecDepth 100000 in
theorem kX6_width (l : Launch) (D : va_G) (q : Nat → Nat) (cI cJ cZ : ClassId) (tP sz : Nat) (wwd : Int32) (wmn : Int32) (wod : Int32) (wsm : Int32) (wnm : Int32) (wwl : (Nat → Int32)) (wif : (Nat → Int32)) (wev : (Nat → Int32)) (wne : (Nat → Int32)) (wsu : (Nat → Int64)) (wnx : (Nat → Int64)) (wta : (Nat → Int64)) (p1 : Int32) (uu : (Int32 × Int32 × Int32 × Int32 × (Nat → Int32) × (Nat → Int32) × (Nat → Int32) × (Nat → Int64) × (Nat → Int64) × (Nat → Int64))) (h : fX6_width wwd wmn wod wsm wnm wwl wif wev wne wsu wnx wta p1 = some uu) : Met l yX6_width wsX6_width ({ frames := 5, cells := 0, slots := 0, locals := 125 }) (cPre D cI cJ cZ tP (WM_ q cI cJ cZ wwd wmn wod wsm wnm wwl wif wev wne wsu wnx wta) sz [.ref (q 0), .int p1]) (cQi D (va_A (WM_ q cI cJ cZ wwd wmn wod wsm wnm wwl wif wev wne wsu wnx wta) sz) (WM_ q cI cJ cZ wwd wmn uu.2.1 uu.2.2.1 uu.2.2.2.1 wwl uu.2.2.2.2.1 uu.2.2.2.2.2.1 uu.2.2.2.2.2.2.1 uu.2.2.2.2.2.2.2.1 uu.2.2.2.2.2.2.2.2.1 uu.2.2.2.2.2.2.2.2.2) uu.1) 0 0 (va_A (WM_ q cI cJ cZ wwd wmn wod wsm wnm wwl wif wev wne wsu wnx wta) sz) := by
  refine Met.ofW (cc := cX6_width) (maxL := 2) (ret := (some .int)) (by decide) rfl ?_
  intro p e s m args below meth c s₁ B hml hv
  obtain ⟨rfl, hsz, hP, hK, hN, hD0, hZ⟩ := hv
  have hx := B.exec
  have hb := B.bytes
  have hr := B.returns
  have hts := atoms_spec (ws := wsX6_width) B.pre
  have hown : s.vm.findClass RX6 = some m.cls := findClass_of_methodNamed B.named
  have hlocks := B.notSynchronized
  subst hsz
  have hD := hD0.self (sz := s.heap.size)
  generalize hAe : va_A (WM_ q cI cJ cZ wwd wmn wod wsm wnm wwl wif wev wne wsu wnx wta) s.heap.size = A at hD hZ ⊢
  have hA : ∀ q : Nat, s.heap.size ≤ q → A q := fun q h => by rw [← hAe]; exact Or.inr h
  have hS : va_S A s.heap s.heap [] := va_S.rf
  have hl := lv_entry ([.ref (q 0), .int p1]) (n := 2) (Nat.le_of_ble_eq_true rfl)
  rw [lg_entry_eq]
  generalize (lg_sl ([.ref (q 0), .int p1]) ++ List.replicate (2 - (lg_sl ([.ref (q 0), .int p1])).length) Slot.unset).toArray = ls at hl ⊢
  have hl : lv_has ls 2 [(0, .ref (q 0)), (1, .int p1)] := hl
  unfold fX6_width at h
  refine lv_aload_n hx hb dX6_width_0 rfl (lv_at hl 0 rfl) ?_
  refine lv_iload_n hx hb dX6_width_1 rfl (lv_at hl 1 rfl) ?_
  obtain ⟨u1, e2, h⟩ := bd_some h
  refine k_i (va_runV (As := [.int p1]) (rest := []) ⟨hx, hb, hml, hown, hts⟩ (kX6_isFace l D q cI cJ cZ tP s.heap.size wwd wmn wod wsm wnm wwl wif wev wne wsu wnx wta p1 u1 e2) (cwV 1 hts gX6_width_X6_isFace rfl rfl rfl (by decide +kernel) ⟨Nat.le_of_ble_eq_true rfl, Nat.le_of_ble_eq_true rfl⟩) ⟨cPre_blind, va_recv hK hP (ci := 6) (q0 := 0) rfl rfl, cPre_at hP hK hN hD hS hA hZ⟩ rfl rfl hl.1 rfl (lv_room (Nat.le_of_ble_eq_true rfl)) dX6_width_2 ⟨Nat.le_of_ble_eq_true rfl, Nat.le_of_ble_eq_true rfl⟩) hD hS hA (fun H locs hP hD hS => ?_)
  refine lv_if_eq (tgt := 26) hx hb dX6_width_5 (by decide) (fun c3 => ?_) (fun c3 => ?_)
  · have h := (if_pos c3).symm.trans h
    refine lv_iconst (v := (-1 : Int32)) hx hb dX6_width_26 (by decide) ?_
    obtain rfl := Option.some.inj h
    exact W.iret (v := (-1 : Int32)) hx hb hr (fun t ht hW => ⟨⟨(-1 : Int32), (), rfl, rfl, by rw [ht]; exact hP, hD⟩, hS.F ht⟩) hS.2.2 dX6_width_27
  · have h := (if_neg c3).symm.trans h
    refine lv_aload_n hx hb dX6_width_8 rfl (lv_at hl 0 rfl) ?_
    refine va_get (D := D) (ci := 6) (v := .int wwd) (C := RX6) (T := TX6) (N := 12) hx hb hts wiX6_width_X6 hown hK hP 0 rfl rfl 0 (by decide) (hts _ wmX6_width_0) (fun _ h9 => h9) rfl dX6_width_9 ?_
    refine lv_aload_n hx hb dX6_width_12 rfl (lv_at hl 0 rfl) ?_
    refine lv_aload_n hx hb dX6_width_13 rfl (lv_at hl 0 rfl) ?_
    refine lv_iload_n hx hb dX6_width_14 rfl (lv_at hl 1 rfl) ?_
    obtain ⟨u4, e5, h⟩ := bd_some h
    refine k_i (va_runV (As := [.int p1]) (rest := [.ref (q 0), .int wwd]) ⟨hx, hb, hml, hown, hts⟩ (kX6_onWalls l D q cI cJ cZ tP H.size wwd wmn u1.2.1 u1.2.2.1 u1.2.2.2.1 wwl u1.2.2.2.2.1 u1.2.2.2.2.2.1 u1.2.2.2.2.2.2.1 u1.2.2.2.2.2.2.2.1 u1.2.2.2.2.2.2.2.2 wta p1 u4 e5) (cwV 1 hts gX6_width_X6_onWalls rfl rfl rfl (by decide +kernel) ⟨Nat.le_of_ble_eq_true rfl, Nat.le_of_ble_eq_true rfl⟩) ⟨cPre_blind, va_recv hK hP (ci := 6) (q0 := 0) rfl rfl, cPre_at hP hK hN hD hS hA hZ⟩ rfl rfl hl.1 rfl (lv_room (Nat.le_of_ble_eq_true rfl)) dX6_width_15 ⟨Nat.le_of_ble_eq_true rfl, Nat.le_of_ble_eq_true rfl⟩) hD hS hA (fun H locs hP hD hS => ?_)
    refine lv_iconst (v := (3 : Int32)) hx hb dX6_width_18 (by decide) ?_
    obtain ⟨u6, e7, h⟩ := bd_some h
    refine k_i (va_runV (As := [.int u4, .int (3 : Int32)]) (rest := [.int wwd]) ⟨hx, hb, hml, hown, hts⟩ (kX6_rank l D q cI cJ cZ tP H.size wwd wmn u1.2.1 u1.2.2.1 u1.2.2.2.1 wwl u1.2.2.2.2.1 u1.2.2.2.2.2.1 u1.2.2.2.2.2.2.1 u1.2.2.2.2.2.2.2.1 u1.2.2.2.2.2.2.2.2 wta u4 (3 : Int32) u6 e7) (cwV 2 hts gX6_width_X6_rank rfl rfl rfl (by decide +kernel) ⟨Nat.le_of_ble_eq_true rfl, Nat.le_of_ble_eq_true rfl⟩) ⟨cPre_blind, va_recv hK hP (ci := 6) (q0 := 0) rfl rfl, cPre_at hP hK hN hD hS hA hZ⟩ rfl rfl hl.1 rfl (lv_room (Nat.le_of_ble_eq_true rfl)) dX6_width_19 ⟨Nat.le_of_ble_eq_true rfl, Nat.le_of_ble_eq_true rfl⟩) hD hS hA (fun H locs hP hD hS => ?_)
    refine lv_isub hx hb dX6_width_22 ?_
    refine lv_goto (tgt := 27) hx hb dX6_width_23 (by decide) ?_
    obtain rfl := Option.some.inj h
    exact W.iret (v := (wwd - u6.1)) hx hb hr (fun t ht hW => ⟨⟨(wwd - u6.1), (), rfl, rfl, by rw [ht]; exact hP, hD⟩, hS.F ht⟩) hS.2.2 dX6_width_27

-- X6_faces
theorem wmX6_faces_0 : (.fieldLink RX6 37 "SpaceWallsModel" "wide" "I" : Cond) ∈ wsX6_faces := by decide +kernel
theorem wmX6_faces_1 : (.fieldLink RX6 49 "SpaceWallsModel" "many" "I" : Cond) ∈ wsX6_faces := by decide +kernel
theorem wiX6_faces_X6 : ∀ w ∈ u_ws RX6 TX6 12, w ∈ wsX6_faces := by decide +kernel
set_option maxHeartbeats 8000000 in
set_option maxRecDepth 100000 in
theorem kX6_faces (l : Launch) (D : va_G) (q : Nat → Nat) (cI cJ cZ : ClassId) (tP sz : Nat) (wwd : Int32) (wmn : Int32) (wod : Int32) (wsm : Int32) (wnm : Int32) (wwl : (Nat → Int32)) (wif : (Nat → Int32)) (wev : (Nat → Int32)) (wne : (Nat → Int32)) (wsu : (Nat → Int64)) (wnx : (Nat → Int64)) (wta : (Nat → Int64)) (p1 : Int32) (uu : (Int32 × Int32 × Int32 × Int32 × (Nat → Int32) × (Nat → Int32) × (Nat → Int32) × (Nat → Int64) × (Nat → Int64) × (Nat → Int64))) (h : fX6_faces wwd wmn wod wsm wnm wwl wif wev wne wsu wnx wta p1 = some uu) : Met l yX6_faces wsX6_faces ({ frames := 6, cells := 0, slots := 0, locals := 146 }) (cPre D cI cJ cZ tP (WM_ q cI cJ cZ wwd wmn wod wsm wnm wwl wif wev wne wsu wnx wta) sz [.ref (q 0), .int p1]) (cQi D (va_A (WM_ q cI cJ cZ wwd wmn wod wsm wnm wwl wif wev wne wsu wnx wta) sz) (WM_ q cI cJ cZ wwd wmn uu.2.1 uu.2.2.1 uu.2.2.2.1 wwl uu.2.2.2.2.1 uu.2.2.2.2.2.1 uu.2.2.2.2.2.2.1 uu.2.2.2.2.2.2.2.1 uu.2.2.2.2.2.2.2.2.1 uu.2.2.2.2.2.2.2.2.2) uu.1) 0 0 (va_A (WM_ q cI cJ cZ wwd wmn wod wsm wnm wwl wif wev wne wsu wnx wta) sz) := by
  refine Met.ofW (cc := cX6_faces) (maxL := 4) (ret := (some .int)) (by decide) rfl ?_
  intro p e s m args below meth c s₁ B hml hv
  obtain ⟨rfl, hsz, hP, hK, hN, hD0, hZ⟩ := hv
  have hx := B.exec
  have hb := B.bytes
  have hr := B.returns
  have hts := atoms_spec (ws := wsX6_faces) B.pre
  have hown : s.vm.findClass RX6 = some m.cls := findClass_of_methodNamed B.named
  have hlocks := B.notSynchronized
  subst hsz
  have hD := hD0.self (sz := s.heap.size)
  generalize hAe : va_A (WM_ q cI cJ cZ wwd wmn wod wsm wnm wwl wif wev wne wsu wnx wta) s.heap.size = A at hD hZ ⊢
  have hA : ∀ q : Nat, s.heap.size ≤ q → A q := fun q h => by rw [← hAe]; exact Or.inr h
  have hS : va_S A s.heap s.heap [] := va_S.rf
  have hl := lv_entry ([.ref (q 0), .int p1]) (n := 4) (Nat.le_of_ble_eq_true rfl)
  rw [lg_entry_eq]
  generalize (lg_sl ([.ref (q 0), .int p1]) ++ List.replicate (4 - (lg_sl ([.ref (q 0), .int p1])).length) Slot.unset).toArray = ls at hl ⊢
  have hl : lv_has ls 4 [(0, .ref (q 0)), (1, .int p1)] := hl
  unfold fX6_faces at h
  refine lv_iload_n hx hb dX6_faces_0 rfl (lv_at hl 1 rfl) ?_
  refine lv_iconst (v := (0 : Int32)) hx hb dX6_faces_1 (by decide) ?_
  refine lv_aload_n hx hb dX6_faces_2 rfl (lv_at hl 0 rfl) ?_
  refine va_get (D := D) (ci := 6) (v := .int wwd) (C := RX6) (T := TX6) (N := 12) hx hb hts wiX6_faces_X6 hown hK hP 0 rfl rfl 0 (by decide) (hts _ wmX6_faces_0) (fun _ h9 => h9) rfl dX6_faces_3 ?_
  obtain ⟨u1, e2, h⟩ := bd_some h
  refine k_i0 (va_runS (As := [.int p1, .int (0 : Int32), .int wwd]) (rest := []) ⟨hx, hb, hml, hown, hts⟩ (kX6_in l D cI cJ cZ tP s.heap.size  p1 (0 : Int32) wwd u1 e2) (va_cwS 3 hts gX6_faces_X6_in rfl rfl rfl (by decide +kernel) ⟨Nat.le_of_ble_eq_true rfl, Nat.le_of_ble_eq_true rfl⟩) ⟨cPre_blind, cPre_at0 hK hN hS hA hZ⟩ rfl rfl hl.1 rfl (lv_room (Nat.le_of_ble_eq_true rfl)) dX6_faces_6 ⟨Nat.le_of_ble_eq_true rfl, Nat.le_of_ble_eq_true rfl⟩) hP hS hA (fun H locs hP hS => ?_)
  refine lv_if_ne (tgt := 14) hx hb dX6_faces_9 (by decide) (fun c3 => ?_) (fun c3 => ?_)
  · have h := (if_neg c3).symm.trans h
    refine lv_iconst (v := (0 : Int32)) hx hb dX6_faces_14 (by decide) ?_
    refine lv_istore_n (lv' := [(2, .int (0 : Int32)), (0, .ref (q 0)), (1, .int p1)]) hx hb dX6_faces_15 rfl hl (by decide) rfl (fun ls hl => ?_)
    refine lv_iconst (v := (0 : Int32)) hx hb dX6_faces_16 (by decide) ?_
    refine lv_istore_n (lv' := [(3, .int (0 : Int32)), (2, .int (0 : Int32)), (0, .ref (q 0)), (1, .int p1)]) hx hb dX6_faces_17 rfl hl (by decide) rfl (fun ls hl => ?_)
    obtain ⟨u15, e16, h⟩ := bd_some h
    refine W_leave (P := fun (y : (Int32 × Int32 × Int32 × Int32 × Int32 × (Nat → Int32) × (Nat → Int32) × (Nat → Int32) × (Nat → Int64) × (Nat → Int64) × (Nat → Int64))) H locs ls => u15 = y ∧ va_P D vwCl (WM_ q cI cJ cZ wwd wmn y.2.2.1 y.2.2.2.1 y.2.2.2.2.1 wwl y.2.2.2.2.2.1 y.2.2.2.2.2.2.1 y.2.2.2.2.2.2.2.1 y.2.2.2.2.2.2.2.2.1 y.2.2.2.2.2.2.2.2.2.1 y.2.2.2.2.2.2.2.2.2.2) H ∧ va_D A (WM_ q cI cJ cZ wwd wmn y.2.2.1 y.2.2.2.1 y.2.2.2.2.1 wwl y.2.2.2.2.2.1 y.2.2.2.2.2.2.1 y.2.2.2.2.2.2.2.1 y.2.2.2.2.2.2.2.2.1 y.2.2.2.2.2.2.2.2.2.1 y.2.2.2.2.2.2.2.2.2.2) ∧ va_S A s.heap H locs ∧ lv_has ls 4 [(3, .int y.1), (2, .int y.2.1), (0, .ref (q 0)), (1, .int p1)]) (g := fun ls => F0 m 52 ls []) ?_ ?_
    · intro y H locs ls hq
      obtain ⟨hy, hP, hD, hS, hl⟩ := hq
      subst hy
      have hl : lv_has ls 4 [(3, .int u15.1), (2, .int u15.2.1), (0, .ref (q 0)), (1, .int p1)] := hl
      refine lv_iload_n hx hb dX6_faces_52 rfl (lv_at hl 1 rfl) ?_
      obtain rfl := Option.some.inj h
      exact W.iret (v := u15.2.1) hx hb hr (fun t ht hW => ⟨⟨u15.2.1, (), rfl, rfl, by rw [ht]; exact hP, hD⟩, hS.F ht⟩) hS.2.2 dX6_faces_53
    · intro K17
      refine W_lp (body := (fun (st : (Int32 × Int32 × Int32 × Int32 × Int32 × (Nat → Int32) × (Nat → Int32) × (Nat → Int32) × (Nat → Int64) × (Nat → Int64) × (Nat → Int64))) => fX6_faces_L18 wmn wwd wwl p1 st.1 st.2.1 st.2.2.1 st.2.2.2.1 st.2.2.2.2.1 st.2.2.2.2.2.1 st.2.2.2.2.2.2.1 st.2.2.2.2.2.2.2.1 st.2.2.2.2.2.2.2.2.1 st.2.2.2.2.2.2.2.2.2.1 st.2.2.2.2.2.2.2.2.2.2)) (P := fun (st : (Int32 × Int32 × Int32 × Int32 × Int32 × (Nat → Int32) × (Nat → Int32) × (Nat → Int32) × (Nat → Int64) × (Nat → Int64) × (Nat → Int64))) H locs ls => va_P D vwCl (WM_ q cI cJ cZ wwd wmn st.2.2.1 st.2.2.2.1 st.2.2.2.2.1 wwl st.2.2.2.2.2.1 st.2.2.2.2.2.2.1 st.2.2.2.2.2.2.2.1 st.2.2.2.2.2.2.2.2.1 st.2.2.2.2.2.2.2.2.2.1 st.2.2.2.2.2.2.2.2.2.2) H ∧ va_D A (WM_ q cI cJ cZ wwd wmn st.2.2.1 st.2.2.2.1 st.2.2.2.2.1 wwl st.2.2.2.2.2.1 st.2.2.2.2.2.2.1 st.2.2.2.2.2.2.2.1 st.2.2.2.2.2.2.2.2.1 st.2.2.2.2.2.2.2.2.2.1 st.2.2.2.2.2.2.2.2.2.2) ∧ va_S A s.heap H locs ∧ lv_has ls 4 [(3, .int st.1), (2, .int st.2.1), (0, .ref (q 0)), (1, .int p1)]) (g := fun _ ls => F0 m 18 ls []) (r := u15) ?_ fu_ ((0 : Int32), (0 : Int32), wod, wsm, wnm, wif, wev, wne, wsu, wnx, wta) _ _ _ e16 ⟨hP, hD, hS, lv_sub hl [0, 1, 2, 3] rfl⟩
      intro st xx21 H locs ls h hq ih20 hR19
      obtain ⟨hP, hD, hS, hl⟩ := hq
      obtain ⟨v4, v5, v6, v7, v8, v9, v10, v11, v12, v13, v14⟩ := st
      have hP : va_P D vwCl (WM_ q cI cJ cZ wwd wmn v6 v7 v8 wwl v9 v10 v11 v12 v13 v14) H := hP
      have hD : va_D A (WM_ q cI cJ cZ wwd wmn v6 v7 v8 wwl v9 v10 v11 v12 v13 v14) := hD
      have hl : lv_has ls 4 [(3, .int v4), (2, .int v5), (0, .ref (q 0)), (1, .int p1)] := hl
      have h : fX6_faces_L18 wmn wwd wwl p1 v4 v5 v6 v7 v8 v9 v10 v11 v12 v13 v14 = some xx21 := h
      unfold fX6_faces_L18 at h
      refine lv_iload_n hx hb dX6_faces_18 rfl (lv_at hl 0 rfl) ?_
      refine lv_aload_n hx hb dX6_faces_19 rfl (lv_at hl 2 rfl) ?_
      refine va_get (D := D) (ci := 6) (v := .int wmn) (C := RX6) (T := TX6) (N := 12) hx hb hts wiX6_faces_X6 hown hK hP 0 rfl rfl 1 (by decide) (hts _ wmX6_faces_1) (fun _ h9 => h9) rfl dX6_faces_20 ?_
      obtain ⟨u22, e23, h⟩ := bd_some h
      refine k_i0 (va_runS (As := [.int wmn]) (rest := [.int v4]) ⟨hx, hb, hml, hown, hts⟩ (kX6_power l D cI cJ cZ tP H.size  wmn u22 e23) (va_cwS 1 hts gX6_faces_X6_power rfl rfl rfl (by decide +kernel) ⟨Nat.le_of_ble_eq_true rfl, Nat.le_of_ble_eq_true rfl⟩) ⟨cPre_blind, cPre_at0 hK hN hS hA hZ⟩ rfl rfl hl.1 rfl (lv_room (Nat.le_of_ble_eq_true rfl)) dX6_faces_23 ⟨Nat.le_of_ble_eq_true rfl, Nat.le_of_ble_eq_true rfl⟩) hP hS hA (fun H locs hP hS => ?_)
      refine lv_icmp_ge (tgt := 52) hx hb dX6_faces_26 (by decide) (fun c24 => ?_) (fun c24 => ?_)
      · have h := (if_pos c24).symm.trans h
        exact K17 _ _ _ _ ⟨(hR19 _ (Option.some.inj h).symm).symm, hP, hD, hS, lv_sub hl [0, 1, 2, 3] rfl⟩
      · have h := (if_neg c24).symm.trans h
        refine lv_iload_n hx hb dX6_faces_29 rfl (lv_at hl 1 rfl) ?_
        refine lv_aload_n hx hb dX6_faces_30 rfl (lv_at hl 2 rfl) ?_
        refine lv_iload_n hx hb dX6_faces_31 rfl (lv_at hl 0 rfl) ?_
        obtain ⟨u25, e26, h⟩ := bd_some h
        refine k_i (va_runV (As := [.int v4]) (rest := [.int v5]) ⟨hx, hb, hml, hown, hts⟩ (kX6_width l D q cI cJ cZ tP H.size wwd wmn v6 v7 v8 wwl v9 v10 v11 v12 v13 v14 v4 u25 e26) (cwV 1 hts gX6_faces_X6_width rfl rfl rfl (by decide +kernel) ⟨Nat.le_of_ble_eq_true rfl, Nat.le_of_ble_eq_true rfl⟩) ⟨cPre_blind, va_recv hK hP (ci := 6) (q0 := 0) rfl rfl, cPre_at hP hK hN hD hS hA hZ⟩ rfl rfl hl.1 rfl (lv_room (Nat.le_of_ble_eq_true rfl)) dX6_faces_32 ⟨Nat.le_of_ble_eq_true rfl, Nat.le_of_ble_eq_true rfl⟩) hD hS hA (fun H locs hP hD hS => ?_)
        refine lv_iload_n hx hb dX6_faces_35 rfl (lv_at hl 3 rfl) ?_
        refine lv_icmp_ne (tgt := 43) hx hb dX6_faces_36 (by decide) (fun c27 => ?_) (fun c27 => ?_)
        · have h := (if_neg c27).symm.trans h
          refine lv_iconst (v := (0 : Int32)) hx hb dX6_faces_43 (by decide) ?_
          refine lv_iadd hx hb dX6_faces_44 ?_
          refine lv_istore_n (lv' := [(2, .int (v5 + (0 : Int32))), (3, .int v4), (0, .ref (q 0)), (1, .int p1)]) hx hb dX6_faces_45 rfl hl (by decide) rfl (fun ls hl => ?_)
          refine lv_iinc (v := (v4 + (1 : Int32))) (lv' := [(3, .int (v4 + (1 : Int32))), (2, .int (v5 + (0 : Int32))), (0, .ref (q 0)), (1, .int p1)]) hx hb dX6_faces_46 hl (k := 1) rfl rfl (by decide) rfl (fun ls hl => ?_)
          refine lv_goto (tgt := 18) hx hb dX6_faces_49 (by decide) ?_
          exact ih20 _ _ _ _ (Option.some.inj h).symm ⟨hP, hD, hS, lv_sub hl [0, 1, 2, 3] rfl⟩
        · have h := (if_pos c27).symm.trans h
          refine lv_iconst (v := (1 : Int32)) hx hb dX6_faces_39 (by decide) ?_
          refine lv_goto (tgt := 44) hx hb dX6_faces_40 (by decide) ?_
          refine lv_iadd hx hb dX6_faces_44 ?_
          refine lv_istore_n (lv' := [(2, .int (v5 + (1 : Int32))), (3, .int v4), (0, .ref (q 0)), (1, .int p1)]) hx hb dX6_faces_45 rfl hl (by decide) rfl (fun ls hl => ?_)
          refine lv_iinc (v := (v4 + (1 : Int32))) (lv' := [(3, .int (v4 + (1 : Int32))), (2, .int (v5 + (1 : Int32))), (0, .ref (q 0)), (1, .int p1)]) hx hb dX6_faces_46 hl (k := 1) rfl rfl (by decide) rfl (fun ls hl => ?_)
          refine lv_goto (tgt := 18) hx hb dX6_faces_49 (by decide) ?_
          exact ih20 _ _ _ _ (Option.some.inj h).symm ⟨hP, hD, hS, lv_sub hl [0, 1, 2, 3] rfl⟩
  · have h := (if_pos c3).symm.trans h
    refine lv_iconst (v := (-1 : Int32)) hx hb dX6_faces_12 (by decide) ?_
    obtain rfl := Option.some.inj h
    exact W.iret (v := (-1 : Int32)) hx hb hr (fun t ht hW => ⟨⟨(-1 : Int32), (), rfl, rfl, by rw [ht]; exact hP, hD⟩, hS.F ht⟩) hS.2.2 dX6_faces_13

-- X6_isRoom
set_option maxHeartbeats 8000000 in
set_option maxRecDepth 100000 in
theorem kX6_isRoom (l : Launch) (D : va_G) (q : Nat → Nat) (cI cJ cZ : ClassId) (tP sz : Nat) (wwd : Int32) (wmn : Int32) (wod : Int32) (wsm : Int32) (wnm : Int32) (wwl : (Nat → Int32)) (wif : (Nat → Int32)) (wev : (Nat → Int32)) (wne : (Nat → Int32)) (wsu : (Nat → Int64)) (wnx : (Nat → Int64)) (wta : (Nat → Int64)) (p1 : Int32) (uu : (Int32 × Int32 × Int32 × Int32 × (Nat → Int32) × (Nat → Int32) × (Nat → Int32) × (Nat → Int64) × (Nat → Int64))) (h : fX6_isRoom wwd wmn wod wsm wnm wwl wif wev wne wsu wnx p1 = some uu) : Met l yX6_isRoom wsX6_isRoom ({ frames := 5, cells := 0, slots := 0, locals := 125 }) (cPre D cI cJ cZ tP (WM_ q cI cJ cZ wwd wmn wod wsm wnm wwl wif wev wne wsu wnx wta) sz [.ref (q 0), .int p1]) (cQi D (va_A (WM_ q cI cJ cZ wwd wmn wod wsm wnm wwl wif wev wne wsu wnx wta) sz) (WM_ q cI cJ cZ wwd wmn uu.2.1 uu.2.2.1 uu.2.2.2.1 wwl uu.2.2.2.2.1 uu.2.2.2.2.2.1 uu.2.2.2.2.2.2.1 uu.2.2.2.2.2.2.2.1 uu.2.2.2.2.2.2.2.2 wta) uu.1) 0 0 (va_A (WM_ q cI cJ cZ wwd wmn wod wsm wnm wwl wif wev wne wsu wnx wta) sz) := by
  refine Met.ofW (cc := cX6_isRoom) (maxL := 2) (ret := (some .boolean)) (by decide) rfl ?_
  intro p e s m args below meth c s₁ B hml hv
  obtain ⟨rfl, hsz, hP, hK, hN, hD0, hZ⟩ := hv
  have hx := B.exec
  have hb := B.bytes
  have hr := B.returns
  have hts := atoms_spec (ws := wsX6_isRoom) B.pre
  have hown : s.vm.findClass RX6 = some m.cls := findClass_of_methodNamed B.named
  have hlocks := B.notSynchronized
  subst hsz
  have hD := hD0.self (sz := s.heap.size)
  generalize hAe : va_A (WM_ q cI cJ cZ wwd wmn wod wsm wnm wwl wif wev wne wsu wnx wta) s.heap.size = A at hD hZ ⊢
  have hA : ∀ q : Nat, s.heap.size ≤ q → A q := fun q h => by rw [← hAe]; exact Or.inr h
  have hS : va_S A s.heap s.heap [] := va_S.rf
  have hl := lv_entry ([.ref (q 0), .int p1]) (n := 2) (Nat.le_of_ble_eq_true rfl)
  rw [lg_entry_eq]
  generalize (lg_sl ([.ref (q 0), .int p1]) ++ List.replicate (2 - (lg_sl ([.ref (q 0), .int p1])).length) Slot.unset).toArray = ls at hl ⊢
  have hl : lv_has ls 2 [(0, .ref (q 0)), (1, .int p1)] := hl
  unfold fX6_isRoom at h
  refine lv_aload_n hx hb dX6_isRoom_0 rfl (lv_at hl 0 rfl) ?_
  refine lv_iload_n hx hb dX6_isRoom_1 rfl (lv_at hl 1 rfl) ?_
  obtain ⟨u1, e2, h⟩ := bd_some h
  refine k_i (va_runV (As := [.int p1]) (rest := []) ⟨hx, hb, hml, hown, hts⟩ (kX6_isFace l D q cI cJ cZ tP s.heap.size wwd wmn wod wsm wnm wwl wif wev wne wsu wnx wta p1 u1 e2) (cwV 1 hts gX6_isRoom_X6_isFace rfl rfl rfl (by decide +kernel) ⟨Nat.le_of_ble_eq_true rfl, Nat.le_of_ble_eq_true rfl⟩) ⟨cPre_blind, va_recv hK hP (ci := 6) (q0 := 0) rfl rfl, cPre_at hP hK hN hD hS hA hZ⟩ rfl rfl hl.1 rfl (lv_room (Nat.le_of_ble_eq_true rfl)) dX6_isRoom_2 ⟨Nat.le_of_ble_eq_true rfl, Nat.le_of_ble_eq_true rfl⟩) hD hS hA (fun H locs hP hD hS => ?_)
  refine lv_if_eq (tgt := 20) hx hb dX6_isRoom_5 (by decide) (fun c3 => ?_) (fun c3 => ?_)
  · have h := (if_pos c3).symm.trans h
    refine lv_iconst (v := (0 : Int32)) hx hb dX6_isRoom_20 (by decide) ?_
    obtain rfl := Option.some.inj h
    exact W.zret (v := (0 : Int32)) hx hb hr (by decide) (fun t ht hW => ⟨⟨(0 : Int32), (), rfl, rfl, by rw [ht]; exact hP, hD⟩, hS.F ht⟩) hS.2.2 dX6_isRoom_21
  · have h := (if_neg c3).symm.trans h
    refine lv_aload_n hx hb dX6_isRoom_8 rfl (lv_at hl 0 rfl) ?_
    refine lv_iload_n hx hb dX6_isRoom_9 rfl (lv_at hl 1 rfl) ?_
    obtain ⟨u4, e5, h⟩ := bd_some h
    refine k_i (va_runV (As := [.int p1]) (rest := []) ⟨hx, hb, hml, hown, hts⟩ (kX6_onWalls l D q cI cJ cZ tP H.size wwd wmn u1.2.1 u1.2.2.1 u1.2.2.2.1 wwl u1.2.2.2.2.1 u1.2.2.2.2.2.1 u1.2.2.2.2.2.2.1 u1.2.2.2.2.2.2.2.1 u1.2.2.2.2.2.2.2.2 wta p1 u4 e5) (cwV 1 hts gX6_isRoom_X6_onWalls rfl rfl rfl (by decide +kernel) ⟨Nat.le_of_ble_eq_true rfl, Nat.le_of_ble_eq_true rfl⟩) ⟨cPre_blind, va_recv hK hP (ci := 6) (q0 := 0) rfl rfl, cPre_at hP hK hN hD hS hA hZ⟩ rfl rfl hl.1 rfl (lv_room (Nat.le_of_ble_eq_true rfl)) dX6_isRoom_10 ⟨Nat.le_of_ble_eq_true rfl, Nat.le_of_ble_eq_true rfl⟩) hD hS hA (fun H locs hP hD hS => ?_)
    refine lv_if_ne (tgt := 20) hx hb dX6_isRoom_13 (by decide) (fun c6 => ?_) (fun c6 => ?_)
    · have h := (if_neg c6).symm.trans h
      refine lv_iconst (v := (0 : Int32)) hx hb dX6_isRoom_20 (by decide) ?_
      obtain rfl := Option.some.inj h
      exact W.zret (v := (0 : Int32)) hx hb hr (by decide) (fun t ht hW => ⟨⟨(0 : Int32), (), rfl, rfl, by rw [ht]; exact hP, hD⟩, hS.F ht⟩) hS.2.2 dX6_isRoom_21
    · have h := (if_pos c6).symm.trans h
      refine lv_iconst (v := (1 : Int32)) hx hb dX6_isRoom_16 (by decide) ?_
      refine lv_goto (tgt := 21) hx hb dX6_isRoom_17 (by decide) ?_
      obtain rfl := Option.some.inj h
      exact W.zret (v := (1 : Int32)) hx hb hr (by decide) (fun t ht hW => ⟨⟨(1 : Int32), (), rfl, rfl, by rw [ht]; exact hP, hD⟩, hS.F ht⟩) hS.2.2 dX6_isRoom_21

-- X6_leadsOn
theorem wmX6_leadsOn_0 : (.fieldLink RX6 49 "SpaceWallsModel" "many" "I" : Cond) ∈ wsX6_leadsOn := by decide +kernel
theorem wiX6_leadsOn_X6 : ∀ w ∈ u_ws RX6 TX6 12, w ∈ wsX6_leadsOn := by decide +kernel
set_option maxHeartbeats 8000000 in
set_option maxRecDepth 100000 in
theorem kX6_leadsOn (l : Launch) (D : va_G) (q : Nat → Nat) (cI cJ cZ : ClassId) (tP sz : Nat) (wwd : Int32) (wmn : Int32) (wod : Int32) (wsm : Int32) (wnm : Int32) (wwl : (Nat → Int32)) (wif : (Nat → Int32)) (wev : (Nat → Int32)) (wne : (Nat → Int32)) (wsu : (Nat → Int64)) (wnx : (Nat → Int64)) (wta : (Nat → Int64)) (p1 : Int32) (p2 : Int32) (p3 : Int32) (p4 : Int32) (uu : Int32) (h : fX6_leadsOn wmn wwl p1 p2 p3 p4 = some uu) : Met l yX6_leadsOn wsX6_leadsOn ({ frames := 2, cells := 0, slots := 0, locals := 43 }) (cPre D cI cJ cZ tP (WM_ q cI cJ cZ wwd wmn wod wsm wnm wwl wif wev wne wsu wnx wta) sz [.ref (q 0), .int p1, .int p2, .int p3, .int p4]) (cQi D (va_A (WM_ q cI cJ cZ wwd wmn wod wsm wnm wwl wif wev wne wsu wnx wta) sz) (WM_ q cI cJ cZ wwd wmn wod wsm wnm wwl wif wev wne wsu wnx wta) uu) 0 0 (va_A (WM_ q cI cJ cZ wwd wmn wod wsm wnm wwl wif wev wne wsu wnx wta) sz) := by
  refine Met.ofW (cc := cX6_leadsOn) (maxL := 7) (ret := (some .boolean)) (by decide) rfl ?_
  intro p e s m args below meth c s₁ B hml hv
  obtain ⟨rfl, hsz, hP, hK, hN, hD0, hZ⟩ := hv
  have hx := B.exec
  have hb := B.bytes
  have hr := B.returns
  have hts := atoms_spec (ws := wsX6_leadsOn) B.pre
  have hown : s.vm.findClass RX6 = some m.cls := findClass_of_methodNamed B.named
  have hlocks := B.notSynchronized
  subst hsz
  have hD := hD0.self (sz := s.heap.size)
  generalize hAe : va_A (WM_ q cI cJ cZ wwd wmn wod wsm wnm wwl wif wev wne wsu wnx wta) s.heap.size = A at hD hZ ⊢
  have hA : ∀ q : Nat, s.heap.size ≤ q → A q := fun q h => by rw [← hAe]; exact Or.inr h
  have hS : va_S A s.heap s.heap [] := va_S.rf
  have hl := lv_entry ([.ref (q 0), .int p1, .int p2, .int p3, .int p4]) (n := 7) (Nat.le_of_ble_eq_true rfl)
  rw [lg_entry_eq]
  generalize (lg_sl ([.ref (q 0), .int p1, .int p2, .int p3, .int p4]) ++ List.replicate (7 - (lg_sl ([.ref (q 0), .int p1, .int p2, .int p3, .int p4])).length) Slot.unset).toArray = ls at hl ⊢
  have hl : lv_has ls 7 [(0, .ref (q 0)), (1, .int p1), (2, .int p2), (3, .int p3), (4, .int p4)] := hl
  unfold fX6_leadsOn at h
  refine lv_iload_n hx hb dX6_leadsOn_0 rfl (lv_at hl 2 rfl) ?_
  refine lv_if_ne (tgt := 15) hx hb dX6_leadsOn_1 (by decide) (fun c1 => ?_) (fun c1 => ?_)
  · have h := (if_neg c1).symm.trans h
    refine lv_iconst (v := (0 : Int32)) hx hb dX6_leadsOn_15 (by decide) ?_
    refine lv_istore (lv' := [(5, .int (0 : Int32)), (0, .ref (q 0)), (1, .int p1), (2, .int p2), (3, .int p3), (4, .int p4)]) hx hb dX6_leadsOn_16 hl (by decide) rfl (fun ls hl => ?_)
    obtain ⟨u3, e4, h⟩ := bd_some h
    have KR6 : ∀ y8, Sum.inr y8 = u3 → y8 = uu := by
      intro y8 hy
      subst hy
      have h := se_inr h
      exact Option.some.inj h
    refine W_leave (P := fun (y : Int32) H locs ls => u3 = Sum.inl y ∧ va_P D vwCl (WM_ q cI cJ cZ wwd wmn wod wsm wnm wwl wif wev wne wsu wnx wta) H ∧ va_D A (WM_ q cI cJ cZ wwd wmn wod wsm wnm wwl wif wev wne wsu wnx wta) ∧ va_S A s.heap H locs ∧ lv_has ls 7 [(5, .int y), (0, .ref (q 0)), (1, .int p1), (2, .int p2), (3, .int p3), (4, .int p4)]) (g := fun ls => F0 m 89 ls []) ?_ ?_
    · intro x7 H locs ls hq
      obtain ⟨hy, hP, hD, hS, hl⟩ := hq
      subst hy
      have h := se_inl h
      refine lv_iconst (v := (1 : Int32)) hx hb dX6_leadsOn_89 (by decide) ?_
      obtain rfl := Option.some.inj h
      exact W.zret (v := (1 : Int32)) hx hb hr (by decide) (fun t ht hW => ⟨⟨(1 : Int32), (), rfl, rfl, by rw [ht]; exact hP, hD⟩, hS.F ht⟩) hS.2.2 dX6_leadsOn_90
    · intro K5
      refine W_lp (body := (fun (st : Int32) => fX6_leadsOn_L18 wmn wwl p1 p2 p3 p4 st)) (P := fun (st : Int32) H locs ls => va_P D vwCl (WM_ q cI cJ cZ wwd wmn wod wsm wnm wwl wif wev wne wsu wnx wta) H ∧ va_D A (WM_ q cI cJ cZ wwd wmn wod wsm wnm wwl wif wev wne wsu wnx wta) ∧ va_S A s.heap H locs ∧ lv_has ls 7 [(5, .int st), (0, .ref (q 0)), (1, .int p1), (2, .int p2), (3, .int p3), (4, .int p4)]) (g := fun _ ls => F0 m 18 ls []) (r := u3) ?_ fu_ (0 : Int32) _ _ _ e4 ⟨hP, hD, hS, lv_sub hl [0, 1, 2, 3, 4, 5] rfl⟩
      intro v2 xx11 H locs ls h hq ih10 hR9
      obtain ⟨hP, hD, hS, hl⟩ := hq
      have hP : va_P D vwCl (WM_ q cI cJ cZ wwd wmn wod wsm wnm wwl wif wev wne wsu wnx wta) H := hP
      have hD : va_D A (WM_ q cI cJ cZ wwd wmn wod wsm wnm wwl wif wev wne wsu wnx wta) := hD
      have hl : lv_has ls 7 [(5, .int v2), (0, .ref (q 0)), (1, .int p1), (2, .int p2), (3, .int p3), (4, .int p4)] := hl
      have h : fX6_leadsOn_L18 wmn wwl p1 p2 p3 p4 v2 = some xx11 := h
      unfold fX6_leadsOn_L18 at h
      refine lv_iload hx hb dX6_leadsOn_18 (lv_at hl 0 rfl) ?_
      refine lv_aload_n hx hb dX6_leadsOn_20 rfl (lv_at hl 1 rfl) ?_
      refine va_get (D := D) (ci := 6) (v := .int wmn) (C := RX6) (T := TX6) (N := 12) hx hb hts wiX6_leadsOn_X6 hown hK hP 0 rfl rfl 1 (by decide) (hts _ wmX6_leadsOn_0) (fun _ h9 => h9) rfl dX6_leadsOn_21 ?_
      refine lv_icmp_ge (tgt := 89) hx hb dX6_leadsOn_24 (by decide) (fun c12 => ?_) (fun c12 => ?_)
      · have h := (if_pos c12).symm.trans h
        exact K5 _ _ _ _ ⟨(hR9 _ (Option.some.inj h).symm).symm, hP, hD, hS, lv_sub hl [0, 1, 2, 3, 4, 5] rfl⟩
      · have h := (if_neg c12).symm.trans h
        refine lv_aload_n hx hb dX6_leadsOn_27 rfl (lv_at hl 1 rfl) ?_
        refine lv_iload hx hb dX6_leadsOn_28 (lv_at hl 0 rfl) ?_
        refine lv_iconst (v := (0 : Int32)) hx hb dX6_leadsOn_30 (by decide) ?_
        obtain ⟨u13, e14, h⟩ := bd_some h
        refine k_i (va_runV (As := [.int v2, .int (0 : Int32)]) (rest := []) ⟨hx, hb, hml, hown, hts⟩ (kX6_at l D q cI cJ cZ tP H.size wwd wmn wod wsm wnm wwl wif wev wne wsu wnx wta v2 (0 : Int32) u13 e14) (cwV 2 hts gX6_leadsOn_X6_at rfl rfl rfl (by decide +kernel) ⟨Nat.le_of_ble_eq_true rfl, Nat.le_of_ble_eq_true rfl⟩) ⟨cPre_blind, va_recv hK hP (ci := 6) (q0 := 0) rfl rfl, cPre_at hP hK hN hD hS hA hZ⟩ rfl rfl hl.1 rfl (lv_room (Nat.le_of_ble_eq_true rfl)) dX6_leadsOn_31 ⟨Nat.le_of_ble_eq_true rfl, Nat.le_of_ble_eq_true rfl⟩) hD hS hA (fun H locs hP hD hS => ?_)
        refine lv_iload_n hx hb dX6_leadsOn_34 rfl (lv_at hl 3 rfl) ?_
        refine lv_imul hx hb dX6_leadsOn_35 ?_
        refine lv_aload_n hx hb dX6_leadsOn_36 rfl (lv_at hl 1 rfl) ?_
        refine lv_iload hx hb dX6_leadsOn_37 (lv_at hl 0 rfl) ?_
        refine lv_iconst (v := (1 : Int32)) hx hb dX6_leadsOn_39 (by decide) ?_
        obtain ⟨u15, e16, h⟩ := bd_some h
        refine k_i (va_runV (As := [.int v2, .int (1 : Int32)]) (rest := [.int (u13 * p2)]) ⟨hx, hb, hml, hown, hts⟩ (kX6_at l D q cI cJ cZ tP H.size wwd wmn wod wsm wnm wwl wif wev wne wsu wnx wta v2 (1 : Int32) u15 e16) (cwV 2 hts gX6_leadsOn_X6_at rfl rfl rfl (by decide +kernel) ⟨Nat.le_of_ble_eq_true rfl, Nat.le_of_ble_eq_true rfl⟩) ⟨cPre_blind, va_recv hK hP (ci := 6) (q0 := 0) rfl rfl, cPre_at hP hK hN hD hS hA hZ⟩ rfl rfl hl.1 rfl (lv_room (Nat.le_of_ble_eq_true rfl)) dX6_leadsOn_40 ⟨Nat.le_of_ble_eq_true rfl, Nat.le_of_ble_eq_true rfl⟩) hD hS hA (fun H locs hP hD hS => ?_)
        refine lv_iload_n hx hb dX6_leadsOn_43 rfl (lv_at hl 4 rfl) ?_
        refine lv_imul hx hb dX6_leadsOn_44 ?_
        refine lv_iadd hx hb dX6_leadsOn_45 ?_
        refine lv_aload_n hx hb dX6_leadsOn_46 rfl (lv_at hl 1 rfl) ?_
        refine lv_iload hx hb dX6_leadsOn_47 (lv_at hl 0 rfl) ?_
        refine lv_iconst (v := (2 : Int32)) hx hb dX6_leadsOn_49 (by decide) ?_
        obtain ⟨u17, e18, h⟩ := bd_some h
        refine k_i (va_runV (As := [.int v2, .int (2 : Int32)]) (rest := [.int ((u13 * p2) + (u15 * p3))]) ⟨hx, hb, hml, hown, hts⟩ (kX6_at l D q cI cJ cZ tP H.size wwd wmn wod wsm wnm wwl wif wev wne wsu wnx wta v2 (2 : Int32) u17 e18) (cwV 2 hts gX6_leadsOn_X6_at rfl rfl rfl (by decide +kernel) ⟨Nat.le_of_ble_eq_true rfl, Nat.le_of_ble_eq_true rfl⟩) ⟨cPre_blind, va_recv hK hP (ci := 6) (q0 := 0) rfl rfl, cPre_at hP hK hN hD hS hA hZ⟩ rfl rfl hl.1 rfl (lv_room (Nat.le_of_ble_eq_true rfl)) dX6_leadsOn_50 ⟨Nat.le_of_ble_eq_true rfl, Nat.le_of_ble_eq_true rfl⟩) hD hS hA (fun H locs hP hD hS => ?_)
        refine lv_iload hx hb dX6_leadsOn_53 (lv_at hl 5 rfl) ?_
        refine lv_imul hx hb dX6_leadsOn_55 ?_
        refine lv_iadd hx hb dX6_leadsOn_56 ?_
        refine lv_istore (lv' := [(6, .int (((u13 * p2) + (u15 * p3)) + (u17 * p4))), (5, .int v2), (0, .ref (q 0)), (1, .int p1), (2, .int p2), (3, .int p3), (4, .int p4)]) hx hb dX6_leadsOn_57 hl (by decide) rfl (fun ls hl => ?_)
        refine lv_iload_n hx hb dX6_leadsOn_59 rfl (lv_at hl 3 rfl) ?_
        refine lv_iload hx hb dX6_leadsOn_60 (lv_at hl 1 rfl) ?_
        obtain ⟨u19, e20, h⟩ := bd_some h
        refine k_i0 (va_runS (As := [.int p1, .int v2]) (rest := []) ⟨hx, hb, hml, hown, hts⟩ (kX6_sign l D cI cJ cZ tP H.size  p1 v2 u19 e20) (va_cwS 2 hts gX6_leadsOn_X6_sign rfl rfl rfl (by decide +kernel) ⟨Nat.le_of_ble_eq_true rfl, Nat.le_of_ble_eq_true rfl⟩) ⟨cPre_blind, cPre_at0 hK hN hS hA hZ⟩ rfl rfl hl.1 rfl (lv_room (Nat.le_of_ble_eq_true rfl)) dX6_leadsOn_62 ⟨Nat.le_of_ble_eq_true rfl, Nat.le_of_ble_eq_true rfl⟩) hP hS hA (fun H locs hP hS => ?_)
        refine lv_if_ne (tgt := 76) hx hb dX6_leadsOn_65 (by decide) (fun c21 => ?_) (fun c21 => ?_)
        · have h := (if_neg c21).symm.trans h
          refine lv_iload hx hb dX6_leadsOn_76 (lv_at hl 0 rfl) ?_
          refine lv_if_ge (tgt := 83) hx hb dX6_leadsOn_78 (by decide) (fun c22 => ?_) (fun c22 => ?_)
          · have h := (if_pos c22).symm.trans h
            refine lv_iinc (v := (v2 + (1 : Int32))) (lv' := [(5, .int (v2 + (1 : Int32))), (6, .int (((u13 * p2) + (u15 * p3)) + (u17 * p4))), (0, .ref (q 0)), (1, .int p1), (2, .int p2), (3, .int p3), (4, .int p4)]) hx hb dX6_leadsOn_83 hl (k := 1) rfl rfl (by decide) rfl (fun ls hl => ?_)
            refine lv_goto (tgt := 18) hx hb dX6_leadsOn_86 (by decide) ?_
            exact ih10 _ _ _ _ (Option.some.inj h).symm ⟨hP, hD, hS, lv_sub hl [0, 2, 3, 4, 5, 6] rfl⟩
          · have h := (if_neg c22).symm.trans h
            refine lv_iconst (v := (0 : Int32)) hx hb dX6_leadsOn_81 (by decide) ?_
            have hu := KR6 _ (hR9 _ (Option.some.inj h).symm)
            subst hu
            exact W.zret (v := (0 : Int32)) hx hb hr (by decide) (fun t ht hW => ⟨⟨(0 : Int32), (), rfl, rfl, by rw [ht]; exact hP, hD⟩, hS.F ht⟩) hS.2.2 dX6_leadsOn_82
        · have h := (if_pos c21).symm.trans h
          refine lv_iload hx hb dX6_leadsOn_68 (lv_at hl 0 rfl) ?_
          refine lv_if_le (tgt := 83) hx hb dX6_leadsOn_70 (by decide) (fun c23 => ?_) (fun c23 => ?_)
          · have h := (if_pos c23).symm.trans h
            refine lv_iinc (v := (v2 + (1 : Int32))) (lv' := [(5, .int (v2 + (1 : Int32))), (6, .int (((u13 * p2) + (u15 * p3)) + (u17 * p4))), (0, .ref (q 0)), (1, .int p1), (2, .int p2), (3, .int p3), (4, .int p4)]) hx hb dX6_leadsOn_83 hl (k := 1) rfl rfl (by decide) rfl (fun ls hl => ?_)
            refine lv_goto (tgt := 18) hx hb dX6_leadsOn_86 (by decide) ?_
            exact ih10 _ _ _ _ (Option.some.inj h).symm ⟨hP, hD, hS, lv_sub hl [0, 2, 3, 4, 5, 6] rfl⟩
          · have h := (if_neg c23).symm.trans h
            refine lv_goto (tgt := 81) hx hb dX6_leadsOn_73 (by decide) ?_
            refine lv_iconst (v := (0 : Int32)) hx hb dX6_leadsOn_81 (by decide) ?_
            have hu := KR6 _ (hR9 _ (Option.some.inj h).symm)
            subst hu
            exact W.zret (v := (0 : Int32)) hx hb hr (by decide) (fun t ht hW => ⟨⟨(0 : Int32), (), rfl, rfl, by rw [ht]; exact hP, hD⟩, hS.F ht⟩) hS.2.2 dX6_leadsOn_82
  · have h := (if_pos c1).symm.trans h
    refine lv_iload_n hx hb dX6_leadsOn_4 rfl (lv_at hl 3 rfl) ?_
    refine lv_if_ne (tgt := 15) hx hb dX6_leadsOn_5 (by decide) (fun c24 => ?_) (fun c24 => ?_)
    · have h := (if_neg c24).symm.trans h
      refine lv_iconst (v := (0 : Int32)) hx hb dX6_leadsOn_15 (by decide) ?_
      refine lv_istore (lv' := [(5, .int (0 : Int32)), (0, .ref (q 0)), (1, .int p1), (2, .int p2), (3, .int p3), (4, .int p4)]) hx hb dX6_leadsOn_16 hl (by decide) rfl (fun ls hl => ?_)
      obtain ⟨u26, e27, h⟩ := bd_some h
      have KR29 : ∀ y31, Sum.inr y31 = u26 → y31 = uu := by
        intro y31 hy
        subst hy
        have h := se_inr h
        exact Option.some.inj h
      refine W_leave (P := fun (y : Int32) H locs ls => u26 = Sum.inl y ∧ va_P D vwCl (WM_ q cI cJ cZ wwd wmn wod wsm wnm wwl wif wev wne wsu wnx wta) H ∧ va_D A (WM_ q cI cJ cZ wwd wmn wod wsm wnm wwl wif wev wne wsu wnx wta) ∧ va_S A s.heap H locs ∧ lv_has ls 7 [(5, .int y), (0, .ref (q 0)), (1, .int p1), (2, .int p2), (3, .int p3), (4, .int p4)]) (g := fun ls => F0 m 89 ls []) ?_ ?_
      · intro x30 H locs ls hq
        obtain ⟨hy, hP, hD, hS, hl⟩ := hq
        subst hy
        have h := se_inl h
        refine lv_iconst (v := (1 : Int32)) hx hb dX6_leadsOn_89 (by decide) ?_
        obtain rfl := Option.some.inj h
        exact W.zret (v := (1 : Int32)) hx hb hr (by decide) (fun t ht hW => ⟨⟨(1 : Int32), (), rfl, rfl, by rw [ht]; exact hP, hD⟩, hS.F ht⟩) hS.2.2 dX6_leadsOn_90
      · intro K28
        refine W_lp (body := (fun (st : Int32) => fX6_leadsOn_L18_1 wmn wwl p1 p2 p3 p4 st)) (P := fun (st : Int32) H locs ls => va_P D vwCl (WM_ q cI cJ cZ wwd wmn wod wsm wnm wwl wif wev wne wsu wnx wta) H ∧ va_D A (WM_ q cI cJ cZ wwd wmn wod wsm wnm wwl wif wev wne wsu wnx wta) ∧ va_S A s.heap H locs ∧ lv_has ls 7 [(5, .int st), (0, .ref (q 0)), (1, .int p1), (2, .int p2), (3, .int p3), (4, .int p4)]) (g := fun _ ls => F0 m 18 ls []) (r := u26) ?_ fu_ (0 : Int32) _ _ _ e27 ⟨hP, hD, hS, lv_sub hl [0, 1, 2, 3, 4, 5] rfl⟩
        intro v25 xx34 H locs ls h hq ih33 hR32
        obtain ⟨hP, hD, hS, hl⟩ := hq
        have hP : va_P D vwCl (WM_ q cI cJ cZ wwd wmn wod wsm wnm wwl wif wev wne wsu wnx wta) H := hP
        have hD : va_D A (WM_ q cI cJ cZ wwd wmn wod wsm wnm wwl wif wev wne wsu wnx wta) := hD
        have hl : lv_has ls 7 [(5, .int v25), (0, .ref (q 0)), (1, .int p1), (2, .int p2), (3, .int p3), (4, .int p4)] := hl
        have h : fX6_leadsOn_L18_1 wmn wwl p1 p2 p3 p4 v25 = some xx34 := h
        unfold fX6_leadsOn_L18_1 at h
        refine lv_iload hx hb dX6_leadsOn_18 (lv_at hl 0 rfl) ?_
        refine lv_aload_n hx hb dX6_leadsOn_20 rfl (lv_at hl 1 rfl) ?_
        refine va_get (D := D) (ci := 6) (v := .int wmn) (C := RX6) (T := TX6) (N := 12) hx hb hts wiX6_leadsOn_X6 hown hK hP 0 rfl rfl 1 (by decide) (hts _ wmX6_leadsOn_0) (fun _ h9 => h9) rfl dX6_leadsOn_21 ?_
        refine lv_icmp_ge (tgt := 89) hx hb dX6_leadsOn_24 (by decide) (fun c35 => ?_) (fun c35 => ?_)
        · have h := (if_pos c35).symm.trans h
          exact K28 _ _ _ _ ⟨(hR32 _ (Option.some.inj h).symm).symm, hP, hD, hS, lv_sub hl [0, 1, 2, 3, 4, 5] rfl⟩
        · have h := (if_neg c35).symm.trans h
          refine lv_aload_n hx hb dX6_leadsOn_27 rfl (lv_at hl 1 rfl) ?_
          refine lv_iload hx hb dX6_leadsOn_28 (lv_at hl 0 rfl) ?_
          refine lv_iconst (v := (0 : Int32)) hx hb dX6_leadsOn_30 (by decide) ?_
          obtain ⟨u36, e37, h⟩ := bd_some h
          refine k_i (va_runV (As := [.int v25, .int (0 : Int32)]) (rest := []) ⟨hx, hb, hml, hown, hts⟩ (kX6_at l D q cI cJ cZ tP H.size wwd wmn wod wsm wnm wwl wif wev wne wsu wnx wta v25 (0 : Int32) u36 e37) (cwV 2 hts gX6_leadsOn_X6_at rfl rfl rfl (by decide +kernel) ⟨Nat.le_of_ble_eq_true rfl, Nat.le_of_ble_eq_true rfl⟩) ⟨cPre_blind, va_recv hK hP (ci := 6) (q0 := 0) rfl rfl, cPre_at hP hK hN hD hS hA hZ⟩ rfl rfl hl.1 rfl (lv_room (Nat.le_of_ble_eq_true rfl)) dX6_leadsOn_31 ⟨Nat.le_of_ble_eq_true rfl, Nat.le_of_ble_eq_true rfl⟩) hD hS hA (fun H locs hP hD hS => ?_)
          refine lv_iload_n hx hb dX6_leadsOn_34 rfl (lv_at hl 3 rfl) ?_
          refine lv_imul hx hb dX6_leadsOn_35 ?_
          refine lv_aload_n hx hb dX6_leadsOn_36 rfl (lv_at hl 1 rfl) ?_
          refine lv_iload hx hb dX6_leadsOn_37 (lv_at hl 0 rfl) ?_
          refine lv_iconst (v := (1 : Int32)) hx hb dX6_leadsOn_39 (by decide) ?_
          obtain ⟨u38, e39, h⟩ := bd_some h
          refine k_i (va_runV (As := [.int v25, .int (1 : Int32)]) (rest := [.int (u36 * p2)]) ⟨hx, hb, hml, hown, hts⟩ (kX6_at l D q cI cJ cZ tP H.size wwd wmn wod wsm wnm wwl wif wev wne wsu wnx wta v25 (1 : Int32) u38 e39) (cwV 2 hts gX6_leadsOn_X6_at rfl rfl rfl (by decide +kernel) ⟨Nat.le_of_ble_eq_true rfl, Nat.le_of_ble_eq_true rfl⟩) ⟨cPre_blind, va_recv hK hP (ci := 6) (q0 := 0) rfl rfl, cPre_at hP hK hN hD hS hA hZ⟩ rfl rfl hl.1 rfl (lv_room (Nat.le_of_ble_eq_true rfl)) dX6_leadsOn_40 ⟨Nat.le_of_ble_eq_true rfl, Nat.le_of_ble_eq_true rfl⟩) hD hS hA (fun H locs hP hD hS => ?_)
          refine lv_iload_n hx hb dX6_leadsOn_43 rfl (lv_at hl 4 rfl) ?_
          refine lv_imul hx hb dX6_leadsOn_44 ?_
          refine lv_iadd hx hb dX6_leadsOn_45 ?_
          refine lv_aload_n hx hb dX6_leadsOn_46 rfl (lv_at hl 1 rfl) ?_
          refine lv_iload hx hb dX6_leadsOn_47 (lv_at hl 0 rfl) ?_
          refine lv_iconst (v := (2 : Int32)) hx hb dX6_leadsOn_49 (by decide) ?_
          obtain ⟨u40, e41, h⟩ := bd_some h
          refine k_i (va_runV (As := [.int v25, .int (2 : Int32)]) (rest := [.int ((u36 * p2) + (u38 * p3))]) ⟨hx, hb, hml, hown, hts⟩ (kX6_at l D q cI cJ cZ tP H.size wwd wmn wod wsm wnm wwl wif wev wne wsu wnx wta v25 (2 : Int32) u40 e41) (cwV 2 hts gX6_leadsOn_X6_at rfl rfl rfl (by decide +kernel) ⟨Nat.le_of_ble_eq_true rfl, Nat.le_of_ble_eq_true rfl⟩) ⟨cPre_blind, va_recv hK hP (ci := 6) (q0 := 0) rfl rfl, cPre_at hP hK hN hD hS hA hZ⟩ rfl rfl hl.1 rfl (lv_room (Nat.le_of_ble_eq_true rfl)) dX6_leadsOn_50 ⟨Nat.le_of_ble_eq_true rfl, Nat.le_of_ble_eq_true rfl⟩) hD hS hA (fun H locs hP hD hS => ?_)
          refine lv_iload hx hb dX6_leadsOn_53 (lv_at hl 5 rfl) ?_
          refine lv_imul hx hb dX6_leadsOn_55 ?_
          refine lv_iadd hx hb dX6_leadsOn_56 ?_
          refine lv_istore (lv' := [(6, .int (((u36 * p2) + (u38 * p3)) + (u40 * p4))), (5, .int v25), (0, .ref (q 0)), (1, .int p1), (2, .int p2), (3, .int p3), (4, .int p4)]) hx hb dX6_leadsOn_57 hl (by decide) rfl (fun ls hl => ?_)
          refine lv_iload_n hx hb dX6_leadsOn_59 rfl (lv_at hl 3 rfl) ?_
          refine lv_iload hx hb dX6_leadsOn_60 (lv_at hl 1 rfl) ?_
          obtain ⟨u42, e43, h⟩ := bd_some h
          refine k_i0 (va_runS (As := [.int p1, .int v25]) (rest := []) ⟨hx, hb, hml, hown, hts⟩ (kX6_sign l D cI cJ cZ tP H.size  p1 v25 u42 e43) (va_cwS 2 hts gX6_leadsOn_X6_sign rfl rfl rfl (by decide +kernel) ⟨Nat.le_of_ble_eq_true rfl, Nat.le_of_ble_eq_true rfl⟩) ⟨cPre_blind, cPre_at0 hK hN hS hA hZ⟩ rfl rfl hl.1 rfl (lv_room (Nat.le_of_ble_eq_true rfl)) dX6_leadsOn_62 ⟨Nat.le_of_ble_eq_true rfl, Nat.le_of_ble_eq_true rfl⟩) hP hS hA (fun H locs hP hS => ?_)
          refine lv_if_ne (tgt := 76) hx hb dX6_leadsOn_65 (by decide) (fun c44 => ?_) (fun c44 => ?_)
          · have h := (if_neg c44).symm.trans h
            refine lv_iload hx hb dX6_leadsOn_76 (lv_at hl 0 rfl) ?_
            refine lv_if_ge (tgt := 83) hx hb dX6_leadsOn_78 (by decide) (fun c45 => ?_) (fun c45 => ?_)
            · have h := (if_pos c45).symm.trans h
              refine lv_iinc (v := (v25 + (1 : Int32))) (lv' := [(5, .int (v25 + (1 : Int32))), (6, .int (((u36 * p2) + (u38 * p3)) + (u40 * p4))), (0, .ref (q 0)), (1, .int p1), (2, .int p2), (3, .int p3), (4, .int p4)]) hx hb dX6_leadsOn_83 hl (k := 1) rfl rfl (by decide) rfl (fun ls hl => ?_)
              refine lv_goto (tgt := 18) hx hb dX6_leadsOn_86 (by decide) ?_
              exact ih33 _ _ _ _ (Option.some.inj h).symm ⟨hP, hD, hS, lv_sub hl [0, 2, 3, 4, 5, 6] rfl⟩
            · have h := (if_neg c45).symm.trans h
              refine lv_iconst (v := (0 : Int32)) hx hb dX6_leadsOn_81 (by decide) ?_
              have hu := KR29 _ (hR32 _ (Option.some.inj h).symm)
              subst hu
              exact W.zret (v := (0 : Int32)) hx hb hr (by decide) (fun t ht hW => ⟨⟨(0 : Int32), (), rfl, rfl, by rw [ht]; exact hP, hD⟩, hS.F ht⟩) hS.2.2 dX6_leadsOn_82
          · have h := (if_pos c44).symm.trans h
            refine lv_iload hx hb dX6_leadsOn_68 (lv_at hl 0 rfl) ?_
            refine lv_if_le (tgt := 83) hx hb dX6_leadsOn_70 (by decide) (fun c46 => ?_) (fun c46 => ?_)
            · have h := (if_pos c46).symm.trans h
              refine lv_iinc (v := (v25 + (1 : Int32))) (lv' := [(5, .int (v25 + (1 : Int32))), (6, .int (((u36 * p2) + (u38 * p3)) + (u40 * p4))), (0, .ref (q 0)), (1, .int p1), (2, .int p2), (3, .int p3), (4, .int p4)]) hx hb dX6_leadsOn_83 hl (k := 1) rfl rfl (by decide) rfl (fun ls hl => ?_)
              refine lv_goto (tgt := 18) hx hb dX6_leadsOn_86 (by decide) ?_
              exact ih33 _ _ _ _ (Option.some.inj h).symm ⟨hP, hD, hS, lv_sub hl [0, 2, 3, 4, 5, 6] rfl⟩
            · have h := (if_neg c46).symm.trans h
              refine lv_goto (tgt := 81) hx hb dX6_leadsOn_73 (by decide) ?_
              refine lv_iconst (v := (0 : Int32)) hx hb dX6_leadsOn_81 (by decide) ?_
              have hu := KR29 _ (hR32 _ (Option.some.inj h).symm)
              subst hu
              exact W.zret (v := (0 : Int32)) hx hb hr (by decide) (fun t ht hW => ⟨⟨(0 : Int32), (), rfl, rfl, by rw [ht]; exact hP, hD⟩, hS.F ht⟩) hS.2.2 dX6_leadsOn_82
    · have h := (if_pos c24).symm.trans h
      refine lv_iload hx hb dX6_leadsOn_8 (lv_at hl 4 rfl) ?_
      refine lv_if_ne (tgt := 15) hx hb dX6_leadsOn_10 (by decide) (fun c47 => ?_) (fun c47 => ?_)
      · have h := (if_neg c47).symm.trans h
        refine lv_iconst (v := (0 : Int32)) hx hb dX6_leadsOn_15 (by decide) ?_
        refine lv_istore (lv' := [(5, .int (0 : Int32)), (0, .ref (q 0)), (1, .int p1), (2, .int p2), (3, .int p3), (4, .int p4)]) hx hb dX6_leadsOn_16 hl (by decide) rfl (fun ls hl => ?_)
        obtain ⟨u49, e50, h⟩ := bd_some h
        have KR52 : ∀ y54, Sum.inr y54 = u49 → y54 = uu := by
          intro y54 hy
          subst hy
          have h := se_inr h
          exact Option.some.inj h
        refine W_leave (P := fun (y : Int32) H locs ls => u49 = Sum.inl y ∧ va_P D vwCl (WM_ q cI cJ cZ wwd wmn wod wsm wnm wwl wif wev wne wsu wnx wta) H ∧ va_D A (WM_ q cI cJ cZ wwd wmn wod wsm wnm wwl wif wev wne wsu wnx wta) ∧ va_S A s.heap H locs ∧ lv_has ls 7 [(5, .int y), (0, .ref (q 0)), (1, .int p1), (2, .int p2), (3, .int p3), (4, .int p4)]) (g := fun ls => F0 m 89 ls []) ?_ ?_
        · intro x53 H locs ls hq
          obtain ⟨hy, hP, hD, hS, hl⟩ := hq
          subst hy
          have h := se_inl h
          refine lv_iconst (v := (1 : Int32)) hx hb dX6_leadsOn_89 (by decide) ?_
          obtain rfl := Option.some.inj h
          exact W.zret (v := (1 : Int32)) hx hb hr (by decide) (fun t ht hW => ⟨⟨(1 : Int32), (), rfl, rfl, by rw [ht]; exact hP, hD⟩, hS.F ht⟩) hS.2.2 dX6_leadsOn_90
        · intro K51
          refine W_lp (body := (fun (st : Int32) => fX6_leadsOn_L18_2 wmn wwl p1 p2 p3 p4 st)) (P := fun (st : Int32) H locs ls => va_P D vwCl (WM_ q cI cJ cZ wwd wmn wod wsm wnm wwl wif wev wne wsu wnx wta) H ∧ va_D A (WM_ q cI cJ cZ wwd wmn wod wsm wnm wwl wif wev wne wsu wnx wta) ∧ va_S A s.heap H locs ∧ lv_has ls 7 [(5, .int st), (0, .ref (q 0)), (1, .int p1), (2, .int p2), (3, .int p3), (4, .int p4)]) (g := fun _ ls => F0 m 18 ls []) (r := u49) ?_ fu_ (0 : Int32) _ _ _ e50 ⟨hP, hD, hS, lv_sub hl [0, 1, 2, 3, 4, 5] rfl⟩
          intro v48 xx57 H locs ls h hq ih56 hR55
          obtain ⟨hP, hD, hS, hl⟩ := hq
          have hP : va_P D vwCl (WM_ q cI cJ cZ wwd wmn wod wsm wnm wwl wif wev wne wsu wnx wta) H := hP
          have hD : va_D A (WM_ q cI cJ cZ wwd wmn wod wsm wnm wwl wif wev wne wsu wnx wta) := hD
          have hl : lv_has ls 7 [(5, .int v48), (0, .ref (q 0)), (1, .int p1), (2, .int p2), (3, .int p3), (4, .int p4)] := hl
          have h : fX6_leadsOn_L18_2 wmn wwl p1 p2 p3 p4 v48 = some xx57 := h
          unfold fX6_leadsOn_L18_2 at h
          refine lv_iload hx hb dX6_leadsOn_18 (lv_at hl 0 rfl) ?_
          refine lv_aload_n hx hb dX6_leadsOn_20 rfl (lv_at hl 1 rfl) ?_
          refine va_get (D := D) (ci := 6) (v := .int wmn) (C := RX6) (T := TX6) (N := 12) hx hb hts wiX6_leadsOn_X6 hown hK hP 0 rfl rfl 1 (by decide) (hts _ wmX6_leadsOn_0) (fun _ h9 => h9) rfl dX6_leadsOn_21 ?_
          refine lv_icmp_ge (tgt := 89) hx hb dX6_leadsOn_24 (by decide) (fun c58 => ?_) (fun c58 => ?_)
          · have h := (if_pos c58).symm.trans h
            exact K51 _ _ _ _ ⟨(hR55 _ (Option.some.inj h).symm).symm, hP, hD, hS, lv_sub hl [0, 1, 2, 3, 4, 5] rfl⟩
          · have h := (if_neg c58).symm.trans h
            refine lv_aload_n hx hb dX6_leadsOn_27 rfl (lv_at hl 1 rfl) ?_
            refine lv_iload hx hb dX6_leadsOn_28 (lv_at hl 0 rfl) ?_
            refine lv_iconst (v := (0 : Int32)) hx hb dX6_leadsOn_30 (by decide) ?_
            obtain ⟨u59, e60, h⟩ := bd_some h
            refine k_i (va_runV (As := [.int v48, .int (0 : Int32)]) (rest := []) ⟨hx, hb, hml, hown, hts⟩ (kX6_at l D q cI cJ cZ tP H.size wwd wmn wod wsm wnm wwl wif wev wne wsu wnx wta v48 (0 : Int32) u59 e60) (cwV 2 hts gX6_leadsOn_X6_at rfl rfl rfl (by decide +kernel) ⟨Nat.le_of_ble_eq_true rfl, Nat.le_of_ble_eq_true rfl⟩) ⟨cPre_blind, va_recv hK hP (ci := 6) (q0 := 0) rfl rfl, cPre_at hP hK hN hD hS hA hZ⟩ rfl rfl hl.1 rfl (lv_room (Nat.le_of_ble_eq_true rfl)) dX6_leadsOn_31 ⟨Nat.le_of_ble_eq_true rfl, Nat.le_of_ble_eq_true rfl⟩) hD hS hA (fun H locs hP hD hS => ?_)
            refine lv_iload_n hx hb dX6_leadsOn_34 rfl (lv_at hl 3 rfl) ?_
            refine lv_imul hx hb dX6_leadsOn_35 ?_
            refine lv_aload_n hx hb dX6_leadsOn_36 rfl (lv_at hl 1 rfl) ?_
            refine lv_iload hx hb dX6_leadsOn_37 (lv_at hl 0 rfl) ?_
            refine lv_iconst (v := (1 : Int32)) hx hb dX6_leadsOn_39 (by decide) ?_
            obtain ⟨u61, e62, h⟩ := bd_some h
            refine k_i (va_runV (As := [.int v48, .int (1 : Int32)]) (rest := [.int (u59 * p2)]) ⟨hx, hb, hml, hown, hts⟩ (kX6_at l D q cI cJ cZ tP H.size wwd wmn wod wsm wnm wwl wif wev wne wsu wnx wta v48 (1 : Int32) u61 e62) (cwV 2 hts gX6_leadsOn_X6_at rfl rfl rfl (by decide +kernel) ⟨Nat.le_of_ble_eq_true rfl, Nat.le_of_ble_eq_true rfl⟩) ⟨cPre_blind, va_recv hK hP (ci := 6) (q0 := 0) rfl rfl, cPre_at hP hK hN hD hS hA hZ⟩ rfl rfl hl.1 rfl (lv_room (Nat.le_of_ble_eq_true rfl)) dX6_leadsOn_40 ⟨Nat.le_of_ble_eq_true rfl, Nat.le_of_ble_eq_true rfl⟩) hD hS hA (fun H locs hP hD hS => ?_)
            refine lv_iload_n hx hb dX6_leadsOn_43 rfl (lv_at hl 4 rfl) ?_
            refine lv_imul hx hb dX6_leadsOn_44 ?_
            refine lv_iadd hx hb dX6_leadsOn_45 ?_
            refine lv_aload_n hx hb dX6_leadsOn_46 rfl (lv_at hl 1 rfl) ?_
            refine lv_iload hx hb dX6_leadsOn_47 (lv_at hl 0 rfl) ?_
            refine lv_iconst (v := (2 : Int32)) hx hb dX6_leadsOn_49 (by decide) ?_
            obtain ⟨u63, e64, h⟩ := bd_some h
            refine k_i (va_runV (As := [.int v48, .int (2 : Int32)]) (rest := [.int ((u59 * p2) + (u61 * p3))]) ⟨hx, hb, hml, hown, hts⟩ (kX6_at l D q cI cJ cZ tP H.size wwd wmn wod wsm wnm wwl wif wev wne wsu wnx wta v48 (2 : Int32) u63 e64) (cwV 2 hts gX6_leadsOn_X6_at rfl rfl rfl (by decide +kernel) ⟨Nat.le_of_ble_eq_true rfl, Nat.le_of_ble_eq_true rfl⟩) ⟨cPre_blind, va_recv hK hP (ci := 6) (q0 := 0) rfl rfl, cPre_at hP hK hN hD hS hA hZ⟩ rfl rfl hl.1 rfl (lv_room (Nat.le_of_ble_eq_true rfl)) dX6_leadsOn_50 ⟨Nat.le_of_ble_eq_true rfl, Nat.le_of_ble_eq_true rfl⟩) hD hS hA (fun H locs hP hD hS => ?_)
            refine lv_iload hx hb dX6_leadsOn_53 (lv_at hl 5 rfl) ?_
            refine lv_imul hx hb dX6_leadsOn_55 ?_
            refine lv_iadd hx hb dX6_leadsOn_56 ?_
            refine lv_istore (lv' := [(6, .int (((u59 * p2) + (u61 * p3)) + (u63 * p4))), (5, .int v48), (0, .ref (q 0)), (1, .int p1), (2, .int p2), (3, .int p3), (4, .int p4)]) hx hb dX6_leadsOn_57 hl (by decide) rfl (fun ls hl => ?_)
            refine lv_iload_n hx hb dX6_leadsOn_59 rfl (lv_at hl 3 rfl) ?_
            refine lv_iload hx hb dX6_leadsOn_60 (lv_at hl 1 rfl) ?_
            obtain ⟨u65, e66, h⟩ := bd_some h
            refine k_i0 (va_runS (As := [.int p1, .int v48]) (rest := []) ⟨hx, hb, hml, hown, hts⟩ (kX6_sign l D cI cJ cZ tP H.size  p1 v48 u65 e66) (va_cwS 2 hts gX6_leadsOn_X6_sign rfl rfl rfl (by decide +kernel) ⟨Nat.le_of_ble_eq_true rfl, Nat.le_of_ble_eq_true rfl⟩) ⟨cPre_blind, cPre_at0 hK hN hS hA hZ⟩ rfl rfl hl.1 rfl (lv_room (Nat.le_of_ble_eq_true rfl)) dX6_leadsOn_62 ⟨Nat.le_of_ble_eq_true rfl, Nat.le_of_ble_eq_true rfl⟩) hP hS hA (fun H locs hP hS => ?_)
            refine lv_if_ne (tgt := 76) hx hb dX6_leadsOn_65 (by decide) (fun c67 => ?_) (fun c67 => ?_)
            · have h := (if_neg c67).symm.trans h
              refine lv_iload hx hb dX6_leadsOn_76 (lv_at hl 0 rfl) ?_
              refine lv_if_ge (tgt := 83) hx hb dX6_leadsOn_78 (by decide) (fun c68 => ?_) (fun c68 => ?_)
              · have h := (if_pos c68).symm.trans h
                refine lv_iinc (v := (v48 + (1 : Int32))) (lv' := [(5, .int (v48 + (1 : Int32))), (6, .int (((u59 * p2) + (u61 * p3)) + (u63 * p4))), (0, .ref (q 0)), (1, .int p1), (2, .int p2), (3, .int p3), (4, .int p4)]) hx hb dX6_leadsOn_83 hl (k := 1) rfl rfl (by decide) rfl (fun ls hl => ?_)
                refine lv_goto (tgt := 18) hx hb dX6_leadsOn_86 (by decide) ?_
                exact ih56 _ _ _ _ (Option.some.inj h).symm ⟨hP, hD, hS, lv_sub hl [0, 2, 3, 4, 5, 6] rfl⟩
              · have h := (if_neg c68).symm.trans h
                refine lv_iconst (v := (0 : Int32)) hx hb dX6_leadsOn_81 (by decide) ?_
                have hu := KR52 _ (hR55 _ (Option.some.inj h).symm)
                subst hu
                exact W.zret (v := (0 : Int32)) hx hb hr (by decide) (fun t ht hW => ⟨⟨(0 : Int32), (), rfl, rfl, by rw [ht]; exact hP, hD⟩, hS.F ht⟩) hS.2.2 dX6_leadsOn_82
            · have h := (if_pos c67).symm.trans h
              refine lv_iload hx hb dX6_leadsOn_68 (lv_at hl 0 rfl) ?_
              refine lv_if_le (tgt := 83) hx hb dX6_leadsOn_70 (by decide) (fun c69 => ?_) (fun c69 => ?_)
              · have h := (if_pos c69).symm.trans h
                refine lv_iinc (v := (v48 + (1 : Int32))) (lv' := [(5, .int (v48 + (1 : Int32))), (6, .int (((u59 * p2) + (u61 * p3)) + (u63 * p4))), (0, .ref (q 0)), (1, .int p1), (2, .int p2), (3, .int p3), (4, .int p4)]) hx hb dX6_leadsOn_83 hl (k := 1) rfl rfl (by decide) rfl (fun ls hl => ?_)
                refine lv_goto (tgt := 18) hx hb dX6_leadsOn_86 (by decide) ?_
                exact ih56 _ _ _ _ (Option.some.inj h).symm ⟨hP, hD, hS, lv_sub hl [0, 2, 3, 4, 5, 6] rfl⟩
              · have h := (if_neg c69).symm.trans h
                refine lv_goto (tgt := 81) hx hb dX6_leadsOn_73 (by decide) ?_
                refine lv_iconst (v := (0 : Int32)) hx hb dX6_leadsOn_81 (by decide) ?_
                have hu := KR52 _ (hR55 _ (Option.some.inj h).symm)
                subst hu
                exact W.zret (v := (0 : Int32)) hx hb hr (by decide) (fun t ht hW => ⟨⟨(0 : Int32), (), rfl, rfl, by rw [ht]; exact hP, hD⟩, hS.F ht⟩) hS.2.2 dX6_leadsOn_82
      · have h := (if_pos c47).symm.trans h
        refine lv_iconst (v := (0 : Int32)) hx hb dX6_leadsOn_13 (by decide) ?_
        obtain rfl := Option.some.inj h
        exact W.zret (v := (0 : Int32)) hx hb hr (by decide) (fun t ht hW => ⟨⟨(0 : Int32), (), rfl, rfl, by rw [ht]; exact hP, hD⟩, hS.F ht⟩) hS.2.2 dX6_leadsOn_14

-- X6_leadsEither
set_option maxHeartbeats 8000000 in
set_option maxRecDepth 100000 in
theorem kX6_leadsEither (l : Launch) (D : va_G) (q : Nat → Nat) (cI cJ cZ : ClassId) (tP sz : Nat) (wwd : Int32) (wmn : Int32) (wod : Int32) (wsm : Int32) (wnm : Int32) (wwl : (Nat → Int32)) (wif : (Nat → Int32)) (wev : (Nat → Int32)) (wne : (Nat → Int32)) (wsu : (Nat → Int64)) (wnx : (Nat → Int64)) (wta : (Nat → Int64)) (p1 : Int32) (p2 : Int32) (p3 : Int32) (p4 : Int32) (uu : Int32) (h : fX6_leadsEither wmn wwl p1 p2 p3 p4 = some uu) : Met l yX6_leadsEither wsX6_leadsEither ({ frames := 3, cells := 0, slots := 0, locals := 69 }) (cPre D cI cJ cZ tP (WM_ q cI cJ cZ wwd wmn wod wsm wnm wwl wif wev wne wsu wnx wta) sz [.ref (q 0), .int p1, .int p2, .int p3, .int p4]) (cQi D (va_A (WM_ q cI cJ cZ wwd wmn wod wsm wnm wwl wif wev wne wsu wnx wta) sz) (WM_ q cI cJ cZ wwd wmn wod wsm wnm wwl wif wev wne wsu wnx wta) uu) 0 0 (va_A (WM_ q cI cJ cZ wwd wmn wod wsm wnm wwl wif wev wne wsu wnx wta) sz) := by
  refine Met.ofW (cc := cX6_leadsEither) (maxL := 5) (ret := (some .boolean)) (by decide) rfl ?_
  intro p e s m args below meth c s₁ B hml hv
  obtain ⟨rfl, hsz, hP, hK, hN, hD0, hZ⟩ := hv
  have hx := B.exec
  have hb := B.bytes
  have hr := B.returns
  have hts := atoms_spec (ws := wsX6_leadsEither) B.pre
  have hown : s.vm.findClass RX6 = some m.cls := findClass_of_methodNamed B.named
  have hlocks := B.notSynchronized
  subst hsz
  have hD := hD0.self (sz := s.heap.size)
  generalize hAe : va_A (WM_ q cI cJ cZ wwd wmn wod wsm wnm wwl wif wev wne wsu wnx wta) s.heap.size = A at hD hZ ⊢
  have hA : ∀ q : Nat, s.heap.size ≤ q → A q := fun q h => by rw [← hAe]; exact Or.inr h
  have hS : va_S A s.heap s.heap [] := va_S.rf
  have hl := lv_entry ([.ref (q 0), .int p1, .int p2, .int p3, .int p4]) (n := 5) (Nat.le_of_ble_eq_true rfl)
  rw [lg_entry_eq]
  generalize (lg_sl ([.ref (q 0), .int p1, .int p2, .int p3, .int p4]) ++ List.replicate (5 - (lg_sl ([.ref (q 0), .int p1, .int p2, .int p3, .int p4])).length) Slot.unset).toArray = ls at hl ⊢
  have hl : lv_has ls 5 [(0, .ref (q 0)), (1, .int p1), (2, .int p2), (3, .int p3), (4, .int p4)] := hl
  unfold fX6_leadsEither at h
  refine lv_aload_n hx hb dX6_leadsEither_0 rfl (lv_at hl 0 rfl) ?_
  refine lv_iload_n hx hb dX6_leadsEither_1 rfl (lv_at hl 1 rfl) ?_
  refine lv_iload_n hx hb dX6_leadsEither_2 rfl (lv_at hl 2 rfl) ?_
  refine lv_iload_n hx hb dX6_leadsEither_3 rfl (lv_at hl 3 rfl) ?_
  refine lv_iload hx hb dX6_leadsEither_4 (lv_at hl 4 rfl) ?_
  obtain ⟨u1, e2, h⟩ := bd_some h
  refine k_i (va_runV (As := [.int p1, .int p2, .int p3, .int p4]) (rest := []) ⟨hx, hb, hml, hown, hts⟩ (kX6_leadsOn l D q cI cJ cZ tP s.heap.size wwd wmn wod wsm wnm wwl wif wev wne wsu wnx wta p1 p2 p3 p4 u1 e2) (cwV 4 hts gX6_leadsEither_X6_leadsOn rfl rfl rfl (by decide +kernel) ⟨Nat.le_of_ble_eq_true rfl, Nat.le_of_ble_eq_true rfl⟩) ⟨cPre_blind, va_recv hK hP (ci := 6) (q0 := 0) rfl rfl, cPre_at hP hK hN hD hS hA hZ⟩ rfl rfl hl.1 rfl (lv_room (Nat.le_of_ble_eq_true rfl)) dX6_leadsEither_6 ⟨Nat.le_of_ble_eq_true rfl, Nat.le_of_ble_eq_true rfl⟩) hD hS hA (fun H locs hP hD hS => ?_)
  refine lv_if_ne (tgt := 27) hx hb dX6_leadsEither_9 (by decide) (fun c3 => ?_) (fun c3 => ?_)
  · have h := (if_neg c3).symm.trans h
    refine lv_iconst (v := (1 : Int32)) hx hb dX6_leadsEither_27 (by decide) ?_
    refine lv_goto (tgt := 32) hx hb dX6_leadsEither_28 (by decide) ?_
    obtain rfl := Option.some.inj h
    exact W.zret (v := (1 : Int32)) hx hb hr (by decide) (fun t ht hW => ⟨⟨(1 : Int32), (), rfl, rfl, by rw [ht]; exact hP, hD⟩, hS.F ht⟩) hS.2.2 dX6_leadsEither_32
  · have h := (if_pos c3).symm.trans h
    refine lv_aload_n hx hb dX6_leadsEither_12 rfl (lv_at hl 0 rfl) ?_
    refine lv_iload_n hx hb dX6_leadsEither_13 rfl (lv_at hl 1 rfl) ?_
    refine lv_iload_n hx hb dX6_leadsEither_14 rfl (lv_at hl 2 rfl) ?_
    refine lv_ineg hx hb dX6_leadsEither_15 ?_
    refine lv_iload_n hx hb dX6_leadsEither_16 rfl (lv_at hl 3 rfl) ?_
    refine lv_ineg hx hb dX6_leadsEither_17 ?_
    refine lv_iload hx hb dX6_leadsEither_18 (lv_at hl 4 rfl) ?_
    refine lv_ineg hx hb dX6_leadsEither_20 ?_
    obtain ⟨u4, e5, h⟩ := bd_some h
    refine k_i (va_runV (As := [.int p1, .int (-p2), .int (-p3), .int (-p4)]) (rest := []) ⟨hx, hb, hml, hown, hts⟩ (kX6_leadsOn l D q cI cJ cZ tP H.size wwd wmn wod wsm wnm wwl wif wev wne wsu wnx wta p1 (-p2) (-p3) (-p4) u4 e5) (cwV 4 hts gX6_leadsEither_X6_leadsOn rfl rfl rfl (by decide +kernel) ⟨Nat.le_of_ble_eq_true rfl, Nat.le_of_ble_eq_true rfl⟩) ⟨cPre_blind, va_recv hK hP (ci := 6) (q0 := 0) rfl rfl, cPre_at hP hK hN hD hS hA hZ⟩ rfl rfl hl.1 rfl (lv_room (Nat.le_of_ble_eq_true rfl)) dX6_leadsEither_21 ⟨Nat.le_of_ble_eq_true rfl, Nat.le_of_ble_eq_true rfl⟩) hD hS hA (fun H locs hP hD hS => ?_)
    refine lv_if_eq (tgt := 31) hx hb dX6_leadsEither_24 (by decide) (fun c6 => ?_) (fun c6 => ?_)
    · have h := (if_pos c6).symm.trans h
      refine lv_iconst (v := (0 : Int32)) hx hb dX6_leadsEither_31 (by decide) ?_
      obtain rfl := Option.some.inj h
      exact W.zret (v := (0 : Int32)) hx hb hr (by decide) (fun t ht hW => ⟨⟨(0 : Int32), (), rfl, rfl, by rw [ht]; exact hP, hD⟩, hS.F ht⟩) hS.2.2 dX6_leadsEither_32
    · have h := (if_neg c6).symm.trans h
      refine lv_iconst (v := (1 : Int32)) hx hb dX6_leadsEither_27 (by decide) ?_
      refine lv_goto (tgt := 32) hx hb dX6_leadsEither_28 (by decide) ?_
      obtain rfl := Option.some.inj h
      exact W.zret (v := (1 : Int32)) hx hb hr (by decide) (fun t ht hW => ⟨⟨(1 : Int32), (), rfl, rfl, by rw [ht]; exact hP, hD⟩, hS.F ht⟩) hS.2.2 dX6_leadsEither_32
