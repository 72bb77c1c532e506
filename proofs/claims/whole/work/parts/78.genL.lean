-- X6_walls
theorem wmX6_walls_0 : (.fieldLink RX6 49 "SpaceWallsModel" "many" "I" : Cond) ∈ wsX6_walls := by decide +kernel
theorem wiX6_walls_X6 : ∀ w ∈ u_ws RX6 TX6 12, w ∈ wsX6_walls := by decide +kernel
set_option maxHeartbeats 8000000 in
set_option maxRecDepth 100000 in
theorem kX6_walls (l : Launch) (D : va_G) (q : Nat → Nat) (cI cJ cZ : ClassId) (tP sz : Nat) (wwd : Int32) (wmn : Int32) (wod : Int32) (wsm : Int32) (wnm : Int32) (wwl : (Nat → Int32)) (wif : (Nat → Int32)) (wev : (Nat → Int32)) (wne : (Nat → Int32)) (wsu : (Nat → Int64)) (wnx : (Nat → Int64)) (wta : (Nat → Int64)) (p1 : Int32) (uu : (Int32 × Int32 × Int32 × Int32 × (Nat → Int32) × (Nat → Int32) × (Nat → Int32) × (Nat → Int64) × (Nat → Int64))) (h : fX6_walls wwd wmn wod wsm wnm wwl wif wev wne wsu wnx p1 = some uu) : Met l yX6_walls wsX6_walls ({ frames := 6, cells := 0, slots := 0, locals := 146 }) (cPre D cI cJ cZ tP (WM_ q cI cJ cZ wwd wmn wod wsm wnm wwl wif wev wne wsu wnx wta) sz [.ref (q 0), .int p1]) (cQi D (va_A (WM_ q cI cJ cZ wwd wmn wod wsm wnm wwl wif wev wne wsu wnx wta) sz) (WM_ q cI cJ cZ wwd wmn uu.2.1 uu.2.2.1 uu.2.2.2.1 wwl uu.2.2.2.2.1 uu.2.2.2.2.2.1 uu.2.2.2.2.2.2.1 uu.2.2.2.2.2.2.2.1 uu.2.2.2.2.2.2.2.2 wta) uu.1) 0 0 (va_A (WM_ q cI cJ cZ wwd wmn wod wsm wnm wwl wif wev wne wsu wnx wta) sz) := by
  refine Met.ofW (cc := cX6_walls) (maxL := 4) (ret := (some .int)) (by decide) rfl ?_
  intro p e s m args below meth c s₁ B hml hv
  obtain ⟨rfl, hsz, hP, hK, hN, hD0, hZ⟩ := hv
  have hx := B.exec
  have hb := B.bytes
  have hr := B.returns
  have hts := atoms_spec (ws := wsX6_walls) B.pre
  have hown : s.vm.findClass RX6 = some m.cls := findClass_of_methodNamed B.named
  have hlocks := B.notSynchronized
  subst hsz
  have hD := hD0.self (sz := s.heap.size)
  generalize hAe : va_A (WM_ q cI cJ cZ wwd wmn wod wsm wnm wwl wif wev wne wsu wnx wta) s.heap.size = A at hD hZ ⊢
  have hA : ∀ q : Nat, s.heap.size ≤ q → A q := fun q h => by rw [← hAe]; exact Or.inr h
  have hS : va_S A s.heap s.heap [] := va_S.rf
  have hl := lv_entry ([.ref (q 0), .int p1]) (n := 4) (Nat.le_of_ble_eq_true rfl)
  rw [lg_entry_eq]
  generalize (lg_sl ([.ref (q 0), .int p1]) ++ List.replicate (4 - (lg_sl ([.ref (q 0), .int p1])).length) Slot.unset).toArray = ls at hl ⊢
  have hl : lv_has ls 4 [(0, .ref (q 0)), (1, .int p1)] := hl
  unfold fX6_walls at h
  refine lv_aload_n hx hb dX6_walls_0 rfl (lv_at hl 0 rfl) ?_
  refine lv_iload_n hx hb dX6_walls_1 rfl (lv_at hl 1 rfl) ?_
  obtain ⟨u1, e2, h⟩ := bd_some h
  refine k_i (va_runV (As := [.int p1]) (rest := []) ⟨hx, hb, hml, hown, hts⟩ (kX6_isRoom l D q cI cJ cZ tP s.heap.size wwd wmn wod wsm wnm wwl wif wev wne wsu wnx wta p1 u1 e2) (cwV 1 hts gX6_walls_X6_isRoom rfl rfl rfl (by decide +kernel) ⟨Nat.le_of_ble_eq_true rfl, Nat.le_of_ble_eq_true rfl⟩) ⟨cPre_blind, va_recv hK hP (ci := 6) (q0 := 0) rfl rfl, cPre_at hP hK hN hD hS hA hZ⟩ rfl rfl hl.1 rfl (lv_room (Nat.le_of_ble_eq_true rfl)) dX6_walls_2 ⟨Nat.le_of_ble_eq_true rfl, Nat.le_of_ble_eq_true rfl⟩) hD hS hA (fun H locs hP hD hS => ?_)
  refine lv_if_ne (tgt := 10) hx hb dX6_walls_5 (by decide) (fun c3 => ?_) (fun c3 => ?_)
  · have h := (if_neg c3).symm.trans h
    refine lv_iconst (v := (0 : Int32)) hx hb dX6_walls_10 (by decide) ?_
    refine lv_istore_n (lv' := [(2, .int (0 : Int32)), (0, .ref (q 0)), (1, .int p1)]) hx hb dX6_walls_11 rfl hl (by decide) rfl (fun ls hl => ?_)
    refine lv_iconst (v := (0 : Int32)) hx hb dX6_walls_12 (by decide) ?_
    refine lv_istore_n (lv' := [(3, .int (0 : Int32)), (2, .int (0 : Int32)), (0, .ref (q 0)), (1, .int p1)]) hx hb dX6_walls_13 rfl hl (by decide) rfl (fun ls hl => ?_)
    obtain ⟨u14, e15, h⟩ := bd_some h
    refine W_leave (P := fun (y : (Int32 × Int32 × Int32 × Int32 × Int32 × (Nat → Int32) × (Nat → Int32) × (Nat → Int32) × (Nat → Int64) × (Nat → Int64))) H locs ls => u14 = y ∧ va_P D vwCl (WM_ q cI cJ cZ wwd wmn y.2.2.1 y.2.2.2.1 y.2.2.2.2.1 wwl y.2.2.2.2.2.1 y.2.2.2.2.2.2.1 y.2.2.2.2.2.2.2.1 y.2.2.2.2.2.2.2.2.1 y.2.2.2.2.2.2.2.2.2 wta) H ∧ va_D A (WM_ q cI cJ cZ wwd wmn y.2.2.1 y.2.2.2.1 y.2.2.2.2.1 wwl y.2.2.2.2.2.1 y.2.2.2.2.2.2.1 y.2.2.2.2.2.2.2.1 y.2.2.2.2.2.2.2.2.1 y.2.2.2.2.2.2.2.2.2 wta) ∧ va_S A s.heap H locs ∧ lv_has ls 4 [(3, .int y.1), (2, .int y.2.1), (0, .ref (q 0)), (1, .int p1)]) (g := fun ls => F0 m 50 ls []) ?_ ?_
    · intro y H locs ls hq
      obtain ⟨hy, hP, hD, hS, hl⟩ := hq
      subst hy
      have hl : lv_has ls 4 [(3, .int u14.1), (2, .int u14.2.1), (0, .ref (q 0)), (1, .int p1)] := hl
      refine lv_iload_n hx hb dX6_walls_50 rfl (lv_at hl 1 rfl) ?_
      obtain rfl := Option.some.inj h
      exact W.iret (v := u14.2.1) hx hb hr (fun t ht hW => ⟨⟨u14.2.1, (), rfl, rfl, by rw [ht]; exact hP, hD⟩, hS.F ht⟩) hS.2.2 dX6_walls_51
    · intro K16
      refine W_lp (body := (fun (st : (Int32 × Int32 × Int32 × Int32 × Int32 × (Nat → Int32) × (Nat → Int32) × (Nat → Int32) × (Nat → Int64) × (Nat → Int64))) => fX6_walls_L14 wmn p1 wwd wwl st.1 st.2.1 st.2.2.1 st.2.2.2.1 st.2.2.2.2.1 st.2.2.2.2.2.1 st.2.2.2.2.2.2.1 st.2.2.2.2.2.2.2.1 st.2.2.2.2.2.2.2.2.1 st.2.2.2.2.2.2.2.2.2)) (P := fun (st : (Int32 × Int32 × Int32 × Int32 × Int32 × (Nat → Int32) × (Nat → Int32) × (Nat → Int32) × (Nat → Int64) × (Nat → Int64))) H locs ls => va_P D vwCl (WM_ q cI cJ cZ wwd wmn st.2.2.1 st.2.2.2.1 st.2.2.2.2.1 wwl st.2.2.2.2.2.1 st.2.2.2.2.2.2.1 st.2.2.2.2.2.2.2.1 st.2.2.2.2.2.2.2.2.1 st.2.2.2.2.2.2.2.2.2 wta) H ∧ va_D A (WM_ q cI cJ cZ wwd wmn st.2.2.1 st.2.2.2.1 st.2.2.2.2.1 wwl st.2.2.2.2.2.1 st.2.2.2.2.2.2.1 st.2.2.2.2.2.2.2.1 st.2.2.2.2.2.2.2.2.1 st.2.2.2.2.2.2.2.2.2 wta) ∧ va_S A s.heap H locs ∧ lv_has ls 4 [(3, .int st.1), (2, .int st.2.1), (0, .ref (q 0)), (1, .int p1)]) (g := fun _ ls => F0 m 14 ls []) (r := u14) ?_ fu_ ((0 : Int32), (0 : Int32), u1.2.1, u1.2.2.1, u1.2.2.2.1, u1.2.2.2.2.1, u1.2.2.2.2.2.1, u1.2.2.2.2.2.2.1, u1.2.2.2.2.2.2.2.1, u1.2.2.2.2.2.2.2.2) _ _ _ e15 ⟨hP, hD, hS, lv_sub hl [0, 1, 2, 3] rfl⟩
      intro st xx20 H locs ls h hq ih19 hR18
      obtain ⟨hP, hD, hS, hl⟩ := hq
      obtain ⟨v4, v5, v6, v7, v8, v9, v10, v11, v12, v13⟩ := st
      have hP : va_P D vwCl (WM_ q cI cJ cZ wwd wmn v6 v7 v8 wwl v9 v10 v11 v12 v13 wta) H := hP
      have hD : va_D A (WM_ q cI cJ cZ wwd wmn v6 v7 v8 wwl v9 v10 v11 v12 v13 wta) := hD
      have hl : lv_has ls 4 [(3, .int v4), (2, .int v5), (0, .ref (q 0)), (1, .int p1)] := hl
      have h : fX6_walls_L14 wmn p1 wwd wwl v4 v5 v6 v7 v8 v9 v10 v11 v12 v13 = some xx20 := h
      unfold fX6_walls_L14 at h
      refine lv_iload_n hx hb dX6_walls_14 rfl (lv_at hl 0 rfl) ?_
      refine lv_aload_n hx hb dX6_walls_15 rfl (lv_at hl 2 rfl) ?_
      refine va_get (D := D) (ci := 6) (v := .int wmn) (C := RX6) (T := TX6) (N := 12) hx hb hts wiX6_walls_X6 hown hK hP 0 rfl rfl 1 (by decide) (hts _ wmX6_walls_0) (fun _ h9 => h9) rfl dX6_walls_16 ?_
      refine lv_icmp_ge (tgt := 50) hx hb dX6_walls_19 (by decide) (fun c21 => ?_) (fun c21 => ?_)
      · have h := (if_pos c21).symm.trans h
        exact K16 _ _ _ _ ⟨(hR18 _ (Option.some.inj h).symm).symm, hP, hD, hS, lv_sub hl [0, 1, 2, 3] rfl⟩
      · have h := (if_neg c21).symm.trans h
        refine lv_iload_n hx hb dX6_walls_22 rfl (lv_at hl 1 rfl) ?_
        refine lv_aload_n hx hb dX6_walls_23 rfl (lv_at hl 2 rfl) ?_
        refine lv_iload_n hx hb dX6_walls_24 rfl (lv_at hl 3 rfl) ?_
        refine lv_iload_n hx hb dX6_walls_25 rfl (lv_at hl 0 rfl) ?_
        obtain ⟨u22, e23, h⟩ := bd_some h
        refine k_i0 (va_runS (As := [.int p1, .int v4]) (rest := [.ref (q 0), .int v5]) ⟨hx, hb, hml, hown, hts⟩ (kX6_across l D cI cJ cZ tP H.size  p1 v4 u22 e23) (va_cwS 2 hts gX6_walls_X6_across rfl rfl rfl (by decide +kernel) ⟨Nat.le_of_ble_eq_true rfl, Nat.le_of_ble_eq_true rfl⟩) ⟨cPre_blind, cPre_at0 hK hN hS hA hZ⟩ rfl rfl hl.1 rfl (lv_room (Nat.le_of_ble_eq_true rfl)) dX6_walls_26 ⟨Nat.le_of_ble_eq_true rfl, Nat.le_of_ble_eq_true rfl⟩) hP hS hA (fun H locs hP hS => ?_)
        obtain ⟨u24, e25, h⟩ := bd_some h
        refine k_i (va_runV (As := [.int u22]) (rest := [.int v5]) ⟨hx, hb, hml, hown, hts⟩ (kX6_isRoom l D q cI cJ cZ tP H.size wwd wmn v6 v7 v8 wwl v9 v10 v11 v12 v13 wta u22 u24 e25) (cwV 1 hts gX6_walls_X6_isRoom rfl rfl rfl (by decide +kernel) ⟨Nat.le_of_ble_eq_true rfl, Nat.le_of_ble_eq_true rfl⟩) ⟨cPre_blind, va_recv hK hP (ci := 6) (q0 := 0) rfl rfl, cPre_at hP hK hN hD hS hA hZ⟩ rfl rfl hl.1 rfl (lv_room (Nat.le_of_ble_eq_true rfl)) dX6_walls_29 ⟨Nat.le_of_ble_eq_true rfl, Nat.le_of_ble_eq_true rfl⟩) hD hS hA (fun H locs hP hD hS => ?_)
        refine lv_if_eq (tgt := 41) hx hb dX6_walls_32 (by decide) (fun c26 => ?_) (fun c26 => ?_)
        · have h := (if_pos c26).symm.trans h
          refine lv_iconst (v := (0 : Int32)) hx hb dX6_walls_41 (by decide) ?_
          refine lv_ior hx hb dX6_walls_42 ?_
          refine lv_istore_n (lv' := [(2, .int (v5 ||| (0 : Int32))), (3, .int v4), (0, .ref (q 0)), (1, .int p1)]) hx hb dX6_walls_43 rfl hl (by decide) rfl (fun ls hl => ?_)
          refine lv_iinc (v := (v4 + (1 : Int32))) (lv' := [(3, .int (v4 + (1 : Int32))), (2, .int (v5 ||| (0 : Int32))), (0, .ref (q 0)), (1, .int p1)]) hx hb dX6_walls_44 hl (k := 1) rfl rfl (by decide) rfl (fun ls hl => ?_)
          refine lv_goto (tgt := 14) hx hb dX6_walls_47 (by decide) ?_
          exact ih19 _ _ _ _ (Option.some.inj h).symm ⟨hP, hD, hS, lv_sub hl [0, 1, 2, 3] rfl⟩
        · have h := (if_neg c26).symm.trans h
          refine lv_iconst (v := (1 : Int32)) hx hb dX6_walls_35 (by decide) ?_
          refine lv_iload_n hx hb dX6_walls_36 rfl (lv_at hl 0 rfl) ?_
          refine lv_ishl hx hb dX6_walls_37 ?_
          refine lv_goto (tgt := 42) hx hb dX6_walls_38 (by decide) ?_
          refine lv_ior hx hb dX6_walls_42 ?_
          refine lv_istore_n (lv' := [(2, .int (v5 ||| ((1 : Int32) <<< (v4 &&& 31)))), (3, .int v4), (0, .ref (q 0)), (1, .int p1)]) hx hb dX6_walls_43 rfl hl (by decide) rfl (fun ls hl => ?_)
          refine lv_iinc (v := (v4 + (1 : Int32))) (lv' := [(3, .int (v4 + (1 : Int32))), (2, .int (v5 ||| ((1 : Int32) <<< (v4 &&& 31)))), (0, .ref (q 0)), (1, .int p1)]) hx hb dX6_walls_44 hl (k := 1) rfl rfl (by decide) rfl (fun ls hl => ?_)
          refine lv_goto (tgt := 14) hx hb dX6_walls_47 (by decide) ?_
          exact ih19 _ _ _ _ (Option.some.inj h).symm ⟨hP, hD, hS, lv_sub hl [0, 1, 2, 3] rfl⟩
  · have h := (if_pos c3).symm.trans h
    refine lv_iconst (v := (-1 : Int32)) hx hb dX6_walls_8 (by decide) ?_
    obtain rfl := Option.some.inj h
    exact W.iret (v := (-1 : Int32)) hx hb hr (fun t ht hW => ⟨⟨(-1 : Int32), (), rfl, rfl, by rw [ht]; exact hP, hD⟩, hS.F ht⟩) hS.2.2 dX6_walls_9

-- X6_beside
theorem wmX6_beside_0 : (.fieldLink RX6 49 "SpaceWallsModel" "many" "I" : Cond) ∈ wsX6_beside := by decide +kernel
theorem wiX6_beside_X6 : ∀ w ∈ u_ws RX6 TX6 12, w ∈ wsX6_beside := by decide +kernel
set_option maxHeartbeats 8000000 in
set_option maxRecDepth 100000 in
theorem kX6_beside (l : Launch) (D : va_G) (q : Nat → Nat) (cI cJ cZ : ClassId) (tP sz : Nat) (wwd : Int32) (wmn : Int32) (wod : Int32) (wsm : Int32) (wnm : Int32) (wwl : (Nat → Int32)) (wif : (Nat → Int32)) (wev : (Nat → Int32)) (wne : (Nat → Int32)) (wsu : (Nat → Int64)) (wnx : (Nat → Int64)) (wta : (Nat → Int64)) (p1 : Int32) (p2 : Int32) (uu : (Int32 × Int32 × Int32 × Int32 × (Nat → Int32) × (Nat → Int32) × (Nat → Int32) × (Nat → Int64) × (Nat → Int64))) (h : fX6_beside wwd wmn wod wsm wnm wwl wif wev wne wsu wnx p1 p2 = some uu) : Met l yX6_beside wsX6_beside ({ frames := 6, cells := 0, slots := 0, locals := 146 }) (cPre D cI cJ cZ tP (WM_ q cI cJ cZ wwd wmn wod wsm wnm wwl wif wev wne wsu wnx wta) sz [.ref (q 0), .int p1, .int p2]) (cQi D (va_A (WM_ q cI cJ cZ wwd wmn wod wsm wnm wwl wif wev wne wsu wnx wta) sz) (WM_ q cI cJ cZ wwd wmn uu.2.1 uu.2.2.1 uu.2.2.2.1 wwl uu.2.2.2.2.1 uu.2.2.2.2.2.1 uu.2.2.2.2.2.2.1 uu.2.2.2.2.2.2.2.1 uu.2.2.2.2.2.2.2.2 wta) uu.1) 0 0 (va_A (WM_ q cI cJ cZ wwd wmn wod wsm wnm wwl wif wev wne wsu wnx wta) sz) := by
  refine Met.ofW (cc := cX6_beside) (maxL := 4) (ret := (some .int)) (by decide) rfl ?_
  intro p e s m args below meth c s₁ B hml hv
  obtain ⟨rfl, hsz, hP, hK, hN, hD0, hZ⟩ := hv
  have hx := B.exec
  have hb := B.bytes
  have hr := B.returns
  have hts := atoms_spec (ws := wsX6_beside) B.pre
  have hown : s.vm.findClass RX6 = some m.cls := findClass_of_methodNamed B.named
  have hlocks := B.notSynchronized
  subst hsz
  have hD := hD0.self (sz := s.heap.size)
  generalize hAe : va_A (WM_ q cI cJ cZ wwd wmn wod wsm wnm wwl wif wev wne wsu wnx wta) s.heap.size = A at hD hZ ⊢
  have hA : ∀ q : Nat, s.heap.size ≤ q → A q := fun q h => by rw [← hAe]; exact Or.inr h
  have hS : va_S A s.heap s.heap [] := va_S.rf
  have hl := lv_entry ([.ref (q 0), .int p1, .int p2]) (n := 4) (Nat.le_of_ble_eq_true rfl)
  rw [lg_entry_eq]
  generalize (lg_sl ([.ref (q 0), .int p1, .int p2]) ++ List.replicate (4 - (lg_sl ([.ref (q 0), .int p1, .int p2])).length) Slot.unset).toArray = ls at hl ⊢
  have hl : lv_has ls 4 [(0, .ref (q 0)), (1, .int p1), (2, .int p2)] := hl
  unfold fX6_beside at h
  refine lv_aload_n hx hb dX6_beside_0 rfl (lv_at hl 0 rfl) ?_
  refine lv_iload_n hx hb dX6_beside_1 rfl (lv_at hl 1 rfl) ?_
  obtain ⟨u1, e2, h⟩ := bd_some h
  refine k_i (va_runV (As := [.int p1]) (rest := []) ⟨hx, hb, hml, hown, hts⟩ (kX6_isRoom l D q cI cJ cZ tP s.heap.size wwd wmn wod wsm wnm wwl wif wev wne wsu wnx wta p1 u1 e2) (cwV 1 hts gX6_beside_X6_isRoom rfl rfl rfl (by decide +kernel) ⟨Nat.le_of_ble_eq_true rfl, Nat.le_of_ble_eq_true rfl⟩) ⟨cPre_blind, va_recv hK hP (ci := 6) (q0 := 0) rfl rfl, cPre_at hP hK hN hD hS hA hZ⟩ rfl rfl hl.1 rfl (lv_room (Nat.le_of_ble_eq_true rfl)) dX6_beside_2 ⟨Nat.le_of_ble_eq_true rfl, Nat.le_of_ble_eq_true rfl⟩) hD hS hA (fun H locs hP hD hS => ?_)
  refine lv_if_eq (tgt := 22) hx hb dX6_beside_5 (by decide) (fun c3 => ?_) (fun c3 => ?_)
  · have h := (if_pos c3).symm.trans h
    refine lv_iconst (v := (-1 : Int32)) hx hb dX6_beside_22 (by decide) ?_
    obtain rfl := Option.some.inj h
    exact W.iret (v := (-1 : Int32)) hx hb hr (fun t ht hW => ⟨⟨(-1 : Int32), (), rfl, rfl, by rw [ht]; exact hP, hD⟩, hS.F ht⟩) hS.2.2 dX6_beside_23
  · have h := (if_neg c3).symm.trans h
    refine lv_iload_n hx hb dX6_beside_8 rfl (lv_at hl 2 rfl) ?_
    refine lv_iconst (v := (0 : Int32)) hx hb dX6_beside_9 (by decide) ?_
    refine lv_aload_n hx hb dX6_beside_10 rfl (lv_at hl 0 rfl) ?_
    refine va_get (D := D) (ci := 6) (v := .int wmn) (C := RX6) (T := TX6) (N := 12) hx hb hts wiX6_beside_X6 hown hK hP 0 rfl rfl 1 (by decide) (hts _ wmX6_beside_0) (fun _ h9 => h9) rfl dX6_beside_11 ?_
    refine lv_iconst (v := (1 : Int32)) hx hb dX6_beside_14 (by decide) ?_
    refine lv_isub hx hb dX6_beside_15 ?_
    obtain ⟨u4, e5, h⟩ := bd_some h
    refine k_i0 (va_runS (As := [.int p2, .int (0 : Int32), .int (wmn - (1 : Int32))]) (rest := []) ⟨hx, hb, hml, hown, hts⟩ (kX6_in l D cI cJ cZ tP H.size  p2 (0 : Int32) (wmn - (1 : Int32)) u4 e5) (va_cwS 3 hts gX6_beside_X6_in rfl rfl rfl (by decide +kernel) ⟨Nat.le_of_ble_eq_true rfl, Nat.le_of_ble_eq_true rfl⟩) ⟨cPre_blind, cPre_at0 hK hN hS hA hZ⟩ rfl rfl hl.1 rfl (lv_room (Nat.le_of_ble_eq_true rfl)) dX6_beside_16 ⟨Nat.le_of_ble_eq_true rfl, Nat.le_of_ble_eq_true rfl⟩) hP hS hA (fun H locs hP hS => ?_)
    refine lv_if_ne (tgt := 24) hx hb dX6_beside_19 (by decide) (fun c6 => ?_) (fun c6 => ?_)
    · have h := (if_neg c6).symm.trans h
      refine lv_iload_n hx hb dX6_beside_24 rfl (lv_at hl 1 rfl) ?_
      refine lv_iload_n hx hb dX6_beside_25 rfl (lv_at hl 2 rfl) ?_
      obtain ⟨u7, e8, h⟩ := bd_some h
      refine k_i0 (va_runS (As := [.int p1, .int p2]) (rest := []) ⟨hx, hb, hml, hown, hts⟩ (kX6_across l D cI cJ cZ tP H.size  p1 p2 u7 e8) (va_cwS 2 hts gX6_beside_X6_across rfl rfl rfl (by decide +kernel) ⟨Nat.le_of_ble_eq_true rfl, Nat.le_of_ble_eq_true rfl⟩) ⟨cPre_blind, cPre_at0 hK hN hS hA hZ⟩ rfl rfl hl.1 rfl (lv_room (Nat.le_of_ble_eq_true rfl)) dX6_beside_26 ⟨Nat.le_of_ble_eq_true rfl, Nat.le_of_ble_eq_true rfl⟩) hP hS hA (fun H locs hP hS => ?_)
      refine lv_istore_n (lv' := [(3, .int u7), (0, .ref (q 0)), (1, .int p1), (2, .int p2)]) hx hb dX6_beside_29 rfl hl (by decide) rfl (fun ls hl => ?_)
      refine lv_aload_n hx hb dX6_beside_30 rfl (lv_at hl 1 rfl) ?_
      refine lv_iload_n hx hb dX6_beside_31 rfl (lv_at hl 0 rfl) ?_
      obtain ⟨u9, e10, h⟩ := bd_some h
      refine k_i (va_runV (As := [.int u7]) (rest := []) ⟨hx, hb, hml, hown, hts⟩ (kX6_isRoom l D q cI cJ cZ tP H.size wwd wmn u1.2.1 u1.2.2.1 u1.2.2.2.1 wwl u1.2.2.2.2.1 u1.2.2.2.2.2.1 u1.2.2.2.2.2.2.1 u1.2.2.2.2.2.2.2.1 u1.2.2.2.2.2.2.2.2 wta u7 u9 e10) (cwV 1 hts gX6_beside_X6_isRoom rfl rfl rfl (by decide +kernel) ⟨Nat.le_of_ble_eq_true rfl, Nat.le_of_ble_eq_true rfl⟩) ⟨cPre_blind, va_recv hK hP (ci := 6) (q0 := 0) rfl rfl, cPre_at hP hK hN hD hS hA hZ⟩ rfl rfl hl.1 rfl (lv_room (Nat.le_of_ble_eq_true rfl)) dX6_beside_32 ⟨Nat.le_of_ble_eq_true rfl, Nat.le_of_ble_eq_true rfl⟩) hD hS hA (fun H locs hP hD hS => ?_)
      refine lv_if_eq (tgt := 42) hx hb dX6_beside_35 (by decide) (fun c11 => ?_) (fun c11 => ?_)
      · have h := (if_pos c11).symm.trans h
        refine lv_iconst (v := (-1 : Int32)) hx hb dX6_beside_42 (by decide) ?_
        obtain rfl := Option.some.inj h
        exact W.iret (v := (-1 : Int32)) hx hb hr (fun t ht hW => ⟨⟨(-1 : Int32), (), rfl, rfl, by rw [ht]; exact hP, hD⟩, hS.F ht⟩) hS.2.2 dX6_beside_43
      · have h := (if_neg c11).symm.trans h
        refine lv_iload_n hx hb dX6_beside_38 rfl (lv_at hl 0 rfl) ?_
        refine lv_goto (tgt := 43) hx hb dX6_beside_39 (by decide) ?_
        obtain rfl := Option.some.inj h
        exact W.iret (v := u7) hx hb hr (fun t ht hW => ⟨⟨u7, (), rfl, rfl, by rw [ht]; exact hP, hD⟩, hS.F ht⟩) hS.2.2 dX6_beside_43
    · have h := (if_pos c6).symm.trans h
      refine lv_iconst (v := (-1 : Int32)) hx hb dX6_beside_22 (by decide) ?_
      obtain rfl := Option.some.inj h
      exact W.iret (v := (-1 : Int32)) hx hb hr (fun t ht hW => ⟨⟨(-1 : Int32), (), rfl, rfl, by rw [ht]; exact hP, hD⟩, hS.F ht⟩) hS.2.2 dX6_beside_23

-- X6_parted
theorem wmX6_parted_0 : (.fieldLink RX6 49 "SpaceWallsModel" "many" "I" : Cond) ∈ wsX6_parted := by decide +kernel
theorem wiX6_parted_X6 : ∀ w ∈ u_ws RX6 TX6 12, w ∈ wsX6_parted := by decide +kernel
set_option maxHeartbeats 8000000 in
set_option maxRecDepth 100000 in
theorem kX6_parted (l : Launch) (D : va_G) (q : Nat → Nat) (cI cJ cZ : ClassId) (tP sz : Nat) (wwd : Int32) (wmn : Int32) (wod : Int32) (wsm : Int32) (wnm : Int32) (wwl : (Nat → Int32)) (wif : (Nat → Int32)) (wev : (Nat → Int32)) (wne : (Nat → Int32)) (wsu : (Nat → Int64)) (wnx : (Nat → Int64)) (wta : (Nat → Int64)) (p1 : Int32) (p2 : Int32) (uu : Int32) (h : fX6_parted wmn p1 p2 = some uu) : Met l yX6_parted wsX6_parted ({ frames := 2, cells := 0, slots := 0, locals := 43 }) (cPre D cI cJ cZ tP (WM_ q cI cJ cZ wwd wmn wod wsm wnm wwl wif wev wne wsu wnx wta) sz [.ref (q 0), .int p1, .int p2]) (cQi D (va_A (WM_ q cI cJ cZ wwd wmn wod wsm wnm wwl wif wev wne wsu wnx wta) sz) (WM_ q cI cJ cZ wwd wmn wod wsm wnm wwl wif wev wne wsu wnx wta) uu) 0 0 (va_A (WM_ q cI cJ cZ wwd wmn wod wsm wnm wwl wif wev wne wsu wnx wta) sz) := by
  refine Met.ofW (cc := cX6_parted) (maxL := 5) (ret := (some .int)) (by decide) rfl ?_
  intro p e s m args below meth c s₁ B hml hv
  obtain ⟨rfl, hsz, hP, hK, hN, hD0, hZ⟩ := hv
  have hx := B.exec
  have hb := B.bytes
  have hr := B.returns
  have hts := atoms_spec (ws := wsX6_parted) B.pre
  have hown : s.vm.findClass RX6 = some m.cls := findClass_of_methodNamed B.named
  have hlocks := B.notSynchronized
  subst hsz
  have hD := hD0.self (sz := s.heap.size)
  generalize hAe : va_A (WM_ q cI cJ cZ wwd wmn wod wsm wnm wwl wif wev wne wsu wnx wta) s.heap.size = A at hD hZ ⊢
  have hA : ∀ q : Nat, s.heap.size ≤ q → A q := fun q h => by rw [← hAe]; exact Or.inr h
  have hS : va_S A s.heap s.heap [] := va_S.rf
  have hl := lv_entry ([.ref (q 0), .int p1, .int p2]) (n := 5) (Nat.le_of_ble_eq_true rfl)
  rw [lg_entry_eq]
  generalize (lg_sl ([.ref (q 0), .int p1, .int p2]) ++ List.replicate (5 - (lg_sl ([.ref (q 0), .int p1, .int p2])).length) Slot.unset).toArray = ls at hl ⊢
  have hl : lv_has ls 5 [(0, .ref (q 0)), (1, .int p1), (2, .int p2)] := hl
  unfold fX6_parted at h
  refine lv_iconst (v := (0 : Int32)) hx hb dX6_parted_0 (by decide) ?_
  refine lv_istore_n (lv' := [(3, .int (0 : Int32)), (0, .ref (q 0)), (1, .int p1), (2, .int p2)]) hx hb dX6_parted_1 rfl hl (by decide) rfl (fun ls hl => ?_)
  refine lv_iconst (v := (0 : Int32)) hx hb dX6_parted_2 (by decide) ?_
  refine lv_istore (lv' := [(4, .int (0 : Int32)), (3, .int (0 : Int32)), (0, .ref (q 0)), (1, .int p1), (2, .int p2)]) hx hb dX6_parted_3 hl (by decide) rfl (fun ls hl => ?_)
  obtain ⟨u3, e4, h⟩ := bd_some h
  refine W_leave (P := fun (y : (Int32 × Int32)) H locs ls => u3 = y ∧ va_P D vwCl (WM_ q cI cJ cZ wwd wmn wod wsm wnm wwl wif wev wne wsu wnx wta) H ∧ va_D A (WM_ q cI cJ cZ wwd wmn wod wsm wnm wwl wif wev wne wsu wnx wta) ∧ va_S A s.heap H locs ∧ lv_has ls 5 [(4, .int y.1), (3, .int y.2), (0, .ref (q 0)), (1, .int p1), (2, .int p2)]) (g := fun ls => F0 m 46 ls []) ?_ ?_
  · intro y H locs ls hq
    obtain ⟨hy, hP, hD, hS, hl⟩ := hq
    subst hy
    have hl : lv_has ls 5 [(4, .int u3.1), (3, .int u3.2), (0, .ref (q 0)), (1, .int p1), (2, .int p2)] := hl
    refine lv_iload_n hx hb dX6_parted_46 rfl (lv_at hl 1 rfl) ?_
    obtain rfl := Option.some.inj h
    exact W.iret (v := u3.2) hx hb hr (fun t ht hW => ⟨⟨u3.2, (), rfl, rfl, by rw [ht]; exact hP, hD⟩, hS.F ht⟩) hS.2.2 dX6_parted_47
  · intro K5
    refine W_lp (body := (fun (st : (Int32 × Int32)) => fX6_parted_L5 wmn p1 p2 st.1 st.2)) (P := fun (st : (Int32 × Int32)) H locs ls => va_P D vwCl (WM_ q cI cJ cZ wwd wmn wod wsm wnm wwl wif wev wne wsu wnx wta) H ∧ va_D A (WM_ q cI cJ cZ wwd wmn wod wsm wnm wwl wif wev wne wsu wnx wta) ∧ va_S A s.heap H locs ∧ lv_has ls 5 [(4, .int st.1), (3, .int st.2), (0, .ref (q 0)), (1, .int p1), (2, .int p2)]) (g := fun _ ls => F0 m 5 ls []) (r := u3) ?_ fu_ ((0 : Int32), (0 : Int32)) _ _ _ e4 ⟨hP, hD, hS, lv_sub hl [0, 1, 2, 3, 4] rfl⟩
    intro st xx9 H locs ls h hq ih8 hR7
    obtain ⟨hP, hD, hS, hl⟩ := hq
    obtain ⟨v1, v2⟩ := st
    have hP : va_P D vwCl (WM_ q cI cJ cZ wwd wmn wod wsm wnm wwl wif wev wne wsu wnx wta) H := hP
    have hD : va_D A (WM_ q cI cJ cZ wwd wmn wod wsm wnm wwl wif wev wne wsu wnx wta) := hD
    have hl : lv_has ls 5 [(4, .int v1), (3, .int v2), (0, .ref (q 0)), (1, .int p1), (2, .int p2)] := hl
    have h : fX6_parted_L5 wmn p1 p2 v1 v2 = some xx9 := h
    unfold fX6_parted_L5 at h
    refine lv_iload hx hb dX6_parted_5 (lv_at hl 0 rfl) ?_
    refine lv_aload_n hx hb dX6_parted_7 rfl (lv_at hl 2 rfl) ?_
    refine va_get (D := D) (ci := 6) (v := .int wmn) (C := RX6) (T := TX6) (N := 12) hx hb hts wiX6_parted_X6 hown hK hP 0 rfl rfl 1 (by decide) (hts _ wmX6_parted_0) (fun _ h9 => h9) rfl dX6_parted_8 ?_
    refine lv_icmp_ge (tgt := 46) hx hb dX6_parted_11 (by decide) (fun c10 => ?_) (fun c10 => ?_)
    · have h := (if_pos c10).symm.trans h
      exact K5 _ _ _ _ ⟨(hR7 _ (Option.some.inj h).symm).symm, hP, hD, hS, lv_sub hl [0, 1, 2, 3, 4] rfl⟩
    · have h := (if_neg c10).symm.trans h
      refine lv_iload_n hx hb dX6_parted_14 rfl (lv_at hl 1 rfl) ?_
      refine lv_iload_n hx hb dX6_parted_15 rfl (lv_at hl 3 rfl) ?_
      refine lv_iload hx hb dX6_parted_16 (lv_at hl 0 rfl) ?_
      obtain ⟨u11, e12, h⟩ := bd_some h
      refine k_i0 (va_runS (As := [.int p1, .int v1]) (rest := [.int v2]) ⟨hx, hb, hml, hown, hts⟩ (kX6_sign l D cI cJ cZ tP H.size  p1 v1 u11 e12) (va_cwS 2 hts gX6_parted_X6_sign rfl rfl rfl (by decide +kernel) ⟨Nat.le_of_ble_eq_true rfl, Nat.le_of_ble_eq_true rfl⟩) ⟨cPre_blind, cPre_at0 hK hN hS hA hZ⟩ rfl rfl hl.1 rfl (lv_room (Nat.le_of_ble_eq_true rfl)) dX6_parted_18 ⟨Nat.le_of_ble_eq_true rfl, Nat.le_of_ble_eq_true rfl⟩) hP hS hA (fun H locs hP hS => ?_)
      refine lv_iload_n hx hb dX6_parted_21 rfl (lv_at hl 4 rfl) ?_
      refine lv_iload hx hb dX6_parted_22 (lv_at hl 0 rfl) ?_
      obtain ⟨u13, e14, h⟩ := bd_some h
      refine k_i0 (va_runS (As := [.int p2, .int v1]) (rest := [.int u11, .int v2]) ⟨hx, hb, hml, hown, hts⟩ (kX6_sign l D cI cJ cZ tP H.size  p2 v1 u13 e14) (va_cwS 2 hts gX6_parted_X6_sign rfl rfl rfl (by decide +kernel) ⟨Nat.le_of_ble_eq_true rfl, Nat.le_of_ble_eq_true rfl⟩) ⟨cPre_blind, cPre_at0 hK hN hS hA hZ⟩ rfl rfl hl.1 rfl (lv_room (Nat.le_of_ble_eq_true rfl)) dX6_parted_24 ⟨Nat.le_of_ble_eq_true rfl, Nat.le_of_ble_eq_true rfl⟩) hP hS hA (fun H locs hP hS => ?_)
      refine lv_icmp_eq (tgt := 37) hx hb dX6_parted_27 (by decide) (fun c15 => ?_) (fun c15 => ?_)
      · have h := (if_pos c15).symm.trans h
        refine lv_iconst (v := (0 : Int32)) hx hb dX6_parted_37 (by decide) ?_
        refine lv_ior hx hb dX6_parted_38 ?_
        refine lv_istore_n (lv' := [(3, .int (v2 ||| (0 : Int32))), (4, .int v1), (0, .ref (q 0)), (1, .int p1), (2, .int p2)]) hx hb dX6_parted_39 rfl hl (by decide) rfl (fun ls hl => ?_)
        refine lv_iinc (v := (v1 + (1 : Int32))) (lv' := [(4, .int (v1 + (1 : Int32))), (3, .int (v2 ||| (0 : Int32))), (0, .ref (q 0)), (1, .int p1), (2, .int p2)]) hx hb dX6_parted_40 hl (k := 1) rfl rfl (by decide) rfl (fun ls hl => ?_)
        refine lv_goto (tgt := 5) hx hb dX6_parted_43 (by decide) ?_
        exact ih8 _ _ _ _ (Option.some.inj h).symm ⟨hP, hD, hS, lv_sub hl [0, 1, 2, 3, 4] rfl⟩
      · have h := (if_neg c15).symm.trans h
        refine lv_iconst (v := (1 : Int32)) hx hb dX6_parted_30 (by decide) ?_
        refine lv_iload hx hb dX6_parted_31 (lv_at hl 0 rfl) ?_
        refine lv_ishl hx hb dX6_parted_33 ?_
        refine lv_goto (tgt := 38) hx hb dX6_parted_34 (by decide) ?_
        refine lv_ior hx hb dX6_parted_38 ?_
        refine lv_istore_n (lv' := [(3, .int (v2 ||| ((1 : Int32) <<< (v1 &&& 31)))), (4, .int v1), (0, .ref (q 0)), (1, .int p1), (2, .int p2)]) hx hb dX6_parted_39 rfl hl (by decide) rfl (fun ls hl => ?_)
        refine lv_iinc (v := (v1 + (1 : Int32))) (lv' := [(4, .int (v1 + (1 : Int32))), (3, .int (v2 ||| ((1 : Int32) <<< (v1 &&& 31)))), (0, .ref (q 0)), (1, .int p1), (2, .int p2)]) hx hb dX6_parted_40 hl (k := 1) rfl rfl (by decide) rfl (fun ls hl => ?_)
        refine lv_goto (tgt := 5) hx hb dX6_parted_43 (by decide) ?_
        exact ih8 _ _ _ _ (Option.some.inj h).symm ⟨hP, hD, hS, lv_sub hl [0, 1, 2, 3, 4] rfl⟩

-- X6_way
set_option maxHeartbeats 8000000 in
set_option maxRecDepth 100000 in
theorem kX6_way (l : Launch) (D : va_G) (q : Nat → Nat) (cI cJ cZ : ClassId) (tP sz : Nat) (wwd : Int32) (wmn : Int32) (wod : Int32) (wsm : Int32) (wnm : Int32) (wwl : (Nat → Int32)) (wif : (Nat → Int32)) (wev : (Nat → Int32)) (wne : (Nat → Int32)) (wsu : (Nat → Int64)) (wnx : (Nat → Int64)) (wta : (Nat → Int64)) (p1 : Int32) (p2 : Int32) (uu : (Int32 × Int32 × Int32 × Int32 × (Nat → Int32) × (Nat → Int32) × (Nat → Int32) × (Nat → Int64) × (Nat → Int64))) (h : fX6_way wwd wmn wod wsm wnm wwl wif wev wne wsu wnx p1 p2 = some uu) : Met l yX6_way wsX6_way ({ frames := 6, cells := 0, slots := 0, locals := 146 }) (cPre D cI cJ cZ tP (WM_ q cI cJ cZ wwd wmn wod wsm wnm wwl wif wev wne wsu wnx wta) sz [.ref (q 0), .int p1, .int p2]) (cQi D (va_A (WM_ q cI cJ cZ wwd wmn wod wsm wnm wwl wif wev wne wsu wnx wta) sz) (WM_ q cI cJ cZ wwd wmn uu.2.1 uu.2.2.1 uu.2.2.2.1 wwl uu.2.2.2.2.1 uu.2.2.2.2.2.1 uu.2.2.2.2.2.2.1 uu.2.2.2.2.2.2.2.1 uu.2.2.2.2.2.2.2.2 wta) uu.1) 0 0 (va_A (WM_ q cI cJ cZ wwd wmn wod wsm wnm wwl wif wev wne wsu wnx wta) sz) := by
  refine Met.ofW (cc := cX6_way) (maxL := 3) (ret := (some .int)) (by decide) rfl ?_
  intro p e s m args below meth c s₁ B hml hv
  obtain ⟨rfl, hsz, hP, hK, hN, hD0, hZ⟩ := hv
  have hx := B.exec
  have hb := B.bytes
  have hr := B.returns
  have hts := atoms_spec (ws := wsX6_way) B.pre
  have hown : s.vm.findClass RX6 = some m.cls := findClass_of_methodNamed B.named
  have hlocks := B.notSynchronized
  subst hsz
  have hD := hD0.self (sz := s.heap.size)
  generalize hAe : va_A (WM_ q cI cJ cZ wwd wmn wod wsm wnm wwl wif wev wne wsu wnx wta) s.heap.size = A at hD hZ ⊢
  have hA : ∀ q : Nat, s.heap.size ≤ q → A q := fun q h => by rw [← hAe]; exact Or.inr h
  have hS : va_S A s.heap s.heap [] := va_S.rf
  have hl := lv_entry ([.ref (q 0), .int p1, .int p2]) (n := 3) (Nat.le_of_ble_eq_true rfl)
  rw [lg_entry_eq]
  generalize (lg_sl ([.ref (q 0), .int p1, .int p2]) ++ List.replicate (3 - (lg_sl ([.ref (q 0), .int p1, .int p2])).length) Slot.unset).toArray = ls at hl ⊢
  have hl : lv_has ls 3 [(0, .ref (q 0)), (1, .int p1), (2, .int p2)] := hl
  unfold fX6_way at h
  refine lv_aload_n hx hb dX6_way_0 rfl (lv_at hl 0 rfl) ?_
  refine lv_iload_n hx hb dX6_way_1 rfl (lv_at hl 1 rfl) ?_
  obtain ⟨u1, e2, h⟩ := bd_some h
  refine k_i (va_runV (As := [.int p1]) (rest := []) ⟨hx, hb, hml, hown, hts⟩ (kX6_isRoom l D q cI cJ cZ tP s.heap.size wwd wmn wod wsm wnm wwl wif wev wne wsu wnx wta p1 u1 e2) (cwV 1 hts gX6_way_X6_isRoom rfl rfl rfl (by decide +kernel) ⟨Nat.le_of_ble_eq_true rfl, Nat.le_of_ble_eq_true rfl⟩) ⟨cPre_blind, va_recv hK hP (ci := 6) (q0 := 0) rfl rfl, cPre_at hP hK hN hD hS hA hZ⟩ rfl rfl hl.1 rfl (lv_room (Nat.le_of_ble_eq_true rfl)) dX6_way_2 ⟨Nat.le_of_ble_eq_true rfl, Nat.le_of_ble_eq_true rfl⟩) hD hS hA (fun H locs hP hD hS => ?_)
  refine lv_if_eq (tgt := 28) hx hb dX6_way_5 (by decide) (fun c3 => ?_) (fun c3 => ?_)
  · have h := (if_pos c3).symm.trans h
    refine lv_iconst (v := (-1 : Int32)) hx hb dX6_way_28 (by decide) ?_
    obtain rfl := Option.some.inj h
    exact W.iret (v := (-1 : Int32)) hx hb hr (fun t ht hW => ⟨⟨(-1 : Int32), (), rfl, rfl, by rw [ht]; exact hP, hD⟩, hS.F ht⟩) hS.2.2 dX6_way_29
  · have h := (if_neg c3).symm.trans h
    refine lv_aload_n hx hb dX6_way_8 rfl (lv_at hl 0 rfl) ?_
    refine lv_iload_n hx hb dX6_way_9 rfl (lv_at hl 2 rfl) ?_
    obtain ⟨u4, e5, h⟩ := bd_some h
    refine k_i (va_runV (As := [.int p2]) (rest := []) ⟨hx, hb, hml, hown, hts⟩ (kX6_isRoom l D q cI cJ cZ tP H.size wwd wmn u1.2.1 u1.2.2.1 u1.2.2.2.1 wwl u1.2.2.2.2.1 u1.2.2.2.2.2.1 u1.2.2.2.2.2.2.1 u1.2.2.2.2.2.2.2.1 u1.2.2.2.2.2.2.2.2 wta p2 u4 e5) (cwV 1 hts gX6_way_X6_isRoom rfl rfl rfl (by decide +kernel) ⟨Nat.le_of_ble_eq_true rfl, Nat.le_of_ble_eq_true rfl⟩) ⟨cPre_blind, va_recv hK hP (ci := 6) (q0 := 0) rfl rfl, cPre_at hP hK hN hD hS hA hZ⟩ rfl rfl hl.1 rfl (lv_room (Nat.le_of_ble_eq_true rfl)) dX6_way_10 ⟨Nat.le_of_ble_eq_true rfl, Nat.le_of_ble_eq_true rfl⟩) hD hS hA (fun H locs hP hD hS => ?_)
    refine lv_if_eq (tgt := 28) hx hb dX6_way_13 (by decide) (fun c6 => ?_) (fun c6 => ?_)
    · have h := (if_pos c6).symm.trans h
      refine lv_iconst (v := (-1 : Int32)) hx hb dX6_way_28 (by decide) ?_
      obtain rfl := Option.some.inj h
      exact W.iret (v := (-1 : Int32)) hx hb hr (fun t ht hW => ⟨⟨(-1 : Int32), (), rfl, rfl, by rw [ht]; exact hP, hD⟩, hS.F ht⟩) hS.2.2 dX6_way_29
    · have h := (if_neg c6).symm.trans h
      refine lv_aload_n hx hb dX6_way_16 rfl (lv_at hl 0 rfl) ?_
      refine lv_iload_n hx hb dX6_way_17 rfl (lv_at hl 1 rfl) ?_
      refine lv_iload_n hx hb dX6_way_18 rfl (lv_at hl 2 rfl) ?_
      obtain ⟨u7, e8, h⟩ := bd_some h
      refine k_i (va_runV (As := [.int p1, .int p2]) (rest := []) ⟨hx, hb, hml, hown, hts⟩ (kX6_parted l D q cI cJ cZ tP H.size wwd wmn u4.2.1 u4.2.2.1 u4.2.2.2.1 wwl u4.2.2.2.2.1 u4.2.2.2.2.2.1 u4.2.2.2.2.2.2.1 u4.2.2.2.2.2.2.2.1 u4.2.2.2.2.2.2.2.2 wta p1 p2 u7 e8) (cwV 2 hts gX6_way_X6_parted rfl rfl rfl (by decide +kernel) ⟨Nat.le_of_ble_eq_true rfl, Nat.le_of_ble_eq_true rfl⟩) ⟨cPre_blind, va_recv hK hP (ci := 6) (q0 := 0) rfl rfl, cPre_at hP hK hN hD hS hA hZ⟩ rfl rfl hl.1 rfl (lv_room (Nat.le_of_ble_eq_true rfl)) dX6_way_19 ⟨Nat.le_of_ble_eq_true rfl, Nat.le_of_ble_eq_true rfl⟩) hD hS hA (fun H locs hP hD hS => ?_)
      obtain ⟨u9, e10, h⟩ := bd_some h
      refine k_i0 (va_runS (As := [.int u7]) (rest := []) ⟨hx, hb, hml, hown, hts⟩ (kX6_bits l D cI cJ cZ tP H.size  u7 u9 e10) (va_cwS 1 hts gX6_way_X6_bits rfl rfl rfl (by decide +kernel) ⟨Nat.le_of_ble_eq_true rfl, Nat.le_of_ble_eq_true rfl⟩) ⟨cPre_blind, cPre_at0 hK hN hS hA hZ⟩ rfl rfl hl.1 rfl (lv_room (Nat.le_of_ble_eq_true rfl)) dX6_way_22 ⟨Nat.le_of_ble_eq_true rfl, Nat.le_of_ble_eq_true rfl⟩) hP hS hA (fun H locs hP hS => ?_)
      refine lv_goto (tgt := 29) hx hb dX6_way_25 (by decide) ?_
      obtain rfl := Option.some.inj h
      exact W.iret (v := u9) hx hb hr (fun t ht hW => ⟨⟨u9, (), rfl, rfl, by rw [ht]; exact hP, hD⟩, hS.F ht⟩) hS.2.2 dX6_way_29

-- X6_step
theorem wmX6_step_0 : (.fieldLink RX6 49 "SpaceWallsModel" "many" "I" : Cond) ∈ wsX6_step := by decide +kernel
theorem wiX6_step_X6 : ∀ w ∈ u_ws RX6 TX6 12, w ∈ wsX6_step := by decide +kernel
set_option maxHeartbeats 8000000 in
set_option maxRecDepth 100000 in
theorem kX6_step (l : Launch) (D : va_G) (q : Nat → Nat) (cI cJ cZ : ClassId) (tP sz : Nat) (wwd : Int32) (wmn : Int32) (wod : Int32) (wsm : Int32) (wnm : Int32) (wwl : (Nat → Int32)) (wif : (Nat → Int32)) (wev : (Nat → Int32)) (wne : (Nat → Int32)) (wsu : (Nat → Int64)) (wnx : (Nat → Int64)) (wta : (Nat → Int64)) (p1 : Int32) (p2 : Int32) (uu : (Int32 × Int32 × Int32 × Int32 × (Nat → Int32) × (Nat → Int32) × (Nat → Int32) × (Nat → Int64) × (Nat → Int64))) (h : fX6_step wwd wmn wod wsm wnm wwl wif wev wne wsu wnx p1 p2 = some uu) : Met l yX6_step wsX6_step ({ frames := 7, cells := 0, slots := 0, locals := 169 }) (cPre D cI cJ cZ tP (WM_ q cI cJ cZ wwd wmn wod wsm wnm wwl wif wev wne wsu wnx wta) sz [.ref (q 0), .int p1, .int p2]) (cQi D (va_A (WM_ q cI cJ cZ wwd wmn wod wsm wnm wwl wif wev wne wsu wnx wta) sz) (WM_ q cI cJ cZ wwd wmn uu.2.1 uu.2.2.1 uu.2.2.2.1 wwl uu.2.2.2.2.1 uu.2.2.2.2.2.1 uu.2.2.2.2.2.2.1 uu.2.2.2.2.2.2.2.1 uu.2.2.2.2.2.2.2.2 wta) uu.1) 0 0 (va_A (WM_ q cI cJ cZ wwd wmn wod wsm wnm wwl wif wev wne wsu wnx wta) sz) := by
  refine Met.ofW (cc := cX6_step) (maxL := 5) (ret := (some .int)) (by decide) rfl ?_
  intro p e s m args below meth c s₁ B hml hv
  obtain ⟨rfl, hsz, hP, hK, hN, hD0, hZ⟩ := hv
  have hx := B.exec
  have hb := B.bytes
  have hr := B.returns
  have hts := atoms_spec (ws := wsX6_step) B.pre
  have hown : s.vm.findClass RX6 = some m.cls := findClass_of_methodNamed B.named
  have hlocks := B.notSynchronized
  subst hsz
  have hD := hD0.self (sz := s.heap.size)
  generalize hAe : va_A (WM_ q cI cJ cZ wwd wmn wod wsm wnm wwl wif wev wne wsu wnx wta) s.heap.size = A at hD hZ ⊢
  have hA : ∀ q : Nat, s.heap.size ≤ q → A q := fun q h => by rw [← hAe]; exact Or.inr h
  have hS : va_S A s.heap s.heap [] := va_S.rf
  have hl := lv_entry ([.ref (q 0), .int p1, .int p2]) (n := 5) (Nat.le_of_ble_eq_true rfl)
  rw [lg_entry_eq]
  generalize (lg_sl ([.ref (q 0), .int p1, .int p2]) ++ List.replicate (5 - (lg_sl ([.ref (q 0), .int p1, .int p2])).length) Slot.unset).toArray = ls at hl ⊢
  have hl : lv_has ls 5 [(0, .ref (q 0)), (1, .int p1), (2, .int p2)] := hl
  unfold fX6_step at h
  refine lv_aload_n hx hb dX6_step_0 rfl (lv_at hl 0 rfl) ?_
  refine lv_iload_n hx hb dX6_step_1 rfl (lv_at hl 1 rfl) ?_
  obtain ⟨u1, e2, h⟩ := bd_some h
  refine k_i (va_runV (As := [.int p1]) (rest := []) ⟨hx, hb, hml, hown, hts⟩ (kX6_isRoom l D q cI cJ cZ tP s.heap.size wwd wmn wod wsm wnm wwl wif wev wne wsu wnx wta p1 u1 e2) (cwV 1 hts gX6_step_X6_isRoom rfl rfl rfl (by decide +kernel) ⟨Nat.le_of_ble_eq_true rfl, Nat.le_of_ble_eq_true rfl⟩) ⟨cPre_blind, va_recv hK hP (ci := 6) (q0 := 0) rfl rfl, cPre_at hP hK hN hD hS hA hZ⟩ rfl rfl hl.1 rfl (lv_room (Nat.le_of_ble_eq_true rfl)) dX6_step_2 ⟨Nat.le_of_ble_eq_true rfl, Nat.le_of_ble_eq_true rfl⟩) hD hS hA (fun H locs hP hD hS => ?_)
  refine lv_if_eq (tgt := 16) hx hb dX6_step_5 (by decide) (fun c3 => ?_) (fun c3 => ?_)
  · have h := (if_pos c3).symm.trans h
    refine lv_iconst (v := (-1 : Int32)) hx hb dX6_step_16 (by decide) ?_
    obtain rfl := Option.some.inj h
    exact W.iret (v := (-1 : Int32)) hx hb hr (fun t ht hW => ⟨⟨(-1 : Int32), (), rfl, rfl, by rw [ht]; exact hP, hD⟩, hS.F ht⟩) hS.2.2 dX6_step_17
  · have h := (if_neg c3).symm.trans h
    refine lv_aload_n hx hb dX6_step_8 rfl (lv_at hl 0 rfl) ?_
    refine lv_iload_n hx hb dX6_step_9 rfl (lv_at hl 2 rfl) ?_
    obtain ⟨u4, e5, h⟩ := bd_some h
    refine k_i (va_runV (As := [.int p2]) (rest := []) ⟨hx, hb, hml, hown, hts⟩ (kX6_isRoom l D q cI cJ cZ tP H.size wwd wmn u1.2.1 u1.2.2.1 u1.2.2.2.1 wwl u1.2.2.2.2.1 u1.2.2.2.2.2.1 u1.2.2.2.2.2.2.1 u1.2.2.2.2.2.2.2.1 u1.2.2.2.2.2.2.2.2 wta p2 u4 e5) (cwV 1 hts gX6_step_X6_isRoom rfl rfl rfl (by decide +kernel) ⟨Nat.le_of_ble_eq_true rfl, Nat.le_of_ble_eq_true rfl⟩) ⟨cPre_blind, va_recv hK hP (ci := 6) (q0 := 0) rfl rfl, cPre_at hP hK hN hD hS hA hZ⟩ rfl rfl hl.1 rfl (lv_room (Nat.le_of_ble_eq_true rfl)) dX6_step_10 ⟨Nat.le_of_ble_eq_true rfl, Nat.le_of_ble_eq_true rfl⟩) hD hS hA (fun H locs hP hD hS => ?_)
    refine lv_if_ne (tgt := 18) hx hb dX6_step_13 (by decide) (fun c6 => ?_) (fun c6 => ?_)
    · have h := (if_neg c6).symm.trans h
      refine lv_aload_n hx hb dX6_step_18 rfl (lv_at hl 0 rfl) ?_
      refine lv_iload_n hx hb dX6_step_19 rfl (lv_at hl 1 rfl) ?_
      refine lv_iload_n hx hb dX6_step_20 rfl (lv_at hl 2 rfl) ?_
      obtain ⟨u7, e8, h⟩ := bd_some h
      refine k_i (va_runV (As := [.int p1, .int p2]) (rest := []) ⟨hx, hb, hml, hown, hts⟩ (kX6_parted l D q cI cJ cZ tP H.size wwd wmn u4.2.1 u4.2.2.1 u4.2.2.2.1 wwl u4.2.2.2.2.1 u4.2.2.2.2.2.1 u4.2.2.2.2.2.2.1 u4.2.2.2.2.2.2.2.1 u4.2.2.2.2.2.2.2.2 wta p1 p2 u7 e8) (cwV 2 hts gX6_step_X6_parted rfl rfl rfl (by decide +kernel) ⟨Nat.le_of_ble_eq_true rfl, Nat.le_of_ble_eq_true rfl⟩) ⟨cPre_blind, va_recv hK hP (ci := 6) (q0 := 0) rfl rfl, cPre_at hP hK hN hD hS hA hZ⟩ rfl rfl hl.1 rfl (lv_room (Nat.le_of_ble_eq_true rfl)) dX6_step_21 ⟨Nat.le_of_ble_eq_true rfl, Nat.le_of_ble_eq_true rfl⟩) hD hS hA (fun H locs hP hD hS => ?_)
      refine lv_aload_n hx hb dX6_step_24 rfl (lv_at hl 0 rfl) ?_
      refine lv_iload_n hx hb dX6_step_25 rfl (lv_at hl 1 rfl) ?_
      obtain ⟨u9, e10, h⟩ := bd_some h
      refine k_i (va_runV (As := [.int p1]) (rest := [.int u7]) ⟨hx, hb, hml, hown, hts⟩ (kX6_walls l D q cI cJ cZ tP H.size wwd wmn u4.2.1 u4.2.2.1 u4.2.2.2.1 wwl u4.2.2.2.2.1 u4.2.2.2.2.2.1 u4.2.2.2.2.2.2.1 u4.2.2.2.2.2.2.2.1 u4.2.2.2.2.2.2.2.2 wta p1 u9 e10) (cwV 1 hts gX6_step_X6_walls rfl rfl rfl (by decide +kernel) ⟨Nat.le_of_ble_eq_true rfl, Nat.le_of_ble_eq_true rfl⟩) ⟨cPre_blind, va_recv hK hP (ci := 6) (q0 := 0) rfl rfl, cPre_at hP hK hN hD hS hA hZ⟩ rfl rfl hl.1 rfl (lv_room (Nat.le_of_ble_eq_true rfl)) dX6_step_26 ⟨Nat.le_of_ble_eq_true rfl, Nat.le_of_ble_eq_true rfl⟩) hD hS hA (fun H locs hP hD hS => ?_)
      refine lv_iand hx hb dX6_step_29 ?_
      refine lv_istore_n (lv' := [(3, .int (u7 &&& u9.1)), (0, .ref (q 0)), (1, .int p1), (2, .int p2)]) hx hb dX6_step_30 rfl hl (by decide) rfl (fun ls hl => ?_)
      refine lv_iconst (v := (0 : Int32)) hx hb dX6_step_31 (by decide) ?_
      refine lv_istore (lv' := [(4, .int (0 : Int32)), (3, .int (u7 &&& u9.1)), (0, .ref (q 0)), (1, .int p1), (2, .int p2)]) hx hb dX6_step_32 hl (by decide) rfl (fun ls hl => ?_)
      obtain ⟨u12, e13, h⟩ := bd_some h
      have KR15 : ∀ y17, Sum.inr y17 = u12 → y17 = uu := by
        intro y17 hy
        subst hy
        have h := se_inr h
        exact Option.some.inj h
      refine W_leave (P := fun (y : Int32) H locs ls => u12 = Sum.inl y ∧ va_P D vwCl (WM_ q cI cJ cZ wwd wmn u9.2.1 u9.2.2.1 u9.2.2.2.1 wwl u9.2.2.2.2.1 u9.2.2.2.2.2.1 u9.2.2.2.2.2.2.1 u9.2.2.2.2.2.2.2.1 u9.2.2.2.2.2.2.2.2 wta) H ∧ va_D A (WM_ q cI cJ cZ wwd wmn u9.2.1 u9.2.2.1 u9.2.2.2.1 wwl u9.2.2.2.2.1 u9.2.2.2.2.2.1 u9.2.2.2.2.2.2.1 u9.2.2.2.2.2.2.2.1 u9.2.2.2.2.2.2.2.2 wta) ∧ va_S A s.heap H locs ∧ lv_has ls 5 [(4, .int y), (3, .int (u7 &&& u9.1)), (0, .ref (q 0)), (1, .int p1), (2, .int p2)]) (g := fun ls => F0 m 62 ls []) ?_ ?_
      · intro x16 H locs ls hq
        obtain ⟨hy, hP, hD, hS, hl⟩ := hq
        subst hy
        have h := se_inl h
        refine lv_iconst (v := (-1 : Int32)) hx hb dX6_step_62 (by decide) ?_
        obtain rfl := Option.some.inj h
        exact W.iret (v := (-1 : Int32)) hx hb hr (fun t ht hW => ⟨⟨(-1 : Int32), (), rfl, rfl, by rw [ht]; exact hP, hD⟩, hS.F ht⟩) hS.2.2 dX6_step_63
      · intro K14
        refine W_lp (body := (fun (st : Int32) => fX6_step_L34 wmn u7 u9 st)) (P := fun (st : Int32) H locs ls => va_P D vwCl (WM_ q cI cJ cZ wwd wmn u9.2.1 u9.2.2.1 u9.2.2.2.1 wwl u9.2.2.2.2.1 u9.2.2.2.2.2.1 u9.2.2.2.2.2.2.1 u9.2.2.2.2.2.2.2.1 u9.2.2.2.2.2.2.2.2 wta) H ∧ va_D A (WM_ q cI cJ cZ wwd wmn u9.2.1 u9.2.2.1 u9.2.2.2.1 wwl u9.2.2.2.2.1 u9.2.2.2.2.2.1 u9.2.2.2.2.2.2.1 u9.2.2.2.2.2.2.2.1 u9.2.2.2.2.2.2.2.2 wta) ∧ va_S A s.heap H locs ∧ lv_has ls 5 [(4, .int st), (3, .int (u7 &&& u9.1)), (0, .ref (q 0)), (1, .int p1), (2, .int p2)]) (g := fun _ ls => F0 m 34 ls []) (r := u12) ?_ fu_ (0 : Int32) _ _ _ e13 ⟨hP, hD, hS, lv_sub hl [0, 1, 2, 3, 4] rfl⟩
        intro v11 xx20 H locs ls h hq ih19 hR18
        obtain ⟨hP, hD, hS, hl⟩ := hq
        have hP : va_P D vwCl (WM_ q cI cJ cZ wwd wmn u9.2.1 u9.2.2.1 u9.2.2.2.1 wwl u9.2.2.2.2.1 u9.2.2.2.2.2.1 u9.2.2.2.2.2.2.1 u9.2.2.2.2.2.2.2.1 u9.2.2.2.2.2.2.2.2 wta) H := hP
        have hD : va_D A (WM_ q cI cJ cZ wwd wmn u9.2.1 u9.2.2.1 u9.2.2.2.1 wwl u9.2.2.2.2.1 u9.2.2.2.2.2.1 u9.2.2.2.2.2.2.1 u9.2.2.2.2.2.2.2.1 u9.2.2.2.2.2.2.2.2 wta) := hD
        have hl : lv_has ls 5 [(4, .int v11), (3, .int (u7 &&& u9.1)), (0, .ref (q 0)), (1, .int p1), (2, .int p2)] := hl
        have h : fX6_step_L34 wmn u7 u9 v11 = some xx20 := h
        unfold fX6_step_L34 at h
        refine lv_iload hx hb dX6_step_34 (lv_at hl 0 rfl) ?_
        refine lv_aload_n hx hb dX6_step_36 rfl (lv_at hl 2 rfl) ?_
        refine va_get (D := D) (ci := 6) (v := .int wmn) (C := RX6) (T := TX6) (N := 12) hx hb hts wiX6_step_X6 hown hK hP 0 rfl rfl 1 (by decide) (hts _ wmX6_step_0) (fun _ h9 => h9) rfl dX6_step_37 ?_
        refine lv_icmp_ge (tgt := 62) hx hb dX6_step_40 (by decide) (fun c21 => ?_) (fun c21 => ?_)
        · have h := (if_pos c21).symm.trans h
          exact K14 _ _ _ _ ⟨(hR18 _ (Option.some.inj h).symm).symm, hP, hD, hS, lv_sub hl [0, 1, 2, 3, 4] rfl⟩
        · have h := (if_neg c21).symm.trans h
          refine lv_iload_n hx hb dX6_step_43 rfl (lv_at hl 1 rfl) ?_
          refine lv_iload hx hb dX6_step_44 (lv_at hl 0 rfl) ?_
          refine lv_ishr hx hb dX6_step_46 ?_
          refine lv_iconst (v := (1 : Int32)) hx hb dX6_step_47 (by decide) ?_
          refine lv_iand hx hb dX6_step_48 ?_
          refine lv_iconst (v := (1 : Int32)) hx hb dX6_step_49 (by decide) ?_
          refine lv_icmp_ne (tgt := 56) hx hb dX6_step_50 (by decide) (fun c22 => ?_) (fun c22 => ?_)
          · have h := (if_neg c22).symm.trans h
            refine lv_iinc (v := (v11 + (1 : Int32))) (lv' := [(4, .int (v11 + (1 : Int32))), (3, .int (u7 &&& u9.1)), (0, .ref (q 0)), (1, .int p1), (2, .int p2)]) hx hb dX6_step_56 hl (k := 0) rfl rfl (by decide) rfl (fun ls hl => ?_)
            refine lv_goto (tgt := 34) hx hb dX6_step_59 (by decide) ?_
            exact ih19 _ _ _ _ (Option.some.inj h).symm ⟨hP, hD, hS, lv_sub hl [0, 1, 2, 3, 4] rfl⟩
          · have h := (if_pos c22).symm.trans h
            refine lv_iload hx hb dX6_step_53 (lv_at hl 0 rfl) ?_
            have hu := KR15 _ (hR18 _ (Option.some.inj h).symm)
            subst hu
            exact W.iret (v := v11) hx hb hr (fun t ht hW => ⟨⟨v11, (), rfl, rfl, by rw [ht]; exact hP, hD⟩, hS.F ht⟩) hS.2.2 dX6_step_55
    · have h := (if_pos c6).symm.trans h
      refine lv_iconst (v := (-1 : Int32)) hx hb dX6_step_16 (by decide) ?_
      obtain rfl := Option.some.inj h
      exact W.iret (v := (-1 : Int32)) hx hb hr (fun t ht hW => ⟨⟨(-1 : Int32), (), rfl, rfl, by rw [ht]; exact hP, hD⟩, hS.F ht⟩) hS.2.2 dX6_step_17

-- X6_far
theorem wmX6_far_0 : (.fieldLink RX6 49 "SpaceWallsModel" "many" "I" : Cond) ∈ wsX6_far := by decide +kernel
theorem wiX6_far_X6 : ∀ w ∈ u_ws RX6 TX6 12, w ∈ wsX6_far := by decide +kernel
set_option maxHeartbeats 8000000 in
set_option maxRecDepth 100000 in
theorem kX6_far (l : Launch) (D : va_G) (q : Nat → Nat) (cI cJ cZ : ClassId) (tP sz : Nat) (wwd : Int32) (wmn : Int32) (wod : Int32) (wsm : Int32) (wnm : Int32) (wwl : (Nat → Int32)) (wif : (Nat → Int32)) (wev : (Nat → Int32)) (wne : (Nat → Int32)) (wsu : (Nat → Int64)) (wnx : (Nat → Int64)) (wta : (Nat → Int64))  (uu : (Int32 × Int32 × Int32 × Int32 × (Nat → Int32) × (Nat → Int32) × (Nat → Int32) × (Nat → Int64) × (Nat → Int64))) (h : fX6_far wwd wmn wod wsm wnm wwl wif wev wne wsu wnx = some uu) : Met l yX6_far wsX6_far ({ frames := 6, cells := 0, slots := 0, locals := 146 }) (cPre D cI cJ cZ tP (WM_ q cI cJ cZ wwd wmn wod wsm wnm wwl wif wev wne wsu wnx wta) sz [.ref (q 0)]) (cQi D (va_A (WM_ q cI cJ cZ wwd wmn wod wsm wnm wwl wif wev wne wsu wnx wta) sz) (WM_ q cI cJ cZ wwd wmn uu.2.1 uu.2.2.1 uu.2.2.2.1 wwl uu.2.2.2.2.1 uu.2.2.2.2.2.1 uu.2.2.2.2.2.2.1 uu.2.2.2.2.2.2.2.1 uu.2.2.2.2.2.2.2.2 wta) uu.1) 0 0 (va_A (WM_ q cI cJ cZ wwd wmn wod wsm wnm wwl wif wev wne wsu wnx wta) sz) := by
  refine Met.ofW (cc := cX6_far) (maxL := 5) (ret := (some .int)) (by decide) rfl ?_
  intro p e s m args below meth c s₁ B hml hv
  obtain ⟨rfl, hsz, hP, hK, hN, hD0, hZ⟩ := hv
  have hx := B.exec
  have hb := B.bytes
  have hr := B.returns
  have hts := atoms_spec (ws := wsX6_far) B.pre
  have hown : s.vm.findClass RX6 = some m.cls := findClass_of_methodNamed B.named
  have hlocks := B.notSynchronized
  subst hsz
  have hD := hD0.self (sz := s.heap.size)
  generalize hAe : va_A (WM_ q cI cJ cZ wwd wmn wod wsm wnm wwl wif wev wne wsu wnx wta) s.heap.size = A at hD hZ ⊢
  have hA : ∀ q : Nat, s.heap.size ≤ q → A q := fun q h => by rw [← hAe]; exact Or.inr h
  have hS : va_S A s.heap s.heap [] := va_S.rf
  have hl := lv_entry ([.ref (q 0)]) (n := 5) (Nat.le_of_ble_eq_true rfl)
  rw [lg_entry_eq]
  generalize (lg_sl ([.ref (q 0)]) ++ List.replicate (5 - (lg_sl ([.ref (q 0)])).length) Slot.unset).toArray = ls at hl ⊢
  have hl : lv_has ls 5 [(0, .ref (q 0))] := hl
  unfold fX6_far at h
  refine lv_iconst (v := (0 : Int32)) hx hb dX6_far_0 (by decide) ?_
  refine lv_istore_n (lv' := [(1, .int (0 : Int32)), (0, .ref (q 0))]) hx hb dX6_far_1 rfl hl (by decide) rfl (fun ls hl => ?_)
  refine lv_iconst (v := (0 : Int32)) hx hb dX6_far_2 (by decide) ?_
  refine lv_istore_n (lv' := [(2, .int (0 : Int32)), (1, .int (0 : Int32)), (0, .ref (q 0))]) hx hb dX6_far_3 rfl hl (by decide) rfl (fun ls hl => ?_)
  obtain ⟨u11, e12, h⟩ := bd_some h
  refine W_leave (P := fun (y : (Int32 × Int32 × Int32 × Int32 × Int32 × (Nat → Int32) × (Nat → Int32) × (Nat → Int32) × (Nat → Int64) × (Nat → Int64))) H locs ls => u11 = y ∧ va_P D vwCl (WM_ q cI cJ cZ wwd wmn y.2.2.1 y.2.2.2.1 y.2.2.2.2.1 wwl y.2.2.2.2.2.1 y.2.2.2.2.2.2.1 y.2.2.2.2.2.2.2.1 y.2.2.2.2.2.2.2.2.1 y.2.2.2.2.2.2.2.2.2 wta) H ∧ va_D A (WM_ q cI cJ cZ wwd wmn y.2.2.1 y.2.2.2.1 y.2.2.2.2.1 wwl y.2.2.2.2.2.1 y.2.2.2.2.2.2.1 y.2.2.2.2.2.2.2.1 y.2.2.2.2.2.2.2.2.1 y.2.2.2.2.2.2.2.2.2 wta) ∧ va_S A s.heap H locs ∧ lv_has ls 5 [(2, .int y.1), (1, .int y.2.1), (0, .ref (q 0))]) (g := fun ls => F0 m 76 ls []) ?_ ?_
  · intro y H locs ls hq
    obtain ⟨hy, hP, hD, hS, hl⟩ := hq
    subst hy
    have hl : lv_has ls 5 [(2, .int u11.1), (1, .int u11.2.1), (0, .ref (q 0))] := hl
    refine lv_iload_n hx hb dX6_far_76 rfl (lv_at hl 1 rfl) ?_
    obtain rfl := Option.some.inj h
    exact W.iret (v := u11.2.1) hx hb hr (fun t ht hW => ⟨⟨u11.2.1, (), rfl, rfl, by rw [ht]; exact hP, hD⟩, hS.F ht⟩) hS.2.2 dX6_far_77
  · intro K13
    refine W_lp (body := (fun (st : (Int32 × Int32 × Int32 × Int32 × Int32 × (Nat → Int32) × (Nat → Int32) × (Nat → Int32) × (Nat → Int64) × (Nat → Int64))) => fX6_far_L4 wmn wwd wwl st.1 st.2.1 st.2.2.1 st.2.2.2.1 st.2.2.2.2.1 st.2.2.2.2.2.1 st.2.2.2.2.2.2.1 st.2.2.2.2.2.2.2.1 st.2.2.2.2.2.2.2.2.1 st.2.2.2.2.2.2.2.2.2)) (P := fun (st : (Int32 × Int32 × Int32 × Int32 × Int32 × (Nat → Int32) × (Nat → Int32) × (Nat → Int32) × (Nat → Int64) × (Nat → Int64))) H locs ls => va_P D vwCl (WM_ q cI cJ cZ wwd wmn st.2.2.1 st.2.2.2.1 st.2.2.2.2.1 wwl st.2.2.2.2.2.1 st.2.2.2.2.2.2.1 st.2.2.2.2.2.2.2.1 st.2.2.2.2.2.2.2.2.1 st.2.2.2.2.2.2.2.2.2 wta) H ∧ va_D A (WM_ q cI cJ cZ wwd wmn st.2.2.1 st.2.2.2.1 st.2.2.2.2.1 wwl st.2.2.2.2.2.1 st.2.2.2.2.2.2.1 st.2.2.2.2.2.2.2.1 st.2.2.2.2.2.2.2.2.1 st.2.2.2.2.2.2.2.2.2 wta) ∧ va_S A s.heap H locs ∧ lv_has ls 5 [(2, .int st.1), (1, .int st.2.1), (0, .ref (q 0))]) (g := fun _ ls => F0 m 4 ls []) (r := u11) ?_ fu_ ((0 : Int32), (0 : Int32), wod, wsm, wnm, wif, wev, wne, wsu, wnx) _ _ _ e12 ⟨hP, hD, hS, lv_sub hl [0, 1, 2] rfl⟩
    intro st xx17 H locs ls h hq ih16 hR15
    obtain ⟨hP, hD, hS, hl⟩ := hq
    obtain ⟨v1, v2, v3, v4, v5, v6, v7, v8, v9, v10⟩ := st
    have hP : va_P D vwCl (WM_ q cI cJ cZ wwd wmn v3 v4 v5 wwl v6 v7 v8 v9 v10 wta) H := hP
    have hD : va_D A (WM_ q cI cJ cZ wwd wmn v3 v4 v5 wwl v6 v7 v8 v9 v10 wta) := hD
    have hl : lv_has ls 5 [(2, .int v1), (1, .int v2), (0, .ref (q 0))] := hl
    have h : fX6_far_L4 wmn wwd wwl v1 v2 v3 v4 v5 v6 v7 v8 v9 v10 = some xx17 := h
    unfold fX6_far_L4 at h
    refine lv_iload_n hx hb dX6_far_4 rfl (lv_at hl 0 rfl) ?_
    refine lv_aload_n hx hb dX6_far_5 rfl (lv_at hl 2 rfl) ?_
    refine va_get (D := D) (ci := 6) (v := .int wmn) (C := RX6) (T := TX6) (N := 12) hx hb hts wiX6_far_X6 hown hK hP 0 rfl rfl 1 (by decide) (hts _ wmX6_far_0) (fun _ h9 => h9) rfl dX6_far_6 ?_
    obtain ⟨u18, e19, h⟩ := bd_some h
    refine k_i0 (va_runS (As := [.int wmn]) (rest := [.int v1]) ⟨hx, hb, hml, hown, hts⟩ (kX6_power l D cI cJ cZ tP H.size  wmn u18 e19) (va_cwS 1 hts gX6_far_X6_power rfl rfl rfl (by decide +kernel) ⟨Nat.le_of_ble_eq_true rfl, Nat.le_of_ble_eq_true rfl⟩) ⟨cPre_blind, cPre_at0 hK hN hS hA hZ⟩ rfl rfl hl.1 rfl (lv_room (Nat.le_of_ble_eq_true rfl)) dX6_far_9 ⟨Nat.le_of_ble_eq_true rfl, Nat.le_of_ble_eq_true rfl⟩) hP hS hA (fun H locs hP hS => ?_)
    refine lv_icmp_ge (tgt := 76) hx hb dX6_far_12 (by decide) (fun c20 => ?_) (fun c20 => ?_)
    · have h := (if_pos c20).symm.trans h
      exact K13 _ _ _ _ ⟨(hR15 _ (Option.some.inj h).symm).symm, hP, hD, hS, lv_sub hl [0, 1, 2] rfl⟩
    · have h := (if_neg c20).symm.trans h
      refine lv_aload_n hx hb dX6_far_15 rfl (lv_at hl 2 rfl) ?_
      refine lv_iload_n hx hb dX6_far_16 rfl (lv_at hl 0 rfl) ?_
      obtain ⟨u21, e22, h⟩ := bd_some h
      refine k_i (va_runV (As := [.int v1]) (rest := []) ⟨hx, hb, hml, hown, hts⟩ (kX6_isRoom l D q cI cJ cZ tP H.size wwd wmn v3 v4 v5 wwl v6 v7 v8 v9 v10 wta v1 u21 e22) (cwV 1 hts gX6_far_X6_isRoom rfl rfl rfl (by decide +kernel) ⟨Nat.le_of_ble_eq_true rfl, Nat.le_of_ble_eq_true rfl⟩) ⟨cPre_blind, va_recv hK hP (ci := 6) (q0 := 0) rfl rfl, cPre_at hP hK hN hD hS hA hZ⟩ rfl rfl hl.1 rfl (lv_room (Nat.le_of_ble_eq_true rfl)) dX6_far_17 ⟨Nat.le_of_ble_eq_true rfl, Nat.le_of_ble_eq_true rfl⟩) hD hS hA (fun H locs hP hD hS => ?_)
      refine lv_if_ne (tgt := 26) hx hb dX6_far_20 (by decide) (fun c23 => ?_) (fun c23 => ?_)
      · have h := (if_neg c23).symm.trans h
        refine lv_iconst (v := (0 : Int32)) hx hb dX6_far_26 (by decide) ?_
        refine lv_istore_n (lv' := [(3, .int (0 : Int32)), (2, .int v1), (1, .int v2), (0, .ref (q 0))]) hx hb dX6_far_27 rfl hl (by decide) rfl (fun ls hl => ?_)
        obtain ⟨u34, e35, h⟩ := bd_some h
        refine W_leave (P := fun (y : (Int32 × Int32 × Int32 × Int32 × Int32 × (Nat → Int32) × (Nat → Int32) × (Nat → Int32) × (Nat → Int64) × (Nat → Int64))) H locs ls => u34 = y ∧ va_P D vwCl (WM_ q cI cJ cZ wwd wmn y.2.2.1 y.2.2.2.1 y.2.2.2.2.1 wwl y.2.2.2.2.2.1 y.2.2.2.2.2.2.1 y.2.2.2.2.2.2.2.1 y.2.2.2.2.2.2.2.2.1 y.2.2.2.2.2.2.2.2.2 wta) H ∧ va_D A (WM_ q cI cJ cZ wwd wmn y.2.2.1 y.2.2.2.1 y.2.2.2.2.1 wwl y.2.2.2.2.2.1 y.2.2.2.2.2.2.1 y.2.2.2.2.2.2.2.1 y.2.2.2.2.2.2.2.2.1 y.2.2.2.2.2.2.2.2.2 wta) ∧ va_S A s.heap H locs ∧ lv_has ls 5 [(3, .int y.1), (2, .int v1), (1, .int y.2.1), (0, .ref (q 0))]) (g := fun ls => F0 m 70 ls []) ?_ ?_
        · intro y H locs ls hq
          obtain ⟨hy, hP, hD, hS, hl⟩ := hq
          subst hy
          have hl : lv_has ls 5 [(3, .int u34.1), (2, .int v1), (1, .int u34.2.1), (0, .ref (q 0))] := hl
          refine lv_iinc (v := (v1 + (1 : Int32))) (lv' := [(2, .int (v1 + (1 : Int32))), (3, .int u34.1), (1, .int u34.2.1), (0, .ref (q 0))]) hx hb dX6_far_70 hl (k := 1) rfl rfl (by decide) rfl (fun ls hl => ?_)
          refine lv_goto (tgt := 4) hx hb dX6_far_73 (by decide) ?_
          exact ih16 _ _ _ _ (Option.some.inj h).symm ⟨hP, hD, hS, lv_sub hl [0, 2, 3] rfl⟩
        · intro K36
          refine W_lp (body := (fun (st : (Int32 × Int32 × Int32 × Int32 × Int32 × (Nat → Int32) × (Nat → Int32) × (Nat → Int32) × (Nat → Int64) × (Nat → Int64))) => fX6_far_L28 v1 wwd wmn wwl st.1 st.2.1 st.2.2.1 st.2.2.2.1 st.2.2.2.2.1 st.2.2.2.2.2.1 st.2.2.2.2.2.2.1 st.2.2.2.2.2.2.2.1 st.2.2.2.2.2.2.2.2.1 st.2.2.2.2.2.2.2.2.2)) (P := fun (st : (Int32 × Int32 × Int32 × Int32 × Int32 × (Nat → Int32) × (Nat → Int32) × (Nat → Int32) × (Nat → Int64) × (Nat → Int64))) H locs ls => va_P D vwCl (WM_ q cI cJ cZ wwd wmn st.2.2.1 st.2.2.2.1 st.2.2.2.2.1 wwl st.2.2.2.2.2.1 st.2.2.2.2.2.2.1 st.2.2.2.2.2.2.2.1 st.2.2.2.2.2.2.2.2.1 st.2.2.2.2.2.2.2.2.2 wta) H ∧ va_D A (WM_ q cI cJ cZ wwd wmn st.2.2.1 st.2.2.2.1 st.2.2.2.2.1 wwl st.2.2.2.2.2.1 st.2.2.2.2.2.2.1 st.2.2.2.2.2.2.2.1 st.2.2.2.2.2.2.2.2.1 st.2.2.2.2.2.2.2.2.2 wta) ∧ va_S A s.heap H locs ∧ lv_has ls 5 [(3, .int st.1), (2, .int v1), (1, .int st.2.1), (0, .ref (q 0))]) (g := fun _ ls => F0 m 28 ls []) (r := u34) ?_ fu_ ((0 : Int32), v2, u21.2.1, u21.2.2.1, u21.2.2.2.1, u21.2.2.2.2.1, u21.2.2.2.2.2.1, u21.2.2.2.2.2.2.1, u21.2.2.2.2.2.2.2.1, u21.2.2.2.2.2.2.2.2) _ _ _ e35 ⟨hP, hD, hS, lv_sub hl [0, 1, 2, 3] rfl⟩
          intro st xx40 H locs ls h hq ih39 hR38
          obtain ⟨hP, hD, hS, hl⟩ := hq
          obtain ⟨v24, v25, v26, v27, v28, v29, v30, v31, v32, v33⟩ := st
          have hP : va_P D vwCl (WM_ q cI cJ cZ wwd wmn v26 v27 v28 wwl v29 v30 v31 v32 v33 wta) H := hP
          have hD : va_D A (WM_ q cI cJ cZ wwd wmn v26 v27 v28 wwl v29 v30 v31 v32 v33 wta) := hD
          have hl : lv_has ls 5 [(3, .int v24), (2, .int v1), (1, .int v25), (0, .ref (q 0))] := hl
          have h : fX6_far_L28 v1 wwd wmn wwl v24 v25 v26 v27 v28 v29 v30 v31 v32 v33 = some xx40 := h
          unfold fX6_far_L28 at h
          refine lv_iload_n hx hb dX6_far_28 rfl (lv_at hl 0 rfl) ?_
          refine lv_iload_n hx hb dX6_far_29 rfl (lv_at hl 1 rfl) ?_
          refine lv_icmp_ge (tgt := 70) hx hb dX6_far_30 (by decide) (fun c41 => ?_) (fun c41 => ?_)
          · have h := (if_pos c41).symm.trans h
            exact K36 _ _ _ _ ⟨(hR38 _ (Option.some.inj h).symm).symm, hP, hD, hS, lv_sub hl [0, 1, 2, 3] rfl⟩
          · have h := (if_neg c41).symm.trans h
            refine lv_aload_n hx hb dX6_far_33 rfl (lv_at hl 3 rfl) ?_
            refine lv_iload_n hx hb dX6_far_34 rfl (lv_at hl 0 rfl) ?_
            obtain ⟨u42, e43, h⟩ := bd_some h
            refine k_i (va_runV (As := [.int v24]) (rest := []) ⟨hx, hb, hml, hown, hts⟩ (kX6_isRoom l D q cI cJ cZ tP H.size wwd wmn v26 v27 v28 wwl v29 v30 v31 v32 v33 wta v24 u42 e43) (cwV 1 hts gX6_far_X6_isRoom rfl rfl rfl (by decide +kernel) ⟨Nat.le_of_ble_eq_true rfl, Nat.le_of_ble_eq_true rfl⟩) ⟨cPre_blind, va_recv hK hP (ci := 6) (q0 := 0) rfl rfl, cPre_at hP hK hN hD hS hA hZ⟩ rfl rfl hl.1 rfl (lv_room (Nat.le_of_ble_eq_true rfl)) dX6_far_35 ⟨Nat.le_of_ble_eq_true rfl, Nat.le_of_ble_eq_true rfl⟩) hD hS hA (fun H locs hP hD hS => ?_)
            refine lv_if_ne (tgt := 44) hx hb dX6_far_38 (by decide) (fun c44 => ?_) (fun c44 => ?_)
            · have h := (if_neg c44).symm.trans h
              refine lv_aload_n hx hb dX6_far_44 rfl (lv_at hl 3 rfl) ?_
              refine lv_iload_n hx hb dX6_far_45 rfl (lv_at hl 1 rfl) ?_
              refine lv_iload_n hx hb dX6_far_46 rfl (lv_at hl 0 rfl) ?_
              obtain ⟨u45, e46, h⟩ := bd_some h
              refine k_i (va_runV (As := [.int v1, .int v24]) (rest := []) ⟨hx, hb, hml, hown, hts⟩ (kX6_parted l D q cI cJ cZ tP H.size wwd wmn u42.2.1 u42.2.2.1 u42.2.2.2.1 wwl u42.2.2.2.2.1 u42.2.2.2.2.2.1 u42.2.2.2.2.2.2.1 u42.2.2.2.2.2.2.2.1 u42.2.2.2.2.2.2.2.2 wta v1 v24 u45 e46) (cwV 2 hts gX6_far_X6_parted rfl rfl rfl (by decide +kernel) ⟨Nat.le_of_ble_eq_true rfl, Nat.le_of_ble_eq_true rfl⟩) ⟨cPre_blind, va_recv hK hP (ci := 6) (q0 := 0) rfl rfl, cPre_at hP hK hN hD hS hA hZ⟩ rfl rfl hl.1 rfl (lv_room (Nat.le_of_ble_eq_true rfl)) dX6_far_47 ⟨Nat.le_of_ble_eq_true rfl, Nat.le_of_ble_eq_true rfl⟩) hD hS hA (fun H locs hP hD hS => ?_)
              obtain ⟨u47, e48, h⟩ := bd_some h
              refine k_i0 (va_runS (As := [.int u45]) (rest := []) ⟨hx, hb, hml, hown, hts⟩ (kX6_bits l D cI cJ cZ tP H.size  u45 u47 e48) (va_cwS 1 hts gX6_far_X6_bits rfl rfl rfl (by decide +kernel) ⟨Nat.le_of_ble_eq_true rfl, Nat.le_of_ble_eq_true rfl⟩) ⟨cPre_blind, cPre_at0 hK hN hS hA hZ⟩ rfl rfl hl.1 rfl (lv_room (Nat.le_of_ble_eq_true rfl)) dX6_far_50 ⟨Nat.le_of_ble_eq_true rfl, Nat.le_of_ble_eq_true rfl⟩) hP hS hA (fun H locs hP hS => ?_)
              refine lv_istore (lv' := [(4, .int u47), (3, .int v24), (2, .int v1), (1, .int v25), (0, .ref (q 0))]) hx hb dX6_far_53 hl (by decide) rfl (fun ls hl => ?_)
              refine lv_iload hx hb dX6_far_55 (lv_at hl 0 rfl) ?_
              refine lv_iload_n hx hb dX6_far_57 rfl (lv_at hl 3 rfl) ?_
              refine lv_icmp_le (tgt := 64) hx hb dX6_far_58 (by decide) (fun c49 => ?_) (fun c49 => ?_)
              · have h := (if_pos c49).symm.trans h
                refine lv_iinc (v := (v24 + (1 : Int32))) (lv' := [(3, .int (v24 + (1 : Int32))), (4, .int u47), (2, .int v1), (1, .int v25), (0, .ref (q 0))]) hx hb dX6_far_64 hl (k := 1) rfl rfl (by decide) rfl (fun ls hl => ?_)
                refine lv_goto (tgt := 28) hx hb dX6_far_67 (by decide) ?_
                exact ih39 _ _ _ _ (Option.some.inj h).symm ⟨hP, hD, hS, lv_sub hl [0, 2, 3, 4] rfl⟩
              · have h := (if_neg c49).symm.trans h
                refine lv_iload hx hb dX6_far_61 (lv_at hl 0 rfl) ?_
                refine lv_istore_n (lv' := [(1, .int u47), (4, .int u47), (3, .int v24), (2, .int v1), (0, .ref (q 0))]) hx hb dX6_far_63 rfl hl (by decide) rfl (fun ls hl => ?_)
                refine lv_iinc (v := (v24 + (1 : Int32))) (lv' := [(3, .int (v24 + (1 : Int32))), (1, .int u47), (4, .int u47), (2, .int v1), (0, .ref (q 0))]) hx hb dX6_far_64 hl (k := 2) rfl rfl (by decide) rfl (fun ls hl => ?_)
                refine lv_goto (tgt := 28) hx hb dX6_far_67 (by decide) ?_
                exact ih39 _ _ _ _ (Option.some.inj h).symm ⟨hP, hD, hS, lv_sub hl [0, 3, 1, 4] rfl⟩
            · have h := (if_pos c44).symm.trans h
              refine lv_goto (tgt := 64) hx hb dX6_far_41 (by decide) ?_
              refine lv_iinc (v := (v24 + (1 : Int32))) (lv' := [(3, .int (v24 + (1 : Int32))), (2, .int v1), (1, .int v25), (0, .ref (q 0))]) hx hb dX6_far_64 hl (k := 0) rfl rfl (by decide) rfl (fun ls hl => ?_)
              refine lv_goto (tgt := 28) hx hb dX6_far_67 (by decide) ?_
              exact ih39 _ _ _ _ (Option.some.inj h).symm ⟨hP, hD, hS, lv_sub hl [0, 1, 2, 3] rfl⟩
      · have h := (if_pos c23).symm.trans h
        refine lv_goto (tgt := 70) hx hb dX6_far_23 (by decide) ?_
        refine lv_iinc (v := (v1 + (1 : Int32))) (lv' := [(2, .int (v1 + (1 : Int32))), (1, .int v2), (0, .ref (q 0))]) hx hb dX6_far_70 hl (k := 0) rfl rfl (by decide) rfl (fun ls hl => ?_)
        refine lv_goto (tgt := 4) hx hb dX6_far_73 (by decide) ?_
        exact ih16 _ _ _ _ (Option.some.inj h).symm ⟨hP, hD, hS, lv_sub hl [0, 1, 2] rfl⟩

-- X6_left
theorem wmX6_left_0 : (.fieldLink RX6 37 "SpaceWallsModel" "wide" "I" : Cond) ∈ wsX6_left := by decide +kernel
theorem wmX6_left_1 : (.fieldLink RX6 49 "SpaceWallsModel" "many" "I" : Cond) ∈ wsX6_left := by decide +kernel
theorem wiX6_left_X6 : ∀ w ∈ u_ws RX6 TX6 12, w ∈ wsX6_left := by decide +kernel
set_option maxHeartbeats 8000000 in
set_option maxRecDepth 100000 in
theorem kX6_left (l : Launch) (D : va_G) (q : Nat → Nat) (cI cJ cZ : ClassId) (tP sz : Nat) (wwd : Int32) (wmn : Int32) (wod : Int32) (wsm : Int32) (wnm : Int32) (wwl : (Nat → Int32)) (wif : (Nat → Int32)) (wev : (Nat → Int32)) (wne : (Nat → Int32)) (wsu : (Nat → Int64)) (wnx : (Nat → Int64)) (wta : (Nat → Int64)) (p1 : Int32) (uu : Int32) (h : fX6_left wwd wmn wwl p1 = some uu) : Met l yX6_left wsX6_left ({ frames := 1, cells := 0, slots := 0, locals := 22 }) (cPre D cI cJ cZ tP (WM_ q cI cJ cZ wwd wmn wod wsm wnm wwl wif wev wne wsu wnx wta) sz [.ref (q 0), .int p1]) (cQi D (va_A (WM_ q cI cJ cZ wwd wmn wod wsm wnm wwl wif wev wne wsu wnx wta) sz) (WM_ q cI cJ cZ wwd wmn wod wsm wnm wwl wif wev wne wsu wnx wta) uu) 0 0 (va_A (WM_ q cI cJ cZ wwd wmn wod wsm wnm wwl wif wev wne wsu wnx wta) sz) := by
  refine Met.ofW (cc := cX6_left) (maxL := 10) (ret := (some .int)) (by decide) rfl ?_
  intro p e s m args below meth c s₁ B hml hv
  obtain ⟨rfl, hsz, hP, hK, hN, hD0, hZ⟩ := hv
  have hx := B.exec
  have hb := B.bytes
  have hr := B.returns
  have hts := atoms_spec (ws := wsX6_left) B.pre
  have hown : s.vm.findClass RX6 = some m.cls := findClass_of_methodNamed B.named
  have hlocks := B.notSynchronized
  subst hsz
  have hD := hD0.self (sz := s.heap.size)
  generalize hAe : va_A (WM_ q cI cJ cZ wwd wmn wod wsm wnm wwl wif wev wne wsu wnx wta) s.heap.size = A at hD hZ ⊢
  have hA : ∀ q : Nat, s.heap.size ≤ q → A q := fun q h => by rw [← hAe]; exact Or.inr h
  have hS : va_S A s.heap s.heap [] := va_S.rf
  have hl := lv_entry ([.ref (q 0), .int p1]) (n := 10) (Nat.le_of_ble_eq_true rfl)
  rw [lg_entry_eq]
  generalize (lg_sl ([.ref (q 0), .int p1]) ++ List.replicate (10 - (lg_sl ([.ref (q 0), .int p1])).length) Slot.unset).toArray = ls at hl ⊢
  have hl : lv_has ls 10 [(0, .ref (q 0)), (1, .int p1)] := hl
  unfold fX6_left at h
  refine lv_iload_n hx hb dX6_left_0 rfl (lv_at hl 1 rfl) ?_
  refine lv_iconst (v := (2 : Int32)) hx hb dX6_left_1 (by decide) ?_
  refine lv_bipush (v := (31 : Int32)) hx hb dX6_left_2 (by decide) ?_
  obtain ⟨u1, e2, h⟩ := bd_some h
  refine k_i0 (va_runS (As := [.int p1, .int (2 : Int32), .int (31 : Int32)]) (rest := []) ⟨hx, hb, hml, hown, hts⟩ (kX6_in l D cI cJ cZ tP s.heap.size  p1 (2 : Int32) (31 : Int32) u1 e2) (va_cwS 3 hts gX6_left_X6_in rfl rfl rfl (by decide +kernel) ⟨Nat.le_of_ble_eq_true rfl, Nat.le_of_ble_eq_true rfl⟩) ⟨cPre_blind, cPre_at0 hK hN hS hA hZ⟩ rfl rfl hl.1 rfl (lv_room (Nat.le_of_ble_eq_true rfl)) dX6_left_4 ⟨Nat.le_of_ble_eq_true rfl, Nat.le_of_ble_eq_true rfl⟩) hP hS hA (fun H locs hP hS => ?_)
  refine lv_if_ne (tgt := 12) hx hb dX6_left_7 (by decide) (fun c3 => ?_) (fun c3 => ?_)
  · have h := (if_neg c3).symm.trans h
    refine lv_iconst (v := (2 : Int32)) hx hb dX6_left_12 (by decide) ?_
    refine lv_istore_n (lv' := [(2, .int (2 : Int32)), (0, .ref (q 0)), (1, .int p1)]) hx hb dX6_left_13 rfl hl (by decide) rfl (fun ls hl => ?_)
    obtain ⟨u5, e6, h⟩ := bd_some h
    have KR8 : ∀ y10, Sum.inr y10 = u5 → y10 = uu := by
      intro y10 hy
      subst hy
      have h := se_inr h
      exact Option.some.inj h
    refine W_leave (P := fun (y : Int32) H locs ls => u5 = Sum.inl y ∧ va_P D vwCl (WM_ q cI cJ cZ wwd wmn wod wsm wnm wwl wif wev wne wsu wnx wta) H ∧ va_D A (WM_ q cI cJ cZ wwd wmn wod wsm wnm wwl wif wev wne wsu wnx wta) ∧ va_S A s.heap H locs ∧ lv_has ls 10 [(2, .int y), (0, .ref (q 0)), (1, .int p1)]) (g := fun ls => F0 m 33 ls []) ?_ ?_
    · intro x9 H locs ls hq
      obtain ⟨hy, hP, hD, hS, hl⟩ := hq
      subst hy
      have h := se_inl h
      refine lv_aload_n hx hb dX6_left_33 rfl (lv_at hl 1 rfl) ?_
      refine va_get (D := D) (ci := 6) (v := .int wwd) (C := RX6) (T := TX6) (N := 12) hx hb hts wiX6_left_X6 hown hK hP 0 rfl rfl 0 (by decide) (hts _ wmX6_left_0) (fun _ h9 => h9) rfl dX6_left_34 ?_
      refine lv_iconst (v := (1 : Int32)) hx hb dX6_left_37 (by decide) ?_
      obtain ⟨u11, e12, h⟩ := bd_some h
      refine W_join (P := fun H locs ls => va_P D vwCl (WM_ q cI cJ cZ wwd wmn wod wsm wnm wwl wif wev wne wsu wnx wta) H ∧ va_D A (WM_ q cI cJ cZ wwd wmn wod wsm wnm wwl wif wev wne wsu wnx wta) ∧ va_S A s.heap H locs ∧ lv_has ls 10 [(2, .int x9), (0, .ref (q 0)), (1, .int p1)]) (g := fun ls => F0 m 64 ls [.int u11]) ?_ ?_
      · intro H locs ls hq
        obtain ⟨hP, hD, hS, hl⟩ := hq
        refine lv_istore_n (lv' := [(2, .int u11), (0, .ref (q 0)), (1, .int p1)]) hx hb dX6_left_64 rfl hl (by decide) rfl (fun ls hl => ?_)
        refine lv_iconst (v := (0 : Int32)) hx hb dX6_left_65 (by decide) ?_
        refine lv_istore_n (lv' := [(3, .int (0 : Int32)), (2, .int u11), (0, .ref (q 0)), (1, .int p1)]) hx hb dX6_left_66 rfl hl (by decide) rfl (fun ls hl => ?_)
        refine lv_iconst (v := (0 : Int32)) hx hb dX6_left_67 (by decide) ?_
        refine lv_istore (lv' := [(4, .int (0 : Int32)), (3, .int (0 : Int32)), (2, .int u11), (0, .ref (q 0)), (1, .int p1)]) hx hb dX6_left_68 hl (by decide) rfl (fun ls hl => ?_)
        obtain ⟨u16, e17, h⟩ := bd_some h
        refine W_leave (P := fun (y : (Int32 × Int32)) H locs ls => u16 = y ∧ va_P D vwCl (WM_ q cI cJ cZ wwd wmn wod wsm wnm wwl wif wev wne wsu wnx wta) H ∧ va_D A (WM_ q cI cJ cZ wwd wmn wod wsm wnm wwl wif wev wne wsu wnx wta) ∧ va_S A s.heap H locs ∧ lv_has ls 10 [(4, .int y.1), (3, .int y.2), (2, .int u11), (0, .ref (q 0)), (1, .int p1)]) (g := fun ls => F0 m 195 ls []) ?_ ?_
        · intro y H locs ls hq
          obtain ⟨hy, hP, hD, hS, hl⟩ := hq
          subst hy
          have hl : lv_has ls 10 [(4, .int u16.1), (3, .int u16.2), (2, .int u11), (0, .ref (q 0)), (1, .int p1)] := hl
          refine lv_iload_n hx hb dX6_left_195 rfl (lv_at hl 1 rfl) ?_
          obtain rfl := Option.some.inj h
          exact W.iret (v := u16.2) hx hb hr (fun t ht hW => ⟨⟨u16.2, (), rfl, rfl, by rw [ht]; exact hP, hD⟩, hS.F ht⟩) hS.2.2 dX6_left_196
        · intro K18
          refine W_lp (body := (fun (st : (Int32 × Int32)) => fX6_left_L70 u11 p1 wmn wwl st.1 st.2)) (P := fun (st : (Int32 × Int32)) H locs ls => va_P D vwCl (WM_ q cI cJ cZ wwd wmn wod wsm wnm wwl wif wev wne wsu wnx wta) H ∧ va_D A (WM_ q cI cJ cZ wwd wmn wod wsm wnm wwl wif wev wne wsu wnx wta) ∧ va_S A s.heap H locs ∧ lv_has ls 10 [(4, .int st.1), (3, .int st.2), (2, .int u11), (0, .ref (q 0)), (1, .int p1)]) (g := fun _ ls => F0 m 70 ls []) (r := u16) ?_ fu_ ((0 : Int32), (0 : Int32)) _ _ _ e17 ⟨hP, hD, hS, lv_sub hl [0, 1, 2, 3, 4] rfl⟩
          intro st xx22 H locs ls h hq ih21 hR20
          obtain ⟨hP, hD, hS, hl⟩ := hq
          obtain ⟨v14, v15⟩ := st
          have hP : va_P D vwCl (WM_ q cI cJ cZ wwd wmn wod wsm wnm wwl wif wev wne wsu wnx wta) H := hP
          have hD : va_D A (WM_ q cI cJ cZ wwd wmn wod wsm wnm wwl wif wev wne wsu wnx wta) := hD
          have hl : lv_has ls 10 [(4, .int v14), (3, .int v15), (2, .int u11), (0, .ref (q 0)), (1, .int p1)] := hl
          have h : fX6_left_L70 u11 p1 wmn wwl v14 v15 = some xx22 := h
          unfold fX6_left_L70 at h
          refine lv_iload hx hb dX6_left_70 (lv_at hl 0 rfl) ?_
          refine lv_iload_n hx hb dX6_left_72 rfl (lv_at hl 2 rfl) ?_
          refine lv_icmp_ge (tgt := 195) hx hb dX6_left_73 (by decide) (fun c23 => ?_) (fun c23 => ?_)
          · have h := (if_pos c23).symm.trans h
            exact K18 _ _ _ _ ⟨(hR20 _ (Option.some.inj h).symm).symm, hP, hD, hS, lv_sub hl [0, 1, 2, 3, 4] rfl⟩
          · have h := (if_neg c23).symm.trans h
            refine lv_iload hx hb dX6_left_76 (lv_at hl 0 rfl) ?_
            refine lv_iload_n hx hb dX6_left_78 rfl (lv_at hl 4 rfl) ?_
            obtain ⟨i24, h⟩ := ck_some h
            refine lv_irem hx hb dX6_left_79 i24 ?_
            refine lv_istore (lv' := [(5, .int (v14 - v14 / p1 * p1)), (4, .int v14), (3, .int v15), (2, .int u11), (0, .ref (q 0)), (1, .int p1)]) hx hb dX6_left_80 hl (by decide) rfl (fun ls hl => ?_)
            refine lv_iload hx hb dX6_left_82 (lv_at hl 1 rfl) ?_
            refine lv_iload_n hx hb dX6_left_84 rfl (lv_at hl 5 rfl) ?_
            obtain ⟨i25, h⟩ := ck_some h
            refine lv_idiv hx hb dX6_left_85 i25 ?_
            refine lv_iload_n hx hb dX6_left_86 rfl (lv_at hl 5 rfl) ?_
            obtain ⟨i26, h⟩ := ck_some h
            refine lv_irem hx hb dX6_left_87 i26 ?_
            refine lv_istore (lv' := [(6, .int ((v14 / p1) - (v14 / p1) / p1 * p1)), (5, .int (v14 - v14 / p1 * p1)), (4, .int v14), (3, .int v15), (2, .int u11), (0, .ref (q 0)), (1, .int p1)]) hx hb dX6_left_88 hl (by decide) rfl (fun ls hl => ?_)
            refine lv_iload hx hb dX6_left_90 (lv_at hl 2 rfl) ?_
            refine lv_iload_n hx hb dX6_left_92 rfl (lv_at hl 6 rfl) ?_
            obtain ⟨i27, h⟩ := ck_some h
            refine lv_idiv hx hb dX6_left_93 i27 ?_
            refine lv_iload_n hx hb dX6_left_94 rfl (lv_at hl 6 rfl) ?_
            obtain ⟨i28, h⟩ := ck_some h
            refine lv_idiv hx hb dX6_left_95 i28 ?_
            refine lv_istore (lv' := [(7, .int ((v14 / p1) / p1)), (6, .int ((v14 / p1) - (v14 / p1) / p1 * p1)), (5, .int (v14 - v14 / p1 * p1)), (4, .int v14), (3, .int v15), (2, .int u11), (0, .ref (q 0)), (1, .int p1)]) hx hb dX6_left_96 hl (by decide) rfl (fun ls hl => ?_)
            refine lv_iconst (v := (1 : Int32)) hx hb dX6_left_98 (by decide) ?_
            refine lv_istore (lv' := [(8, .int (1 : Int32)), (7, .int ((v14 / p1) / p1)), (6, .int ((v14 / p1) - (v14 / p1) / p1 * p1)), (5, .int (v14 - v14 / p1 * p1)), (4, .int v14), (3, .int v15), (2, .int u11), (0, .ref (q 0)), (1, .int p1)]) hx hb dX6_left_99 hl (by decide) rfl (fun ls hl => ?_)
            refine lv_iconst (v := (0 : Int32)) hx hb dX6_left_101 (by decide) ?_
            refine lv_istore (lv' := [(9, .int (0 : Int32)), (8, .int (1 : Int32)), (7, .int ((v14 / p1) / p1)), (6, .int ((v14 / p1) - (v14 / p1) / p1 * p1)), (5, .int (v14 - v14 / p1 * p1)), (4, .int v14), (3, .int v15), (2, .int u11), (0, .ref (q 0)), (1, .int p1)]) hx hb dX6_left_102 hl (by decide) rfl (fun ls hl => ?_)
            obtain ⟨u31, e32, h⟩ := bd_some h
            refine W_leave (P := fun (y : (Int32 × Int32)) H locs ls => u31 = y ∧ va_P D vwCl (WM_ q cI cJ cZ wwd wmn wod wsm wnm wwl wif wev wne wsu wnx wta) H ∧ va_D A (WM_ q cI cJ cZ wwd wmn wod wsm wnm wwl wif wev wne wsu wnx wta) ∧ va_S A s.heap H locs ∧ lv_has ls 10 [(9, .int y.1), (8, .int y.2), (7, .int ((v14 / p1) / p1)), (6, .int ((v14 / p1) - (v14 / p1) / p1 * p1)), (5, .int (v14 - v14 / p1 * p1)), (4, .int v14), (3, .int v15), (2, .int u11), (0, .ref (q 0)), (1, .int p1)]) (g := fun ls => F0 m 176 ls []) ?_ ?_
            · intro y H locs ls hq
              obtain ⟨hy, hP, hD, hS, hl⟩ := hq
              subst hy
              have hl : lv_has ls 10 [(9, .int u31.1), (8, .int u31.2), (7, .int ((v14 / p1) / p1)), (6, .int ((v14 / p1) - (v14 / p1) / p1 * p1)), (5, .int (v14 - v14 / p1 * p1)), (4, .int v14), (3, .int v15), (2, .int u11), (0, .ref (q 0)), (1, .int p1)] := hl
              refine lv_iload_n hx hb dX6_left_176 rfl (lv_at hl 6 rfl) ?_
              refine lv_iload hx hb dX6_left_177 (lv_at hl 1 rfl) ?_
              refine lv_if_eq (tgt := 186) hx hb dX6_left_179 (by decide) (fun c35 => ?_) (fun c35 => ?_)
              · have h := (if_pos c35).symm.trans h
                refine lv_iconst (v := (0 : Int32)) hx hb dX6_left_186 (by decide) ?_
                refine lv_iadd hx hb dX6_left_187 ?_
                refine lv_istore_n (lv' := [(3, .int (v15 + (0 : Int32))), (9, .int u31.1), (8, .int u31.2), (7, .int ((v14 / p1) / p1)), (6, .int ((v14 / p1) - (v14 / p1) / p1 * p1)), (5, .int (v14 - v14 / p1 * p1)), (4, .int v14), (2, .int u11), (0, .ref (q 0)), (1, .int p1)]) hx hb dX6_left_188 rfl hl (by decide) rfl (fun ls hl => ?_)
                refine lv_iinc (v := (v14 + (1 : Int32))) (lv' := [(4, .int (v14 + (1 : Int32))), (3, .int (v15 + (0 : Int32))), (9, .int u31.1), (8, .int u31.2), (7, .int ((v14 / p1) / p1)), (6, .int ((v14 / p1) - (v14 / p1) / p1 * p1)), (5, .int (v14 - v14 / p1 * p1)), (2, .int u11), (0, .ref (q 0)), (1, .int p1)]) hx hb dX6_left_189 hl (k := 6) rfl rfl (by decide) rfl (fun ls hl => ?_)
                refine lv_goto (tgt := 70) hx hb dX6_left_192 (by decide) ?_
                exact ih21 _ _ _ _ (Option.some.inj h).symm ⟨hP, hD, hS, lv_sub hl [0, 1, 7, 8, 9] rfl⟩
              · have h := (if_neg c35).symm.trans h
                refine lv_iconst (v := (1 : Int32)) hx hb dX6_left_182 (by decide) ?_
                refine lv_goto (tgt := 187) hx hb dX6_left_183 (by decide) ?_
                refine lv_iadd hx hb dX6_left_187 ?_
                refine lv_istore_n (lv' := [(3, .int (v15 + (1 : Int32))), (9, .int u31.1), (8, .int u31.2), (7, .int ((v14 / p1) / p1)), (6, .int ((v14 / p1) - (v14 / p1) / p1 * p1)), (5, .int (v14 - v14 / p1 * p1)), (4, .int v14), (2, .int u11), (0, .ref (q 0)), (1, .int p1)]) hx hb dX6_left_188 rfl hl (by decide) rfl (fun ls hl => ?_)
                refine lv_iinc (v := (v14 + (1 : Int32))) (lv' := [(4, .int (v14 + (1 : Int32))), (3, .int (v15 + (1 : Int32))), (9, .int u31.1), (8, .int u31.2), (7, .int ((v14 / p1) / p1)), (6, .int ((v14 / p1) - (v14 / p1) / p1 * p1)), (5, .int (v14 - v14 / p1 * p1)), (2, .int u11), (0, .ref (q 0)), (1, .int p1)]) hx hb dX6_left_189 hl (k := 6) rfl rfl (by decide) rfl (fun ls hl => ?_)
                refine lv_goto (tgt := 70) hx hb dX6_left_192 (by decide) ?_
                exact ih21 _ _ _ _ (Option.some.inj h).symm ⟨hP, hD, hS, lv_sub hl [0, 1, 7, 8, 9] rfl⟩
            · intro K33
              refine W_lp (body := (fun (st : (Int32 × Int32)) => fX6_left_L104 wmn wwl p1 v14 st.1 st.2)) (P := fun (st : (Int32 × Int32)) H locs ls => va_P D vwCl (WM_ q cI cJ cZ wwd wmn wod wsm wnm wwl wif wev wne wsu wnx wta) H ∧ va_D A (WM_ q cI cJ cZ wwd wmn wod wsm wnm wwl wif wev wne wsu wnx wta) ∧ va_S A s.heap H locs ∧ lv_has ls 10 [(9, .int st.1), (8, .int st.2), (7, .int ((v14 / p1) / p1)), (6, .int ((v14 / p1) - (v14 / p1) / p1 * p1)), (5, .int (v14 - v14 / p1 * p1)), (4, .int v14), (3, .int v15), (2, .int u11), (0, .ref (q 0)), (1, .int p1)]) (g := fun _ ls => F0 m 104 ls []) (r := u31) ?_ fu_ ((0 : Int32), (1 : Int32)) _ _ _ e32 ⟨hP, hD, hS, lv_sub hl [0, 1, 2, 3, 4, 5, 6, 7, 8, 9] rfl⟩
              intro st xx38 H locs ls h hq ih37 hR36
              obtain ⟨hP, hD, hS, hl⟩ := hq
              obtain ⟨v29, v30⟩ := st
              have hP : va_P D vwCl (WM_ q cI cJ cZ wwd wmn wod wsm wnm wwl wif wev wne wsu wnx wta) H := hP
              have hD : va_D A (WM_ q cI cJ cZ wwd wmn wod wsm wnm wwl wif wev wne wsu wnx wta) := hD
              have hl : lv_has ls 10 [(9, .int v29), (8, .int v30), (7, .int ((v14 / p1) / p1)), (6, .int ((v14 / p1) - (v14 / p1) / p1 * p1)), (5, .int (v14 - v14 / p1 * p1)), (4, .int v14), (3, .int v15), (2, .int u11), (0, .ref (q 0)), (1, .int p1)] := hl
              have h : fX6_left_L104 wmn wwl p1 v14 v29 v30 = some xx38 := h
              unfold fX6_left_L104 at h
              refine lv_iload hx hb dX6_left_104 (lv_at hl 0 rfl) ?_
              refine lv_aload_n hx hb dX6_left_106 rfl (lv_at hl 8 rfl) ?_
              refine va_get (D := D) (ci := 6) (v := .int wmn) (C := RX6) (T := TX6) (N := 12) hx hb hts wiX6_left_X6 hown hK hP 0 rfl rfl 1 (by decide) (hts _ wmX6_left_1) (fun _ h9 => h9) rfl dX6_left_107 ?_
              refine lv_icmp_ge (tgt := 176) hx hb dX6_left_110 (by decide) (fun c39 => ?_) (fun c39 => ?_)
              · have h := (if_pos c39).symm.trans h
                exact K33 _ _ _ _ ⟨(hR36 _ (Option.some.inj h).symm).symm, hP, hD, hS, lv_sub hl [0, 1, 2, 3, 4, 5, 6, 7, 8, 9] rfl⟩
              · have h := (if_neg c39).symm.trans h
                refine lv_iload hx hb dX6_left_113 (lv_at hl 1 rfl) ?_
                refine lv_if_eq (tgt := 176) hx hb dX6_left_115 (by decide) (fun c40 => ?_) (fun c40 => ?_)
                · have h := (if_pos c40).symm.trans h
                  exact K33 _ _ _ _ ⟨(hR36 _ (Option.some.inj h).symm).symm, hP, hD, hS, lv_sub hl [0, 1, 2, 3, 4, 5, 6, 7, 8, 9] rfl⟩
                · have h := (if_neg c40).symm.trans h
                  refine lv_aload_n hx hb dX6_left_118 rfl (lv_at hl 8 rfl) ?_
                  refine lv_iload hx hb dX6_left_119 (lv_at hl 0 rfl) ?_
                  refine lv_iconst (v := (0 : Int32)) hx hb dX6_left_121 (by decide) ?_
                  obtain ⟨u41, e42, h⟩ := bd_some h
                  refine k_i (va_runV (As := [.int v29, .int (0 : Int32)]) (rest := []) ⟨hx, hb, hml, hown, hts⟩ (kX6_at l D q cI cJ cZ tP H.size wwd wmn wod wsm wnm wwl wif wev wne wsu wnx wta v29 (0 : Int32) u41 e42) (cwV 2 hts gX6_left_X6_at rfl rfl rfl (by decide +kernel) ⟨Nat.le_of_ble_eq_true rfl, Nat.le_of_ble_eq_true rfl⟩) ⟨cPre_blind, va_recv hK hP (ci := 6) (q0 := 0) rfl rfl, cPre_at hP hK hN hD hS hA hZ⟩ rfl rfl hl.1 rfl (lv_room (Nat.le_of_ble_eq_true rfl)) dX6_left_122 ⟨Nat.le_of_ble_eq_true rfl, Nat.le_of_ble_eq_true rfl⟩) hD hS hA (fun H locs hP hD hS => ?_)
                  refine lv_iload hx hb dX6_left_125 (lv_at hl 4 rfl) ?_
                  refine lv_imul hx hb dX6_left_127 ?_
                  refine lv_aload_n hx hb dX6_left_128 rfl (lv_at hl 8 rfl) ?_
                  refine lv_iload hx hb dX6_left_129 (lv_at hl 0 rfl) ?_
                  refine lv_iconst (v := (1 : Int32)) hx hb dX6_left_131 (by decide) ?_
                  obtain ⟨u43, e44, h⟩ := bd_some h
                  refine k_i (va_runV (As := [.int v29, .int (1 : Int32)]) (rest := [.int (u41 * (v14 - v14 / p1 * p1))]) ⟨hx, hb, hml, hown, hts⟩ (kX6_at l D q cI cJ cZ tP H.size wwd wmn wod wsm wnm wwl wif wev wne wsu wnx wta v29 (1 : Int32) u43 e44) (cwV 2 hts gX6_left_X6_at rfl rfl rfl (by decide +kernel) ⟨Nat.le_of_ble_eq_true rfl, Nat.le_of_ble_eq_true rfl⟩) ⟨cPre_blind, va_recv hK hP (ci := 6) (q0 := 0) rfl rfl, cPre_at hP hK hN hD hS hA hZ⟩ rfl rfl hl.1 rfl (lv_room (Nat.le_of_ble_eq_true rfl)) dX6_left_132 ⟨Nat.le_of_ble_eq_true rfl, Nat.le_of_ble_eq_true rfl⟩) hD hS hA (fun H locs hP hD hS => ?_)
                  refine lv_iload hx hb dX6_left_135 (lv_at hl 3 rfl) ?_
                  refine lv_imul hx hb dX6_left_137 ?_
                  refine lv_iadd hx hb dX6_left_138 ?_
                  refine lv_aload_n hx hb dX6_left_139 rfl (lv_at hl 8 rfl) ?_
                  refine lv_iload hx hb dX6_left_140 (lv_at hl 0 rfl) ?_
                  refine lv_iconst (v := (2 : Int32)) hx hb dX6_left_142 (by decide) ?_
                  obtain ⟨u45, e46, h⟩ := bd_some h
                  refine k_i (va_runV (As := [.int v29, .int (2 : Int32)]) (rest := [.int ((u41 * (v14 - v14 / p1 * p1)) + (u43 * ((v14 / p1) - (v14 / p1) / p1 * p1)))]) ⟨hx, hb, hml, hown, hts⟩ (kX6_at l D q cI cJ cZ tP H.size wwd wmn wod wsm wnm wwl wif wev wne wsu wnx wta v29 (2 : Int32) u45 e46) (cwV 2 hts gX6_left_X6_at rfl rfl rfl (by decide +kernel) ⟨Nat.le_of_ble_eq_true rfl, Nat.le_of_ble_eq_true rfl⟩) ⟨cPre_blind, va_recv hK hP (ci := 6) (q0 := 0) rfl rfl, cPre_at hP hK hN hD hS hA hZ⟩ rfl rfl hl.1 rfl (lv_room (Nat.le_of_ble_eq_true rfl)) dX6_left_143 ⟨Nat.le_of_ble_eq_true rfl, Nat.le_of_ble_eq_true rfl⟩) hD hS hA (fun H locs hP hD hS => ?_)
                  refine lv_iload hx hb dX6_left_146 (lv_at hl 2 rfl) ?_
                  refine lv_imul hx hb dX6_left_148 ?_
                  refine lv_iadd hx hb dX6_left_149 ?_
                  refine lv_aload_n hx hb dX6_left_150 rfl (lv_at hl 8 rfl) ?_
                  refine lv_iload hx hb dX6_left_151 (lv_at hl 0 rfl) ?_
                  refine lv_iconst (v := (3 : Int32)) hx hb dX6_left_153 (by decide) ?_
                  obtain ⟨u47, e48, h⟩ := bd_some h
                  refine k_i (va_runV (As := [.int v29, .int (3 : Int32)]) (rest := [.int (((u41 * (v14 - v14 / p1 * p1)) + (u43 * ((v14 / p1) - (v14 / p1) / p1 * p1))) + (u45 * ((v14 / p1) / p1)))]) ⟨hx, hb, hml, hown, hts⟩ (kX6_at l D q cI cJ cZ tP H.size wwd wmn wod wsm wnm wwl wif wev wne wsu wnx wta v29 (3 : Int32) u47 e48) (cwV 2 hts gX6_left_X6_at rfl rfl rfl (by decide +kernel) ⟨Nat.le_of_ble_eq_true rfl, Nat.le_of_ble_eq_true rfl⟩) ⟨cPre_blind, va_recv hK hP (ci := 6) (q0 := 0) rfl rfl, cPre_at hP hK hN hD hS hA hZ⟩ rfl rfl hl.1 rfl (lv_room (Nat.le_of_ble_eq_true rfl)) dX6_left_154 ⟨Nat.le_of_ble_eq_true rfl, Nat.le_of_ble_eq_true rfl⟩) hD hS hA (fun H locs hP hD hS => ?_)
                  refine lv_isub hx hb dX6_left_157 ?_
                  refine lv_iload_n hx hb dX6_left_158 rfl (lv_at hl 9 rfl) ?_
                  obtain ⟨i49, h⟩ := ck_some h
                  refine lv_irem hx hb dX6_left_159 i49 ?_
                  refine lv_if_eq (tgt := 167) hx hb dX6_left_160 (by decide) (fun c50 => ?_) (fun c50 => ?_)
                  · have h := (if_pos c50).symm.trans h
                    refine lv_iconst (v := (0 : Int32)) hx hb dX6_left_167 (by decide) ?_
                    refine lv_istore (lv' := [(8, .int (0 : Int32)), (9, .int v29), (7, .int ((v14 / p1) / p1)), (6, .int ((v14 / p1) - (v14 / p1) / p1 * p1)), (5, .int (v14 - v14 / p1 * p1)), (4, .int v14), (3, .int v15), (2, .int u11), (0, .ref (q 0)), (1, .int p1)]) hx hb dX6_left_168 hl (by decide) rfl (fun ls hl => ?_)
                    refine lv_iinc (v := (v29 + (1 : Int32))) (lv' := [(9, .int (v29 + (1 : Int32))), (8, .int (0 : Int32)), (7, .int ((v14 / p1) / p1)), (6, .int ((v14 / p1) - (v14 / p1) / p1 * p1)), (5, .int (v14 - v14 / p1 * p1)), (4, .int v14), (3, .int v15), (2, .int u11), (0, .ref (q 0)), (1, .int p1)]) hx hb dX6_left_170 hl (k := 1) rfl rfl (by decide) rfl (fun ls hl => ?_)
                    refine lv_goto (tgt := 104) hx hb dX6_left_173 (by decide) ?_
                    exact ih37 _ _ _ _ (Option.some.inj h).symm ⟨hP, hD, hS, lv_sub hl [0, 1, 2, 3, 4, 5, 6, 7, 8, 9] rfl⟩
                  · have h := (if_neg c50).symm.trans h
                    refine lv_iconst (v := (1 : Int32)) hx hb dX6_left_163 (by decide) ?_
                    refine lv_goto (tgt := 168) hx hb dX6_left_164 (by decide) ?_
                    refine lv_istore (lv' := [(8, .int (1 : Int32)), (9, .int v29), (7, .int ((v14 / p1) / p1)), (6, .int ((v14 / p1) - (v14 / p1) / p1 * p1)), (5, .int (v14 - v14 / p1 * p1)), (4, .int v14), (3, .int v15), (2, .int u11), (0, .ref (q 0)), (1, .int p1)]) hx hb dX6_left_168 hl (by decide) rfl (fun ls hl => ?_)
                    refine lv_iinc (v := (v29 + (1 : Int32))) (lv' := [(9, .int (v29 + (1 : Int32))), (8, .int (1 : Int32)), (7, .int ((v14 / p1) / p1)), (6, .int ((v14 / p1) - (v14 / p1) / p1 * p1)), (5, .int (v14 - v14 / p1 * p1)), (4, .int v14), (3, .int v15), (2, .int u11), (0, .ref (q 0)), (1, .int p1)]) hx hb dX6_left_170 hl (k := 1) rfl rfl (by decide) rfl (fun ls hl => ?_)
                    refine lv_goto (tgt := 104) hx hb dX6_left_173 (by decide) ?_
                    exact ih37 _ _ _ _ (Option.some.inj h).symm ⟨hP, hD, hS, lv_sub hl [0, 1, 2, 3, 4, 5, 6, 7, 8, 9] rfl⟩
      · intro J13
        have h := e12
        refine lv_icmp_ne (tgt := 45) hx hb dX6_left_38 (by decide) (fun c51 => ?_) (fun c51 => ?_)
        · have h := (if_neg c51).symm.trans h
          refine lv_aload_n hx hb dX6_left_45 rfl (lv_at hl 1 rfl) ?_
          refine va_get (D := D) (ci := 6) (v := .int wwd) (C := RX6) (T := TX6) (N := 12) hx hb hts wiX6_left_X6 hown hK hP 0 rfl rfl 0 (by decide) (hts _ wmX6_left_0) (fun _ h9 => h9) rfl dX6_left_46 ?_
          refine lv_iconst (v := (2 : Int32)) hx hb dX6_left_49 (by decide) ?_
          refine lv_icmp_ne (tgt := 59) hx hb dX6_left_50 (by decide) (fun c52 => ?_) (fun c52 => ?_)
          · have h := (if_neg c52).symm.trans h
            refine lv_iload_n hx hb dX6_left_59 rfl (lv_at hl 2 rfl) ?_
            refine lv_iload_n hx hb dX6_left_60 rfl (lv_at hl 2 rfl) ?_
            refine lv_imul hx hb dX6_left_61 ?_
            refine lv_iload_n hx hb dX6_left_62 rfl (lv_at hl 2 rfl) ?_
            refine lv_imul hx hb dX6_left_63 ?_
            obtain rfl := Option.some.inj h
            exact J13 _ _ _ ⟨hP, hD, hS, lv_sub hl [0, 1, 2] rfl⟩
          · have h := (if_pos c52).symm.trans h
            refine lv_iload_n hx hb dX6_left_53 rfl (lv_at hl 2 rfl) ?_
            refine lv_iload_n hx hb dX6_left_54 rfl (lv_at hl 2 rfl) ?_
            refine lv_imul hx hb dX6_left_55 ?_
            refine lv_goto (tgt := 64) hx hb dX6_left_56 (by decide) ?_
            obtain rfl := Option.some.inj h
            exact J13 _ _ _ ⟨hP, hD, hS, lv_sub hl [0, 1, 2] rfl⟩
        · have h := (if_pos c51).symm.trans h
          refine lv_iload_n hx hb dX6_left_41 rfl (lv_at hl 2 rfl) ?_
          refine lv_goto (tgt := 64) hx hb dX6_left_42 (by decide) ?_
          obtain rfl := Option.some.inj h
          exact J13 _ _ _ ⟨hP, hD, hS, lv_sub hl [0, 1, 2] rfl⟩
    · intro K7
      refine W_lp (body := (fun (st : Int32) => fX6_left_L14 p1 st)) (P := fun (st : Int32) H locs ls => va_P D vwCl (WM_ q cI cJ cZ wwd wmn wod wsm wnm wwl wif wev wne wsu wnx wta) H ∧ va_D A (WM_ q cI cJ cZ wwd wmn wod wsm wnm wwl wif wev wne wsu wnx wta) ∧ va_S A s.heap H locs ∧ lv_has ls 10 [(2, .int st), (0, .ref (q 0)), (1, .int p1)]) (g := fun _ ls => F0 m 14 ls []) (r := u5) ?_ fu_ (2 : Int32) _ _ _ e6 ⟨hP, hD, hS, lv_sub hl [0, 1, 2] rfl⟩
      intro v4 xx55 H locs ls h hq ih54 hR53
      obtain ⟨hP, hD, hS, hl⟩ := hq
      have hP : va_P D vwCl (WM_ q cI cJ cZ wwd wmn wod wsm wnm wwl wif wev wne wsu wnx wta) H := hP
      have hD : va_D A (WM_ q cI cJ cZ wwd wmn wod wsm wnm wwl wif wev wne wsu wnx wta) := hD
      have hl : lv_has ls 10 [(2, .int v4), (0, .ref (q 0)), (1, .int p1)] := hl
      have h : fX6_left_L14 p1 v4 = some xx55 := h
      unfold fX6_left_L14 at h
      refine lv_iload_n hx hb dX6_left_14 rfl (lv_at hl 0 rfl) ?_
      refine lv_iload_n hx hb dX6_left_15 rfl (lv_at hl 2 rfl) ?_
      refine lv_icmp_ge (tgt := 33) hx hb dX6_left_16 (by decide) (fun c56 => ?_) (fun c56 => ?_)
      · have h := (if_pos c56).symm.trans h
        exact K7 _ _ _ _ ⟨(hR53 _ (Option.some.inj h).symm).symm, hP, hD, hS, lv_sub hl [0, 1, 2] rfl⟩
      · have h := (if_neg c56).symm.trans h
        refine lv_iload_n hx hb dX6_left_19 rfl (lv_at hl 2 rfl) ?_
        refine lv_iload_n hx hb dX6_left_20 rfl (lv_at hl 0 rfl) ?_
        obtain ⟨i57, h⟩ := ck_some h
        refine lv_irem hx hb dX6_left_21 i57 ?_
        refine lv_if_ne (tgt := 27) hx hb dX6_left_22 (by decide) (fun c58 => ?_) (fun c58 => ?_)
        · have h := (if_neg c58).symm.trans h
          refine lv_iinc (v := (v4 + (1 : Int32))) (lv' := [(2, .int (v4 + (1 : Int32))), (0, .ref (q 0)), (1, .int p1)]) hx hb dX6_left_27 hl (k := 0) rfl rfl (by decide) rfl (fun ls hl => ?_)
          refine lv_goto (tgt := 14) hx hb dX6_left_30 (by decide) ?_
          exact ih54 _ _ _ _ (Option.some.inj h).symm ⟨hP, hD, hS, lv_sub hl [0, 1, 2] rfl⟩
        · have h := (if_pos c58).symm.trans h
          refine lv_iconst (v := (-1 : Int32)) hx hb dX6_left_25 (by decide) ?_
          have hu := KR8 _ (hR53 _ (Option.some.inj h).symm)
          subst hu
          exact W.iret (v := (-1 : Int32)) hx hb hr (fun t ht hW => ⟨⟨(-1 : Int32), (), rfl, rfl, by rw [ht]; exact hP, hD⟩, hS.F ht⟩) hS.2.2 dX6_left_26
  · have h := (if_pos c3).symm.trans h
    refine lv_iconst (v := (-1 : Int32)) hx hb dX6_left_10 (by decide) ?_
    obtain rfl := Option.some.inj h
    exact W.iret (v := (-1 : Int32)) hx hb hr (fun t ht hW => ⟨⟨(-1 : Int32), (), rfl, rfl, by rw [ht]; exact hP, hD⟩, hS.F ht⟩) hS.2.2 dX6_left_11

-- X6_count
theorem wmX6_count_0 : (.fieldLink RX6 37 "SpaceWallsModel" "wide" "I" : Cond) ∈ wsX6_count := by decide +kernel
theorem wmX6_count_1 : (.fieldLink RX6 49 "SpaceWallsModel" "many" "I" : Cond) ∈ wsX6_count := by decide +kernel
theorem wiX6_count_X6 : ∀ w ∈ u_ws RX6 TX6 12, w ∈ wsX6_count := by decide +kernel
set_option maxHeartbeats 8000000 in
set_option maxRecDepth 100000 in
theorem kX6_count (l : Launch) (D : va_G) (q : Nat → Nat) (cI cJ cZ : ClassId) (tP sz : Nat) (wwd : Int32) (wmn : Int32) (wod : Int32) (wsm : Int32) (wnm : Int32) (wwl : (Nat → Int32)) (wif : (Nat → Int32)) (wev : (Nat → Int32)) (wne : (Nat → Int32)) (wsu : (Nat → Int64)) (wnx : (Nat → Int64)) (wta : (Nat → Int64)) (p1 : Int32) (uu : (Int32 × Int32 × Int32 × Int32 × (Nat → Int32) × (Nat → Int32) × (Nat → Int32) × (Nat → Int64) × (Nat → Int64) × (Nat → Int64))) (h : fX6_count wwd wmn wod wsm wnm wwl wif wev wne wsu wnx wta p1 = some uu) : Met l yX6_count wsX6_count ({ frames := 6, cells := 0, slots := 0, locals := 146 }) (cPre D cI cJ cZ tP (WM_ q cI cJ cZ wwd wmn wod wsm wnm wwl wif wev wne wsu wnx wta) sz [.ref (q 0), .int p1]) (cQi D (va_A (WM_ q cI cJ cZ wwd wmn wod wsm wnm wwl wif wev wne wsu wnx wta) sz) (WM_ q cI cJ cZ wwd wmn uu.2.1 uu.2.2.1 uu.2.2.2.1 wwl uu.2.2.2.2.1 uu.2.2.2.2.2.1 uu.2.2.2.2.2.2.1 uu.2.2.2.2.2.2.2.1 uu.2.2.2.2.2.2.2.2.1 uu.2.2.2.2.2.2.2.2.2) uu.1) 0 0 (va_A (WM_ q cI cJ cZ wwd wmn wod wsm wnm wwl wif wev wne wsu wnx wta) sz) := by
  refine Met.ofW (cc := cX6_count) (maxL := 4) (ret := (some .int)) (by decide) rfl ?_
  intro p e s m args below meth c s₁ B hml hv
  obtain ⟨rfl, hsz, hP, hK, hN, hD0, hZ⟩ := hv
  have hx := B.exec
  have hb := B.bytes
  have hr := B.returns
  have hts := atoms_spec (ws := wsX6_count) B.pre
  have hown : s.vm.findClass RX6 = some m.cls := findClass_of_methodNamed B.named
  have hlocks := B.notSynchronized
  subst hsz
  have hD := hD0.self (sz := s.heap.size)
  generalize hAe : va_A (WM_ q cI cJ cZ wwd wmn wod wsm wnm wwl wif wev wne wsu wnx wta) s.heap.size = A at hD hZ ⊢
  have hA : ∀ q : Nat, s.heap.size ≤ q → A q := fun q h => by rw [← hAe]; exact Or.inr h
  have hS : va_S A s.heap s.heap [] := va_S.rf
  have hl := lv_entry ([.ref (q 0), .int p1]) (n := 4) (Nat.le_of_ble_eq_true rfl)
  rw [lg_entry_eq]
  generalize (lg_sl ([.ref (q 0), .int p1]) ++ List.replicate (4 - (lg_sl ([.ref (q 0), .int p1])).length) Slot.unset).toArray = ls at hl ⊢
  have hl : lv_has ls 4 [(0, .ref (q 0)), (1, .int p1)] := hl
  unfold fX6_count at h
  refine lv_iconst (v := (0 : Int32)) hx hb dX6_count_0 (by decide) ?_
  refine lv_istore_n (lv' := [(2, .int (0 : Int32)), (0, .ref (q 0)), (1, .int p1)]) hx hb dX6_count_1 rfl hl (by decide) rfl (fun ls hl => ?_)
  refine lv_iload_n hx hb dX6_count_2 rfl (lv_at hl 2 rfl) ?_
  by_cases c1 : p1 = (0 : Int32)
  · have h := (if_pos c1).symm.trans h
    refine lv_tableIn (off := 33) (tgt := 36) hx hb dX6_count_3 (by rw [c1]; decide) (by rw [c1]; decide) (by rw [c1]; rfl) (by decide) ?_
    refine lv_aload_n hx hb dX6_count_36 rfl (lv_at hl 1 rfl) ?_
    refine va_get (D := D) (ci := 6) (v := .int wwd) (C := RX6) (T := TX6) (N := 12) hx hb hts wiX6_count_X6 hown hK hP 0 rfl rfl 0 (by decide) (hts _ wmX6_count_0) (fun _ h9 => h9) rfl dX6_count_37 ?_
    obtain rfl := Option.some.inj h
    exact W.iret (v := wwd) hx hb hr (fun t ht hW => ⟨⟨wwd, (), rfl, rfl, by rw [ht]; exact hP, hD⟩, hS.F ht⟩) hS.2.2 dX6_count_40
  have h := (if_neg c1).symm.trans h
  by_cases c2 : p1 = (1 : Int32)
  · have h := (if_pos c2).symm.trans h
    refine lv_tableIn (off := 38) (tgt := 41) hx hb dX6_count_3 (by rw [c2]; decide) (by rw [c2]; decide) (by rw [c2]; rfl) (by decide) ?_
    refine lv_aload_n hx hb dX6_count_41 rfl (lv_at hl 1 rfl) ?_
    refine va_get (D := D) (ci := 6) (v := .int wmn) (C := RX6) (T := TX6) (N := 12) hx hb hts wiX6_count_X6 hown hK hP 0 rfl rfl 1 (by decide) (hts _ wmX6_count_1) (fun _ h9 => h9) rfl dX6_count_42 ?_
    obtain rfl := Option.some.inj h
    exact W.iret (v := wmn) hx hb hr (fun t ht hW => ⟨⟨wmn, (), rfl, rfl, by rw [ht]; exact hP, hD⟩, hS.F ht⟩) hS.2.2 dX6_count_45
  have h := (if_neg c2).symm.trans h
  by_cases c3 : p1 = (2 : Int32)
  · have h := (if_pos c3).symm.trans h
    refine lv_tableIn (off := 43) (tgt := 46) hx hb dX6_count_3 (by rw [c3]; decide) (by rw [c3]; decide) (by rw [c3]; rfl) (by decide) ?_
    refine lv_iconst (v := (0 : Int32)) hx hb dX6_count_46 (by decide) ?_
    refine lv_istore_n (lv' := [(3, .int (0 : Int32)), (2, .int (0 : Int32)), (0, .ref (q 0)), (1, .int p1)]) hx hb dX6_count_47 rfl hl (by decide) rfl (fun ls hl => ?_)
    obtain ⟨u14, e15, h⟩ := bd_some h
    refine W_leave (P := fun (y : (Int32 × Int32 × Int32 × Int32 × Int32 × (Nat → Int32) × (Nat → Int32) × (Nat → Int32) × (Nat → Int64) × (Nat → Int64))) H locs ls => u14 = y ∧ va_P D vwCl (WM_ q cI cJ cZ wwd wmn y.2.2.1 y.2.2.2.1 y.2.2.2.2.1 wwl y.2.2.2.2.2.1 y.2.2.2.2.2.2.1 y.2.2.2.2.2.2.2.1 y.2.2.2.2.2.2.2.2.1 y.2.2.2.2.2.2.2.2.2 wta) H ∧ va_D A (WM_ q cI cJ cZ wwd wmn y.2.2.1 y.2.2.2.1 y.2.2.2.2.1 wwl y.2.2.2.2.2.1 y.2.2.2.2.2.2.1 y.2.2.2.2.2.2.2.1 y.2.2.2.2.2.2.2.2.1 y.2.2.2.2.2.2.2.2.2 wta) ∧ va_S A s.heap H locs ∧ lv_has ls 4 [(3, .int y.1), (2, .int y.2.1), (0, .ref (q 0)), (1, .int p1)]) (g := fun ls => F0 m 81 ls []) ?_ ?_
    · intro y H locs ls hq
      obtain ⟨hy, hP, hD, hS, hl⟩ := hq
      subst hy
      have hl : lv_has ls 4 [(3, .int u14.1), (2, .int u14.2.1), (0, .ref (q 0)), (1, .int p1)] := hl
      refine lv_iload_n hx hb dX6_count_81 rfl (lv_at hl 1 rfl) ?_
      obtain rfl := Option.some.inj h
      exact W.iret (v := u14.2.1) hx hb hr (fun t ht hW => ⟨⟨u14.2.1, (), rfl, rfl, by rw [ht]; exact hP, hD⟩, hS.F ht⟩) hS.2.2 dX6_count_82
    · intro K16
      refine W_lp (body := (fun (st : (Int32 × Int32 × Int32 × Int32 × Int32 × (Nat → Int32) × (Nat → Int32) × (Nat → Int32) × (Nat → Int64) × (Nat → Int64))) => fX6_count_L48 wmn wwd wwl st.1 st.2.1 st.2.2.1 st.2.2.2.1 st.2.2.2.2.1 st.2.2.2.2.2.1 st.2.2.2.2.2.2.1 st.2.2.2.2.2.2.2.1 st.2.2.2.2.2.2.2.2.1 st.2.2.2.2.2.2.2.2.2)) (P := fun (st : (Int32 × Int32 × Int32 × Int32 × Int32 × (Nat → Int32) × (Nat → Int32) × (Nat → Int32) × (Nat → Int64) × (Nat → Int64))) H locs ls => va_P D vwCl (WM_ q cI cJ cZ wwd wmn st.2.2.1 st.2.2.2.1 st.2.2.2.2.1 wwl st.2.2.2.2.2.1 st.2.2.2.2.2.2.1 st.2.2.2.2.2.2.2.1 st.2.2.2.2.2.2.2.2.1 st.2.2.2.2.2.2.2.2.2 wta) H ∧ va_D A (WM_ q cI cJ cZ wwd wmn st.2.2.1 st.2.2.2.1 st.2.2.2.2.1 wwl st.2.2.2.2.2.1 st.2.2.2.2.2.2.1 st.2.2.2.2.2.2.2.1 st.2.2.2.2.2.2.2.2.1 st.2.2.2.2.2.2.2.2.2 wta) ∧ va_S A s.heap H locs ∧ lv_has ls 4 [(3, .int st.1), (2, .int st.2.1), (0, .ref (q 0)), (1, .int p1)]) (g := fun _ ls => F0 m 48 ls []) (r := u14) ?_ fu_ ((0 : Int32), (0 : Int32), wod, wsm, wnm, wif, wev, wne, wsu, wnx) _ _ _ e15 ⟨hP, hD, hS, lv_sub hl [0, 1, 2, 3] rfl⟩
      intro st xx20 H locs ls h hq ih19 hR18
      obtain ⟨hP, hD, hS, hl⟩ := hq
      obtain ⟨v4, v5, v6, v7, v8, v9, v10, v11, v12, v13⟩ := st
      have hP : va_P D vwCl (WM_ q cI cJ cZ wwd wmn v6 v7 v8 wwl v9 v10 v11 v12 v13 wta) H := hP
      have hD : va_D A (WM_ q cI cJ cZ wwd wmn v6 v7 v8 wwl v9 v10 v11 v12 v13 wta) := hD
      have hl : lv_has ls 4 [(3, .int v4), (2, .int v5), (0, .ref (q 0)), (1, .int p1)] := hl
      have h : fX6_count_L48 wmn wwd wwl v4 v5 v6 v7 v8 v9 v10 v11 v12 v13 = some xx20 := h
      unfold fX6_count_L48 at h
      refine lv_iload_n hx hb dX6_count_48 rfl (lv_at hl 0 rfl) ?_
      refine lv_aload_n hx hb dX6_count_49 rfl (lv_at hl 2 rfl) ?_
      refine va_get (D := D) (ci := 6) (v := .int wmn) (C := RX6) (T := TX6) (N := 12) hx hb hts wiX6_count_X6 hown hK hP 0 rfl rfl 1 (by decide) (hts _ wmX6_count_1) (fun _ h9 => h9) rfl dX6_count_50 ?_
      obtain ⟨u21, e22, h⟩ := bd_some h
      refine k_i0 (va_runS (As := [.int wmn]) (rest := [.int v4]) ⟨hx, hb, hml, hown, hts⟩ (kX6_power l D cI cJ cZ tP H.size  wmn u21 e22) (va_cwS 1 hts gX6_count_X6_power rfl rfl rfl (by decide +kernel) ⟨Nat.le_of_ble_eq_true rfl, Nat.le_of_ble_eq_true rfl⟩) ⟨cPre_blind, cPre_at0 hK hN hS hA hZ⟩ rfl rfl hl.1 rfl (lv_room (Nat.le_of_ble_eq_true rfl)) dX6_count_53 ⟨Nat.le_of_ble_eq_true rfl, Nat.le_of_ble_eq_true rfl⟩) hP hS hA (fun H locs hP hS => ?_)
      refine lv_icmp_ge (tgt := 81) hx hb dX6_count_56 (by decide) (fun c23 => ?_) (fun c23 => ?_)
      · have h := (if_pos c23).symm.trans h
        exact K16 _ _ _ _ ⟨(hR18 _ (Option.some.inj h).symm).symm, hP, hD, hS, lv_sub hl [0, 1, 2, 3] rfl⟩
      · have h := (if_neg c23).symm.trans h
        refine lv_iload_n hx hb dX6_count_59 rfl (lv_at hl 1 rfl) ?_
        refine lv_aload_n hx hb dX6_count_60 rfl (lv_at hl 2 rfl) ?_
        refine lv_iload_n hx hb dX6_count_61 rfl (lv_at hl 0 rfl) ?_
        obtain ⟨u24, e25, h⟩ := bd_some h
        refine k_i (va_runV (As := [.int v4]) (rest := [.int v5]) ⟨hx, hb, hml, hown, hts⟩ (kX6_isRoom l D q cI cJ cZ tP H.size wwd wmn v6 v7 v8 wwl v9 v10 v11 v12 v13 wta v4 u24 e25) (cwV 1 hts gX6_count_X6_isRoom rfl rfl rfl (by decide +kernel) ⟨Nat.le_of_ble_eq_true rfl, Nat.le_of_ble_eq_true rfl⟩) ⟨cPre_blind, va_recv hK hP (ci := 6) (q0 := 0) rfl rfl, cPre_at hP hK hN hD hS hA hZ⟩ rfl rfl hl.1 rfl (lv_room (Nat.le_of_ble_eq_true rfl)) dX6_count_62 ⟨Nat.le_of_ble_eq_true rfl, Nat.le_of_ble_eq_true rfl⟩) hD hS hA (fun H locs hP hD hS => ?_)
        refine lv_if_eq (tgt := 72) hx hb dX6_count_65 (by decide) (fun c26 => ?_) (fun c26 => ?_)
        · have h := (if_pos c26).symm.trans h
          refine lv_iconst (v := (0 : Int32)) hx hb dX6_count_72 (by decide) ?_
          refine lv_iadd hx hb dX6_count_73 ?_
          refine lv_istore_n (lv' := [(2, .int (v5 + (0 : Int32))), (3, .int v4), (0, .ref (q 0)), (1, .int p1)]) hx hb dX6_count_74 rfl hl (by decide) rfl (fun ls hl => ?_)
          refine lv_iinc (v := (v4 + (1 : Int32))) (lv' := [(3, .int (v4 + (1 : Int32))), (2, .int (v5 + (0 : Int32))), (0, .ref (q 0)), (1, .int p1)]) hx hb dX6_count_75 hl (k := 1) rfl rfl (by decide) rfl (fun ls hl => ?_)
          refine lv_goto (tgt := 48) hx hb dX6_count_78 (by decide) ?_
          exact ih19 _ _ _ _ (Option.some.inj h).symm ⟨hP, hD, hS, lv_sub hl [0, 1, 2, 3] rfl⟩
        · have h := (if_neg c26).symm.trans h
          refine lv_iconst (v := (1 : Int32)) hx hb dX6_count_68 (by decide) ?_
          refine lv_goto (tgt := 73) hx hb dX6_count_69 (by decide) ?_
          refine lv_iadd hx hb dX6_count_73 ?_
          refine lv_istore_n (lv' := [(2, .int (v5 + (1 : Int32))), (3, .int v4), (0, .ref (q 0)), (1, .int p1)]) hx hb dX6_count_74 rfl hl (by decide) rfl (fun ls hl => ?_)
          refine lv_iinc (v := (v4 + (1 : Int32))) (lv' := [(3, .int (v4 + (1 : Int32))), (2, .int (v5 + (1 : Int32))), (0, .ref (q 0)), (1, .int p1)]) hx hb dX6_count_75 hl (k := 1) rfl rfl (by decide) rfl (fun ls hl => ?_)
          refine lv_goto (tgt := 48) hx hb dX6_count_78 (by decide) ?_
          exact ih19 _ _ _ _ (Option.some.inj h).symm ⟨hP, hD, hS, lv_sub hl [0, 1, 2, 3] rfl⟩
  have h := (if_neg c3).symm.trans h
  by_cases c27 : p1 = (3 : Int32)
  · have h := (if_pos c27).symm.trans h
    refine lv_tableIn (off := 80) (tgt := 83) hx hb dX6_count_3 (by rw [c27]; decide) (by rw [c27]; decide) (by rw [c27]; rfl) (by decide) ?_
    refine lv_iconst (v := (0 : Int32)) hx hb dX6_count_83 (by decide) ?_
    refine lv_istore_n (lv' := [(3, .int (0 : Int32)), (2, .int (0 : Int32)), (0, .ref (q 0)), (1, .int p1)]) hx hb dX6_count_84 rfl hl (by decide) rfl (fun ls hl => ?_)
    obtain ⟨u38, e39, h⟩ := bd_some h
    refine W_leave (P := fun (y : (Int32 × Int32 × Int32 × Int32 × Int32 × (Nat → Int32) × (Nat → Int32) × (Nat → Int32) × (Nat → Int64) × (Nat → Int64))) H locs ls => u38 = y ∧ va_P D vwCl (WM_ q cI cJ cZ wwd wmn y.2.2.1 y.2.2.2.1 y.2.2.2.2.1 wwl y.2.2.2.2.2.1 y.2.2.2.2.2.2.1 y.2.2.2.2.2.2.2.1 y.2.2.2.2.2.2.2.2.1 y.2.2.2.2.2.2.2.2.2 wta) H ∧ va_D A (WM_ q cI cJ cZ wwd wmn y.2.2.1 y.2.2.2.1 y.2.2.2.2.1 wwl y.2.2.2.2.2.1 y.2.2.2.2.2.2.1 y.2.2.2.2.2.2.2.1 y.2.2.2.2.2.2.2.2.1 y.2.2.2.2.2.2.2.2.2 wta) ∧ va_S A s.heap H locs ∧ lv_has ls 4 [(3, .int y.1), (2, .int y.2.1), (0, .ref (q 0)), (1, .int p1)]) (g := fun ls => F0 m 118 ls []) ?_ ?_
    · intro y H locs ls hq
      obtain ⟨hy, hP, hD, hS, hl⟩ := hq
      subst hy
      have hl : lv_has ls 4 [(3, .int u38.1), (2, .int u38.2.1), (0, .ref (q 0)), (1, .int p1)] := hl
      refine lv_iload_n hx hb dX6_count_118 rfl (lv_at hl 1 rfl) ?_
      obtain rfl := Option.some.inj h
      exact W.iret (v := u38.2.1) hx hb hr (fun t ht hW => ⟨⟨u38.2.1, (), rfl, rfl, by rw [ht]; exact hP, hD⟩, hS.F ht⟩) hS.2.2 dX6_count_119
    · intro K40
      refine W_lp (body := (fun (st : (Int32 × Int32 × Int32 × Int32 × Int32 × (Nat → Int32) × (Nat → Int32) × (Nat → Int32) × (Nat → Int64) × (Nat → Int64))) => fX6_count_L85 wmn wwd wwl st.1 st.2.1 st.2.2.1 st.2.2.2.1 st.2.2.2.2.1 st.2.2.2.2.2.1 st.2.2.2.2.2.2.1 st.2.2.2.2.2.2.2.1 st.2.2.2.2.2.2.2.2.1 st.2.2.2.2.2.2.2.2.2)) (P := fun (st : (Int32 × Int32 × Int32 × Int32 × Int32 × (Nat → Int32) × (Nat → Int32) × (Nat → Int32) × (Nat → Int64) × (Nat → Int64))) H locs ls => va_P D vwCl (WM_ q cI cJ cZ wwd wmn st.2.2.1 st.2.2.2.1 st.2.2.2.2.1 wwl st.2.2.2.2.2.1 st.2.2.2.2.2.2.1 st.2.2.2.2.2.2.2.1 st.2.2.2.2.2.2.2.2.1 st.2.2.2.2.2.2.2.2.2 wta) H ∧ va_D A (WM_ q cI cJ cZ wwd wmn st.2.2.1 st.2.2.2.1 st.2.2.2.2.1 wwl st.2.2.2.2.2.1 st.2.2.2.2.2.2.1 st.2.2.2.2.2.2.2.1 st.2.2.2.2.2.2.2.2.1 st.2.2.2.2.2.2.2.2.2 wta) ∧ va_S A s.heap H locs ∧ lv_has ls 4 [(3, .int st.1), (2, .int st.2.1), (0, .ref (q 0)), (1, .int p1)]) (g := fun _ ls => F0 m 85 ls []) (r := u38) ?_ fu_ ((0 : Int32), (0 : Int32), wod, wsm, wnm, wif, wev, wne, wsu, wnx) _ _ _ e39 ⟨hP, hD, hS, lv_sub hl [0, 1, 2, 3] rfl⟩
      intro st xx44 H locs ls h hq ih43 hR42
      obtain ⟨hP, hD, hS, hl⟩ := hq
      obtain ⟨v28, v29, v30, v31, v32, v33, v34, v35, v36, v37⟩ := st
      have hP : va_P D vwCl (WM_ q cI cJ cZ wwd wmn v30 v31 v32 wwl v33 v34 v35 v36 v37 wta) H := hP
      have hD : va_D A (WM_ q cI cJ cZ wwd wmn v30 v31 v32 wwl v33 v34 v35 v36 v37 wta) := hD
      have hl : lv_has ls 4 [(3, .int v28), (2, .int v29), (0, .ref (q 0)), (1, .int p1)] := hl
      have h : fX6_count_L85 wmn wwd wwl v28 v29 v30 v31 v32 v33 v34 v35 v36 v37 = some xx44 := h
      unfold fX6_count_L85 at h
      refine lv_iload_n hx hb dX6_count_85 rfl (lv_at hl 0 rfl) ?_
      refine lv_aload_n hx hb dX6_count_86 rfl (lv_at hl 2 rfl) ?_
      refine va_get (D := D) (ci := 6) (v := .int wmn) (C := RX6) (T := TX6) (N := 12) hx hb hts wiX6_count_X6 hown hK hP 0 rfl rfl 1 (by decide) (hts _ wmX6_count_1) (fun _ h9 => h9) rfl dX6_count_87 ?_
      obtain ⟨u45, e46, h⟩ := bd_some h
      refine k_i0 (va_runS (As := [.int wmn]) (rest := [.int v28]) ⟨hx, hb, hml, hown, hts⟩ (kX6_power l D cI cJ cZ tP H.size  wmn u45 e46) (va_cwS 1 hts gX6_count_X6_power rfl rfl rfl (by decide +kernel) ⟨Nat.le_of_ble_eq_true rfl, Nat.le_of_ble_eq_true rfl⟩) ⟨cPre_blind, cPre_at0 hK hN hS hA hZ⟩ rfl rfl hl.1 rfl (lv_room (Nat.le_of_ble_eq_true rfl)) dX6_count_90 ⟨Nat.le_of_ble_eq_true rfl, Nat.le_of_ble_eq_true rfl⟩) hP hS hA (fun H locs hP hS => ?_)
      refine lv_icmp_ge (tgt := 118) hx hb dX6_count_93 (by decide) (fun c47 => ?_) (fun c47 => ?_)
      · have h := (if_pos c47).symm.trans h
        exact K40 _ _ _ _ ⟨(hR42 _ (Option.some.inj h).symm).symm, hP, hD, hS, lv_sub hl [0, 1, 2, 3] rfl⟩
      · have h := (if_neg c47).symm.trans h
        refine lv_iload_n hx hb dX6_count_96 rfl (lv_at hl 1 rfl) ?_
        refine lv_aload_n hx hb dX6_count_97 rfl (lv_at hl 2 rfl) ?_
        refine lv_iload_n hx hb dX6_count_98 rfl (lv_at hl 0 rfl) ?_
        obtain ⟨u48, e49, h⟩ := bd_some h
        refine k_i (va_runV (As := [.int v28]) (rest := [.int v29]) ⟨hx, hb, hml, hown, hts⟩ (kX6_isFace l D q cI cJ cZ tP H.size wwd wmn v30 v31 v32 wwl v33 v34 v35 v36 v37 wta v28 u48 e49) (cwV 1 hts gX6_count_X6_isFace rfl rfl rfl (by decide +kernel) ⟨Nat.le_of_ble_eq_true rfl, Nat.le_of_ble_eq_true rfl⟩) ⟨cPre_blind, va_recv hK hP (ci := 6) (q0 := 0) rfl rfl, cPre_at hP hK hN hD hS hA hZ⟩ rfl rfl hl.1 rfl (lv_room (Nat.le_of_ble_eq_true rfl)) dX6_count_99 ⟨Nat.le_of_ble_eq_true rfl, Nat.le_of_ble_eq_true rfl⟩) hD hS hA (fun H locs hP hD hS => ?_)
        refine lv_if_eq (tgt := 109) hx hb dX6_count_102 (by decide) (fun c50 => ?_) (fun c50 => ?_)
        · have h := (if_pos c50).symm.trans h
          refine lv_iconst (v := (0 : Int32)) hx hb dX6_count_109 (by decide) ?_
          refine lv_iadd hx hb dX6_count_110 ?_
          refine lv_istore_n (lv' := [(2, .int (v29 + (0 : Int32))), (3, .int v28), (0, .ref (q 0)), (1, .int p1)]) hx hb dX6_count_111 rfl hl (by decide) rfl (fun ls hl => ?_)
          refine lv_iinc (v := (v28 + (1 : Int32))) (lv' := [(3, .int (v28 + (1 : Int32))), (2, .int (v29 + (0 : Int32))), (0, .ref (q 0)), (1, .int p1)]) hx hb dX6_count_112 hl (k := 1) rfl rfl (by decide) rfl (fun ls hl => ?_)
          refine lv_goto (tgt := 85) hx hb dX6_count_115 (by decide) ?_
          exact ih43 _ _ _ _ (Option.some.inj h).symm ⟨hP, hD, hS, lv_sub hl [0, 1, 2, 3] rfl⟩
        · have h := (if_neg c50).symm.trans h
          refine lv_iconst (v := (1 : Int32)) hx hb dX6_count_105 (by decide) ?_
          refine lv_goto (tgt := 110) hx hb dX6_count_106 (by decide) ?_
          refine lv_iadd hx hb dX6_count_110 ?_
          refine lv_istore_n (lv' := [(2, .int (v29 + (1 : Int32))), (3, .int v28), (0, .ref (q 0)), (1, .int p1)]) hx hb dX6_count_111 rfl hl (by decide) rfl (fun ls hl => ?_)
          refine lv_iinc (v := (v28 + (1 : Int32))) (lv' := [(3, .int (v28 + (1 : Int32))), (2, .int (v29 + (1 : Int32))), (0, .ref (q 0)), (1, .int p1)]) hx hb dX6_count_112 hl (k := 1) rfl rfl (by decide) rfl (fun ls hl => ?_)
          refine lv_goto (tgt := 85) hx hb dX6_count_115 (by decide) ?_
          exact ih43 _ _ _ _ (Option.some.inj h).symm ⟨hP, hD, hS, lv_sub hl [0, 1, 2, 3] rfl⟩
  have h := (if_neg c27).symm.trans h
  by_cases c51 : p1 = (4 : Int32)
  · have h := (if_pos c51).symm.trans h
    refine lv_tableIn (off := 117) (tgt := 120) hx hb dX6_count_3 (by rw [c51]; decide) (by rw [c51]; decide) (by rw [c51]; rfl) (by decide) ?_
    refine lv_aload_n hx hb dX6_count_120 rfl (lv_at hl 1 rfl) ?_
    refine lv_iconst (v := (1 : Int32)) hx hb dX6_count_121 (by decide) ?_
    refine lv_aload_n hx hb dX6_count_122 rfl (lv_at hl 1 rfl) ?_
    refine va_get (D := D) (ci := 6) (v := .int wmn) (C := RX6) (T := TX6) (N := 12) hx hb hts wiX6_count_X6 hown hK hP 0 rfl rfl 1 (by decide) (hts _ wmX6_count_1) (fun _ h9 => h9) rfl dX6_count_123 ?_
    refine lv_ishl hx hb dX6_count_126 ?_
    refine lv_iconst (v := (1 : Int32)) hx hb dX6_count_127 (by decide) ?_
    refine lv_isub hx hb dX6_count_128 ?_
    refine lv_iconst (v := (3 : Int32)) hx hb dX6_count_129 (by decide) ?_
    obtain ⟨u52, e53, h⟩ := bd_some h
    refine k_i (va_runV (As := [.int (((1 : Int32) <<< (wmn &&& 31)) - (1 : Int32)), .int (3 : Int32)]) (rest := []) ⟨hx, hb, hml, hown, hts⟩ (kX6_rank l D q cI cJ cZ tP s.heap.size wwd wmn wod wsm wnm wwl wif wev wne wsu wnx wta (((1 : Int32) <<< (wmn &&& 31)) - (1 : Int32)) (3 : Int32) u52 e53) (cwV 2 hts gX6_count_X6_rank rfl rfl rfl (by decide +kernel) ⟨Nat.le_of_ble_eq_true rfl, Nat.le_of_ble_eq_true rfl⟩) ⟨cPre_blind, va_recv hK hP (ci := 6) (q0 := 0) rfl rfl, cPre_at hP hK hN hD hS hA hZ⟩ rfl rfl hl.1 rfl (lv_room (Nat.le_of_ble_eq_true rfl)) dX6_count_130 ⟨Nat.le_of_ble_eq_true rfl, Nat.le_of_ble_eq_true rfl⟩) hD hS hA (fun H locs hP hD hS => ?_)
    obtain rfl := Option.some.inj h
    exact W.iret (v := u52.1) hx hb hr (fun t ht hW => ⟨⟨u52.1, (), rfl, rfl, by rw [ht]; exact hP, hD⟩, hS.F ht⟩) hS.2.2 dX6_count_133
  have h := (if_neg c51).symm.trans h
  refine lv_tableOut (tgt := 134) hx hb dX6_count_3 (sw_out5 c1 c2 c3 c27 c51) (by decide) ?_
  refine lv_iconst (v := (-1 : Int32)) hx hb dX6_count_134 (by decide) ?_
  obtain rfl := Option.some.inj h
  exact W.iret (v := (-1 : Int32)) hx hb hr (fun t ht hW => ⟨⟨(-1 : Int32), (), rfl, rfl, by rw [ht]; exact hP, hD⟩, hS.F ht⟩) hS.2.2 dX6_count_135
