-- X6_at
theorem wmX6_at_0 : (.fieldLink RX6 9 "SpaceWallsModel" "walls" "[I" : Cond) ∈ wsX6_at := by decide +kernel
theorem wiX6_at_X6 : ∀ w ∈ u_ws RX6 TX6 12, w ∈ wsX6_at := by decide +kernel
set_option maxHeartbeats 8000000 in
set_option maxRecDepth 100000 in
theorem kX6_at (l : Launch) (D : va_G) (q : Nat → Nat) (cI cJ cZ : ClassId) (tP sz : Nat) (wwd : Int32) (wmn : Int32) (wod : Int32) (wsm : Int32) (wnm : Int32) (wwl : (Nat → Int32)) (wif : (Nat → Int32)) (wev : (Nat → Int32)) (wne : (Nat → Int32)) (wsu : (Nat → Int64)) (wnx : (Nat → Int64)) (wta : (Nat → Int64)) (p1 : Int32) (p2 : Int32) (uu : Int32) (h : fX6_at wwl p1 p2 = some uu) : Met l yX6_at wsX6_at ({ frames := 0, cells := 0, slots := 0, locals := 0 }) (cPre D cI cJ cZ tP (WM_ q cI cJ cZ wwd wmn wod wsm wnm wwl wif wev wne wsu wnx wta) sz [.ref (q 0), .int p1, .int p2]) (cQi D (va_A (WM_ q cI cJ cZ wwd wmn wod wsm wnm wwl wif wev wne wsu wnx wta) sz) (WM_ q cI cJ cZ wwd wmn wod wsm wnm wwl wif wev wne wsu wnx wta) uu) 0 0 (va_A (WM_ q cI cJ cZ wwd wmn wod wsm wnm wwl wif wev wne wsu wnx wta) sz) := by
  refine Met.ofW (cc := cX6_at) (maxL := 3) (ret := (some .int)) (by decide) rfl ?_
  intro p e s m args below meth c s₁ B hml hv
  obtain ⟨rfl, hsz, hP, hK, hN, hD0, hZ⟩ := hv
  have hx := B.exec
  have hb := B.bytes
  have hr := B.returns
  have hts := atoms_spec (ws := wsX6_at) B.pre
  have hown : s.vm.findClass RX6 = some m.cls := findClass_of_methodNamed B.named
  have hlocks := B.notSynchronized
  subst hsz
  have hD := hD0.self (sz := s.heap.size)
  generalize hAe : va_A (WM_ q cI cJ cZ wwd wmn wod wsm wnm wwl wif wev wne wsu wnx wta) s.heap.size = A at hD hZ ⊢
  have hA : ∀ q : Nat, s.heap.size ≤ q → A q := fun q h => by rw [← hAe]; exact Or.inr h
  have hS : va_S A s.heap s.heap [] := va_S.rf
  have hl := lv_entry ([.ref (q 0), .int p1, .int p2]) (n := 3) (Nat.le_of_ble_eq_true rfl)
  rw [lg_entry_eq]
  generalize (lg_sl ([.ref (q 0), .int p1, .int p2]) ++ List.replicate (3 - (lg_sl ([.ref (q 0), .int p1, .int p2])).length) Slot.unset).toArray = ls at hl ⊢
  have hl : lv_has ls 3 [(0, .ref (q 0)), (1, .int p1), (2, .int p2)] := hl
  unfold fX6_at at h
  refine lv_aload_n hx hb dX6_at_0 rfl (lv_at hl 0 rfl) ?_
  refine va_get (D := D) (ci := 6) (v := .ref (q 1)) (C := RX6) (T := TX6) (N := 12) hx hb hts wiX6_at_X6 hown hK hP 0 rfl rfl 2 (by decide) (hts _ wmX6_at_0) (fun _ h9 => h9) rfl dX6_at_1 ?_
  refine lv_iconst (v := (4 : Int32)) hx hb dX6_at_4 (by decide) ?_
  refine lv_iload_n hx hb dX6_at_5 rfl (lv_at hl 1 rfl) ?_
  refine lv_imul hx hb dX6_at_6 ?_
  refine lv_iload_n hx hb dX6_at_7 rfl (lv_at hl 2 rfl) ?_
  refine lv_iadd hx hb dX6_at_8 ?_
  obtain ⟨i1, h⟩ := ck_some h
  refine va_iald hx hb hK hP 1 0 rfl rfl i1 dX6_at_9 ?_
  obtain rfl := Option.some.inj h
  exact W.iret (v := (wwl (((4 : Int32) * p1) + p2).toNatClampNeg)) hx hb hr (fun t ht hW => ⟨⟨(wwl (((4 : Int32) * p1) + p2).toNatClampNeg), (), rfl, rfl, by rw [ht]; exact hP, hD⟩, hS.F ht⟩) hS.2.2 dX6_at_10

-- X6_take
theorem wmX6_take_0 : (.fieldLink RX6 49 "SpaceWallsModel" "many" "I" : Cond) ∈ wsX6_take := by decide +kernel
theorem wmX6_take_1 : (.fieldLink RX6 9 "SpaceWallsModel" "walls" "[I" : Cond) ∈ wsX6_take := by decide +kernel
theorem wmX6_take_2 : (.fieldLink RX6 17 "SpaceWallsModel" "isOld" "Z" : Cond) ∈ wsX6_take := by decide +kernel
theorem wiX6_take_X6 : ∀ w ∈ u_ws RX6 TX6 12, w ∈ wsX6_take := by decide +kernel
set_option maxHeartbeats 8000000 in
set_option maxRecDepth 100000 in
theorem kX6_take (l : Launch) (D : va_G) (q : Nat → Nat) (cI cJ cZ : ClassId) (tP sz : Nat) (wwd : Int32) (wmn : Int32) (wod : Int32) (wsm : Int32) (wnm : Int32) (wwl : (Nat → Int32)) (wif : (Nat → Int32)) (wev : (Nat → Int32)) (wne : (Nat → Int32)) (wsu : (Nat → Int64)) (wnx : (Nat → Int64)) (wta : (Nat → Int64)) (p1 : Int32) (uu : (Int32 × Int32 × Int32 × (Nat → Int32))) (h : fX6_take wmn wod wwl p1 = some uu) : Met l yX6_take wsX6_take ({ frames := 1, cells := 0, slots := 0, locals := 22 }) (cPre D cI cJ cZ tP (WM_ q cI cJ cZ wwd wmn wod wsm wnm wwl wif wev wne wsu wnx wta) sz [.ref (q 0), .int p1]) (cQi D (va_A (WM_ q cI cJ cZ wwd wmn wod wsm wnm wwl wif wev wne wsu wnx wta) sz) (WM_ q cI cJ cZ wwd uu.2.1 uu.2.2.1 wsm wnm uu.2.2.2 wif wev wne wsu wnx wta) uu.1) 0 0 (va_A (WM_ q cI cJ cZ wwd wmn wod wsm wnm wwl wif wev wne wsu wnx wta) sz) := by
  refine Met.ofW (cc := cX6_take) (maxL := 3) (ret := (some .boolean)) (by decide) rfl ?_
  intro p e s m args below meth c s₁ B hml hv
  obtain ⟨rfl, hsz, hP, hK, hN, hD0, hZ⟩ := hv
  have hx := B.exec
  have hb := B.bytes
  have hr := B.returns
  have hts := atoms_spec (ws := wsX6_take) B.pre
  have hown : s.vm.findClass RX6 = some m.cls := findClass_of_methodNamed B.named
  have hlocks := B.notSynchronized
  subst hsz
  have hD := hD0.self (sz := s.heap.size)
  generalize hAe : va_A (WM_ q cI cJ cZ wwd wmn wod wsm wnm wwl wif wev wne wsu wnx wta) s.heap.size = A at hD hZ ⊢
  have hA : ∀ q : Nat, s.heap.size ≤ q → A q := fun q h => by rw [← hAe]; exact Or.inr h
  have hS : va_S A s.heap s.heap [] := va_S.rf
  have hl := lv_entry ([.ref (q 0), .int p1]) (n := 3) (Nat.le_of_ble_eq_true rfl)
  rw [lg_entry_eq]
  generalize (lg_sl ([.ref (q 0), .int p1]) ++ List.replicate (3 - (lg_sl ([.ref (q 0), .int p1])).length) Slot.unset).toArray = ls at hl ⊢
  have hl : lv_has ls 3 [(0, .ref (q 0)), (1, .int p1)] := hl
  unfold fX6_take at h
  refine lv_iload_n hx hb dX6_take_0 rfl (lv_at hl 1 rfl) ?_
  refine lv_iconst (v := (0 : Int32)) hx hb dX6_take_1 (by decide) ?_
  refine lv_aload_n hx hb dX6_take_2 rfl (lv_at hl 0 rfl) ?_
  refine va_get (D := D) (ci := 6) (v := .int wmn) (C := RX6) (T := TX6) (N := 12) hx hb hts wiX6_take_X6 hown hK hP 0 rfl rfl 1 (by decide) (hts _ wmX6_take_0) (fun _ h9 => h9) rfl dX6_take_3 ?_
  refine lv_iconst (v := (1 : Int32)) hx hb dX6_take_6 (by decide) ?_
  refine lv_isub hx hb dX6_take_7 ?_
  obtain ⟨u1, e2, h⟩ := bd_some h
  refine k_i0 (va_runS (As := [.int p1, .int (0 : Int32), .int (wmn - (1 : Int32))]) (rest := []) ⟨hx, hb, hml, hown, hts⟩ (kX6_in l D cI cJ cZ tP s.heap.size  p1 (0 : Int32) (wmn - (1 : Int32)) u1 e2) (va_cwS 3 hts gX6_take_X6_in rfl rfl rfl (by decide +kernel) ⟨Nat.le_of_ble_eq_true rfl, Nat.le_of_ble_eq_true rfl⟩) ⟨cPre_blind, cPre_at0 hK hN hS hA hZ⟩ rfl rfl hl.1 rfl (lv_room (Nat.le_of_ble_eq_true rfl)) dX6_take_8 ⟨Nat.le_of_ble_eq_true rfl, Nat.le_of_ble_eq_true rfl⟩) hP hS hA (fun H locs hP hS => ?_)
  refine lv_if_ne (tgt := 16) hx hb dX6_take_11 (by decide) (fun c3 => ?_) (fun c3 => ?_)
  · have h := (if_neg c3).symm.trans h
    refine lv_iconst (v := (4 : Int32)) hx hb dX6_take_16 (by decide) ?_
    refine lv_iload_n hx hb dX6_take_17 rfl (lv_at hl 1 rfl) ?_
    refine lv_imul hx hb dX6_take_18 ?_
    refine lv_istore_n (lv' := [(2, .int ((4 : Int32) * p1)), (0, .ref (q 0)), (1, .int p1)]) hx hb dX6_take_19 rfl hl (by decide) rfl (fun ls hl => ?_)
    obtain ⟨u6, e7, h⟩ := bd_some h
    refine W_leave (P := fun (y : (Int32 × (Nat → Int32))) H locs ls => u6 = y ∧ va_P D vwCl (WM_ q cI cJ cZ wwd wmn wod wsm wnm y.2 wif wev wne wsu wnx wta) H ∧ va_D A (WM_ q cI cJ cZ wwd wmn wod wsm wnm y.2 wif wev wne wsu wnx wta) ∧ va_S A s.heap H locs ∧ lv_has ls 3 [(2, .int y.1), (0, .ref (q 0)), (1, .int p1)]) (g := fun ls => F0 m 52 ls []) ?_ ?_
    · intro y H locs ls hq
      obtain ⟨hy, hP, hD, hS, hl⟩ := hq
      subst hy
      have hl : lv_has ls 3 [(2, .int u6.1), (0, .ref (q 0)), (1, .int p1)] := hl
      refine lv_aload_n hx hb dX6_take_52 rfl (lv_at hl 1 rfl) ?_
      refine lv_dup hx hb dX6_take_53 rfl ?_
      refine va_get (D := D) (ci := 6) (v := .int wmn) (C := RX6) (T := TX6) (N := 12) hx hb hts wiX6_take_X6 hown hK hP 0 rfl rfl 1 (by decide) (hts _ wmX6_take_0) (fun _ h9 => h9) rfl dX6_take_54 ?_
      refine lv_iconst (v := (1 : Int32)) hx hb dX6_take_57 (by decide) ?_
      refine lv_isub hx hb dX6_take_58 ?_
      refine va_put (D := D) (ci := 6) (v := .int (wmn - (1 : Int32))) (ty := .int) (C := RX6) (T := TX6) (N := 12) hx hb hts wiX6_take_X6 tyX6 tyX6_ok nmX6 hown hK hP hD hS 0 rfl rfl 1 (by decide) (hts _ wmX6_take_0) (fun _ h9 => h9) rfl (by decide +kernel) rfl rfl (Nat.le_of_ble_eq_true rfl) dX6_take_59 (fun H locs hP hD hS => ?_)
      have hP : va_P D vwCl (WM_ q cI cJ cZ wwd (wmn - (1 : Int32)) wod wsm wnm u6.2 wif wev wne wsu wnx wta) H := hP
      have hD : va_D A (WM_ q cI cJ cZ wwd (wmn - (1 : Int32)) wod wsm wnm u6.2 wif wev wne wsu wnx wta) := hD
      refine lv_aload_n hx hb dX6_take_62 rfl (lv_at hl 1 rfl) ?_
      refine lv_iconst (v := (1 : Int32)) hx hb dX6_take_63 (by decide) ?_
      refine va_put (D := D) (ci := 6) (v := .int (1 : Int32)) (ty := .boolean) (C := RX6) (T := TX6) (N := 12) hx hb hts wiX6_take_X6 tyX6 tyX6_ok nmX6 hown hK hP hD hS 0 rfl rfl 4 (by decide) (hts _ wmX6_take_2) (fun _ h9 => h9) rfl (by decide +kernel) rfl rfl (Nat.le_of_ble_eq_true rfl) dX6_take_64 (fun H locs hP hD hS => ?_)
      have hP : va_P D vwCl (WM_ q cI cJ cZ wwd (wmn - (1 : Int32)) (1 : Int32) wsm wnm u6.2 wif wev wne wsu wnx wta) H := hP
      have hD : va_D A (WM_ q cI cJ cZ wwd (wmn - (1 : Int32)) (1 : Int32) wsm wnm u6.2 wif wev wne wsu wnx wta) := hD
      refine lv_iconst (v := (1 : Int32)) hx hb dX6_take_67 (by decide) ?_
      obtain rfl := Option.some.inj h
      exact W.zret (v := (1 : Int32)) hx hb hr (by decide) (fun t ht hW => ⟨⟨(1 : Int32), (), rfl, rfl, by rw [ht]; exact hP, hD⟩, hS.F ht⟩) hS.2.2 dX6_take_68
    · intro K8
      refine W_lp (body := (fun (st : (Int32 × (Nat → Int32))) => fX6_take_L20 wmn st.1 st.2)) (P := fun (st : (Int32 × (Nat → Int32))) H locs ls => va_P D vwCl (WM_ q cI cJ cZ wwd wmn wod wsm wnm st.2 wif wev wne wsu wnx wta) H ∧ va_D A (WM_ q cI cJ cZ wwd wmn wod wsm wnm st.2 wif wev wne wsu wnx wta) ∧ va_S A s.heap H locs ∧ lv_has ls 3 [(2, .int st.1), (0, .ref (q 0)), (1, .int p1)]) (g := fun _ ls => F0 m 20 ls []) (r := u6) ?_ fu_ (((4 : Int32) * p1), wwl) _ _ _ e7 ⟨hP, hD, hS, lv_sub hl [0, 1, 2] rfl⟩
      intro st xx12 H locs ls h hq ih11 hR10
      obtain ⟨hP, hD, hS, hl⟩ := hq
      obtain ⟨v4, v5⟩ := st
      have hP : va_P D vwCl (WM_ q cI cJ cZ wwd wmn wod wsm wnm v5 wif wev wne wsu wnx wta) H := hP
      have hD : va_D A (WM_ q cI cJ cZ wwd wmn wod wsm wnm v5 wif wev wne wsu wnx wta) := hD
      have hl : lv_has ls 3 [(2, .int v4), (0, .ref (q 0)), (1, .int p1)] := hl
      have h : fX6_take_L20 wmn v4 v5 = some xx12 := h
      unfold fX6_take_L20 at h
      refine lv_iload_n hx hb dX6_take_20 rfl (lv_at hl 0 rfl) ?_
      refine lv_iconst (v := (4 : Int32)) hx hb dX6_take_21 (by decide) ?_
      refine lv_iadd hx hb dX6_take_22 ?_
      refine lv_iconst (v := (4 : Int32)) hx hb dX6_take_23 (by decide) ?_
      refine lv_aload_n hx hb dX6_take_24 rfl (lv_at hl 1 rfl) ?_
      refine va_get (D := D) (ci := 6) (v := .int wmn) (C := RX6) (T := TX6) (N := 12) hx hb hts wiX6_take_X6 hown hK hP 0 rfl rfl 1 (by decide) (hts _ wmX6_take_0) (fun _ h9 => h9) rfl dX6_take_25 ?_
      refine lv_imul hx hb dX6_take_28 ?_
      refine lv_icmp_ge (tgt := 52) hx hb dX6_take_29 (by decide) (fun c13 => ?_) (fun c13 => ?_)
      · have h := (if_pos c13).symm.trans h
        exact K8 _ _ _ _ ⟨(hR10 _ (Option.some.inj h).symm).symm, hP, hD, hS, lv_sub hl [0, 1, 2] rfl⟩
      · have h := (if_neg c13).symm.trans h
        refine lv_aload_n hx hb dX6_take_32 rfl (lv_at hl 1 rfl) ?_
        refine va_get (D := D) (ci := 6) (v := .ref (q 1)) (C := RX6) (T := TX6) (N := 12) hx hb hts wiX6_take_X6 hown hK hP 0 rfl rfl 2 (by decide) (hts _ wmX6_take_1) (fun _ h9 => h9) rfl dX6_take_33 ?_
        refine lv_iload_n hx hb dX6_take_36 rfl (lv_at hl 0 rfl) ?_
        refine lv_aload_n hx hb dX6_take_37 rfl (lv_at hl 1 rfl) ?_
        refine va_get (D := D) (ci := 6) (v := .ref (q 1)) (C := RX6) (T := TX6) (N := 12) hx hb hts wiX6_take_X6 hown hK hP 0 rfl rfl 2 (by decide) (hts _ wmX6_take_1) (fun _ h9 => h9) rfl dX6_take_38 ?_
        refine lv_iload_n hx hb dX6_take_41 rfl (lv_at hl 0 rfl) ?_
        refine lv_iconst (v := (4 : Int32)) hx hb dX6_take_42 (by decide) ?_
        refine lv_iadd hx hb dX6_take_43 ?_
        obtain ⟨i14, h⟩ := ck_some h
        refine va_iald hx hb hK hP 1 0 rfl rfl i14 dX6_take_44 ?_
        obtain ⟨i15, h⟩ := ck_some h
        refine va_iast hx hb hK hP hD hS 1 0 rfl rfl i15 dX6_take_45 (fun H locs hP hD hS => ?_)
        have hP : va_P D vwCl (WM_ q cI cJ cZ wwd wmn wod wsm wnm (upd v5 v4.toNatClampNeg (v5 (v4 + (4 : Int32)).toNatClampNeg)) wif wev wne wsu wnx wta) H := hP
        have hD : va_D A (WM_ q cI cJ cZ wwd wmn wod wsm wnm (upd v5 v4.toNatClampNeg (v5 (v4 + (4 : Int32)).toNatClampNeg)) wif wev wne wsu wnx wta) := hD
        refine lv_iinc (v := (v4 + (1 : Int32))) (lv' := [(2, .int (v4 + (1 : Int32))), (0, .ref (q 0)), (1, .int p1)]) hx hb dX6_take_46 hl (k := 0) rfl rfl (by decide) rfl (fun ls hl => ?_)
        refine lv_goto (tgt := 20) hx hb dX6_take_49 (by decide) ?_
        exact ih11 _ _ _ _ (Option.some.inj h).symm ⟨hP, hD, hS, lv_sub hl [0, 1, 2] rfl⟩
  · have h := (if_pos c3).symm.trans h
    refine lv_iconst (v := (0 : Int32)) hx hb dX6_take_14 (by decide) ?_
    obtain rfl := Option.some.inj h
    exact W.zret (v := (0 : Int32)) hx hb hr (by decide) (fun t ht hW => ⟨⟨(0 : Int32), (), rfl, rfl, by rw [ht]; exact hP, hD⟩, hS.F ht⟩) hS.2.2 dX6_take_15

-- X6_told
theorem wmX6_told_0 : (.fieldLink RX6 49 "SpaceWallsModel" "many" "I" : Cond) ∈ wsX6_told := by decide +kernel
theorem wiX6_told_X6 : ∀ w ∈ u_ws RX6 TX6 12, w ∈ wsX6_told := by decide +kernel
set_option maxHeartbeats 8000000 in
set_option maxRecDepth 100000 in
theorem kX6_told (l : Launch) (D : va_G) (q : Nat → Nat) (cI cJ cZ : ClassId) (tP sz : Nat) (wwd : Int32) (wmn : Int32) (wod : Int32) (wsm : Int32) (wnm : Int32) (wwl : (Nat → Int32)) (wif : (Nat → Int32)) (wev : (Nat → Int32)) (wne : (Nat → Int32)) (wsu : (Nat → Int64)) (wnx : (Nat → Int64)) (wta : (Nat → Int64)) (p1 : Int32) (p2 : Int32) (uu : Int32) (h : fX6_told wmn wwl p1 p2 = some uu) : Met l yX6_told wsX6_told ({ frames := 1, cells := 0, slots := 0, locals := 22 }) (cPre D cI cJ cZ tP (WM_ q cI cJ cZ wwd wmn wod wsm wnm wwl wif wev wne wsu wnx wta) sz [.ref (q 0), .int p1, .int p2]) (cQi D (va_A (WM_ q cI cJ cZ wwd wmn wod wsm wnm wwl wif wev wne wsu wnx wta) sz) (WM_ q cI cJ cZ wwd wmn wod wsm wnm wwl wif wev wne wsu wnx wta) uu) 0 0 (va_A (WM_ q cI cJ cZ wwd wmn wod wsm wnm wwl wif wev wne wsu wnx wta) sz) := by
  refine Met.ofW (cc := cX6_told) (maxL := 3) (ret := (some .int)) (by decide) rfl ?_
  intro p e s m args below meth c s₁ B hml hv
  obtain ⟨rfl, hsz, hP, hK, hN, hD0, hZ⟩ := hv
  have hx := B.exec
  have hb := B.bytes
  have hr := B.returns
  have hts := atoms_spec (ws := wsX6_told) B.pre
  have hown : s.vm.findClass RX6 = some m.cls := findClass_of_methodNamed B.named
  have hlocks := B.notSynchronized
  subst hsz
  have hD := hD0.self (sz := s.heap.size)
  generalize hAe : va_A (WM_ q cI cJ cZ wwd wmn wod wsm wnm wwl wif wev wne wsu wnx wta) s.heap.size = A at hD hZ ⊢
  have hA : ∀ q : Nat, s.heap.size ≤ q → A q := fun q h => by rw [← hAe]; exact Or.inr h
  have hS : va_S A s.heap s.heap [] := va_S.rf
  have hl := lv_entry ([.ref (q 0), .int p1, .int p2]) (n := 3) (Nat.le_of_ble_eq_true rfl)
  rw [lg_entry_eq]
  generalize (lg_sl ([.ref (q 0), .int p1, .int p2]) ++ List.replicate (3 - (lg_sl ([.ref (q 0), .int p1, .int p2])).length) Slot.unset).toArray = ls at hl ⊢
  have hl : lv_has ls 3 [(0, .ref (q 0)), (1, .int p1), (2, .int p2)] := hl
  unfold fX6_told at h
  refine lv_iload_n hx hb dX6_told_0 rfl (lv_at hl 1 rfl) ?_
  refine lv_iconst (v := (0 : Int32)) hx hb dX6_told_1 (by decide) ?_
  refine lv_aload_n hx hb dX6_told_2 rfl (lv_at hl 0 rfl) ?_
  refine va_get (D := D) (ci := 6) (v := .int wmn) (C := RX6) (T := TX6) (N := 12) hx hb hts wiX6_told_X6 hown hK hP 0 rfl rfl 1 (by decide) (hts _ wmX6_told_0) (fun _ h9 => h9) rfl dX6_told_3 ?_
  refine lv_iconst (v := (1 : Int32)) hx hb dX6_told_6 (by decide) ?_
  refine lv_isub hx hb dX6_told_7 ?_
  obtain ⟨u1, e2, h⟩ := bd_some h
  refine k_i0 (va_runS (As := [.int p1, .int (0 : Int32), .int (wmn - (1 : Int32))]) (rest := []) ⟨hx, hb, hml, hown, hts⟩ (kX6_in l D cI cJ cZ tP s.heap.size  p1 (0 : Int32) (wmn - (1 : Int32)) u1 e2) (va_cwS 3 hts gX6_told_X6_in rfl rfl rfl (by decide +kernel) ⟨Nat.le_of_ble_eq_true rfl, Nat.le_of_ble_eq_true rfl⟩) ⟨cPre_blind, cPre_at0 hK hN hS hA hZ⟩ rfl rfl hl.1 rfl (lv_room (Nat.le_of_ble_eq_true rfl)) dX6_told_8 ⟨Nat.le_of_ble_eq_true rfl, Nat.le_of_ble_eq_true rfl⟩) hP hS hA (fun H locs hP hS => ?_)
  refine lv_if_eq (tgt := 32) hx hb dX6_told_11 (by decide) (fun c3 => ?_) (fun c3 => ?_)
  · have h := (if_pos c3).symm.trans h
    refine lv_iconst (v := (-1 : Int32)) hx hb dX6_told_32 (by decide) ?_
    obtain rfl := Option.some.inj h
    exact W.iret (v := (-1 : Int32)) hx hb hr (fun t ht hW => ⟨⟨(-1 : Int32), (), rfl, rfl, by rw [ht]; exact hP, hD⟩, hS.F ht⟩) hS.2.2 dX6_told_33
  · have h := (if_neg c3).symm.trans h
    refine lv_iload_n hx hb dX6_told_14 rfl (lv_at hl 2 rfl) ?_
    refine lv_iconst (v := (0 : Int32)) hx hb dX6_told_15 (by decide) ?_
    refine lv_iconst (v := (3 : Int32)) hx hb dX6_told_16 (by decide) ?_
    obtain ⟨u4, e5, h⟩ := bd_some h
    refine k_i0 (va_runS (As := [.int p2, .int (0 : Int32), .int (3 : Int32)]) (rest := []) ⟨hx, hb, hml, hown, hts⟩ (kX6_in l D cI cJ cZ tP H.size  p2 (0 : Int32) (3 : Int32) u4 e5) (va_cwS 3 hts gX6_told_X6_in rfl rfl rfl (by decide +kernel) ⟨Nat.le_of_ble_eq_true rfl, Nat.le_of_ble_eq_true rfl⟩) ⟨cPre_blind, cPre_at0 hK hN hS hA hZ⟩ rfl rfl hl.1 rfl (lv_room (Nat.le_of_ble_eq_true rfl)) dX6_told_17 ⟨Nat.le_of_ble_eq_true rfl, Nat.le_of_ble_eq_true rfl⟩) hP hS hA (fun H locs hP hS => ?_)
    refine lv_if_eq (tgt := 32) hx hb dX6_told_20 (by decide) (fun c6 => ?_) (fun c6 => ?_)
    · have h := (if_pos c6).symm.trans h
      refine lv_iconst (v := (-1 : Int32)) hx hb dX6_told_32 (by decide) ?_
      obtain rfl := Option.some.inj h
      exact W.iret (v := (-1 : Int32)) hx hb hr (fun t ht hW => ⟨⟨(-1 : Int32), (), rfl, rfl, by rw [ht]; exact hP, hD⟩, hS.F ht⟩) hS.2.2 dX6_told_33
    · have h := (if_neg c6).symm.trans h
      refine lv_aload_n hx hb dX6_told_23 rfl (lv_at hl 0 rfl) ?_
      refine lv_iload_n hx hb dX6_told_24 rfl (lv_at hl 1 rfl) ?_
      refine lv_iload_n hx hb dX6_told_25 rfl (lv_at hl 2 rfl) ?_
      obtain ⟨u7, e8, h⟩ := bd_some h
      refine k_i (va_runV (As := [.int p1, .int p2]) (rest := []) ⟨hx, hb, hml, hown, hts⟩ (kX6_at l D q cI cJ cZ tP H.size wwd wmn wod wsm wnm wwl wif wev wne wsu wnx wta p1 p2 u7 e8) (cwV 2 hts gX6_told_X6_at rfl rfl rfl (by decide +kernel) ⟨Nat.le_of_ble_eq_true rfl, Nat.le_of_ble_eq_true rfl⟩) ⟨cPre_blind, va_recv hK hP (ci := 6) (q0 := 0) rfl rfl, cPre_at hP hK hN hD hS hA hZ⟩ rfl rfl hl.1 rfl (lv_room (Nat.le_of_ble_eq_true rfl)) dX6_told_26 ⟨Nat.le_of_ble_eq_true rfl, Nat.le_of_ble_eq_true rfl⟩) hD hS hA (fun H locs hP hD hS => ?_)
      refine lv_goto (tgt := 33) hx hb dX6_told_29 (by decide) ?_
      obtain rfl := Option.some.inj h
      exact W.iret (v := u7) hx hb hr (fun t ht hW => ⟨⟨u7, (), rfl, rfl, by rw [ht]; exact hP, hD⟩, hS.F ht⟩) hS.2.2 dX6_told_33

-- X6_begins
theorem wmX6_begins_0 : (.fieldLink RX6 62 "SpaceWallsModel" "sumMany" "I" : Cond) ∈ wsX6_begins := by decide +kernel
theorem wiX6_begins_X6 : ∀ w ∈ u_ws RX6 TX6 12, w ∈ wsX6_begins := by decide +kernel
set_option maxHeartbeats 8000000 in
set_option maxRecDepth 100000 in
theorem kX6_begins (l : Launch) (D : va_G) (q : Nat → Nat) (cI cJ cZ : ClassId) (tP sz : Nat) (wwd : Int32) (wmn : Int32) (wod : Int32) (wsm : Int32) (wnm : Int32) (wwl : (Nat → Int32)) (wif : (Nat → Int32)) (wev : (Nat → Int32)) (wne : (Nat → Int32)) (wsu : (Nat → Int64)) (wnx : (Nat → Int64)) (wta : (Nat → Int64))  (uu : Int32) (h : fX6_begins  = some uu) : Met l yX6_begins wsX6_begins ({ frames := 0, cells := 0, slots := 0, locals := 0 }) (cPre D cI cJ cZ tP (WM_ q cI cJ cZ wwd wmn wod wsm wnm wwl wif wev wne wsu wnx wta) sz [.ref (q 0)]) (cQv D (va_A (WM_ q cI cJ cZ wwd wmn wod wsm wnm wwl wif wev wne wsu wnx wta) sz) (WM_ q cI cJ cZ wwd wmn wod uu wnm wwl wif wev wne wsu wnx wta)) 0 0 (va_A (WM_ q cI cJ cZ wwd wmn wod wsm wnm wwl wif wev wne wsu wnx wta) sz) := by
  refine Met.ofW (cc := cX6_begins) (maxL := 1) (ret := none) (by decide) rfl ?_
  intro p e s m args below meth c s₁ B hml hv
  obtain ⟨rfl, hsz, hP, hK, hN, hD0, hZ⟩ := hv
  have hx := B.exec
  have hb := B.bytes
  have hr := B.returns
  have hts := atoms_spec (ws := wsX6_begins) B.pre
  have hown : s.vm.findClass RX6 = some m.cls := findClass_of_methodNamed B.named
  have hlocks := B.notSynchronized
  subst hsz
  have hD := hD0.self (sz := s.heap.size)
  generalize hAe : va_A (WM_ q cI cJ cZ wwd wmn wod wsm wnm wwl wif wev wne wsu wnx wta) s.heap.size = A at hD hZ ⊢
  have hA : ∀ q : Nat, s.heap.size ≤ q → A q := fun q h => by rw [← hAe]; exact Or.inr h
  have hS : va_S A s.heap s.heap [] := va_S.rf
  have hl := lv_entry ([.ref (q 0)]) (n := 1) (Nat.le_of_ble_eq_true rfl)
  rw [lg_entry_eq]
  generalize (lg_sl ([.ref (q 0)]) ++ List.replicate (1 - (lg_sl ([.ref (q 0)])).length) Slot.unset).toArray = ls at hl ⊢
  have hl : lv_has ls 1 [(0, .ref (q 0))] := hl
  unfold fX6_begins at h
  refine lv_aload_n hx hb dX6_begins_0 rfl (lv_at hl 0 rfl) ?_
  refine lv_iconst (v := (0 : Int32)) hx hb dX6_begins_1 (by decide) ?_
  refine va_put (D := D) (ci := 6) (v := .int (0 : Int32)) (ty := .int) (C := RX6) (T := TX6) (N := 12) hx hb hts wiX6_begins_X6 tyX6 tyX6_ok nmX6 hown hK hP hD hS 0 rfl rfl 7 (by decide) (hts _ wmX6_begins_0) (fun _ h9 => h9) rfl (by decide +kernel) rfl rfl (Nat.le_of_ble_eq_true rfl) dX6_begins_2 (fun H locs hP hD hS => ?_)
  have hP : va_P D vwCl (WM_ q cI cJ cZ wwd wmn wod (0 : Int32) wnm wwl wif wev wne wsu wnx wta) H := hP
  have hD : va_D A (WM_ q cI cJ cZ wwd wmn wod (0 : Int32) wnm wwl wif wev wne wsu wnx wta) := hD
  obtain rfl := Option.some.inj h
  exact W.vret hx hb hr (fun t ht hW => ⟨⟨(), rfl, trivial, by rw [ht]; exact hP, hD⟩, hS.F ht⟩) hS.2.2 dX6_begins_5

-- X6_adds
theorem wmX6_adds_0 : (.fieldLink RX6 21 "SpaceWallsModel" "sums" "[J" : Cond) ∈ wsX6_adds := by decide +kernel
theorem wmX6_adds_1 : (.fieldLink RX6 62 "SpaceWallsModel" "sumMany" "I" : Cond) ∈ wsX6_adds := by decide +kernel
theorem wmX6_adds_2 : (.fieldLink RX6 25 "SpaceWallsModel" "isEven" "[Z" : Cond) ∈ wsX6_adds := by decide +kernel
theorem wiX6_adds_X6 : ∀ w ∈ u_ws RX6 TX6 12, w ∈ wsX6_adds := by decide +kernel
set_option maxHeartbeats 8000000 in
set_option maxRecDepth 100000 in
theorem kX6_adds (l : Launch) (D : va_G) (q : Nat → Nat) (cI cJ cZ : ClassId) (tP sz : Nat) (wwd : Int32) (wmn : Int32) (wod : Int32) (wsm : Int32) (wnm : Int32) (wwl : (Nat → Int32)) (wif : (Nat → Int32)) (wev : (Nat → Int32)) (wne : (Nat → Int32)) (wsu : (Nat → Int64)) (wnx : (Nat → Int64)) (wta : (Nat → Int64)) (p1 : Int32) (p2 : Int32) (uu : (Int32 × (Nat → Int32) × (Nat → Int64))) (h : fX6_adds wsm wwl wev wsu p1 p2 = some uu) : Met l yX6_adds wsX6_adds ({ frames := 1, cells := 0, slots := 0, locals := 22 }) (cPre D cI cJ cZ tP (WM_ q cI cJ cZ wwd wmn wod wsm wnm wwl wif wev wne wsu wnx wta) sz [.ref (q 0), .int p1, .int p2]) (cQv D (va_A (WM_ q cI cJ cZ wwd wmn wod wsm wnm wwl wif wev wne wsu wnx wta) sz) (WM_ q cI cJ cZ wwd wmn wod uu.1 wnm wwl wif uu.2.1 wne uu.2.2 wnx wta)) 0 0 (va_A (WM_ q cI cJ cZ wwd wmn wod wsm wnm wwl wif wev wne wsu wnx wta) sz) := by
  refine Met.ofW (cc := cX6_adds) (maxL := 4) (ret := none) (by decide) rfl ?_
  intro p e s m args below meth c s₁ B hml hv
  obtain ⟨rfl, hsz, hP, hK, hN, hD0, hZ⟩ := hv
  have hx := B.exec
  have hb := B.bytes
  have hr := B.returns
  have hts := atoms_spec (ws := wsX6_adds) B.pre
  have hown : s.vm.findClass RX6 = some m.cls := findClass_of_methodNamed B.named
  have hlocks := B.notSynchronized
  subst hsz
  have hD := hD0.self (sz := s.heap.size)
  generalize hAe : va_A (WM_ q cI cJ cZ wwd wmn wod wsm wnm wwl wif wev wne wsu wnx wta) s.heap.size = A at hD hZ ⊢
  have hA : ∀ q : Nat, s.heap.size ≤ q → A q := fun q h => by rw [← hAe]; exact Or.inr h
  have hS : va_S A s.heap s.heap [] := va_S.rf
  have hl := lv_entry ([.ref (q 0), .int p1, .int p2]) (n := 4) (Nat.le_of_ble_eq_true rfl)
  rw [lg_entry_eq]
  generalize (lg_sl ([.ref (q 0), .int p1, .int p2]) ++ List.replicate (4 - (lg_sl ([.ref (q 0), .int p1, .int p2])).length) Slot.unset).toArray = ls at hl ⊢
  have hl : lv_has ls 4 [(0, .ref (q 0)), (1, .int p1), (2, .int p2)] := hl
  unfold fX6_adds at h
  refine lv_iconst (v := (0 : Int32)) hx hb dX6_adds_0 (by decide) ?_
  refine lv_istore_n (lv' := [(3, .int (0 : Int32)), (0, .ref (q 0)), (1, .int p1), (2, .int p2)]) hx hb dX6_adds_1 rfl hl (by decide) rfl (fun ls hl => ?_)
  obtain ⟨u3, e4, h⟩ := bd_some h
  refine W_leave (P := fun (y : (Int32 × (Nat → Int64))) H locs ls => u3 = y ∧ va_P D vwCl (WM_ q cI cJ cZ wwd wmn wod wsm wnm wwl wif wev wne y.2 wnx wta) H ∧ va_D A (WM_ q cI cJ cZ wwd wmn wod wsm wnm wwl wif wev wne y.2 wnx wta) ∧ va_S A s.heap H locs ∧ lv_has ls 4 [(3, .int y.1), (0, .ref (q 0)), (1, .int p1), (2, .int p2)]) (g := fun ls => F0 m 49 ls []) ?_ ?_
  · intro y H locs ls hq
    obtain ⟨hy, hP, hD, hS, hl⟩ := hq
    subst hy
    have hl : lv_has ls 4 [(3, .int u3.1), (0, .ref (q 0)), (1, .int p1), (2, .int p2)] := hl
    refine lv_aload_n hx hb dX6_adds_49 rfl (lv_at hl 1 rfl) ?_
    refine va_get (D := D) (ci := 6) (v := .ref (q 4)) (C := RX6) (T := TX6) (N := 12) hx hb hts wiX6_adds_X6 hown hK hP 0 rfl rfl 6 (by decide) (hts _ wmX6_adds_2) (fun _ h9 => h9) rfl dX6_adds_50 ?_
    refine lv_aload_n hx hb dX6_adds_53 rfl (lv_at hl 1 rfl) ?_
    refine va_get (D := D) (ci := 6) (v := .int wsm) (C := RX6) (T := TX6) (N := 12) hx hb hts wiX6_adds_X6 hown hK hP 0 rfl rfl 7 (by decide) (hts _ wmX6_adds_1) (fun _ h9 => h9) rfl dX6_adds_54 ?_
    refine lv_iload_n hx hb dX6_adds_57 rfl (lv_at hl 3 rfl) ?_
    refine lv_iconst (v := (1 : Int32)) hx hb dX6_adds_58 (by decide) ?_
    refine lv_icmp_ne (tgt := 66) hx hb dX6_adds_59 (by decide) (fun c7 => ?_) (fun c7 => ?_)
    · have h := (if_neg c7).symm.trans h
      refine lv_iconst (v := (0 : Int32)) hx hb dX6_adds_66 (by decide) ?_
      obtain ⟨i8, h⟩ := ck_some h
      refine va_zast hx hb hK hP hD hS 4 2 rfl rfl i8 dX6_adds_67 (fun H locs hP hD hS => ?_)
      have hP : va_P D vwCl (WM_ q cI cJ cZ wwd wmn wod wsm wnm wwl wif (upd wev wsm.toNatClampNeg (vp_nar .boolean (0 : Int32))) wne u3.2 wnx wta) H := hP
      have hD : va_D A (WM_ q cI cJ cZ wwd wmn wod wsm wnm wwl wif (upd wev wsm.toNatClampNeg (vp_nar .boolean (0 : Int32))) wne u3.2 wnx wta) := hD
      refine lv_aload_n hx hb dX6_adds_68 rfl (lv_at hl 1 rfl) ?_
      refine lv_dup hx hb dX6_adds_69 rfl ?_
      refine va_get (D := D) (ci := 6) (v := .int wsm) (C := RX6) (T := TX6) (N := 12) hx hb hts wiX6_adds_X6 hown hK hP 0 rfl rfl 7 (by decide) (hts _ wmX6_adds_1) (fun _ h9 => h9) rfl dX6_adds_70 ?_
      refine lv_iconst (v := (1 : Int32)) hx hb dX6_adds_73 (by decide) ?_
      refine lv_iadd hx hb dX6_adds_74 ?_
      refine va_put (D := D) (ci := 6) (v := .int (wsm + (1 : Int32))) (ty := .int) (C := RX6) (T := TX6) (N := 12) hx hb hts wiX6_adds_X6 tyX6 tyX6_ok nmX6 hown hK hP hD hS 0 rfl rfl 7 (by decide) (hts _ wmX6_adds_1) (fun _ h9 => h9) rfl (by decide +kernel) rfl rfl (Nat.le_of_ble_eq_true rfl) dX6_adds_75 (fun H locs hP hD hS => ?_)
      have hP : va_P D vwCl (WM_ q cI cJ cZ wwd wmn wod (wsm + (1 : Int32)) wnm wwl wif (upd wev wsm.toNatClampNeg (vp_nar .boolean (0 : Int32))) wne u3.2 wnx wta) H := hP
      have hD : va_D A (WM_ q cI cJ cZ wwd wmn wod (wsm + (1 : Int32)) wnm wwl wif (upd wev wsm.toNatClampNeg (vp_nar .boolean (0 : Int32))) wne u3.2 wnx wta) := hD
      obtain rfl := Option.some.inj h
      exact W.vret hx hb hr (fun t ht hW => ⟨⟨(), rfl, trivial, by rw [ht]; exact hP, hD⟩, hS.F ht⟩) hS.2.2 dX6_adds_78
    · have h := (if_pos c7).symm.trans h
      refine lv_iconst (v := (1 : Int32)) hx hb dX6_adds_62 (by decide) ?_
      refine lv_goto (tgt := 67) hx hb dX6_adds_63 (by decide) ?_
      obtain ⟨i9, h⟩ := ck_some h
      refine va_zast hx hb hK hP hD hS 4 2 rfl rfl i9 dX6_adds_67 (fun H locs hP hD hS => ?_)
      have hP : va_P D vwCl (WM_ q cI cJ cZ wwd wmn wod wsm wnm wwl wif (upd wev wsm.toNatClampNeg (vp_nar .boolean (1 : Int32))) wne u3.2 wnx wta) H := hP
      have hD : va_D A (WM_ q cI cJ cZ wwd wmn wod wsm wnm wwl wif (upd wev wsm.toNatClampNeg (vp_nar .boolean (1 : Int32))) wne u3.2 wnx wta) := hD
      refine lv_aload_n hx hb dX6_adds_68 rfl (lv_at hl 1 rfl) ?_
      refine lv_dup hx hb dX6_adds_69 rfl ?_
      refine va_get (D := D) (ci := 6) (v := .int wsm) (C := RX6) (T := TX6) (N := 12) hx hb hts wiX6_adds_X6 hown hK hP 0 rfl rfl 7 (by decide) (hts _ wmX6_adds_1) (fun _ h9 => h9) rfl dX6_adds_70 ?_
      refine lv_iconst (v := (1 : Int32)) hx hb dX6_adds_73 (by decide) ?_
      refine lv_iadd hx hb dX6_adds_74 ?_
      refine va_put (D := D) (ci := 6) (v := .int (wsm + (1 : Int32))) (ty := .int) (C := RX6) (T := TX6) (N := 12) hx hb hts wiX6_adds_X6 tyX6 tyX6_ok nmX6 hown hK hP hD hS 0 rfl rfl 7 (by decide) (hts _ wmX6_adds_1) (fun _ h9 => h9) rfl (by decide +kernel) rfl rfl (Nat.le_of_ble_eq_true rfl) dX6_adds_75 (fun H locs hP hD hS => ?_)
      have hP : va_P D vwCl (WM_ q cI cJ cZ wwd wmn wod (wsm + (1 : Int32)) wnm wwl wif (upd wev wsm.toNatClampNeg (vp_nar .boolean (1 : Int32))) wne u3.2 wnx wta) H := hP
      have hD : va_D A (WM_ q cI cJ cZ wwd wmn wod (wsm + (1 : Int32)) wnm wwl wif (upd wev wsm.toNatClampNeg (vp_nar .boolean (1 : Int32))) wne u3.2 wnx wta) := hD
      obtain rfl := Option.some.inj h
      exact W.vret hx hb hr (fun t ht hW => ⟨⟨(), rfl, trivial, by rw [ht]; exact hP, hD⟩, hS.F ht⟩) hS.2.2 dX6_adds_78
  · intro K5
    refine W_lp (body := (fun (st : (Int32 × (Nat → Int64))) => fX6_adds_L2 p2 wwl p1 wsm st.1 st.2)) (P := fun (st : (Int32 × (Nat → Int64))) H locs ls => va_P D vwCl (WM_ q cI cJ cZ wwd wmn wod wsm wnm wwl wif wev wne st.2 wnx wta) H ∧ va_D A (WM_ q cI cJ cZ wwd wmn wod wsm wnm wwl wif wev wne st.2 wnx wta) ∧ va_S A s.heap H locs ∧ lv_has ls 4 [(3, .int st.1), (0, .ref (q 0)), (1, .int p1), (2, .int p2)]) (g := fun _ ls => F0 m 2 ls []) (r := u3) ?_ fu_ ((0 : Int32), wsu) _ _ _ e4 ⟨hP, hD, hS, lv_sub hl [0, 1, 2, 3] rfl⟩
    intro st xx12 H locs ls h hq ih11 hR10
    obtain ⟨hP, hD, hS, hl⟩ := hq
    obtain ⟨v1, v2⟩ := st
    have hP : va_P D vwCl (WM_ q cI cJ cZ wwd wmn wod wsm wnm wwl wif wev wne v2 wnx wta) H := hP
    have hD : va_D A (WM_ q cI cJ cZ wwd wmn wod wsm wnm wwl wif wev wne v2 wnx wta) := hD
    have hl : lv_has ls 4 [(3, .int v1), (0, .ref (q 0)), (1, .int p1), (2, .int p2)] := hl
    have h : fX6_adds_L2 p2 wwl p1 wsm v1 v2 = some xx12 := h
    unfold fX6_adds_L2 at h
    refine lv_iload_n hx hb dX6_adds_2 rfl (lv_at hl 0 rfl) ?_
    refine lv_iconst (v := (4 : Int32)) hx hb dX6_adds_3 (by decide) ?_
    refine lv_icmp_ge (tgt := 49) hx hb dX6_adds_4 (by decide) (fun c13 => ?_) (fun c13 => ?_)
    · have h := (if_pos c13).symm.trans h
      exact K5 _ _ _ _ ⟨(hR10 _ (Option.some.inj h).symm).symm, hP, hD, hS, lv_sub hl [0, 1, 2, 3] rfl⟩
    · have h := (if_neg c13).symm.trans h
      refine lv_aload_n hx hb dX6_adds_7 rfl (lv_at hl 1 rfl) ?_
      refine va_get (D := D) (ci := 6) (v := .ref (q 3)) (C := RX6) (T := TX6) (N := 12) hx hb hts wiX6_adds_X6 hown hK hP 0 rfl rfl 5 (by decide) (hts _ wmX6_adds_0) (fun _ h9 => h9) rfl dX6_adds_8 ?_
      refine lv_iconst (v := (4 : Int32)) hx hb dX6_adds_11 (by decide) ?_
      refine lv_aload_n hx hb dX6_adds_12 rfl (lv_at hl 1 rfl) ?_
      refine va_get (D := D) (ci := 6) (v := .int wsm) (C := RX6) (T := TX6) (N := 12) hx hb hts wiX6_adds_X6 hown hK hP 0 rfl rfl 7 (by decide) (hts _ wmX6_adds_1) (fun _ h9 => h9) rfl dX6_adds_13 ?_
      refine lv_imul hx hb dX6_adds_16 ?_
      refine lv_iload_n hx hb dX6_adds_17 rfl (lv_at hl 0 rfl) ?_
      refine lv_iadd hx hb dX6_adds_18 ?_
      refine lv_iload_n hx hb dX6_adds_19 rfl (lv_at hl 3 rfl) ?_
      refine lv_iconst (v := (2 : Int32)) hx hb dX6_adds_20 (by decide) ?_
      refine lv_icmp_ne (tgt := 35) hx hb dX6_adds_21 (by decide) (fun c14 => ?_) (fun c14 => ?_)
      · have h := (if_neg c14).symm.trans h
        refine lv_aload_n hx hb dX6_adds_35 rfl (lv_at hl 1 rfl) ?_
        refine lv_iload_n hx hb dX6_adds_36 rfl (lv_at hl 2 rfl) ?_
        refine lv_iload_n hx hb dX6_adds_37 rfl (lv_at hl 0 rfl) ?_
        obtain ⟨u15, e16, h⟩ := bd_some h
        refine k_i (va_runV (As := [.int p1, .int v1]) (rest := [.int (((4 : Int32) * wsm) + v1), .ref (q 3)]) ⟨hx, hb, hml, hown, hts⟩ (kX6_at l D q cI cJ cZ tP H.size wwd wmn wod wsm wnm wwl wif wev wne v2 wnx wta p1 v1 u15 e16) (cwV 2 hts gX6_adds_X6_at rfl rfl rfl (by decide +kernel) ⟨Nat.le_of_ble_eq_true rfl, Nat.le_of_ble_eq_true rfl⟩) ⟨cPre_blind, va_recv hK hP (ci := 6) (q0 := 0) rfl rfl, cPre_at hP hK hN hD hS hA hZ⟩ rfl rfl hl.1 rfl (lv_room (Nat.le_of_ble_eq_true rfl)) dX6_adds_38 ⟨Nat.le_of_ble_eq_true rfl, Nat.le_of_ble_eq_true rfl⟩) hD hS hA (fun H locs hP hD hS => ?_)
        refine lv_i2l (v := u15.toInt64) hx hb dX6_adds_41 rfl ?_
        obtain ⟨i17, h⟩ := ck_some h
        refine va_last hx hb hK hP hD hS 3 1 rfl rfl i17 dX6_adds_42 (fun H locs hP hD hS => ?_)
        have hP : va_P D vwCl (WM_ q cI cJ cZ wwd wmn wod wsm wnm wwl wif wev wne (vp_updL v2 (((4 : Int32) * wsm) + v1).toNatClampNeg u15.toInt64) wnx wta) H := hP
        have hD : va_D A (WM_ q cI cJ cZ wwd wmn wod wsm wnm wwl wif wev wne (vp_updL v2 (((4 : Int32) * wsm) + v1).toNatClampNeg u15.toInt64) wnx wta) := hD
        refine lv_iinc (v := (v1 + (1 : Int32))) (lv' := [(3, .int (v1 + (1 : Int32))), (0, .ref (q 0)), (1, .int p1), (2, .int p2)]) hx hb dX6_adds_43 hl (k := 0) rfl rfl (by decide) rfl (fun ls hl => ?_)
        refine lv_goto (tgt := 2) hx hb dX6_adds_46 (by decide) ?_
        exact ih11 _ _ _ _ (Option.some.inj h).symm ⟨hP, hD, hS, lv_sub hl [0, 1, 2, 3] rfl⟩
      · have h := (if_pos c14).symm.trans h
        refine lv_aload_n hx hb dX6_adds_24 rfl (lv_at hl 1 rfl) ?_
        refine lv_iload_n hx hb dX6_adds_25 rfl (lv_at hl 2 rfl) ?_
        refine lv_iload_n hx hb dX6_adds_26 rfl (lv_at hl 0 rfl) ?_
        obtain ⟨u18, e19, h⟩ := bd_some h
        refine k_i (va_runV (As := [.int p1, .int v1]) (rest := [.int (((4 : Int32) * wsm) + v1), .ref (q 3)]) ⟨hx, hb, hml, hown, hts⟩ (kX6_at l D q cI cJ cZ tP H.size wwd wmn wod wsm wnm wwl wif wev wne v2 wnx wta p1 v1 u18 e19) (cwV 2 hts gX6_adds_X6_at rfl rfl rfl (by decide +kernel) ⟨Nat.le_of_ble_eq_true rfl, Nat.le_of_ble_eq_true rfl⟩) ⟨cPre_blind, va_recv hK hP (ci := 6) (q0 := 0) rfl rfl, cPre_at hP hK hN hD hS hA hZ⟩ rfl rfl hl.1 rfl (lv_room (Nat.le_of_ble_eq_true rfl)) dX6_adds_27 ⟨Nat.le_of_ble_eq_true rfl, Nat.le_of_ble_eq_true rfl⟩) hD hS hA (fun H locs hP hD hS => ?_)
        refine lv_ineg hx hb dX6_adds_30 ?_
        refine lv_i2l (v := (-u18).toInt64) hx hb dX6_adds_31 rfl ?_
        refine lv_goto (tgt := 42) hx hb dX6_adds_32 (by decide) ?_
        obtain ⟨i20, h⟩ := ck_some h
        refine va_last hx hb hK hP hD hS 3 1 rfl rfl i20 dX6_adds_42 (fun H locs hP hD hS => ?_)
        have hP : va_P D vwCl (WM_ q cI cJ cZ wwd wmn wod wsm wnm wwl wif wev wne (vp_updL v2 (((4 : Int32) * wsm) + v1).toNatClampNeg (-u18).toInt64) wnx wta) H := hP
        have hD : va_D A (WM_ q cI cJ cZ wwd wmn wod wsm wnm wwl wif wev wne (vp_updL v2 (((4 : Int32) * wsm) + v1).toNatClampNeg (-u18).toInt64) wnx wta) := hD
        refine lv_iinc (v := (v1 + (1 : Int32))) (lv' := [(3, .int (v1 + (1 : Int32))), (0, .ref (q 0)), (1, .int p1), (2, .int p2)]) hx hb dX6_adds_43 hl (k := 0) rfl rfl (by decide) rfl (fun ls hl => ?_)
        refine lv_goto (tgt := 2) hx hb dX6_adds_46 (by decide) ?_
        exact ih11 _ _ _ _ (Option.some.inj h).symm ⟨hP, hD, hS, lv_sub hl [0, 1, 2, 3] rfl⟩

-- X6_puts
theorem wmX6_puts_0 : (.fieldLink RX6 28 "SpaceWallsModel" "next" "[J" : Cond) ∈ wsX6_puts := by decide +kernel
theorem wmX6_puts_1 : (.fieldLink RX6 65 "SpaceWallsModel" "nextMany" "I" : Cond) ∈ wsX6_puts := by decide +kernel
theorem wmX6_puts_2 : (.fieldLink RX6 21 "SpaceWallsModel" "sums" "[J" : Cond) ∈ wsX6_puts := by decide +kernel
theorem wmX6_puts_3 : (.fieldLink RX6 31 "SpaceWallsModel" "nextEven" "[Z" : Cond) ∈ wsX6_puts := by decide +kernel
theorem wiX6_puts_X6 : ∀ w ∈ u_ws RX6 TX6 12, w ∈ wsX6_puts := by decide +kernel
set_option maxHeartbeats 8000000 in
set_option maxRecDepth 100000 in
theorem kX6_puts (l : Launch) (D : va_G) (q : Nat → Nat) (cI cJ cZ : ClassId) (tP sz : Nat) (wwd : Int32) (wmn : Int32) (wod : Int32) (wsm : Int32) (wnm : Int32) (wwl : (Nat → Int32)) (wif : (Nat → Int32)) (wev : (Nat → Int32)) (wne : (Nat → Int32)) (wsu : (Nat → Int64)) (wnx : (Nat → Int64)) (wta : (Nat → Int64)) (p1 : Int32) (p2 : Int64) (p3 : Int32) (p4 : Int64) (p5 : Int32) (uu : (Int32 × (Nat → Int32) × (Nat → Int64))) (h : fX6_puts wnm wne wsu wnx p1 p2 p3 p4 p5 = some uu) : Met l yX6_puts wsX6_puts ({ frames := 0, cells := 0, slots := 0, locals := 0 }) (cPre D cI cJ cZ tP (WM_ q cI cJ cZ wwd wmn wod wsm wnm wwl wif wev wne wsu wnx wta) sz [.ref (q 0), .int p1, .long p2, .int p3, .long p4, .int p5]) (cQv D (va_A (WM_ q cI cJ cZ wwd wmn wod wsm wnm wwl wif wev wne wsu wnx wta) sz) (WM_ q cI cJ cZ wwd wmn wod wsm uu.1 wwl wif wev uu.2.1 wsu uu.2.2 wta)) 0 0 (va_A (WM_ q cI cJ cZ wwd wmn wod wsm wnm wwl wif wev wne wsu wnx wta) sz) := by
  refine Met.ofW (cc := cX6_puts) (maxL := 9) (ret := none) (by decide) rfl ?_
  intro p e s m args below meth c s₁ B hml hv
  obtain ⟨rfl, hsz, hP, hK, hN, hD0, hZ⟩ := hv
  have hx := B.exec
  have hb := B.bytes
  have hr := B.returns
  have hts := atoms_spec (ws := wsX6_puts) B.pre
  have hown : s.vm.findClass RX6 = some m.cls := findClass_of_methodNamed B.named
  have hlocks := B.notSynchronized
  subst hsz
  have hD := hD0.self (sz := s.heap.size)
  generalize hAe : va_A (WM_ q cI cJ cZ wwd wmn wod wsm wnm wwl wif wev wne wsu wnx wta) s.heap.size = A at hD hZ ⊢
  have hA : ∀ q : Nat, s.heap.size ≤ q → A q := fun q h => by rw [← hAe]; exact Or.inr h
  have hS : va_S A s.heap s.heap [] := va_S.rf
  have hl := lv_entry ([.ref (q 0), .int p1, .long p2, .int p3, .long p4, .int p5]) (n := 9) (Nat.le_of_ble_eq_true rfl)
  rw [lg_entry_eq]
  generalize (lg_sl ([.ref (q 0), .int p1, .long p2, .int p3, .long p4, .int p5]) ++ List.replicate (9 - (lg_sl ([.ref (q 0), .int p1, .long p2, .int p3, .long p4, .int p5])).length) Slot.unset).toArray = ls at hl ⊢
  have hl : lv_has ls 9 [(0, .ref (q 0)), (1, .int p1), (2, .long p2), (4, .int p3), (5, .long p4), (7, .int p5)] := hl
  unfold fX6_puts at h
  refine lv_iconst (v := (0 : Int32)) hx hb dX6_puts_0 (by decide) ?_
  refine lv_istore (lv' := [(8, .int (0 : Int32)), (0, .ref (q 0)), (1, .int p1), (2, .long p2), (4, .int p3), (5, .long p4), (7, .int p5)]) hx hb dX6_puts_1 hl (by decide) rfl (fun ls hl => ?_)
  obtain ⟨u3, e4, h⟩ := bd_some h
  refine W_leave (P := fun (y : (Int32 × (Nat → Int64))) H locs ls => u3 = y ∧ va_P D vwCl (WM_ q cI cJ cZ wwd wmn wod wsm wnm wwl wif wev wne wsu y.2 wta) H ∧ va_D A (WM_ q cI cJ cZ wwd wmn wod wsm wnm wwl wif wev wne wsu y.2 wta) ∧ va_S A s.heap H locs ∧ lv_has ls 9 [(8, .int y.1), (0, .ref (q 0)), (1, .int p1), (2, .long p2), (4, .int p3), (5, .long p4), (7, .int p5)]) (g := fun ls => F0 m 58 ls []) ?_ ?_
  · intro y H locs ls hq
    obtain ⟨hy, hP, hD, hS, hl⟩ := hq
    subst hy
    have hl : lv_has ls 9 [(8, .int u3.1), (0, .ref (q 0)), (1, .int p1), (2, .long p2), (4, .int p3), (5, .long p4), (7, .int p5)] := hl
    refine lv_aload_n hx hb dX6_puts_58 rfl (lv_at hl 1 rfl) ?_
    refine va_get (D := D) (ci := 6) (v := .ref (q 6)) (C := RX6) (T := TX6) (N := 12) hx hb hts wiX6_puts_X6 hown hK hP 0 rfl rfl 9 (by decide) (hts _ wmX6_puts_3) (fun _ h9 => h9) rfl dX6_puts_59 ?_
    refine lv_aload_n hx hb dX6_puts_62 rfl (lv_at hl 1 rfl) ?_
    refine va_get (D := D) (ci := 6) (v := .int wnm) (C := RX6) (T := TX6) (N := 12) hx hb hts wiX6_puts_X6 hown hK hP 0 rfl rfl 10 (by decide) (hts _ wmX6_puts_1) (fun _ h9 => h9) rfl dX6_puts_63 ?_
    refine lv_iload hx hb dX6_puts_66 (lv_at hl 6 rfl) ?_
    obtain ⟨i7, h⟩ := ck_some h
    refine va_zast hx hb hK hP hD hS 6 2 rfl rfl i7 dX6_puts_68 (fun H locs hP hD hS => ?_)
    have hP : va_P D vwCl (WM_ q cI cJ cZ wwd wmn wod wsm wnm wwl wif wev (upd wne wnm.toNatClampNeg (vp_nar .boolean p5)) wsu u3.2 wta) H := hP
    have hD : va_D A (WM_ q cI cJ cZ wwd wmn wod wsm wnm wwl wif wev (upd wne wnm.toNatClampNeg (vp_nar .boolean p5)) wsu u3.2 wta) := hD
    refine lv_aload_n hx hb dX6_puts_69 rfl (lv_at hl 1 rfl) ?_
    refine lv_dup hx hb dX6_puts_70 rfl ?_
    refine va_get (D := D) (ci := 6) (v := .int wnm) (C := RX6) (T := TX6) (N := 12) hx hb hts wiX6_puts_X6 hown hK hP 0 rfl rfl 10 (by decide) (hts _ wmX6_puts_1) (fun _ h9 => h9) rfl dX6_puts_71 ?_
    refine lv_iconst (v := (1 : Int32)) hx hb dX6_puts_74 (by decide) ?_
    refine lv_iadd hx hb dX6_puts_75 ?_
    refine va_put (D := D) (ci := 6) (v := .int (wnm + (1 : Int32))) (ty := .int) (C := RX6) (T := TX6) (N := 12) hx hb hts wiX6_puts_X6 tyX6 tyX6_ok nmX6 hown hK hP hD hS 0 rfl rfl 10 (by decide) (hts _ wmX6_puts_1) (fun _ h9 => h9) rfl (by decide +kernel) rfl rfl (Nat.le_of_ble_eq_true rfl) dX6_puts_76 (fun H locs hP hD hS => ?_)
    have hP : va_P D vwCl (WM_ q cI cJ cZ wwd wmn wod wsm (wnm + (1 : Int32)) wwl wif wev (upd wne wnm.toNatClampNeg (vp_nar .boolean p5)) wsu u3.2 wta) H := hP
    have hD : va_D A (WM_ q cI cJ cZ wwd wmn wod wsm (wnm + (1 : Int32)) wwl wif wev (upd wne wnm.toNatClampNeg (vp_nar .boolean p5)) wsu u3.2 wta) := hD
    obtain rfl := Option.some.inj h
    exact W.vret hx hb hr (fun t ht hW => ⟨⟨(), rfl, trivial, by rw [ht]; exact hP, hD⟩, hS.F ht⟩) hS.2.2 dX6_puts_79
  · intro K5
    refine W_lp (body := (fun (st : (Int32 × (Nat → Int64))) => fX6_puts_L3 p1 p3 wnm wsu p2 p4 st.1 st.2)) (P := fun (st : (Int32 × (Nat → Int64))) H locs ls => va_P D vwCl (WM_ q cI cJ cZ wwd wmn wod wsm wnm wwl wif wev wne wsu st.2 wta) H ∧ va_D A (WM_ q cI cJ cZ wwd wmn wod wsm wnm wwl wif wev wne wsu st.2 wta) ∧ va_S A s.heap H locs ∧ lv_has ls 9 [(8, .int st.1), (0, .ref (q 0)), (1, .int p1), (2, .long p2), (4, .int p3), (5, .long p4), (7, .int p5)]) (g := fun _ ls => F0 m 3 ls []) (r := u3) ?_ fu_ ((0 : Int32), wnx) _ _ _ e4 ⟨hP, hD, hS, lv_sub hl [0, 1, 2, 3, 4, 5, 6] rfl⟩
    intro st xx10 H locs ls h hq ih9 hR8
    obtain ⟨hP, hD, hS, hl⟩ := hq
    obtain ⟨v1, v2⟩ := st
    have hP : va_P D vwCl (WM_ q cI cJ cZ wwd wmn wod wsm wnm wwl wif wev wne wsu v2 wta) H := hP
    have hD : va_D A (WM_ q cI cJ cZ wwd wmn wod wsm wnm wwl wif wev wne wsu v2 wta) := hD
    have hl : lv_has ls 9 [(8, .int v1), (0, .ref (q 0)), (1, .int p1), (2, .long p2), (4, .int p3), (5, .long p4), (7, .int p5)] := hl
    have h : fX6_puts_L3 p1 p3 wnm wsu p2 p4 v1 v2 = some xx10 := h
    unfold fX6_puts_L3 at h
    refine lv_iload hx hb dX6_puts_3 (lv_at hl 0 rfl) ?_
    refine lv_iconst (v := (4 : Int32)) hx hb dX6_puts_5 (by decide) ?_
    refine lv_icmp_ge (tgt := 58) hx hb dX6_puts_6 (by decide) (fun c11 => ?_) (fun c11 => ?_)
    · have h := (if_pos c11).symm.trans h
      exact K5 _ _ _ _ ⟨(hR8 _ (Option.some.inj h).symm).symm, hP, hD, hS, lv_sub hl [0, 1, 2, 3, 4, 5, 6] rfl⟩
    · have h := (if_neg c11).symm.trans h
      refine lv_aload_n hx hb dX6_puts_9 rfl (lv_at hl 1 rfl) ?_
      refine va_get (D := D) (ci := 6) (v := .ref (q 5)) (C := RX6) (T := TX6) (N := 12) hx hb hts wiX6_puts_X6 hown hK hP 0 rfl rfl 8 (by decide) (hts _ wmX6_puts_0) (fun _ h9 => h9) rfl dX6_puts_10 ?_
      refine lv_iconst (v := (4 : Int32)) hx hb dX6_puts_13 (by decide) ?_
      refine lv_aload_n hx hb dX6_puts_14 rfl (lv_at hl 1 rfl) ?_
      refine va_get (D := D) (ci := 6) (v := .int wnm) (C := RX6) (T := TX6) (N := 12) hx hb hts wiX6_puts_X6 hown hK hP 0 rfl rfl 10 (by decide) (hts _ wmX6_puts_1) (fun _ h9 => h9) rfl dX6_puts_15 ?_
      refine lv_imul hx hb dX6_puts_18 ?_
      refine lv_iload hx hb dX6_puts_19 (lv_at hl 0 rfl) ?_
      refine lv_iadd hx hb dX6_puts_21 ?_
      refine lv_aload_n hx hb dX6_puts_22 rfl (lv_at hl 1 rfl) ?_
      refine va_get (D := D) (ci := 6) (v := .ref (q 3)) (C := RX6) (T := TX6) (N := 12) hx hb hts wiX6_puts_X6 hown hK hP 0 rfl rfl 5 (by decide) (hts _ wmX6_puts_2) (fun _ h9 => h9) rfl dX6_puts_23 ?_
      refine lv_iconst (v := (4 : Int32)) hx hb dX6_puts_26 (by decide) ?_
      refine lv_iload_n hx hb dX6_puts_27 rfl (lv_at hl 2 rfl) ?_
      refine lv_imul hx hb dX6_puts_28 ?_
      refine lv_iload hx hb dX6_puts_29 (lv_at hl 0 rfl) ?_
      refine lv_iadd hx hb dX6_puts_31 ?_
      obtain ⟨i12, h⟩ := ck_some h
      refine va_lald hx hb hK hP 3 1 rfl rfl i12 dX6_puts_32 ?_
      refine lv_lload_n hx hb dX6_puts_33 rfl (lv_at hl 3 rfl) ?_
      refine lv_lmul hx hb dX6_puts_34 ?_
      refine lv_aload_n hx hb dX6_puts_35 rfl (lv_at hl 1 rfl) ?_
      refine va_get (D := D) (ci := 6) (v := .ref (q 3)) (C := RX6) (T := TX6) (N := 12) hx hb hts wiX6_puts_X6 hown hK hP 0 rfl rfl 5 (by decide) (hts _ wmX6_puts_2) (fun _ h9 => h9) rfl dX6_puts_36 ?_
      refine lv_iconst (v := (4 : Int32)) hx hb dX6_puts_39 (by decide) ?_
      refine lv_iload hx hb dX6_puts_40 (lv_at hl 4 rfl) ?_
      refine lv_imul hx hb dX6_puts_42 ?_
      refine lv_iload hx hb dX6_puts_43 (lv_at hl 0 rfl) ?_
      refine lv_iadd hx hb dX6_puts_45 ?_
      obtain ⟨i13, h⟩ := ck_some h
      refine va_lald hx hb hK hP 3 1 rfl rfl i13 dX6_puts_46 ?_
      refine lv_lload hx hb dX6_puts_47 (lv_at hl 5 rfl) ?_
      refine lv_lmul hx hb dX6_puts_49 ?_
      refine lv_ladd hx hb dX6_puts_50 ?_
      obtain ⟨i14, h⟩ := ck_some h
      refine va_last hx hb hK hP hD hS 5 1 rfl rfl i14 dX6_puts_51 (fun H locs hP hD hS => ?_)
      have hP : va_P D vwCl (WM_ q cI cJ cZ wwd wmn wod wsm wnm wwl wif wev wne wsu (vp_updL v2 (((4 : Int32) * wnm) + v1).toNatClampNeg (((wsu (((4 : Int32) * p1) + v1).toNatClampNeg) * p2) + ((wsu (((4 : Int32) * p3) + v1).toNatClampNeg) * p4))) wta) H := hP
      have hD : va_D A (WM_ q cI cJ cZ wwd wmn wod wsm wnm wwl wif wev wne wsu (vp_updL v2 (((4 : Int32) * wnm) + v1).toNatClampNeg (((wsu (((4 : Int32) * p1) + v1).toNatClampNeg) * p2) + ((wsu (((4 : Int32) * p3) + v1).toNatClampNeg) * p4))) wta) := hD
      refine lv_iinc (v := (v1 + (1 : Int32))) (lv' := [(8, .int (v1 + (1 : Int32))), (0, .ref (q 0)), (1, .int p1), (2, .long p2), (4, .int p3), (5, .long p4), (7, .int p5)]) hx hb dX6_puts_52 hl (k := 0) rfl rfl (by decide) rfl (fun ls hl => ?_)
      refine lv_goto (tgt := 3) hx hb dX6_puts_55 (by decide) ?_
      exact ih9 _ _ _ _ (Option.some.inj h).symm ⟨hP, hD, hS, lv_sub hl [0, 1, 2, 3, 4, 5, 6] rfl⟩

-- X6_takesOut
theorem wmX6_takesOut_0 : (.fieldLink RX6 62 "SpaceWallsModel" "sumMany" "I" : Cond) ∈ wsX6_takesOut := by decide +kernel
theorem wmX6_takesOut_1 : (.fieldLink RX6 25 "SpaceWallsModel" "isEven" "[Z" : Cond) ∈ wsX6_takesOut := by decide +kernel
theorem wmX6_takesOut_2 : (.fieldLink RX6 21 "SpaceWallsModel" "sums" "[J" : Cond) ∈ wsX6_takesOut := by decide +kernel
theorem wmX6_takesOut_3 : (.fieldLink RX6 65 "SpaceWallsModel" "nextMany" "I" : Cond) ∈ wsX6_takesOut := by decide +kernel
theorem wmX6_takesOut_4 : (.fieldLink RX6 28 "SpaceWallsModel" "next" "[J" : Cond) ∈ wsX6_takesOut := by decide +kernel
theorem wmX6_takesOut_5 : (.fieldLink RX6 31 "SpaceWallsModel" "nextEven" "[Z" : Cond) ∈ wsX6_takesOut := by decide +kernel
theorem wiX6_takesOut_X6 : ∀ w ∈ u_ws RX6 TX6 12, w ∈ wsX6_takesOut := by decide +kernel
set_option maxHeartbeats 8000000 in
set_option maxRecDepth 100000 in
theorem kX6_takesOut (l : Launch) (D : va_G) (q : Nat → Nat) (cI cJ cZ : ClassId) (tP sz : Nat) (wwd : Int32) (wmn : Int32) (wod : Int32) (wsm : Int32) (wnm : Int32) (wwl : (Nat → Int32)) (wif : (Nat → Int32)) (wev : (Nat → Int32)) (wne : (Nat → Int32)) (wsu : (Nat → Int64)) (wnx : (Nat → Int64)) (wta : (Nat → Int64)) (p1 : Int32) (uu : (Int32 × Int32 × (Nat → Int32) × (Nat → Int32) × (Nat → Int64) × (Nat → Int64))) (h : fX6_takesOut wsm wev wne wsu wnx p1 = some uu) : Met l yX6_takesOut wsX6_takesOut ({ frames := 1, cells := 0, slots := 0, locals := 28 }) (cPre D cI cJ cZ tP (WM_ q cI cJ cZ wwd wmn wod wsm wnm wwl wif wev wne wsu wnx wta) sz [.ref (q 0), .int p1]) (cQv D (va_A (WM_ q cI cJ cZ wwd wmn wod wsm wnm wwl wif wev wne wsu wnx wta) sz) (WM_ q cI cJ cZ wwd wmn wod uu.1 uu.2.1 wwl wif uu.2.2.1 uu.2.2.2.1 uu.2.2.2.2.1 uu.2.2.2.2.2 wta)) 0 0 (va_A (WM_ q cI cJ cZ wwd wmn wod wsm wnm wwl wif wev wne wsu wnx wta) sz) := by
  refine Met.ofW (cc := cX6_takesOut) (maxL := 8) (ret := none) (by decide) rfl ?_
  intro p e s m args below meth c s₁ B hml hv
  obtain ⟨rfl, hsz, hP, hK, hN, hD0, hZ⟩ := hv
  have hx := B.exec
  have hb := B.bytes
  have hr := B.returns
  have hts := atoms_spec (ws := wsX6_takesOut) B.pre
  have hown : s.vm.findClass RX6 = some m.cls := findClass_of_methodNamed B.named
  have hlocks := B.notSynchronized
  subst hsz
  have hD := hD0.self (sz := s.heap.size)
  generalize hAe : va_A (WM_ q cI cJ cZ wwd wmn wod wsm wnm wwl wif wev wne wsu wnx wta) s.heap.size = A at hD hZ ⊢
  have hA : ∀ q : Nat, s.heap.size ≤ q → A q := fun q h => by rw [← hAe]; exact Or.inr h
  have hS : va_S A s.heap s.heap [] := va_S.rf
  have hl := lv_entry ([.ref (q 0), .int p1]) (n := 8) (Nat.le_of_ble_eq_true rfl)
  rw [lg_entry_eq]
  generalize (lg_sl ([.ref (q 0), .int p1]) ++ List.replicate (8 - (lg_sl ([.ref (q 0), .int p1])).length) Slot.unset).toArray = ls at hl ⊢
  have hl : lv_has ls 8 [(0, .ref (q 0)), (1, .int p1)] := hl
  unfold fX6_takesOut at h
  refine lv_iconst (v := (-1 : Int32)) hx hb dX6_takesOut_0 (by decide) ?_
  refine lv_istore_n (lv' := [(2, .int (-1 : Int32)), (0, .ref (q 0)), (1, .int p1)]) hx hb dX6_takesOut_1 rfl hl (by decide) rfl (fun ls hl => ?_)
  refine lv_iconst (v := (0 : Int32)) hx hb dX6_takesOut_2 (by decide) ?_
  refine lv_istore_n (lv' := [(3, .int (0 : Int32)), (2, .int (-1 : Int32)), (0, .ref (q 0)), (1, .int p1)]) hx hb dX6_takesOut_3 rfl hl (by decide) rfl (fun ls hl => ?_)
  obtain ⟨u3, e4, h⟩ := bd_some h
  refine W_leave (P := fun (y : (Int32 × Int32)) H locs ls => u3 = y ∧ va_P D vwCl (WM_ q cI cJ cZ wwd wmn wod wsm wnm wwl wif wev wne wsu wnx wta) H ∧ va_D A (WM_ q cI cJ cZ wwd wmn wod wsm wnm wwl wif wev wne wsu wnx wta) ∧ va_S A s.heap H locs ∧ lv_has ls 8 [(3, .int y.1), (2, .int y.2), (0, .ref (q 0)), (1, .int p1)]) (g := fun ls => F0 m 49 ls []) ?_ ?_
  · intro y H locs ls hq
    obtain ⟨hy, hP, hD, hS, hl⟩ := hq
    subst hy
    have hl : lv_has ls 8 [(3, .int u3.1), (2, .int u3.2), (0, .ref (q 0)), (1, .int p1)] := hl
    refine lv_aload_n hx hb dX6_takesOut_49 rfl (lv_at hl 2 rfl) ?_
    refine lv_iconst (v := (0 : Int32)) hx hb dX6_takesOut_50 (by decide) ?_
    refine va_put (D := D) (ci := 6) (v := .int (0 : Int32)) (ty := .int) (C := RX6) (T := TX6) (N := 12) hx hb hts wiX6_takesOut_X6 tyX6 tyX6_ok nmX6 hown hK hP hD hS 0 rfl rfl 10 (by decide) (hts _ wmX6_takesOut_3) (fun _ h9 => h9) rfl (by decide +kernel) rfl rfl (Nat.le_of_ble_eq_true rfl) dX6_takesOut_51 (fun H locs hP hD hS => ?_)
    have hP : va_P D vwCl (WM_ q cI cJ cZ wwd wmn wod wsm (0 : Int32) wwl wif wev wne wsu wnx wta) H := hP
    have hD : va_D A (WM_ q cI cJ cZ wwd wmn wod wsm (0 : Int32) wwl wif wev wne wsu wnx wta) := hD
    refine lv_iconst (v := (0 : Int32)) hx hb dX6_takesOut_54 (by decide) ?_
    refine lv_istore_n (lv' := [(3, .int (0 : Int32)), (2, .int u3.2), (0, .ref (q 0)), (1, .int p1)]) hx hb dX6_takesOut_55 rfl hl (by decide) rfl (fun ls hl => ?_)
    obtain ⟨u11, e12, h⟩ := bd_some h
    refine W_leave (P := fun (y : (Int32 × Int32 × (Nat → Int32) × (Nat → Int64))) H locs ls => u11 = y ∧ va_P D vwCl (WM_ q cI cJ cZ wwd wmn wod wsm y.2.1 wwl wif wev y.2.2.1 wsu y.2.2.2 wta) H ∧ va_D A (WM_ q cI cJ cZ wwd wmn wod wsm y.2.1 wwl wif wev y.2.2.1 wsu y.2.2.2 wta) ∧ va_S A s.heap H locs ∧ lv_has ls 8 [(3, .int y.1), (2, .int u3.2), (0, .ref (q 0)), (1, .int p1)]) (g := fun ls => F0 m 229 ls []) ?_ ?_
    · intro y H locs ls hq
      obtain ⟨hy, hP, hD, hS, hl⟩ := hq
      subst hy
      have hl : lv_has ls 8 [(3, .int u11.1), (2, .int u3.2), (0, .ref (q 0)), (1, .int p1)] := hl
      refine lv_iconst (v := (0 : Int32)) hx hb dX6_takesOut_229 (by decide) ?_
      refine lv_istore_n (lv' := [(3, .int (0 : Int32)), (2, .int u3.2), (0, .ref (q 0)), (1, .int p1)]) hx hb dX6_takesOut_230 rfl hl (by decide) rfl (fun ls hl => ?_)
      obtain ⟨u17, e18, h⟩ := bd_some h
      refine W_leave (P := fun (y : (Int32 × (Nat → Int64))) H locs ls => u17 = y ∧ va_P D vwCl (WM_ q cI cJ cZ wwd wmn wod wsm u11.2.1 wwl wif wev u11.2.2.1 y.2 u11.2.2.2 wta) H ∧ va_D A (WM_ q cI cJ cZ wwd wmn wod wsm u11.2.1 wwl wif wev u11.2.2.1 y.2 u11.2.2.2 wta) ∧ va_S A s.heap H locs ∧ lv_has ls 8 [(3, .int y.1), (2, .int u3.2), (0, .ref (q 0)), (1, .int p1)]) (g := fun ls => F0 m 259 ls []) ?_ ?_
      · intro y H locs ls hq
        obtain ⟨hy, hP, hD, hS, hl⟩ := hq
        subst hy
        have hl : lv_has ls 8 [(3, .int u17.1), (2, .int u3.2), (0, .ref (q 0)), (1, .int p1)] := hl
        refine lv_iconst (v := (0 : Int32)) hx hb dX6_takesOut_259 (by decide) ?_
        refine lv_istore_n (lv' := [(3, .int (0 : Int32)), (2, .int u3.2), (0, .ref (q 0)), (1, .int p1)]) hx hb dX6_takesOut_260 rfl hl (by decide) rfl (fun ls hl => ?_)
        obtain ⟨u23, e24, h⟩ := bd_some h
        refine W_leave (P := fun (y : (Int32 × (Nat → Int32))) H locs ls => u23 = y ∧ va_P D vwCl (WM_ q cI cJ cZ wwd wmn wod wsm u11.2.1 wwl wif y.2 u11.2.2.1 u17.2 u11.2.2.2 wta) H ∧ va_D A (WM_ q cI cJ cZ wwd wmn wod wsm u11.2.1 wwl wif y.2 u11.2.2.1 u17.2 u11.2.2.2 wta) ∧ va_S A s.heap H locs ∧ lv_has ls 8 [(3, .int y.1), (2, .int u3.2), (0, .ref (q 0)), (1, .int p1)]) (g := fun ls => F0 m 287 ls []) ?_ ?_
        · intro y H locs ls hq
          obtain ⟨hy, hP, hD, hS, hl⟩ := hq
          subst hy
          have hl : lv_has ls 8 [(3, .int u23.1), (2, .int u3.2), (0, .ref (q 0)), (1, .int p1)] := hl
          refine lv_aload_n hx hb dX6_takesOut_287 rfl (lv_at hl 2 rfl) ?_
          refine lv_aload_n hx hb dX6_takesOut_288 rfl (lv_at hl 2 rfl) ?_
          refine va_get (D := D) (ci := 6) (v := .int u11.2.1) (C := RX6) (T := TX6) (N := 12) hx hb hts wiX6_takesOut_X6 hown hK hP 0 rfl rfl 10 (by decide) (hts _ wmX6_takesOut_3) (fun _ h9 => h9) rfl dX6_takesOut_289 ?_
          refine va_put (D := D) (ci := 6) (v := .int u11.2.1) (ty := .int) (C := RX6) (T := TX6) (N := 12) hx hb hts wiX6_takesOut_X6 tyX6 tyX6_ok nmX6 hown hK hP hD hS 0 rfl rfl 7 (by decide) (hts _ wmX6_takesOut_0) (fun _ h9 => h9) rfl (by decide +kernel) rfl rfl (Nat.le_of_ble_eq_true rfl) dX6_takesOut_292 (fun H locs hP hD hS => ?_)
          have hP : va_P D vwCl (WM_ q cI cJ cZ wwd wmn wod u11.2.1 u11.2.1 wwl wif u23.2 u11.2.2.1 u17.2 u11.2.2.2 wta) H := hP
          have hD : va_D A (WM_ q cI cJ cZ wwd wmn wod u11.2.1 u11.2.1 wwl wif u23.2 u11.2.2.1 u17.2 u11.2.2.2 wta) := hD
          obtain rfl := Option.some.inj h
          exact W.vret hx hb hr (fun t ht hW => ⟨⟨(), rfl, trivial, by rw [ht]; exact hP, hD⟩, hS.F ht⟩) hS.2.2 dX6_takesOut_295
        · intro K25
          refine W_lp (body := (fun (st : (Int32 × (Nat → Int32))) => fX6_takesOut_L261 u11 st.1 st.2)) (P := fun (st : (Int32 × (Nat → Int32))) H locs ls => va_P D vwCl (WM_ q cI cJ cZ wwd wmn wod wsm u11.2.1 wwl wif st.2 u11.2.2.1 u17.2 u11.2.2.2 wta) H ∧ va_D A (WM_ q cI cJ cZ wwd wmn wod wsm u11.2.1 wwl wif st.2 u11.2.2.1 u17.2 u11.2.2.2 wta) ∧ va_S A s.heap H locs ∧ lv_has ls 8 [(3, .int st.1), (2, .int u3.2), (0, .ref (q 0)), (1, .int p1)]) (g := fun _ ls => F0 m 261 ls []) (r := u23) ?_ fu_ ((0 : Int32), wev) _ _ _ e24 ⟨hP, hD, hS, lv_sub hl [0, 1, 2, 3] rfl⟩
          intro st xx29 H locs ls h hq ih28 hR27
          obtain ⟨hP, hD, hS, hl⟩ := hq
          obtain ⟨v21, v22⟩ := st
          have hP : va_P D vwCl (WM_ q cI cJ cZ wwd wmn wod wsm u11.2.1 wwl wif v22 u11.2.2.1 u17.2 u11.2.2.2 wta) H := hP
          have hD : va_D A (WM_ q cI cJ cZ wwd wmn wod wsm u11.2.1 wwl wif v22 u11.2.2.1 u17.2 u11.2.2.2 wta) := hD
          have hl : lv_has ls 8 [(3, .int v21), (2, .int u3.2), (0, .ref (q 0)), (1, .int p1)] := hl
          have h : fX6_takesOut_L261 u11 v21 v22 = some xx29 := h
          unfold fX6_takesOut_L261 at h
          refine lv_iload_n hx hb dX6_takesOut_261 rfl (lv_at hl 0 rfl) ?_
          refine lv_aload_n hx hb dX6_takesOut_262 rfl (lv_at hl 2 rfl) ?_
          refine va_get (D := D) (ci := 6) (v := .int u11.2.1) (C := RX6) (T := TX6) (N := 12) hx hb hts wiX6_takesOut_X6 hown hK hP 0 rfl rfl 10 (by decide) (hts _ wmX6_takesOut_3) (fun _ h9 => h9) rfl dX6_takesOut_263 ?_
          refine lv_icmp_ge (tgt := 287) hx hb dX6_takesOut_266 (by decide) (fun c30 => ?_) (fun c30 => ?_)
          · have h := (if_pos c30).symm.trans h
            exact K25 _ _ _ _ ⟨(hR27 _ (Option.some.inj h).symm).symm, hP, hD, hS, lv_sub hl [0, 1, 2, 3] rfl⟩
          · have h := (if_neg c30).symm.trans h
            refine lv_aload_n hx hb dX6_takesOut_269 rfl (lv_at hl 2 rfl) ?_
            refine va_get (D := D) (ci := 6) (v := .ref (q 4)) (C := RX6) (T := TX6) (N := 12) hx hb hts wiX6_takesOut_X6 hown hK hP 0 rfl rfl 6 (by decide) (hts _ wmX6_takesOut_1) (fun _ h9 => h9) rfl dX6_takesOut_270 ?_
            refine lv_iload_n hx hb dX6_takesOut_273 rfl (lv_at hl 0 rfl) ?_
            refine lv_aload_n hx hb dX6_takesOut_274 rfl (lv_at hl 2 rfl) ?_
            refine va_get (D := D) (ci := 6) (v := .ref (q 6)) (C := RX6) (T := TX6) (N := 12) hx hb hts wiX6_takesOut_X6 hown hK hP 0 rfl rfl 9 (by decide) (hts _ wmX6_takesOut_5) (fun _ h9 => h9) rfl dX6_takesOut_275 ?_
            refine lv_iload_n hx hb dX6_takesOut_278 rfl (lv_at hl 0 rfl) ?_
            obtain ⟨i31, h⟩ := ck_some h
            refine va_zald hx hb hK hP 6 2 rfl rfl i31 dX6_takesOut_279 ?_
            obtain ⟨i32, h⟩ := ck_some h
            refine va_zast hx hb hK hP hD hS 4 2 rfl rfl i32 dX6_takesOut_280 (fun H locs hP hD hS => ?_)
            have hP : va_P D vwCl (WM_ q cI cJ cZ wwd wmn wod wsm u11.2.1 wwl wif (upd v22 v21.toNatClampNeg (vp_nar .boolean (u11.2.2.1 v21.toNatClampNeg))) u11.2.2.1 u17.2 u11.2.2.2 wta) H := hP
            have hD : va_D A (WM_ q cI cJ cZ wwd wmn wod wsm u11.2.1 wwl wif (upd v22 v21.toNatClampNeg (vp_nar .boolean (u11.2.2.1 v21.toNatClampNeg))) u11.2.2.1 u17.2 u11.2.2.2 wta) := hD
            refine lv_iinc (v := (v21 + (1 : Int32))) (lv' := [(3, .int (v21 + (1 : Int32))), (2, .int u3.2), (0, .ref (q 0)), (1, .int p1)]) hx hb dX6_takesOut_281 hl (k := 0) rfl rfl (by decide) rfl (fun ls hl => ?_)
            refine lv_goto (tgt := 261) hx hb dX6_takesOut_284 (by decide) ?_
            exact ih28 _ _ _ _ (Option.some.inj h).symm ⟨hP, hD, hS, lv_sub hl [0, 1, 2, 3] rfl⟩
      · intro K19
        refine W_lp (body := (fun (st : (Int32 × (Nat → Int64))) => fX6_takesOut_L231 u11 st.1 st.2)) (P := fun (st : (Int32 × (Nat → Int64))) H locs ls => va_P D vwCl (WM_ q cI cJ cZ wwd wmn wod wsm u11.2.1 wwl wif wev u11.2.2.1 st.2 u11.2.2.2 wta) H ∧ va_D A (WM_ q cI cJ cZ wwd wmn wod wsm u11.2.1 wwl wif wev u11.2.2.1 st.2 u11.2.2.2 wta) ∧ va_S A s.heap H locs ∧ lv_has ls 8 [(3, .int st.1), (2, .int u3.2), (0, .ref (q 0)), (1, .int p1)]) (g := fun _ ls => F0 m 231 ls []) (r := u17) ?_ fu_ ((0 : Int32), wsu) _ _ _ e18 ⟨hP, hD, hS, lv_sub hl [0, 1, 2, 3] rfl⟩
        intro st xx35 H locs ls h hq ih34 hR33
        obtain ⟨hP, hD, hS, hl⟩ := hq
        obtain ⟨v15, v16⟩ := st
        have hP : va_P D vwCl (WM_ q cI cJ cZ wwd wmn wod wsm u11.2.1 wwl wif wev u11.2.2.1 v16 u11.2.2.2 wta) H := hP
        have hD : va_D A (WM_ q cI cJ cZ wwd wmn wod wsm u11.2.1 wwl wif wev u11.2.2.1 v16 u11.2.2.2 wta) := hD
        have hl : lv_has ls 8 [(3, .int v15), (2, .int u3.2), (0, .ref (q 0)), (1, .int p1)] := hl
        have h : fX6_takesOut_L231 u11 v15 v16 = some xx35 := h
        unfold fX6_takesOut_L231 at h
        refine lv_iload_n hx hb dX6_takesOut_231 rfl (lv_at hl 0 rfl) ?_
        refine lv_iconst (v := (4 : Int32)) hx hb dX6_takesOut_232 (by decide) ?_
        refine lv_aload_n hx hb dX6_takesOut_233 rfl (lv_at hl 2 rfl) ?_
        refine va_get (D := D) (ci := 6) (v := .int u11.2.1) (C := RX6) (T := TX6) (N := 12) hx hb hts wiX6_takesOut_X6 hown hK hP 0 rfl rfl 10 (by decide) (hts _ wmX6_takesOut_3) (fun _ h9 => h9) rfl dX6_takesOut_234 ?_
        refine lv_imul hx hb dX6_takesOut_237 ?_
        refine lv_icmp_ge (tgt := 259) hx hb dX6_takesOut_238 (by decide) (fun c36 => ?_) (fun c36 => ?_)
        · have h := (if_pos c36).symm.trans h
          exact K19 _ _ _ _ ⟨(hR33 _ (Option.some.inj h).symm).symm, hP, hD, hS, lv_sub hl [0, 1, 2, 3] rfl⟩
        · have h := (if_neg c36).symm.trans h
          refine lv_aload_n hx hb dX6_takesOut_241 rfl (lv_at hl 2 rfl) ?_
          refine va_get (D := D) (ci := 6) (v := .ref (q 3)) (C := RX6) (T := TX6) (N := 12) hx hb hts wiX6_takesOut_X6 hown hK hP 0 rfl rfl 5 (by decide) (hts _ wmX6_takesOut_2) (fun _ h9 => h9) rfl dX6_takesOut_242 ?_
          refine lv_iload_n hx hb dX6_takesOut_245 rfl (lv_at hl 0 rfl) ?_
          refine lv_aload_n hx hb dX6_takesOut_246 rfl (lv_at hl 2 rfl) ?_
          refine va_get (D := D) (ci := 6) (v := .ref (q 5)) (C := RX6) (T := TX6) (N := 12) hx hb hts wiX6_takesOut_X6 hown hK hP 0 rfl rfl 8 (by decide) (hts _ wmX6_takesOut_4) (fun _ h9 => h9) rfl dX6_takesOut_247 ?_
          refine lv_iload_n hx hb dX6_takesOut_250 rfl (lv_at hl 0 rfl) ?_
          obtain ⟨i37, h⟩ := ck_some h
          refine va_lald hx hb hK hP 5 1 rfl rfl i37 dX6_takesOut_251 ?_
          obtain ⟨i38, h⟩ := ck_some h
          refine va_last hx hb hK hP hD hS 3 1 rfl rfl i38 dX6_takesOut_252 (fun H locs hP hD hS => ?_)
          have hP : va_P D vwCl (WM_ q cI cJ cZ wwd wmn wod wsm u11.2.1 wwl wif wev u11.2.2.1 (vp_updL v16 v15.toNatClampNeg (u11.2.2.2 v15.toNatClampNeg)) u11.2.2.2 wta) H := hP
          have hD : va_D A (WM_ q cI cJ cZ wwd wmn wod wsm u11.2.1 wwl wif wev u11.2.2.1 (vp_updL v16 v15.toNatClampNeg (u11.2.2.2 v15.toNatClampNeg)) u11.2.2.2 wta) := hD
          refine lv_iinc (v := (v15 + (1 : Int32))) (lv' := [(3, .int (v15 + (1 : Int32))), (2, .int u3.2), (0, .ref (q 0)), (1, .int p1)]) hx hb dX6_takesOut_253 hl (k := 0) rfl rfl (by decide) rfl (fun ls hl => ?_)
          refine lv_goto (tgt := 231) hx hb dX6_takesOut_256 (by decide) ?_
          exact ih34 _ _ _ _ (Option.some.inj h).symm ⟨hP, hD, hS, lv_sub hl [0, 1, 2, 3] rfl⟩
    · intro K13
      refine W_lp (body := (fun (st : (Int32 × Int32 × (Nat → Int32) × (Nat → Int64))) => fX6_takesOut_L56 wsm p1 u3 wsu wev st.1 st.2.1 st.2.2.1 st.2.2.2)) (P := fun (st : (Int32 × Int32 × (Nat → Int32) × (Nat → Int64))) H locs ls => va_P D vwCl (WM_ q cI cJ cZ wwd wmn wod wsm st.2.1 wwl wif wev st.2.2.1 wsu st.2.2.2 wta) H ∧ va_D A (WM_ q cI cJ cZ wwd wmn wod wsm st.2.1 wwl wif wev st.2.2.1 wsu st.2.2.2 wta) ∧ va_S A s.heap H locs ∧ lv_has ls 8 [(3, .int st.1), (2, .int u3.2), (0, .ref (q 0)), (1, .int p1)]) (g := fun _ ls => F0 m 56 ls []) (r := u11) ?_ fu_ ((0 : Int32), (0 : Int32), wne, wnx) _ _ _ e12 ⟨hP, hD, hS, lv_sub hl [0, 1, 2, 3] rfl⟩
      intro st xx41 H locs ls h hq ih40 hR39
      obtain ⟨hP, hD, hS, hl⟩ := hq
      obtain ⟨v7, v8, v9, v10⟩ := st
      have hP : va_P D vwCl (WM_ q cI cJ cZ wwd wmn wod wsm v8 wwl wif wev v9 wsu v10 wta) H := hP
      have hD : va_D A (WM_ q cI cJ cZ wwd wmn wod wsm v8 wwl wif wev v9 wsu v10 wta) := hD
      have hl : lv_has ls 8 [(3, .int v7), (2, .int u3.2), (0, .ref (q 0)), (1, .int p1)] := hl
      have h : fX6_takesOut_L56 wsm p1 u3 wsu wev v7 v8 v9 v10 = some xx41 := h
      unfold fX6_takesOut_L56 at h
      refine lv_iload_n hx hb dX6_takesOut_56 rfl (lv_at hl 0 rfl) ?_
      refine lv_aload_n hx hb dX6_takesOut_57 rfl (lv_at hl 2 rfl) ?_
      refine va_get (D := D) (ci := 6) (v := .int wsm) (C := RX6) (T := TX6) (N := 12) hx hb hts wiX6_takesOut_X6 hown hK hP 0 rfl rfl 7 (by decide) (hts _ wmX6_takesOut_0) (fun _ h9 => h9) rfl dX6_takesOut_58 ?_
      refine lv_icmp_ge (tgt := 229) hx hb dX6_takesOut_61 (by decide) (fun c42 => ?_) (fun c42 => ?_)
      · have h := (if_pos c42).symm.trans h
        exact K13 _ _ _ _ ⟨(hR39 _ (Option.some.inj h).symm).symm, hP, hD, hS, lv_sub hl [0, 1, 2, 3] rfl⟩
      · have h := (if_neg c42).symm.trans h
        refine lv_aload_n hx hb dX6_takesOut_64 rfl (lv_at hl 2 rfl) ?_
        refine va_get (D := D) (ci := 6) (v := .ref (q 3)) (C := RX6) (T := TX6) (N := 12) hx hb hts wiX6_takesOut_X6 hown hK hP 0 rfl rfl 5 (by decide) (hts _ wmX6_takesOut_2) (fun _ h9 => h9) rfl dX6_takesOut_65 ?_
        refine lv_iconst (v := (4 : Int32)) hx hb dX6_takesOut_68 (by decide) ?_
        refine lv_iload_n hx hb dX6_takesOut_69 rfl (lv_at hl 0 rfl) ?_
        refine lv_imul hx hb dX6_takesOut_70 ?_
        refine lv_iload_n hx hb dX6_takesOut_71 rfl (lv_at hl 3 rfl) ?_
        refine lv_iadd hx hb dX6_takesOut_72 ?_
        obtain ⟨i43, h⟩ := ck_some h
        refine va_lald hx hb hK hP 3 1 rfl rfl i43 dX6_takesOut_73 ?_
        refine lv_lstore (lv' := [(4, .long (wsu (((4 : Int32) * v7) + p1).toNatClampNeg)), (3, .int v7), (2, .int u3.2), (0, .ref (q 0)), (1, .int p1)]) hx hb dX6_takesOut_74 hl (by decide) rfl (fun ls hl => ?_)
        refine lv_iload_n hx hb dX6_takesOut_76 rfl (lv_at hl 1 rfl) ?_
        refine lv_iload_n hx hb dX6_takesOut_77 rfl (lv_at hl 2 rfl) ?_
        refine lv_icmp_ne (tgt := 84) hx hb dX6_takesOut_78 (by decide) (fun c44 => ?_) (fun c44 => ?_)
        · have h := (if_neg c44).symm.trans h
          refine lv_lload hx hb dX6_takesOut_84 (lv_at hl 0 rfl) ?_
          refine lv_lconst (v := (0 : Int64)) hx hb dX6_takesOut_86 (by decide) ?_
          refine W.lcmp hx hb dX6_takesOut_87 ?_
          refine lv_if_ne (tgt := 108) hx hb dX6_takesOut_88 (by decide) (fun c45 => ?_) (fun c45 => ?_)
          · have h := (if_neg c45).symm.trans h
            refine lv_iload_n hx hb dX6_takesOut_108 rfl (lv_at hl 2 rfl) ?_
            refine lv_iconst (v := (-1 : Int32)) hx hb dX6_takesOut_109 (by decide) ?_
            refine lv_icmp_eq (tgt := 160) hx hb dX6_takesOut_110 (by decide) (fun c46 => ?_) (fun c46 => ?_)
            · have h := (if_pos c46).symm.trans h
              refine lv_iconst (v := (0 : Int32)) hx hb dX6_takesOut_160 (by decide) ?_
              refine lv_istore (lv' := [(6, .int (0 : Int32)), (4, .long (wsu (((4 : Int32) * v7) + p1).toNatClampNeg)), (3, .int v7), (2, .int u3.2), (0, .ref (q 0)), (1, .int p1)]) hx hb dX6_takesOut_161 hl (by decide) rfl (fun ls hl => ?_)
              obtain ⟨u51, e52, h⟩ := bd_some h
              refine W_leave (P := fun (y : (Int32 × Int32 × (Nat → Int32) × (Nat → Int64))) H locs ls => u51 = y ∧ va_P D vwCl (WM_ q cI cJ cZ wwd wmn wod wsm y.2.1 wwl wif wev y.2.2.1 wsu y.2.2.2 wta) H ∧ va_D A (WM_ q cI cJ cZ wwd wmn wod wsm y.2.1 wwl wif wev y.2.2.1 wsu y.2.2.2 wta) ∧ va_S A s.heap H locs ∧ lv_has ls 8 [(6, .int y.1), (4, .long (wsu (((4 : Int32) * v7) + p1).toNatClampNeg)), (3, .int v7), (2, .int u3.2), (0, .ref (q 0)), (1, .int p1)]) (g := fun ls => F0 m 223 ls []) ?_ ?_
              · intro y H locs ls hq
                obtain ⟨hy, hP, hD, hS, hl⟩ := hq
                subst hy
                have hl : lv_has ls 8 [(6, .int u51.1), (4, .long (wsu (((4 : Int32) * v7) + p1).toNatClampNeg)), (3, .int v7), (2, .int u3.2), (0, .ref (q 0)), (1, .int p1)] := hl
                refine lv_iinc (v := (v7 + (1 : Int32))) (lv' := [(3, .int (v7 + (1 : Int32))), (6, .int u51.1), (4, .long (wsu (((4 : Int32) * v7) + p1).toNatClampNeg)), (2, .int u3.2), (0, .ref (q 0)), (1, .int p1)]) hx hb dX6_takesOut_223 hl (k := 2) rfl rfl (by decide) rfl (fun ls hl => ?_)
                refine lv_goto (tgt := 56) hx hb dX6_takesOut_226 (by decide) ?_
                exact ih40 _ _ _ _ (Option.some.inj h).symm ⟨hP, hD, hS, lv_sub hl [0, 3, 4, 5] rfl⟩
              · intro K53
                refine W_lp (body := (fun (st : (Int32 × Int32 × (Nat → Int32) × (Nat → Int64))) => fX6_takesOut_L163 wsm wsu v7 p1 st.1 st.2.1 st.2.2.1 st.2.2.2)) (P := fun (st : (Int32 × Int32 × (Nat → Int32) × (Nat → Int64))) H locs ls => va_P D vwCl (WM_ q cI cJ cZ wwd wmn wod wsm st.2.1 wwl wif wev st.2.2.1 wsu st.2.2.2 wta) H ∧ va_D A (WM_ q cI cJ cZ wwd wmn wod wsm st.2.1 wwl wif wev st.2.2.1 wsu st.2.2.2 wta) ∧ va_S A s.heap H locs ∧ lv_has ls 8 [(6, .int st.1), (4, .long (wsu (((4 : Int32) * v7) + p1).toNatClampNeg)), (3, .int v7), (2, .int u3.2), (0, .ref (q 0)), (1, .int p1)]) (g := fun _ ls => F0 m 163 ls []) (r := u51) ?_ fu_ ((0 : Int32), v8, v9, v10) _ _ _ e52 ⟨hP, hD, hS, lv_sub hl [0, 1, 2, 3, 4, 5] rfl⟩
                intro st xx57 H locs ls h hq ih56 hR55
                obtain ⟨hP, hD, hS, hl⟩ := hq
                obtain ⟨v47, v48, v49, v50⟩ := st
                have hP : va_P D vwCl (WM_ q cI cJ cZ wwd wmn wod wsm v48 wwl wif wev v49 wsu v50 wta) H := hP
                have hD : va_D A (WM_ q cI cJ cZ wwd wmn wod wsm v48 wwl wif wev v49 wsu v50 wta) := hD
                have hl : lv_has ls 8 [(6, .int v47), (4, .long (wsu (((4 : Int32) * v7) + p1).toNatClampNeg)), (3, .int v7), (2, .int u3.2), (0, .ref (q 0)), (1, .int p1)] := hl
                have h : fX6_takesOut_L163 wsm wsu v7 p1 v47 v48 v49 v50 = some xx57 := h
                unfold fX6_takesOut_L163 at h
                refine lv_iload hx hb dX6_takesOut_163 (lv_at hl 0 rfl) ?_
                refine lv_aload_n hx hb dX6_takesOut_165 rfl (lv_at hl 4 rfl) ?_
                refine va_get (D := D) (ci := 6) (v := .int wsm) (C := RX6) (T := TX6) (N := 12) hx hb hts wiX6_takesOut_X6 hown hK hP 0 rfl rfl 7 (by decide) (hts _ wmX6_takesOut_0) (fun _ h9 => h9) rfl dX6_takesOut_166 ?_
                refine lv_icmp_ge (tgt := 223) hx hb dX6_takesOut_169 (by decide) (fun c58 => ?_) (fun c58 => ?_)
                · have h := (if_pos c58).symm.trans h
                  exact K53 _ _ _ _ ⟨(hR55 _ (Option.some.inj h).symm).symm, hP, hD, hS, lv_sub hl [0, 1, 2, 3, 4, 5] rfl⟩
                · have h := (if_neg c58).symm.trans h
                  refine lv_lload hx hb dX6_takesOut_172 (lv_at hl 1 rfl) ?_
                  refine lv_lconst (v := (0 : Int64)) hx hb dX6_takesOut_174 (by decide) ?_
                  refine W.lcmp hx hb dX6_takesOut_175 ?_
                  refine lv_if_le (tgt := 223) hx hb dX6_takesOut_176 (by decide) (fun c59 => ?_) (fun c59 => ?_)
                  · have h := (if_pos c59).symm.trans h
                    exact K53 _ _ _ _ ⟨(hR55 _ (Option.some.inj h).symm).symm, hP, hD, hS, lv_sub hl [0, 1, 2, 3, 4, 5] rfl⟩
                  · have h := (if_neg c59).symm.trans h
                    refine lv_aload_n hx hb dX6_takesOut_179 rfl (lv_at hl 4 rfl) ?_
                    refine va_get (D := D) (ci := 6) (v := .ref (q 3)) (C := RX6) (T := TX6) (N := 12) hx hb hts wiX6_takesOut_X6 hown hK hP 0 rfl rfl 5 (by decide) (hts _ wmX6_takesOut_2) (fun _ h9 => h9) rfl dX6_takesOut_180 ?_
                    refine lv_iconst (v := (4 : Int32)) hx hb dX6_takesOut_183 (by decide) ?_
                    refine lv_iload hx hb dX6_takesOut_184 (lv_at hl 0 rfl) ?_
                    refine lv_imul hx hb dX6_takesOut_186 ?_
                    refine lv_iload_n hx hb dX6_takesOut_187 rfl (lv_at hl 5 rfl) ?_
                    refine lv_iadd hx hb dX6_takesOut_188 ?_
                    obtain ⟨i60, h⟩ := ck_some h
                    refine va_lald hx hb hK hP 3 1 rfl rfl i60 dX6_takesOut_189 ?_
                    refine lv_lconst (v := (0 : Int64)) hx hb dX6_takesOut_190 (by decide) ?_
                    refine W.lcmp hx hb dX6_takesOut_191 ?_
                    refine lv_if_ge (tgt := 217) hx hb dX6_takesOut_192 (by decide) (fun c61 => ?_) (fun c61 => ?_)
                    · have h := (if_pos c61).symm.trans h
                      refine lv_iinc (v := (v47 + (1 : Int32))) (lv' := [(6, .int (v47 + (1 : Int32))), (4, .long (wsu (((4 : Int32) * v7) + p1).toNatClampNeg)), (3, .int v7), (2, .int u3.2), (0, .ref (q 0)), (1, .int p1)]) hx hb dX6_takesOut_217 hl (k := 0) rfl rfl (by decide) rfl (fun ls hl => ?_)
                      refine lv_goto (tgt := 163) hx hb dX6_takesOut_220 (by decide) ?_
                      exact ih56 _ _ _ _ (Option.some.inj h).symm ⟨hP, hD, hS, lv_sub hl [0, 1, 2, 3, 4, 5] rfl⟩
                    · have h := (if_neg c61).symm.trans h
                      refine lv_aload_n hx hb dX6_takesOut_195 rfl (lv_at hl 4 rfl) ?_
                      refine lv_iload_n hx hb dX6_takesOut_196 rfl (lv_at hl 2 rfl) ?_
                      refine lv_aload_n hx hb dX6_takesOut_197 rfl (lv_at hl 4 rfl) ?_
                      refine va_get (D := D) (ci := 6) (v := .ref (q 3)) (C := RX6) (T := TX6) (N := 12) hx hb hts wiX6_takesOut_X6 hown hK hP 0 rfl rfl 5 (by decide) (hts _ wmX6_takesOut_2) (fun _ h9 => h9) rfl dX6_takesOut_198 ?_
                      refine lv_iconst (v := (4 : Int32)) hx hb dX6_takesOut_201 (by decide) ?_
                      refine lv_iload hx hb dX6_takesOut_202 (lv_at hl 0 rfl) ?_
                      refine lv_imul hx hb dX6_takesOut_204 ?_
                      refine lv_iload_n hx hb dX6_takesOut_205 rfl (lv_at hl 5 rfl) ?_
                      refine lv_iadd hx hb dX6_takesOut_206 ?_
                      obtain ⟨i62, h⟩ := ck_some h
                      refine va_lald hx hb hK hP 3 1 rfl rfl i62 dX6_takesOut_207 ?_
                      refine lv_lneg hx hb dX6_takesOut_208 ?_
                      refine lv_iload hx hb dX6_takesOut_209 (lv_at hl 0 rfl) ?_
                      refine lv_lload hx hb dX6_takesOut_211 (lv_at hl 1 rfl) ?_
                      refine lv_iconst (v := (0 : Int32)) hx hb dX6_takesOut_213 (by decide) ?_
                      obtain ⟨u63, e64, h⟩ := bd_some h
                      refine k_v (va_runV (As := [.int v7, .long (-(wsu (((4 : Int32) * v47) + p1).toNatClampNeg)), .int v47, .long (wsu (((4 : Int32) * v7) + p1).toNatClampNeg), .int (0 : Int32)]) (rest := []) ⟨hx, hb, hml, hown, hts⟩ (kX6_puts l D q cI cJ cZ tP H.size wwd wmn wod wsm v48 wwl wif wev v49 wsu v50 wta v7 (-(wsu (((4 : Int32) * v47) + p1).toNatClampNeg)) v47 (wsu (((4 : Int32) * v7) + p1).toNatClampNeg) (0 : Int32) u63 e64) (cwV 5 hts gX6_takesOut_X6_puts rfl rfl rfl (by decide +kernel) ⟨Nat.le_of_ble_eq_true rfl, Nat.le_of_ble_eq_true rfl⟩) ⟨cPre_blind, va_recv hK hP (ci := 6) (q0 := 0) rfl rfl, cPre_at hP hK hN hD hS hA hZ⟩ rfl rfl hl.1 rfl (lv_room (Nat.le_of_ble_eq_true rfl)) dX6_takesOut_214 ⟨Nat.le_of_ble_eq_true rfl, Nat.le_of_ble_eq_true rfl⟩) hD hS hA (fun H locs hP hD hS => ?_)
                      refine lv_iinc (v := (v47 + (1 : Int32))) (lv' := [(6, .int (v47 + (1 : Int32))), (4, .long (wsu (((4 : Int32) * v7) + p1).toNatClampNeg)), (3, .int v7), (2, .int u3.2), (0, .ref (q 0)), (1, .int p1)]) hx hb dX6_takesOut_217 hl (k := 0) rfl rfl (by decide) rfl (fun ls hl => ?_)
                      refine lv_goto (tgt := 163) hx hb dX6_takesOut_220 (by decide) ?_
                      exact ih56 _ _ _ _ (Option.some.inj h).symm ⟨hP, hD, hS, lv_sub hl [0, 1, 2, 3, 4, 5] rfl⟩
            · have h := (if_neg c46).symm.trans h
              refine lv_aload_n hx hb dX6_takesOut_113 rfl (lv_at hl 3 rfl) ?_
              refine va_get (D := D) (ci := 6) (v := .ref (q 3)) (C := RX6) (T := TX6) (N := 12) hx hb hts wiX6_takesOut_X6 hown hK hP 0 rfl rfl 5 (by decide) (hts _ wmX6_takesOut_2) (fun _ h9 => h9) rfl dX6_takesOut_114 ?_
              refine lv_iconst (v := (4 : Int32)) hx hb dX6_takesOut_117 (by decide) ?_
              refine lv_iload_n hx hb dX6_takesOut_118 rfl (lv_at hl 2 rfl) ?_
              refine lv_imul hx hb dX6_takesOut_119 ?_
              refine lv_iload_n hx hb dX6_takesOut_120 rfl (lv_at hl 4 rfl) ?_
              refine lv_iadd hx hb dX6_takesOut_121 ?_
              obtain ⟨i65, h⟩ := ck_some h
              refine va_lald hx hb hK hP 3 1 rfl rfl i65 dX6_takesOut_122 ?_
              refine lv_lstore (lv' := [(6, .long (wsu (((4 : Int32) * u3.2) + p1).toNatClampNeg)), (4, .long (wsu (((4 : Int32) * v7) + p1).toNatClampNeg)), (3, .int v7), (2, .int u3.2), (0, .ref (q 0)), (1, .int p1)]) hx hb dX6_takesOut_123 hl (by decide) rfl (fun ls hl => ?_)
              refine lv_aload_n hx hb dX6_takesOut_125 rfl (lv_at hl 4 rfl) ?_
              refine lv_iload_n hx hb dX6_takesOut_126 rfl (lv_at hl 2 rfl) ?_
              refine lv_lload hx hb dX6_takesOut_127 (lv_at hl 0 rfl) ?_
              obtain ⟨u66, e67, h⟩ := bd_some h
              refine k_l0 (va_runS (As := [.long (wsu (((4 : Int32) * u3.2) + p1).toNatClampNeg)]) (rest := [.int v7, .ref (q 0)]) ⟨hx, hb, hml, hown, hts⟩ (kX6_size l D cI cJ cZ tP H.size  (wsu (((4 : Int32) * u3.2) + p1).toNatClampNeg) u66 e67) (va_cwS 1 hts gX6_takesOut_X6_size rfl rfl rfl (by decide +kernel) ⟨Nat.le_of_ble_eq_true rfl, Nat.le_of_ble_eq_true rfl⟩) ⟨cPre_blind, cPre_at0 hK hN hS hA hZ⟩ rfl rfl hl.1 rfl (lv_room (Nat.le_of_ble_eq_true rfl)) dX6_takesOut_129 ⟨Nat.le_of_ble_eq_true rfl, Nat.le_of_ble_eq_true rfl⟩) hP hS hA (fun H locs hP hS => ?_)
              refine lv_iload_n hx hb dX6_takesOut_132 rfl (lv_at hl 3 rfl) ?_
              refine lv_lload hx hb dX6_takesOut_133 (lv_at hl 0 rfl) ?_
              refine lv_lconst (v := (0 : Int64)) hx hb dX6_takesOut_135 (by decide) ?_
              refine W.lcmp hx hb dX6_takesOut_136 ?_
              obtain ⟨u68, e69, h⟩ := bd_some h
              refine W_join (P := fun H locs ls => va_P D vwCl (WM_ q cI cJ cZ wwd wmn wod wsm v8 wwl wif wev v9 wsu v10 wta) H ∧ va_D A (WM_ q cI cJ cZ wwd wmn wod wsm v8 wwl wif wev v9 wsu v10 wta) ∧ va_S A s.heap H locs ∧ lv_has ls 8 [(6, .long (wsu (((4 : Int32) * u3.2) + p1).toNatClampNeg)), (4, .long (wsu (((4 : Int32) * v7) + p1).toNatClampNeg)), (3, .int v7), (2, .int u3.2), (0, .ref (q 0)), (1, .int p1)]) (g := fun ls => F0 m 148 ls [.long u68, .int u3.2, .long u66, .int v7, .ref (q 0)]) ?_ ?_
              · intro H locs ls hq
                obtain ⟨hP, hD, hS, hl⟩ := hq
                refine lv_aload_n hx hb dX6_takesOut_148 rfl (lv_at hl 4 rfl) ?_
                refine va_get (D := D) (ci := 6) (v := .ref (q 4)) (C := RX6) (T := TX6) (N := 12) hx hb hts wiX6_takesOut_X6 hown hK hP 0 rfl rfl 6 (by decide) (hts _ wmX6_takesOut_1) (fun _ h9 => h9) rfl dX6_takesOut_149 ?_
                refine lv_iload_n hx hb dX6_takesOut_152 rfl (lv_at hl 2 rfl) ?_
                obtain ⟨i71, h⟩ := ck_some h
                refine va_zald hx hb hK hP 4 2 rfl rfl i71 dX6_takesOut_153 ?_
                obtain ⟨u72, e73, h⟩ := bd_some h
                refine k_v (va_runV (As := [.int v7, .long u66, .int u3.2, .long u68, .int (wev v7.toNatClampNeg)]) (rest := []) ⟨hx, hb, hml, hown, hts⟩ (kX6_puts l D q cI cJ cZ tP H.size wwd wmn wod wsm v8 wwl wif wev v9 wsu v10 wta v7 u66 u3.2 u68 (wev v7.toNatClampNeg) u72 e73) (cwV 5 hts gX6_takesOut_X6_puts rfl rfl rfl (by decide +kernel) ⟨Nat.le_of_ble_eq_true rfl, Nat.le_of_ble_eq_true rfl⟩) ⟨cPre_blind, va_recv hK hP (ci := 6) (q0 := 0) rfl rfl, cPre_at hP hK hN hD hS hA hZ⟩ rfl rfl hl.1 rfl (lv_room (Nat.le_of_ble_eq_true rfl)) dX6_takesOut_154 ⟨Nat.le_of_ble_eq_true rfl, Nat.le_of_ble_eq_true rfl⟩) hD hS hA (fun H locs hP hD hS => ?_)
                refine lv_goto (tgt := 223) hx hb dX6_takesOut_157 (by decide) ?_
                refine lv_iinc (v := (v7 + (1 : Int32))) (lv' := [(3, .int (v7 + (1 : Int32))), (6, .long (wsu (((4 : Int32) * u3.2) + p1).toNatClampNeg)), (4, .long (wsu (((4 : Int32) * v7) + p1).toNatClampNeg)), (2, .int u3.2), (0, .ref (q 0)), (1, .int p1)]) hx hb dX6_takesOut_223 hl (k := 2) rfl rfl (by decide) rfl (fun ls hl => ?_)
                refine lv_goto (tgt := 56) hx hb dX6_takesOut_226 (by decide) ?_
                exact ih40 _ _ _ _ (Option.some.inj h).symm ⟨hP, hD, hS, lv_sub hl [0, 3, 4, 5] rfl⟩
              · intro J70
                have h := e69
                refine lv_if_le (tgt := 146) hx hb dX6_takesOut_137 (by decide) (fun c74 => ?_) (fun c74 => ?_)
                · have h := (if_pos c74).symm.trans h
                  refine lv_lload hx hb dX6_takesOut_146 (lv_at hl 1 rfl) ?_
                  obtain rfl := Option.some.inj h
                  exact J70 _ _ _ ⟨hP, hD, hS, lv_sub hl [0, 1, 2, 3, 4, 5] rfl⟩
                · have h := (if_neg c74).symm.trans h
                  refine lv_lload hx hb dX6_takesOut_140 (lv_at hl 1 rfl) ?_
                  refine lv_lneg hx hb dX6_takesOut_142 ?_
                  refine lv_goto (tgt := 148) hx hb dX6_takesOut_143 (by decide) ?_
                  obtain rfl := Option.some.inj h
                  exact J70 _ _ _ ⟨hP, hD, hS, lv_sub hl [0, 1, 2, 3, 4, 5] rfl⟩
          · have h := (if_pos c45).symm.trans h
            refine lv_aload_n hx hb dX6_takesOut_91 rfl (lv_at hl 3 rfl) ?_
            refine lv_iload_n hx hb dX6_takesOut_92 rfl (lv_at hl 1 rfl) ?_
            refine lv_lconst (v := (1 : Int64)) hx hb dX6_takesOut_93 (by decide) ?_
            refine lv_iload_n hx hb dX6_takesOut_94 rfl (lv_at hl 1 rfl) ?_
            refine lv_lconst (v := (0 : Int64)) hx hb dX6_takesOut_95 (by decide) ?_
            refine lv_aload_n hx hb dX6_takesOut_96 rfl (lv_at hl 3 rfl) ?_
            refine va_get (D := D) (ci := 6) (v := .ref (q 4)) (C := RX6) (T := TX6) (N := 12) hx hb hts wiX6_takesOut_X6 hown hK hP 0 rfl rfl 6 (by decide) (hts _ wmX6_takesOut_1) (fun _ h9 => h9) rfl dX6_takesOut_97 ?_
            refine lv_iload_n hx hb dX6_takesOut_100 rfl (lv_at hl 1 rfl) ?_
            obtain ⟨i75, h⟩ := ck_some h
            refine va_zald hx hb hK hP 4 2 rfl rfl i75 dX6_takesOut_101 ?_
            obtain ⟨u76, e77, h⟩ := bd_some h
            refine k_v (va_runV (As := [.int v7, .long (1 : Int64), .int v7, .long (0 : Int64), .int (wev v7.toNatClampNeg)]) (rest := []) ⟨hx, hb, hml, hown, hts⟩ (kX6_puts l D q cI cJ cZ tP H.size wwd wmn wod wsm v8 wwl wif wev v9 wsu v10 wta v7 (1 : Int64) v7 (0 : Int64) (wev v7.toNatClampNeg) u76 e77) (cwV 5 hts gX6_takesOut_X6_puts rfl rfl rfl (by decide +kernel) ⟨Nat.le_of_ble_eq_true rfl, Nat.le_of_ble_eq_true rfl⟩) ⟨cPre_blind, va_recv hK hP (ci := 6) (q0 := 0) rfl rfl, cPre_at hP hK hN hD hS hA hZ⟩ rfl rfl hl.1 rfl (lv_room (Nat.le_of_ble_eq_true rfl)) dX6_takesOut_102 ⟨Nat.le_of_ble_eq_true rfl, Nat.le_of_ble_eq_true rfl⟩) hD hS hA (fun H locs hP hD hS => ?_)
            refine lv_goto (tgt := 223) hx hb dX6_takesOut_105 (by decide) ?_
            refine lv_iinc (v := (v7 + (1 : Int32))) (lv' := [(3, .int (v7 + (1 : Int32))), (4, .long (wsu (((4 : Int32) * v7) + p1).toNatClampNeg)), (2, .int u3.2), (0, .ref (q 0)), (1, .int p1)]) hx hb dX6_takesOut_223 hl (k := 1) rfl rfl (by decide) rfl (fun ls hl => ?_)
            refine lv_goto (tgt := 56) hx hb dX6_takesOut_226 (by decide) ?_
            exact ih40 _ _ _ _ (Option.some.inj h).symm ⟨hP, hD, hS, lv_sub hl [0, 2, 3, 4] rfl⟩
        · have h := (if_pos c44).symm.trans h
          refine lv_goto (tgt := 223) hx hb dX6_takesOut_81 (by decide) ?_
          refine lv_iinc (v := (v7 + (1 : Int32))) (lv' := [(3, .int (v7 + (1 : Int32))), (4, .long (wsu (((4 : Int32) * v7) + p1).toNatClampNeg)), (2, .int u3.2), (0, .ref (q 0)), (1, .int p1)]) hx hb dX6_takesOut_223 hl (k := 1) rfl rfl (by decide) rfl (fun ls hl => ?_)
          refine lv_goto (tgt := 56) hx hb dX6_takesOut_226 (by decide) ?_
          exact ih40 _ _ _ _ (Option.some.inj h).symm ⟨hP, hD, hS, lv_sub hl [0, 2, 3, 4] rfl⟩
  · intro K5
    refine W_lp (body := (fun (st : (Int32 × Int32)) => fX6_takesOut_L4 wsm wev p1 wsu st.1 st.2)) (P := fun (st : (Int32 × Int32)) H locs ls => va_P D vwCl (WM_ q cI cJ cZ wwd wmn wod wsm wnm wwl wif wev wne wsu wnx wta) H ∧ va_D A (WM_ q cI cJ cZ wwd wmn wod wsm wnm wwl wif wev wne wsu wnx wta) ∧ va_S A s.heap H locs ∧ lv_has ls 8 [(3, .int st.1), (2, .int st.2), (0, .ref (q 0)), (1, .int p1)]) (g := fun _ ls => F0 m 4 ls []) (r := u3) ?_ fu_ ((0 : Int32), (-1 : Int32)) _ _ _ e4 ⟨hP, hD, hS, lv_sub hl [0, 1, 2, 3] rfl⟩
    intro st xx80 H locs ls h hq ih79 hR78
    obtain ⟨hP, hD, hS, hl⟩ := hq
    obtain ⟨v1, v2⟩ := st
    have hP : va_P D vwCl (WM_ q cI cJ cZ wwd wmn wod wsm wnm wwl wif wev wne wsu wnx wta) H := hP
    have hD : va_D A (WM_ q cI cJ cZ wwd wmn wod wsm wnm wwl wif wev wne wsu wnx wta) := hD
    have hl : lv_has ls 8 [(3, .int v1), (2, .int v2), (0, .ref (q 0)), (1, .int p1)] := hl
    have h : fX6_takesOut_L4 wsm wev p1 wsu v1 v2 = some xx80 := h
    unfold fX6_takesOut_L4 at h
    refine lv_iload_n hx hb dX6_takesOut_4 rfl (lv_at hl 0 rfl) ?_
    refine lv_aload_n hx hb dX6_takesOut_5 rfl (lv_at hl 2 rfl) ?_
    refine va_get (D := D) (ci := 6) (v := .int wsm) (C := RX6) (T := TX6) (N := 12) hx hb hts wiX6_takesOut_X6 hown hK hP 0 rfl rfl 7 (by decide) (hts _ wmX6_takesOut_0) (fun _ h9 => h9) rfl dX6_takesOut_6 ?_
    refine lv_icmp_ge (tgt := 49) hx hb dX6_takesOut_9 (by decide) (fun c81 => ?_) (fun c81 => ?_)
    · have h := (if_pos c81).symm.trans h
      exact K5 _ _ _ _ ⟨(hR78 _ (Option.some.inj h).symm).symm, hP, hD, hS, lv_sub hl [0, 1, 2, 3] rfl⟩
    · have h := (if_neg c81).symm.trans h
      refine lv_iload_n hx hb dX6_takesOut_12 rfl (lv_at hl 1 rfl) ?_
      refine lv_iconst (v := (-1 : Int32)) hx hb dX6_takesOut_13 (by decide) ?_
      refine lv_icmp_ne (tgt := 49) hx hb dX6_takesOut_14 (by decide) (fun c82 => ?_) (fun c82 => ?_)
      · have h := (if_neg c82).symm.trans h
        exact K5 _ _ _ _ ⟨(hR78 _ (Option.some.inj h).symm).symm, hP, hD, hS, lv_sub hl [0, 1, 2, 3] rfl⟩
      · have h := (if_pos c82).symm.trans h
        refine lv_aload_n hx hb dX6_takesOut_17 rfl (lv_at hl 2 rfl) ?_
        refine va_get (D := D) (ci := 6) (v := .ref (q 4)) (C := RX6) (T := TX6) (N := 12) hx hb hts wiX6_takesOut_X6 hown hK hP 0 rfl rfl 6 (by decide) (hts _ wmX6_takesOut_1) (fun _ h9 => h9) rfl dX6_takesOut_18 ?_
        refine lv_iload_n hx hb dX6_takesOut_21 rfl (lv_at hl 0 rfl) ?_
        obtain ⟨i83, h⟩ := ck_some h
        refine va_zald hx hb hK hP 4 2 rfl rfl i83 dX6_takesOut_22 ?_
        refine lv_if_eq (tgt := 43) hx hb dX6_takesOut_23 (by decide) (fun c84 => ?_) (fun c84 => ?_)
        · have h := (if_pos c84).symm.trans h
          refine lv_iinc (v := (v1 + (1 : Int32))) (lv' := [(3, .int (v1 + (1 : Int32))), (2, .int v2), (0, .ref (q 0)), (1, .int p1)]) hx hb dX6_takesOut_43 hl (k := 0) rfl rfl (by decide) rfl (fun ls hl => ?_)
          refine lv_goto (tgt := 4) hx hb dX6_takesOut_46 (by decide) ?_
          exact ih79 _ _ _ _ (Option.some.inj h).symm ⟨hP, hD, hS, lv_sub hl [0, 1, 2, 3] rfl⟩
        · have h := (if_neg c84).symm.trans h
          refine lv_aload_n hx hb dX6_takesOut_26 rfl (lv_at hl 2 rfl) ?_
          refine va_get (D := D) (ci := 6) (v := .ref (q 3)) (C := RX6) (T := TX6) (N := 12) hx hb hts wiX6_takesOut_X6 hown hK hP 0 rfl rfl 5 (by decide) (hts _ wmX6_takesOut_2) (fun _ h9 => h9) rfl dX6_takesOut_27 ?_
          refine lv_iconst (v := (4 : Int32)) hx hb dX6_takesOut_30 (by decide) ?_
          refine lv_iload_n hx hb dX6_takesOut_31 rfl (lv_at hl 0 rfl) ?_
          refine lv_imul hx hb dX6_takesOut_32 ?_
          refine lv_iload_n hx hb dX6_takesOut_33 rfl (lv_at hl 3 rfl) ?_
          refine lv_iadd hx hb dX6_takesOut_34 ?_
          obtain ⟨i85, h⟩ := ck_some h
          refine va_lald hx hb hK hP 3 1 rfl rfl i85 dX6_takesOut_35 ?_
          refine lv_lconst (v := (0 : Int64)) hx hb dX6_takesOut_36 (by decide) ?_
          refine W.lcmp hx hb dX6_takesOut_37 ?_
          refine lv_if_eq (tgt := 43) hx hb dX6_takesOut_38 (by decide) (fun c86 => ?_) (fun c86 => ?_)
          · have h := (if_pos c86).symm.trans h
            refine lv_iinc (v := (v1 + (1 : Int32))) (lv' := [(3, .int (v1 + (1 : Int32))), (2, .int v2), (0, .ref (q 0)), (1, .int p1)]) hx hb dX6_takesOut_43 hl (k := 0) rfl rfl (by decide) rfl (fun ls hl => ?_)
            refine lv_goto (tgt := 4) hx hb dX6_takesOut_46 (by decide) ?_
            exact ih79 _ _ _ _ (Option.some.inj h).symm ⟨hP, hD, hS, lv_sub hl [0, 1, 2, 3] rfl⟩
          · have h := (if_neg c86).symm.trans h
            refine lv_iload_n hx hb dX6_takesOut_41 rfl (lv_at hl 0 rfl) ?_
            refine lv_istore_n (lv' := [(2, .int v1), (3, .int v1), (0, .ref (q 0)), (1, .int p1)]) hx hb dX6_takesOut_42 rfl hl (by decide) rfl (fun ls hl => ?_)
            refine lv_iinc (v := (v1 + (1 : Int32))) (lv' := [(3, .int (v1 + (1 : Int32))), (2, .int v1), (0, .ref (q 0)), (1, .int p1)]) hx hb dX6_takesOut_43 hl (k := 1) rfl rfl (by decide) rfl (fun ls hl => ?_)
            refine lv_goto (tgt := 4) hx hb dX6_takesOut_46 (by decide) ?_
            exact ih79 _ _ _ _ (Option.some.inj h).symm ⟨hP, hD, hS, lv_sub hl [0, 1, 2, 3] rfl⟩

-- X6_isThere
theorem wmX6_isThere_0 : (.fieldLink RX6 37 "SpaceWallsModel" "wide" "I" : Cond) ∈ wsX6_isThere := by decide +kernel
theorem wmX6_isThere_1 : (.fieldLink RX6 62 "SpaceWallsModel" "sumMany" "I" : Cond) ∈ wsX6_isThere := by decide +kernel
theorem wmX6_isThere_2 : (.fieldLink RX6 21 "SpaceWallsModel" "sums" "[J" : Cond) ∈ wsX6_isThere := by decide +kernel
theorem wmX6_isThere_3 : (.fieldLink RX6 25 "SpaceWallsModel" "isEven" "[Z" : Cond) ∈ wsX6_isThere := by decide +kernel
theorem wiX6_isThere_X6 : ∀ w ∈ u_ws RX6 TX6 12, w ∈ wsX6_isThere := by decide +kernel
set_option maxHeartbeats 8000000 in
set_option maxRecDepth 100000 in
theorem kX6_isThere (l : Launch) (D : va_G) (q : Nat → Nat) (cI cJ cZ : ClassId) (tP sz : Nat) (wwd : Int32) (wmn : Int32) (wod : Int32) (wsm : Int32) (wnm : Int32) (wwl : (Nat → Int32)) (wif : (Nat → Int32)) (wev : (Nat → Int32)) (wne : (Nat → Int32)) (wsu : (Nat → Int64)) (wnx : (Nat → Int64)) (wta : (Nat → Int64)) (p1 : Int32) (p2 : Int32) (uu : (Int32 × Int32 × Int32 × (Nat → Int32) × (Nat → Int32) × (Nat → Int64) × (Nat → Int64))) (h : fX6_isThere wwd wnm wwl wev wne wsu wnx p1 p2 = some uu) : Met l yX6_isThere wsX6_isThere ({ frames := 2, cells := 0, slots := 0, locals := 55 }) (cPre D cI cJ cZ tP (WM_ q cI cJ cZ wwd wmn wod wsm wnm wwl wif wev wne wsu wnx wta) sz [.ref (q 0), .int p1, .int p2]) (cQi D (va_A (WM_ q cI cJ cZ wwd wmn wod wsm wnm wwl wif wev wne wsu wnx wta) sz) (WM_ q cI cJ cZ wwd wmn wod uu.2.1 uu.2.2.1 wwl wif uu.2.2.2.1 uu.2.2.2.2.1 uu.2.2.2.2.2.1 uu.2.2.2.2.2.2 wta) uu.1) 0 0 (va_A (WM_ q cI cJ cZ wwd wmn wod wsm wnm wwl wif wev wne wsu wnx wta) sz) := by
  refine Met.ofW (cc := cX6_isThere) (maxL := 6) (ret := (some .boolean)) (by decide) rfl ?_
  intro p e s m args below meth c s₁ B hml hv
  obtain ⟨rfl, hsz, hP, hK, hN, hD0, hZ⟩ := hv
  have hx := B.exec
  have hb := B.bytes
  have hr := B.returns
  have hts := atoms_spec (ws := wsX6_isThere) B.pre
  have hown : s.vm.findClass RX6 = some m.cls := findClass_of_methodNamed B.named
  have hlocks := B.notSynchronized
  subst hsz
  have hD := hD0.self (sz := s.heap.size)
  generalize hAe : va_A (WM_ q cI cJ cZ wwd wmn wod wsm wnm wwl wif wev wne wsu wnx wta) s.heap.size = A at hD hZ ⊢
  have hA : ∀ q : Nat, s.heap.size ≤ q → A q := fun q h => by rw [← hAe]; exact Or.inr h
  have hS : va_S A s.heap s.heap [] := va_S.rf
  have hl := lv_entry ([.ref (q 0), .int p1, .int p2]) (n := 6) (Nat.le_of_ble_eq_true rfl)
  rw [lg_entry_eq]
  generalize (lg_sl ([.ref (q 0), .int p1, .int p2]) ++ List.replicate (6 - (lg_sl ([.ref (q 0), .int p1, .int p2])).length) Slot.unset).toArray = ls at hl ⊢
  have hl : lv_has ls 6 [(0, .ref (q 0)), (1, .int p1), (2, .int p2)] := hl
  unfold fX6_isThere at h
  refine lv_aload_n hx hb dX6_isThere_0 rfl (lv_at hl 0 rfl) ?_
  obtain ⟨u1, e2, h⟩ := bd_some h
  refine k_v (va_runV (As := []) (rest := []) ⟨hx, hb, hml, hown, hts⟩ (kX6_begins l D q cI cJ cZ tP s.heap.size wwd wmn wod wsm wnm wwl wif wev wne wsu wnx wta  u1 e2) (cwV 0 hts gX6_isThere_X6_begins rfl rfl rfl (by decide +kernel) ⟨Nat.le_of_ble_eq_true rfl, Nat.le_of_ble_eq_true rfl⟩) ⟨cPre_blind, va_recv hK hP (ci := 6) (q0 := 0) rfl rfl, cPre_at hP hK hN hD hS hA hZ⟩ rfl rfl hl.1 rfl (lv_room (Nat.le_of_ble_eq_true rfl)) dX6_isThere_1 ⟨Nat.le_of_ble_eq_true rfl, Nat.le_of_ble_eq_true rfl⟩) hD hS hA (fun H locs hP hD hS => ?_)
  refine lv_iconst (v := (0 : Int32)) hx hb dX6_isThere_4 (by decide) ?_
  refine lv_istore_n (lv' := [(3, .int (0 : Int32)), (0, .ref (q 0)), (1, .int p1), (2, .int p2)]) hx hb dX6_isThere_5 rfl hl (by decide) rfl (fun ls hl => ?_)
  obtain ⟨u7, e8, h⟩ := bd_some h
  refine W_leave (P := fun (y : (Int32 × Int32 × (Nat → Int32) × (Nat → Int64))) H locs ls => u7 = y ∧ va_P D vwCl (WM_ q cI cJ cZ wwd wmn wod y.2.1 wnm wwl wif y.2.2.1 wne y.2.2.2 wnx wta) H ∧ va_D A (WM_ q cI cJ cZ wwd wmn wod y.2.1 wnm wwl wif y.2.2.1 wne y.2.2.2 wnx wta) ∧ va_S A s.heap H locs ∧ lv_has ls 6 [(3, .int y.1), (0, .ref (q 0)), (1, .int p1), (2, .int p2)]) (g := fun ls => F0 m 27 ls []) ?_ ?_
  · intro y H locs ls hq
    obtain ⟨hy, hP, hD, hS, hl⟩ := hq
    subst hy
    have hl : lv_has ls 6 [(3, .int u7.1), (0, .ref (q 0)), (1, .int p1), (2, .int p2)] := hl
    refine lv_iconst (v := (0 : Int32)) hx hb dX6_isThere_27 (by decide) ?_
    refine lv_istore_n (lv' := [(3, .int (0 : Int32)), (0, .ref (q 0)), (1, .int p1), (2, .int p2)]) hx hb dX6_isThere_28 rfl hl (by decide) rfl (fun ls hl => ?_)
    obtain ⟨u18, e19, h⟩ := bd_some h
    refine W_leave (P := fun (y : (Int32 × Int32 × Int32 × (Nat → Int32) × (Nat → Int32) × (Nat → Int64) × (Nat → Int64))) H locs ls => u18 = y ∧ va_P D vwCl (WM_ q cI cJ cZ wwd wmn wod y.2.1 y.2.2.1 wwl wif y.2.2.2.1 y.2.2.2.2.1 y.2.2.2.2.2.1 y.2.2.2.2.2.2 wta) H ∧ va_D A (WM_ q cI cJ cZ wwd wmn wod y.2.1 y.2.2.1 wwl wif y.2.2.2.1 y.2.2.2.2.1 y.2.2.2.2.2.1 y.2.2.2.2.2.2 wta) ∧ va_S A s.heap H locs ∧ lv_has ls 6 [(3, .int y.1), (0, .ref (q 0)), (1, .int p1), (2, .int p2)]) (g := fun ls => F0 m 48 ls []) ?_ ?_
    · intro y H locs ls hq
      obtain ⟨hy, hP, hD, hS, hl⟩ := hq
      subst hy
      have hl : lv_has ls 6 [(3, .int u18.1), (0, .ref (q 0)), (1, .int p1), (2, .int p2)] := hl
      refine lv_iconst (v := (0 : Int32)) hx hb dX6_isThere_48 (by decide) ?_
      refine lv_istore_n (lv' := [(3, .int (0 : Int32)), (0, .ref (q 0)), (1, .int p1), (2, .int p2)]) hx hb dX6_isThere_49 rfl hl (by decide) rfl (fun ls hl => ?_)
      obtain ⟨u23, e24, h⟩ := bd_some h
      have KR26 : ∀ y28, Sum.inr y28 = u23 → y28 = uu := by
        intro y28 hy
        subst hy
        have h := se_inr h
        exact Option.some.inj h
      refine W_leave (P := fun (y : Int32) H locs ls => u23 = Sum.inl y ∧ va_P D vwCl (WM_ q cI cJ cZ wwd wmn wod u18.2.1 u18.2.2.1 wwl wif u18.2.2.2.1 u18.2.2.2.2.1 u18.2.2.2.2.2.1 u18.2.2.2.2.2.2 wta) H ∧ va_D A (WM_ q cI cJ cZ wwd wmn wod u18.2.1 u18.2.2.1 wwl wif u18.2.2.2.1 u18.2.2.2.2.1 u18.2.2.2.2.2.1 u18.2.2.2.2.2.2 wta) ∧ va_S A s.heap H locs ∧ lv_has ls 6 [(3, .int y), (0, .ref (q 0)), (1, .int p1), (2, .int p2)]) (g := fun ls => F0 m 104 ls []) ?_ ?_
      · intro x27 H locs ls hq
        obtain ⟨hy, hP, hD, hS, hl⟩ := hq
        subst hy
        have h := se_inl h
        refine lv_iconst (v := (1 : Int32)) hx hb dX6_isThere_104 (by decide) ?_
        obtain rfl := Option.some.inj h
        exact W.zret (v := (1 : Int32)) hx hb hr (by decide) (fun t ht hW => ⟨⟨(1 : Int32), (), rfl, rfl, by rw [ht]; exact hP, hD⟩, hS.F ht⟩) hS.2.2 dX6_isThere_105
      · intro K25
        refine W_lp (body := (fun (st : Int32) => fX6_isThere_L50 u18 st)) (P := fun (st : Int32) H locs ls => va_P D vwCl (WM_ q cI cJ cZ wwd wmn wod u18.2.1 u18.2.2.1 wwl wif u18.2.2.2.1 u18.2.2.2.2.1 u18.2.2.2.2.2.1 u18.2.2.2.2.2.2 wta) H ∧ va_D A (WM_ q cI cJ cZ wwd wmn wod u18.2.1 u18.2.2.1 wwl wif u18.2.2.2.1 u18.2.2.2.2.1 u18.2.2.2.2.2.1 u18.2.2.2.2.2.2 wta) ∧ va_S A s.heap H locs ∧ lv_has ls 6 [(3, .int st), (0, .ref (q 0)), (1, .int p1), (2, .int p2)]) (g := fun _ ls => F0 m 50 ls []) (r := u23) ?_ fu_ (0 : Int32) _ _ _ e24 ⟨hP, hD, hS, lv_sub hl [0, 1, 2, 3] rfl⟩
        intro v22 xx31 H locs ls h hq ih30 hR29
        obtain ⟨hP, hD, hS, hl⟩ := hq
        have hP : va_P D vwCl (WM_ q cI cJ cZ wwd wmn wod u18.2.1 u18.2.2.1 wwl wif u18.2.2.2.1 u18.2.2.2.2.1 u18.2.2.2.2.2.1 u18.2.2.2.2.2.2 wta) H := hP
        have hD : va_D A (WM_ q cI cJ cZ wwd wmn wod u18.2.1 u18.2.2.1 wwl wif u18.2.2.2.1 u18.2.2.2.2.1 u18.2.2.2.2.2.1 u18.2.2.2.2.2.2 wta) := hD
        have hl : lv_has ls 6 [(3, .int v22), (0, .ref (q 0)), (1, .int p1), (2, .int p2)] := hl
        have h : fX6_isThere_L50 u18 v22 = some xx31 := h
        unfold fX6_isThere_L50 at h
        refine lv_iload_n hx hb dX6_isThere_50 rfl (lv_at hl 0 rfl) ?_
        refine lv_aload_n hx hb dX6_isThere_51 rfl (lv_at hl 1 rfl) ?_
        refine va_get (D := D) (ci := 6) (v := .int u18.2.1) (C := RX6) (T := TX6) (N := 12) hx hb hts wiX6_isThere_X6 hown hK hP 0 rfl rfl 7 (by decide) (hts _ wmX6_isThere_1) (fun _ h9 => h9) rfl dX6_isThere_52 ?_
        refine lv_icmp_ge (tgt := 104) hx hb dX6_isThere_55 (by decide) (fun c32 => ?_) (fun c32 => ?_)
        · have h := (if_pos c32).symm.trans h
          exact K25 _ _ _ _ ⟨(hR29 _ (Option.some.inj h).symm).symm, hP, hD, hS, lv_sub hl [0, 1, 2, 3] rfl⟩
        · have h := (if_neg c32).symm.trans h
          refine lv_aload_n hx hb dX6_isThere_58 rfl (lv_at hl 1 rfl) ?_
          refine va_get (D := D) (ci := 6) (v := .ref (q 3)) (C := RX6) (T := TX6) (N := 12) hx hb hts wiX6_isThere_X6 hown hK hP 0 rfl rfl 5 (by decide) (hts _ wmX6_isThere_2) (fun _ h9 => h9) rfl dX6_isThere_59 ?_
          refine lv_iconst (v := (4 : Int32)) hx hb dX6_isThere_62 (by decide) ?_
          refine lv_iload_n hx hb dX6_isThere_63 rfl (lv_at hl 0 rfl) ?_
          refine lv_imul hx hb dX6_isThere_64 ?_
          refine lv_iconst (v := (3 : Int32)) hx hb dX6_isThere_65 (by decide) ?_
          refine lv_iadd hx hb dX6_isThere_66 ?_
          obtain ⟨i33, h⟩ := ck_some h
          refine va_lald hx hb hK hP 3 1 rfl rfl i33 dX6_isThere_67 ?_
          refine lv_lstore (lv' := [(4, .long (u18.2.2.2.2.2.1 (((4 : Int32) * v22) + (3 : Int32)).toNatClampNeg)), (3, .int v22), (0, .ref (q 0)), (1, .int p1), (2, .int p2)]) hx hb dX6_isThere_68 hl (by decide) rfl (fun ls hl => ?_)
          refine lv_aload_n hx hb dX6_isThere_70 rfl (lv_at hl 2 rfl) ?_
          refine va_get (D := D) (ci := 6) (v := .ref (q 4)) (C := RX6) (T := TX6) (N := 12) hx hb hts wiX6_isThere_X6 hown hK hP 0 rfl rfl 6 (by decide) (hts _ wmX6_isThere_3) (fun _ h9 => h9) rfl dX6_isThere_71 ?_
          refine lv_iload_n hx hb dX6_isThere_74 rfl (lv_at hl 1 rfl) ?_
          obtain ⟨i34, h⟩ := ck_some h
          refine va_zald hx hb hK hP 4 2 rfl rfl i34 dX6_isThere_75 ?_
          refine lv_if_eq (tgt := 89) hx hb dX6_isThere_76 (by decide) (fun c35 => ?_) (fun c35 => ?_)
          · have h := (if_pos c35).symm.trans h
            refine lv_lload hx hb dX6_isThere_89 (lv_at hl 0 rfl) ?_
            refine lv_lconst (v := (0 : Int64)) hx hb dX6_isThere_91 (by decide) ?_
            refine W.lcmp hx hb dX6_isThere_92 ?_
            refine lv_if_gt (tgt := 98) hx hb dX6_isThere_93 (by decide) (fun c36 => ?_) (fun c36 => ?_)
            · have h := (if_pos c36).symm.trans h
              refine lv_iinc (v := (v22 + (1 : Int32))) (lv' := [(3, .int (v22 + (1 : Int32))), (4, .long (u18.2.2.2.2.2.1 (((4 : Int32) * v22) + (3 : Int32)).toNatClampNeg)), (0, .ref (q 0)), (1, .int p1), (2, .int p2)]) hx hb dX6_isThere_98 hl (k := 1) rfl rfl (by decide) rfl (fun ls hl => ?_)
              refine lv_goto (tgt := 50) hx hb dX6_isThere_101 (by decide) ?_
              exact ih30 _ _ _ _ (Option.some.inj h).symm ⟨hP, hD, hS, lv_sub hl [0, 2, 3, 4] rfl⟩
            · have h := (if_neg c36).symm.trans h
              refine lv_iconst (v := (0 : Int32)) hx hb dX6_isThere_96 (by decide) ?_
              have hu := KR26 _ (hR29 _ (Option.some.inj h).symm)
              subst hu
              exact W.zret (v := (0 : Int32)) hx hb hr (by decide) (fun t ht hW => ⟨⟨(0 : Int32), (), rfl, rfl, by rw [ht]; exact hP, hD⟩, hS.F ht⟩) hS.2.2 dX6_isThere_97
          · have h := (if_neg c35).symm.trans h
            refine lv_lload hx hb dX6_isThere_79 (lv_at hl 0 rfl) ?_
            refine lv_lconst (v := (0 : Int64)) hx hb dX6_isThere_81 (by decide) ?_
            refine W.lcmp hx hb dX6_isThere_82 ?_
            refine lv_if_eq (tgt := 98) hx hb dX6_isThere_83 (by decide) (fun c37 => ?_) (fun c37 => ?_)
            · have h := (if_pos c37).symm.trans h
              refine lv_iinc (v := (v22 + (1 : Int32))) (lv' := [(3, .int (v22 + (1 : Int32))), (4, .long (u18.2.2.2.2.2.1 (((4 : Int32) * v22) + (3 : Int32)).toNatClampNeg)), (0, .ref (q 0)), (1, .int p1), (2, .int p2)]) hx hb dX6_isThere_98 hl (k := 1) rfl rfl (by decide) rfl (fun ls hl => ?_)
              refine lv_goto (tgt := 50) hx hb dX6_isThere_101 (by decide) ?_
              exact ih30 _ _ _ _ (Option.some.inj h).symm ⟨hP, hD, hS, lv_sub hl [0, 2, 3, 4] rfl⟩
            · have h := (if_neg c37).symm.trans h
              refine lv_goto (tgt := 96) hx hb dX6_isThere_86 (by decide) ?_
              refine lv_iconst (v := (0 : Int32)) hx hb dX6_isThere_96 (by decide) ?_
              have hu := KR26 _ (hR29 _ (Option.some.inj h).symm)
              subst hu
              exact W.zret (v := (0 : Int32)) hx hb hr (by decide) (fun t ht hW => ⟨⟨(0 : Int32), (), rfl, rfl, by rw [ht]; exact hP, hD⟩, hS.F ht⟩) hS.2.2 dX6_isThere_97
    · intro K20
      refine W_lp (body := (fun (st : (Int32 × Int32 × Int32 × (Nat → Int32) × (Nat → Int32) × (Nat → Int64) × (Nat → Int64))) => fX6_isThere_L29 wwd st.1 st.2.1 st.2.2.1 st.2.2.2.1 st.2.2.2.2.1 st.2.2.2.2.2.1 st.2.2.2.2.2.2)) (P := fun (st : (Int32 × Int32 × Int32 × (Nat → Int32) × (Nat → Int32) × (Nat → Int64) × (Nat → Int64))) H locs ls => va_P D vwCl (WM_ q cI cJ cZ wwd wmn wod st.2.1 st.2.2.1 wwl wif st.2.2.2.1 st.2.2.2.2.1 st.2.2.2.2.2.1 st.2.2.2.2.2.2 wta) H ∧ va_D A (WM_ q cI cJ cZ wwd wmn wod st.2.1 st.2.2.1 wwl wif st.2.2.2.1 st.2.2.2.2.1 st.2.2.2.2.2.1 st.2.2.2.2.2.2 wta) ∧ va_S A s.heap H locs ∧ lv_has ls 6 [(3, .int st.1), (0, .ref (q 0)), (1, .int p1), (2, .int p2)]) (g := fun _ ls => F0 m 29 ls []) (r := u18) ?_ fu_ ((0 : Int32), u7.2.1, wnm, u7.2.2.1, wne, u7.2.2.2, wnx) _ _ _ e19 ⟨hP, hD, hS, lv_sub hl [0, 1, 2, 3] rfl⟩
      intro st xx40 H locs ls h hq ih39 hR38
      obtain ⟨hP, hD, hS, hl⟩ := hq
      obtain ⟨v11, v12, v13, v14, v15, v16, v17⟩ := st
      have hP : va_P D vwCl (WM_ q cI cJ cZ wwd wmn wod v12 v13 wwl wif v14 v15 v16 v17 wta) H := hP
      have hD : va_D A (WM_ q cI cJ cZ wwd wmn wod v12 v13 wwl wif v14 v15 v16 v17 wta) := hD
      have hl : lv_has ls 6 [(3, .int v11), (0, .ref (q 0)), (1, .int p1), (2, .int p2)] := hl
      have h : fX6_isThere_L29 wwd v11 v12 v13 v14 v15 v16 v17 = some xx40 := h
      unfold fX6_isThere_L29 at h
      refine lv_iload_n hx hb dX6_isThere_29 rfl (lv_at hl 0 rfl) ?_
      refine lv_aload_n hx hb dX6_isThere_30 rfl (lv_at hl 1 rfl) ?_
      refine va_get (D := D) (ci := 6) (v := .int wwd) (C := RX6) (T := TX6) (N := 12) hx hb hts wiX6_isThere_X6 hown hK hP 0 rfl rfl 0 (by decide) (hts _ wmX6_isThere_0) (fun _ h9 => h9) rfl dX6_isThere_31 ?_
      refine lv_icmp_ge (tgt := 48) hx hb dX6_isThere_34 (by decide) (fun c41 => ?_) (fun c41 => ?_)
      · have h := (if_pos c41).symm.trans h
        exact K20 _ _ _ _ ⟨(hR38 _ (Option.some.inj h).symm).symm, hP, hD, hS, lv_sub hl [0, 1, 2, 3] rfl⟩
      · have h := (if_neg c41).symm.trans h
        refine lv_aload_n hx hb dX6_isThere_37 rfl (lv_at hl 1 rfl) ?_
        refine lv_iload_n hx hb dX6_isThere_38 rfl (lv_at hl 0 rfl) ?_
        obtain ⟨u42, e43, h⟩ := bd_some h
        refine k_v (va_runV (As := [.int v11]) (rest := []) ⟨hx, hb, hml, hown, hts⟩ (kX6_takesOut l D q cI cJ cZ tP H.size wwd wmn wod v12 v13 wwl wif v14 v15 v16 v17 wta v11 u42 e43) (cwV 1 hts gX6_isThere_X6_takesOut rfl rfl rfl (by decide +kernel) ⟨Nat.le_of_ble_eq_true rfl, Nat.le_of_ble_eq_true rfl⟩) ⟨cPre_blind, va_recv hK hP (ci := 6) (q0 := 0) rfl rfl, cPre_at hP hK hN hD hS hA hZ⟩ rfl rfl hl.1 rfl (lv_room (Nat.le_of_ble_eq_true rfl)) dX6_isThere_39 ⟨Nat.le_of_ble_eq_true rfl, Nat.le_of_ble_eq_true rfl⟩) hD hS hA (fun H locs hP hD hS => ?_)
        refine lv_iinc (v := (v11 + (1 : Int32))) (lv' := [(3, .int (v11 + (1 : Int32))), (0, .ref (q 0)), (1, .int p1), (2, .int p2)]) hx hb dX6_isThere_42 hl (k := 0) rfl rfl (by decide) rfl (fun ls hl => ?_)
        refine lv_goto (tgt := 29) hx hb dX6_isThere_45 (by decide) ?_
        exact ih39 _ _ _ _ (Option.some.inj h).symm ⟨hP, hD, hS, lv_sub hl [0, 1, 2, 3] rfl⟩
  · intro K9
    refine W_lp (body := (fun (st : (Int32 × Int32 × (Nat → Int32) × (Nat → Int64))) => fX6_isThere_L6 p2 p1 wwl st.1 st.2.1 st.2.2.1 st.2.2.2)) (P := fun (st : (Int32 × Int32 × (Nat → Int32) × (Nat → Int64))) H locs ls => va_P D vwCl (WM_ q cI cJ cZ wwd wmn wod st.2.1 wnm wwl wif st.2.2.1 wne st.2.2.2 wnx wta) H ∧ va_D A (WM_ q cI cJ cZ wwd wmn wod st.2.1 wnm wwl wif st.2.2.1 wne st.2.2.2 wnx wta) ∧ va_S A s.heap H locs ∧ lv_has ls 6 [(3, .int st.1), (0, .ref (q 0)), (1, .int p1), (2, .int p2)]) (g := fun _ ls => F0 m 6 ls []) (r := u7) ?_ fu_ ((0 : Int32), u1, wev, wsu) _ _ _ e8 ⟨hP, hD, hS, lv_sub hl [0, 1, 2, 3] rfl⟩
    intro st xx46 H locs ls h hq ih45 hR44
    obtain ⟨hP, hD, hS, hl⟩ := hq
    obtain ⟨v3, v4, v5, v6⟩ := st
    have hP : va_P D vwCl (WM_ q cI cJ cZ wwd wmn wod v4 wnm wwl wif v5 wne v6 wnx wta) H := hP
    have hD : va_D A (WM_ q cI cJ cZ wwd wmn wod v4 wnm wwl wif v5 wne v6 wnx wta) := hD
    have hl : lv_has ls 6 [(3, .int v3), (0, .ref (q 0)), (1, .int p1), (2, .int p2)] := hl
    have h : fX6_isThere_L6 p2 p1 wwl v3 v4 v5 v6 = some xx46 := h
    unfold fX6_isThere_L6 at h
    refine lv_iload_n hx hb dX6_isThere_6 rfl (lv_at hl 0 rfl) ?_
    refine lv_iload_n hx hb dX6_isThere_7 rfl (lv_at hl 3 rfl) ?_
    refine lv_icmp_ge (tgt := 27) hx hb dX6_isThere_8 (by decide) (fun c47 => ?_) (fun c47 => ?_)
    · have h := (if_pos c47).symm.trans h
      exact K9 _ _ _ _ ⟨(hR44 _ (Option.some.inj h).symm).symm, hP, hD, hS, lv_sub hl [0, 1, 2, 3] rfl⟩
    · have h := (if_neg c47).symm.trans h
      refine lv_aload_n hx hb dX6_isThere_11 rfl (lv_at hl 1 rfl) ?_
      refine lv_iload_n hx hb dX6_isThere_12 rfl (lv_at hl 0 rfl) ?_
      refine lv_iload_n hx hb dX6_isThere_13 rfl (lv_at hl 2 rfl) ?_
      refine lv_iload_n hx hb dX6_isThere_14 rfl (lv_at hl 0 rfl) ?_
      obtain ⟨u48, e49, h⟩ := bd_some h
      refine k_i0 (va_runS (As := [.int p1, .int v3]) (rest := [.int v3, .ref (q 0)]) ⟨hx, hb, hml, hown, hts⟩ (kX6_sign l D cI cJ cZ tP H.size  p1 v3 u48 e49) (va_cwS 2 hts gX6_isThere_X6_sign rfl rfl rfl (by decide +kernel) ⟨Nat.le_of_ble_eq_true rfl, Nat.le_of_ble_eq_true rfl⟩) ⟨cPre_blind, cPre_at0 hK hN hS hA hZ⟩ rfl rfl hl.1 rfl (lv_room (Nat.le_of_ble_eq_true rfl)) dX6_isThere_15 ⟨Nat.le_of_ble_eq_true rfl, Nat.le_of_ble_eq_true rfl⟩) hP hS hA (fun H locs hP hS => ?_)
      obtain ⟨u50, e51, h⟩ := bd_some h
      refine k_v (va_runV (As := [.int v3, .int u48]) (rest := []) ⟨hx, hb, hml, hown, hts⟩ (kX6_adds l D q cI cJ cZ tP H.size wwd wmn wod v4 wnm wwl wif v5 wne v6 wnx wta v3 u48 u50 e51) (cwV 2 hts gX6_isThere_X6_adds rfl rfl rfl (by decide +kernel) ⟨Nat.le_of_ble_eq_true rfl, Nat.le_of_ble_eq_true rfl⟩) ⟨cPre_blind, va_recv hK hP (ci := 6) (q0 := 0) rfl rfl, cPre_at hP hK hN hD hS hA hZ⟩ rfl rfl hl.1 rfl (lv_room (Nat.le_of_ble_eq_true rfl)) dX6_isThere_18 ⟨Nat.le_of_ble_eq_true rfl, Nat.le_of_ble_eq_true rfl⟩) hD hS hA (fun H locs hP hD hS => ?_)
      refine lv_iinc (v := (v3 + (1 : Int32))) (lv' := [(3, .int (v3 + (1 : Int32))), (0, .ref (q 0)), (1, .int p1), (2, .int p2)]) hx hb dX6_isThere_21 hl (k := 0) rfl rfl (by decide) rfl (fun ls hl => ?_)
      refine lv_goto (tgt := 6) hx hb dX6_isThere_24 (by decide) ?_
      exact ih45 _ _ _ _ (Option.some.inj h).symm ⟨hP, hD, hS, lv_sub hl [0, 1, 2, 3] rfl⟩

-- X6_works
theorem wmX6_works_0 : (.fieldLink RX6 17 "SpaceWallsModel" "isOld" "Z" : Cond) ∈ wsX6_works := by decide +kernel
theorem wmX6_works_1 : (.fieldLink RX6 13 "SpaceWallsModel" "isFace" "[Z" : Cond) ∈ wsX6_works := by decide +kernel
theorem wmX6_works_2 : (.fieldLink RX6 49 "SpaceWallsModel" "many" "I" : Cond) ∈ wsX6_works := by decide +kernel
theorem wiX6_works_X6 : ∀ w ∈ u_ws RX6 TX6 12, w ∈ wsX6_works := by decide +kernel
set_option maxHeartbeats 8000000 in
set_option maxRecDepth 100000 in
theorem kX6_works (l : Launch) (D : va_G) (q : Nat → Nat) (cI cJ cZ : ClassId) (tP sz : Nat) (wwd : Int32) (wmn : Int32) (wod : Int32) (wsm : Int32) (wnm : Int32) (wwl : (Nat → Int32)) (wif : (Nat → Int32)) (wev : (Nat → Int32)) (wne : (Nat → Int32)) (wsu : (Nat → Int64)) (wnx : (Nat → Int64)) (wta : (Nat → Int64))  (uu : (Int32 × Int32 × Int32 × (Nat → Int32) × (Nat → Int32) × (Nat → Int32) × (Nat → Int64) × (Nat → Int64))) (h : fX6_works wwd wmn wod wsm wnm wwl wif wev wne wsu wnx = some uu) : Met l yX6_works wsX6_works ({ frames := 3, cells := 0, slots := 0, locals := 80 }) (cPre D cI cJ cZ tP (WM_ q cI cJ cZ wwd wmn wod wsm wnm wwl wif wev wne wsu wnx wta) sz [.ref (q 0)]) (cQv D (va_A (WM_ q cI cJ cZ wwd wmn wod wsm wnm wwl wif wev wne wsu wnx wta) sz) (WM_ q cI cJ cZ wwd wmn uu.1 uu.2.1 uu.2.2.1 wwl uu.2.2.2.1 uu.2.2.2.2.1 uu.2.2.2.2.2.1 uu.2.2.2.2.2.2.1 uu.2.2.2.2.2.2.2 wta)) 0 0 (va_A (WM_ q cI cJ cZ wwd wmn wod wsm wnm wwl wif wev wne wsu wnx wta) sz) := by
  refine Met.ofW (cc := cX6_works) (maxL := 5) (ret := none) (by decide) rfl ?_
  intro p e s m args below meth c s₁ B hml hv
  obtain ⟨rfl, hsz, hP, hK, hN, hD0, hZ⟩ := hv
  have hx := B.exec
  have hb := B.bytes
  have hr := B.returns
  have hts := atoms_spec (ws := wsX6_works) B.pre
  have hown : s.vm.findClass RX6 = some m.cls := findClass_of_methodNamed B.named
  have hlocks := B.notSynchronized
  subst hsz
  have hD := hD0.self (sz := s.heap.size)
  generalize hAe : va_A (WM_ q cI cJ cZ wwd wmn wod wsm wnm wwl wif wev wne wsu wnx wta) s.heap.size = A at hD hZ ⊢
  have hA : ∀ q : Nat, s.heap.size ≤ q → A q := fun q h => by rw [← hAe]; exact Or.inr h
  have hS : va_S A s.heap s.heap [] := va_S.rf
  have hl := lv_entry ([.ref (q 0)]) (n := 5) (Nat.le_of_ble_eq_true rfl)
  rw [lg_entry_eq]
  generalize (lg_sl ([.ref (q 0)]) ++ List.replicate (5 - (lg_sl ([.ref (q 0)])).length) Slot.unset).toArray = ls at hl ⊢
  have hl : lv_has ls 5 [(0, .ref (q 0))] := hl
  unfold fX6_works at h
  refine lv_aload_n hx hb dX6_works_0 rfl (lv_at hl 0 rfl) ?_
  refine va_get (D := D) (ci := 6) (v := .int wod) (C := RX6) (T := TX6) (N := 12) hx hb hts wiX6_works_X6 hown hK hP 0 rfl rfl 4 (by decide) (hts _ wmX6_works_0) (fun _ h9 => h9) rfl dX6_works_1 ?_
  refine lv_if_ne (tgt := 8) hx hb dX6_works_4 (by decide) (fun c1 => ?_) (fun c1 => ?_)
  · have h := (if_neg c1).symm.trans h
    refine lv_aload_n hx hb dX6_works_8 rfl (lv_at hl 0 rfl) ?_
    refine lv_iconst (v := (0 : Int32)) hx hb dX6_works_9 (by decide) ?_
    refine va_put (D := D) (ci := 6) (v := .int (0 : Int32)) (ty := .boolean) (C := RX6) (T := TX6) (N := 12) hx hb hts wiX6_works_X6 tyX6 tyX6_ok nmX6 hown hK hP hD hS 0 rfl rfl 4 (by decide) (hts _ wmX6_works_0) (fun _ h9 => h9) rfl (by decide +kernel) rfl rfl (Nat.le_of_ble_eq_true rfl) dX6_works_10 (fun H locs hP hD hS => ?_)
    have hP : va_P D vwCl (WM_ q cI cJ cZ wwd wmn (0 : Int32) wsm wnm wwl wif wev wne wsu wnx wta) H := hP
    have hD : va_D A (WM_ q cI cJ cZ wwd wmn (0 : Int32) wsm wnm wwl wif wev wne wsu wnx wta) := hD
    refine lv_iconst (v := (0 : Int32)) hx hb dX6_works_13 (by decide) ?_
    refine lv_istore_n (lv' := [(1, .int (0 : Int32)), (0, .ref (q 0))]) hx hb dX6_works_14 rfl hl (by decide) rfl (fun ls hl => ?_)
    obtain ⟨u4, e5, h⟩ := bd_some h
    refine W_leave (P := fun (y : (Int32 × (Nat → Int32))) H locs ls => u4 = y ∧ va_P D vwCl (WM_ q cI cJ cZ wwd wmn (0 : Int32) wsm wnm wwl y.2 wev wne wsu wnx wta) H ∧ va_D A (WM_ q cI cJ cZ wwd wmn (0 : Int32) wsm wnm wwl y.2 wev wne wsu wnx wta) ∧ va_S A s.heap H locs ∧ lv_has ls 5 [(1, .int y.1), (0, .ref (q 0))]) (g := fun ls => F0 m 43 ls []) ?_ ?_
    · intro y H locs ls hq
      obtain ⟨hy, hP, hD, hS, hl⟩ := hq
      subst hy
      have hl : lv_has ls 5 [(1, .int u4.1), (0, .ref (q 0))] := hl
      refine lv_iconst (v := (0 : Int32)) hx hb dX6_works_43 (by decide) ?_
      refine lv_istore_n (lv' := [(1, .int (0 : Int32)), (0, .ref (q 0))]) hx hb dX6_works_44 rfl hl (by decide) rfl (fun ls hl => ?_)
      obtain ⟨u16, e17, h⟩ := bd_some h
      refine W_leave (P := fun (y : (Int32 × Int32 × Int32 × (Nat → Int32) × (Nat → Int32) × (Nat → Int32) × (Nat → Int64) × (Nat → Int64))) H locs ls => u16 = y ∧ va_P D vwCl (WM_ q cI cJ cZ wwd wmn (0 : Int32) y.2.1 y.2.2.1 wwl y.2.2.2.1 y.2.2.2.2.1 y.2.2.2.2.2.1 y.2.2.2.2.2.2.1 y.2.2.2.2.2.2.2 wta) H ∧ va_D A (WM_ q cI cJ cZ wwd wmn (0 : Int32) y.2.1 y.2.2.1 wwl y.2.2.2.1 y.2.2.2.2.1 y.2.2.2.2.2.1 y.2.2.2.2.2.2.1 y.2.2.2.2.2.2.2 wta) ∧ va_S A s.heap H locs ∧ lv_has ls 5 [(1, .int y.1), (0, .ref (q 0))]) (g := fun ls => F0 m 139 ls []) ?_ ?_
      · intro y H locs ls hq
        obtain ⟨hy, hP, hD, hS, hl⟩ := hq
        subst hy
        have hl : lv_has ls 5 [(1, .int u16.1), (0, .ref (q 0))] := hl
        obtain rfl := Option.some.inj h
        exact W.vret hx hb hr (fun t ht hW => ⟨⟨(), rfl, trivial, by rw [ht]; exact hP, hD⟩, hS.F ht⟩) hS.2.2 dX6_works_139
      · intro K18
        refine W_lp (body := (fun (st : (Int32 × Int32 × Int32 × (Nat → Int32) × (Nat → Int32) × (Nat → Int32) × (Nat → Int64) × (Nat → Int64))) => fX6_works_L45 wmn wwd wwl st.1 st.2.1 st.2.2.1 st.2.2.2.1 st.2.2.2.2.1 st.2.2.2.2.2.1 st.2.2.2.2.2.2.1 st.2.2.2.2.2.2.2)) (P := fun (st : (Int32 × Int32 × Int32 × (Nat → Int32) × (Nat → Int32) × (Nat → Int32) × (Nat → Int64) × (Nat → Int64))) H locs ls => va_P D vwCl (WM_ q cI cJ cZ wwd wmn (0 : Int32) st.2.1 st.2.2.1 wwl st.2.2.2.1 st.2.2.2.2.1 st.2.2.2.2.2.1 st.2.2.2.2.2.2.1 st.2.2.2.2.2.2.2 wta) H ∧ va_D A (WM_ q cI cJ cZ wwd wmn (0 : Int32) st.2.1 st.2.2.1 wwl st.2.2.2.1 st.2.2.2.2.1 st.2.2.2.2.2.1 st.2.2.2.2.2.2.1 st.2.2.2.2.2.2.2 wta) ∧ va_S A s.heap H locs ∧ lv_has ls 5 [(1, .int st.1), (0, .ref (q 0))]) (g := fun _ ls => F0 m 45 ls []) (r := u16) ?_ fu_ ((0 : Int32), wsm, wnm, u4.2, wev, wne, wsu, wnx) _ _ _ e17 ⟨hP, hD, hS, lv_sub hl [0, 1] rfl⟩
        intro st xx22 H locs ls h hq ih21 hR20
        obtain ⟨hP, hD, hS, hl⟩ := hq
        obtain ⟨v8, v9, v10, v11, v12, v13, v14, v15⟩ := st
        have hP : va_P D vwCl (WM_ q cI cJ cZ wwd wmn (0 : Int32) v9 v10 wwl v11 v12 v13 v14 v15 wta) H := hP
        have hD : va_D A (WM_ q cI cJ cZ wwd wmn (0 : Int32) v9 v10 wwl v11 v12 v13 v14 v15 wta) := hD
        have hl : lv_has ls 5 [(1, .int v8), (0, .ref (q 0))] := hl
        have h : fX6_works_L45 wmn wwd wwl v8 v9 v10 v11 v12 v13 v14 v15 = some xx22 := h
        unfold fX6_works_L45 at h
        refine lv_iload_n hx hb dX6_works_45 rfl (lv_at hl 0 rfl) ?_
        refine lv_aload_n hx hb dX6_works_46 rfl (lv_at hl 1 rfl) ?_
        refine va_get (D := D) (ci := 6) (v := .int wmn) (C := RX6) (T := TX6) (N := 12) hx hb hts wiX6_works_X6 hown hK hP 0 rfl rfl 1 (by decide) (hts _ wmX6_works_2) (fun _ h9 => h9) rfl dX6_works_47 ?_
        refine lv_icmp_ge (tgt := 139) hx hb dX6_works_50 (by decide) (fun c23 => ?_) (fun c23 => ?_)
        · have h := (if_pos c23).symm.trans h
          exact K18 _ _ _ _ ⟨(hR20 _ (Option.some.inj h).symm).symm, hP, hD, hS, lv_sub hl [0, 1] rfl⟩
        · have h := (if_neg c23).symm.trans h
          refine lv_iconst (v := (0 : Int32)) hx hb dX6_works_53 (by decide) ?_
          refine lv_istore_n (lv' := [(2, .int (0 : Int32)), (1, .int v8), (0, .ref (q 0))]) hx hb dX6_works_54 rfl hl (by decide) rfl (fun ls hl => ?_)
          obtain ⟨u32, e33, h⟩ := bd_some h
          refine W_leave (P := fun (y : (Int32 × Int32 × Int32 × (Nat → Int32) × (Nat → Int32) × (Nat → Int32) × (Nat → Int64) × (Nat → Int64))) H locs ls => u32 = y ∧ va_P D vwCl (WM_ q cI cJ cZ wwd wmn (0 : Int32) y.2.1 y.2.2.1 wwl y.2.2.2.1 y.2.2.2.2.1 y.2.2.2.2.2.1 y.2.2.2.2.2.2.1 y.2.2.2.2.2.2.2 wta) H ∧ va_D A (WM_ q cI cJ cZ wwd wmn (0 : Int32) y.2.1 y.2.2.1 wwl y.2.2.2.1 y.2.2.2.2.1 y.2.2.2.2.2.1 y.2.2.2.2.2.2.1 y.2.2.2.2.2.2.2 wta) ∧ va_S A s.heap H locs ∧ lv_has ls 5 [(2, .int y.1), (1, .int v8), (0, .ref (q 0))]) (g := fun ls => F0 m 133 ls []) ?_ ?_
          · intro y H locs ls hq
            obtain ⟨hy, hP, hD, hS, hl⟩ := hq
            subst hy
            have hl : lv_has ls 5 [(2, .int u32.1), (1, .int v8), (0, .ref (q 0))] := hl
            refine lv_iinc (v := (v8 + (1 : Int32))) (lv' := [(1, .int (v8 + (1 : Int32))), (2, .int u32.1), (0, .ref (q 0))]) hx hb dX6_works_133 hl (k := 1) rfl rfl (by decide) rfl (fun ls hl => ?_)
            refine lv_goto (tgt := 45) hx hb dX6_works_136 (by decide) ?_
            exact ih21 _ _ _ _ (Option.some.inj h).symm ⟨hP, hD, hS, lv_sub hl [0, 2] rfl⟩
          · intro K34
            refine W_lp (body := (fun (st : (Int32 × Int32 × Int32 × (Nat → Int32) × (Nat → Int32) × (Nat → Int32) × (Nat → Int64) × (Nat → Int64))) => fX6_works_L55 v8 wwd wwl st.1 st.2.1 st.2.2.1 st.2.2.2.1 st.2.2.2.2.1 st.2.2.2.2.2.1 st.2.2.2.2.2.2.1 st.2.2.2.2.2.2.2)) (P := fun (st : (Int32 × Int32 × Int32 × (Nat → Int32) × (Nat → Int32) × (Nat → Int32) × (Nat → Int64) × (Nat → Int64))) H locs ls => va_P D vwCl (WM_ q cI cJ cZ wwd wmn (0 : Int32) st.2.1 st.2.2.1 wwl st.2.2.2.1 st.2.2.2.2.1 st.2.2.2.2.2.1 st.2.2.2.2.2.2.1 st.2.2.2.2.2.2.2 wta) H ∧ va_D A (WM_ q cI cJ cZ wwd wmn (0 : Int32) st.2.1 st.2.2.1 wwl st.2.2.2.1 st.2.2.2.2.1 st.2.2.2.2.2.1 st.2.2.2.2.2.2.1 st.2.2.2.2.2.2.2 wta) ∧ va_S A s.heap H locs ∧ lv_has ls 5 [(2, .int st.1), (1, .int v8), (0, .ref (q 0))]) (g := fun _ ls => F0 m 55 ls []) (r := u32) ?_ fu_ ((0 : Int32), v9, v10, v11, v12, v13, v14, v15) _ _ _ e33 ⟨hP, hD, hS, lv_sub hl [0, 1, 2] rfl⟩
            intro st xx38 H locs ls h hq ih37 hR36
            obtain ⟨hP, hD, hS, hl⟩ := hq
            obtain ⟨v24, v25, v26, v27, v28, v29, v30, v31⟩ := st
            have hP : va_P D vwCl (WM_ q cI cJ cZ wwd wmn (0 : Int32) v25 v26 wwl v27 v28 v29 v30 v31 wta) H := hP
            have hD : va_D A (WM_ q cI cJ cZ wwd wmn (0 : Int32) v25 v26 wwl v27 v28 v29 v30 v31 wta) := hD
            have hl : lv_has ls 5 [(2, .int v24), (1, .int v8), (0, .ref (q 0))] := hl
            have h : fX6_works_L55 v8 wwd wwl v24 v25 v26 v27 v28 v29 v30 v31 = some xx38 := h
            unfold fX6_works_L55 at h
            refine lv_iload_n hx hb dX6_works_55 rfl (lv_at hl 0 rfl) ?_
            refine lv_iload_n hx hb dX6_works_56 rfl (lv_at hl 1 rfl) ?_
            obtain ⟨u39, e40, h⟩ := bd_some h
            refine k_i0 (va_runS (As := [.int v8]) (rest := [.int v24]) ⟨hx, hb, hml, hown, hts⟩ (kX6_power l D cI cJ cZ tP H.size  v8 u39 e40) (va_cwS 1 hts gX6_works_X6_power rfl rfl rfl (by decide +kernel) ⟨Nat.le_of_ble_eq_true rfl, Nat.le_of_ble_eq_true rfl⟩) ⟨cPre_blind, cPre_at0 hK hN hS hA hZ⟩ rfl rfl hl.1 rfl (lv_room (Nat.le_of_ble_eq_true rfl)) dX6_works_57 ⟨Nat.le_of_ble_eq_true rfl, Nat.le_of_ble_eq_true rfl⟩) hP hS hA (fun H locs hP hS => ?_)
            refine lv_icmp_ge (tgt := 133) hx hb dX6_works_60 (by decide) (fun c41 => ?_) (fun c41 => ?_)
            · have h := (if_pos c41).symm.trans h
              exact K34 _ _ _ _ ⟨(hR36 _ (Option.some.inj h).symm).symm, hP, hD, hS, lv_sub hl [0, 1, 2] rfl⟩
            · have h := (if_neg c41).symm.trans h
              refine lv_aload_n hx hb dX6_works_63 rfl (lv_at hl 2 rfl) ?_
              refine va_get (D := D) (ci := 6) (v := .ref (q 2)) (C := RX6) (T := TX6) (N := 12) hx hb hts wiX6_works_X6 hown hK hP 0 rfl rfl 3 (by decide) (hts _ wmX6_works_1) (fun _ h9 => h9) rfl dX6_works_64 ?_
              refine lv_iload_n hx hb dX6_works_67 rfl (lv_at hl 0 rfl) ?_
              obtain ⟨i42, h⟩ := ck_some h
              refine va_zald hx hb hK hP 2 2 rfl rfl i42 dX6_works_68 ?_
              refine lv_istore_n (lv' := [(3, .int (v27 v24.toNatClampNeg)), (2, .int v24), (1, .int v8), (0, .ref (q 0))]) hx hb dX6_works_69 rfl hl (by decide) rfl (fun ls hl => ?_)
              refine lv_iconst (v := (0 : Int32)) hx hb dX6_works_70 (by decide) ?_
              refine lv_istore (lv' := [(4, .int (0 : Int32)), (3, .int (v27 v24.toNatClampNeg)), (2, .int v24), (1, .int v8), (0, .ref (q 0))]) hx hb dX6_works_71 hl (by decide) rfl (fun ls hl => ?_)
              obtain ⟨u51, e52, h⟩ := bd_some h
              refine W_leave (P := fun (y : (Int32 × Int32 × Int32 × (Nat → Int32) × (Nat → Int32) × (Nat → Int32) × (Nat → Int64) × (Nat → Int64))) H locs ls => u51 = y ∧ va_P D vwCl (WM_ q cI cJ cZ wwd wmn (0 : Int32) y.2.1 y.2.2.1 wwl y.2.2.2.1 y.2.2.2.2.1 y.2.2.2.2.2.1 y.2.2.2.2.2.2.1 y.2.2.2.2.2.2.2 wta) H ∧ va_D A (WM_ q cI cJ cZ wwd wmn (0 : Int32) y.2.1 y.2.2.1 wwl y.2.2.2.1 y.2.2.2.2.1 y.2.2.2.2.2.1 y.2.2.2.2.2.2.1 y.2.2.2.2.2.2.2 wta) ∧ va_S A s.heap H locs ∧ lv_has ls 5 [(4, .int y.1), (3, .int (v27 v24.toNatClampNeg)), (2, .int v24), (1, .int v8), (0, .ref (q 0))]) (g := fun ls => F0 m 127 ls []) ?_ ?_
              · intro y H locs ls hq
                obtain ⟨hy, hP, hD, hS, hl⟩ := hq
                subst hy
                have hl : lv_has ls 5 [(4, .int u51.1), (3, .int (v27 v24.toNatClampNeg)), (2, .int v24), (1, .int v8), (0, .ref (q 0))] := hl
                refine lv_iinc (v := (v24 + (1 : Int32))) (lv' := [(2, .int (v24 + (1 : Int32))), (4, .int u51.1), (3, .int (v27 v24.toNatClampNeg)), (1, .int v8), (0, .ref (q 0))]) hx hb dX6_works_127 hl (k := 2) rfl rfl (by decide) rfl (fun ls hl => ?_)
                refine lv_goto (tgt := 55) hx hb dX6_works_130 (by decide) ?_
                exact ih37 _ _ _ _ (Option.some.inj h).symm ⟨hP, hD, hS, lv_sub hl [0, 3, 4] rfl⟩
              · intro K53
                refine W_lp (body := (fun (st : (Int32 × Int32 × Int32 × (Nat → Int32) × (Nat → Int32) × (Nat → Int32) × (Nat → Int64) × (Nat → Int64))) => fX6_works_L73 v8 v27 v24 wwd wwl st.1 st.2.1 st.2.2.1 st.2.2.2.1 st.2.2.2.2.1 st.2.2.2.2.2.1 st.2.2.2.2.2.2.1 st.2.2.2.2.2.2.2)) (P := fun (st : (Int32 × Int32 × Int32 × (Nat → Int32) × (Nat → Int32) × (Nat → Int32) × (Nat → Int64) × (Nat → Int64))) H locs ls => va_P D vwCl (WM_ q cI cJ cZ wwd wmn (0 : Int32) st.2.1 st.2.2.1 wwl st.2.2.2.1 st.2.2.2.2.1 st.2.2.2.2.2.1 st.2.2.2.2.2.2.1 st.2.2.2.2.2.2.2 wta) H ∧ va_D A (WM_ q cI cJ cZ wwd wmn (0 : Int32) st.2.1 st.2.2.1 wwl st.2.2.2.1 st.2.2.2.2.1 st.2.2.2.2.2.1 st.2.2.2.2.2.2.1 st.2.2.2.2.2.2.2 wta) ∧ va_S A s.heap H locs ∧ lv_has ls 5 [(4, .int st.1), (3, .int (v27 v24.toNatClampNeg)), (2, .int v24), (1, .int v8), (0, .ref (q 0))]) (g := fun _ ls => F0 m 73 ls []) (r := u51) ?_ fu_ ((0 : Int32), v25, v26, v27, v28, v29, v30, v31) _ _ _ e52 ⟨hP, hD, hS, lv_sub hl [0, 1, 2, 3, 4] rfl⟩
                intro st xx57 H locs ls h hq ih56 hR55
                obtain ⟨hP, hD, hS, hl⟩ := hq
                obtain ⟨v43, v44, v45, v46, v47, v48, v49, v50⟩ := st
                have hP : va_P D vwCl (WM_ q cI cJ cZ wwd wmn (0 : Int32) v44 v45 wwl v46 v47 v48 v49 v50 wta) H := hP
                have hD : va_D A (WM_ q cI cJ cZ wwd wmn (0 : Int32) v44 v45 wwl v46 v47 v48 v49 v50 wta) := hD
                have hl : lv_has ls 5 [(4, .int v43), (3, .int (v27 v24.toNatClampNeg)), (2, .int v24), (1, .int v8), (0, .ref (q 0))] := hl
                have h : fX6_works_L73 v8 v27 v24 wwd wwl v43 v44 v45 v46 v47 v48 v49 v50 = some xx57 := h
                unfold fX6_works_L73 at h
                refine lv_iload hx hb dX6_works_73 (lv_at hl 0 rfl) ?_
                refine lv_iconst (v := (3 : Int32)) hx hb dX6_works_75 (by decide) ?_
                refine lv_icmp_ge (tgt := 127) hx hb dX6_works_76 (by decide) (fun c58 => ?_) (fun c58 => ?_)
                · have h := (if_pos c58).symm.trans h
                  exact K53 _ _ _ _ ⟨(hR55 _ (Option.some.inj h).symm).symm, hP, hD, hS, lv_sub hl [0, 1, 2, 3, 4] rfl⟩
                · have h := (if_neg c58).symm.trans h
                  refine lv_aload_n hx hb dX6_works_79 rfl (lv_at hl 4 rfl) ?_
                  refine va_get (D := D) (ci := 6) (v := .ref (q 2)) (C := RX6) (T := TX6) (N := 12) hx hb hts wiX6_works_X6 hown hK hP 0 rfl rfl 3 (by decide) (hts _ wmX6_works_1) (fun _ h9 => h9) rfl dX6_works_80 ?_
                  refine lv_iload_n hx hb dX6_works_83 rfl (lv_at hl 2 rfl) ?_
                  refine lv_iload hx hb dX6_works_84 (lv_at hl 0 rfl) ?_
                  refine lv_iload_n hx hb dX6_works_86 rfl (lv_at hl 3 rfl) ?_
                  obtain ⟨u59, e60, h⟩ := bd_some h
                  refine k_i0 (va_runS (As := [.int v8]) (rest := [.int v43, .int v24, .ref (q 2)]) ⟨hx, hb, hml, hown, hts⟩ (kX6_power l D cI cJ cZ tP H.size  v8 u59 e60) (va_cwS 1 hts gX6_works_X6_power rfl rfl rfl (by decide +kernel) ⟨Nat.le_of_ble_eq_true rfl, Nat.le_of_ble_eq_true rfl⟩) ⟨cPre_blind, cPre_at0 hK hN hS hA hZ⟩ rfl rfl hl.1 rfl (lv_room (Nat.le_of_ble_eq_true rfl)) dX6_works_87 ⟨Nat.le_of_ble_eq_true rfl, Nat.le_of_ble_eq_true rfl⟩) hP hS hA (fun H locs hP hS => ?_)
                  refine lv_imul hx hb dX6_works_90 ?_
                  refine lv_iadd hx hb dX6_works_91 ?_
                  refine lv_iload_n hx hb dX6_works_92 rfl (lv_at hl 1 rfl) ?_
                  refine lv_if_eq (tgt := 119) hx hb dX6_works_93 (by decide) (fun c61 => ?_) (fun c61 => ?_)
                  · have h := (if_pos c61).symm.trans h
                    refine lv_iconst (v := (0 : Int32)) hx hb dX6_works_119 (by decide) ?_
                    obtain ⟨i62, h⟩ := ck_some h
                    refine va_zast hx hb hK hP hD hS 2 2 rfl rfl i62 dX6_works_120 (fun H locs hP hD hS => ?_)
                    have hP : va_P D vwCl (WM_ q cI cJ cZ wwd wmn (0 : Int32) v44 v45 wwl (upd v46 (v24 + (v43 * u59)).toNatClampNeg (vp_nar .boolean (0 : Int32))) v47 v48 v49 v50 wta) H := hP
                    have hD : va_D A (WM_ q cI cJ cZ wwd wmn (0 : Int32) v44 v45 wwl (upd v46 (v24 + (v43 * u59)).toNatClampNeg (vp_nar .boolean (0 : Int32))) v47 v48 v49 v50 wta) := hD
                    refine lv_iinc (v := (v43 + (1 : Int32))) (lv' := [(4, .int (v43 + (1 : Int32))), (3, .int (v27 v24.toNatClampNeg)), (2, .int v24), (1, .int v8), (0, .ref (q 0))]) hx hb dX6_works_121 hl (k := 0) rfl rfl (by decide) rfl (fun ls hl => ?_)
                    refine lv_goto (tgt := 73) hx hb dX6_works_124 (by decide) ?_
                    exact ih56 _ _ _ _ (Option.some.inj h).symm ⟨hP, hD, hS, lv_sub hl [0, 1, 2, 3, 4] rfl⟩
                  · have h := (if_neg c61).symm.trans h
                    refine lv_aload_n hx hb dX6_works_96 rfl (lv_at hl 4 rfl) ?_
                    refine lv_iload_n hx hb dX6_works_97 rfl (lv_at hl 2 rfl) ?_
                    refine lv_iload hx hb dX6_works_98 (lv_at hl 0 rfl) ?_
                    refine lv_iload_n hx hb dX6_works_100 rfl (lv_at hl 3 rfl) ?_
                    obtain ⟨u63, e64, h⟩ := bd_some h
                    refine k_i0 (va_runS (As := [.int v8]) (rest := [.int v43, .int v24, .ref (q 0), .int (v24 + (v43 * u59)), .ref (q 2)]) ⟨hx, hb, hml, hown, hts⟩ (kX6_power l D cI cJ cZ tP H.size  v8 u63 e64) (va_cwS 1 hts gX6_works_X6_power rfl rfl rfl (by decide +kernel) ⟨Nat.le_of_ble_eq_true rfl, Nat.le_of_ble_eq_true rfl⟩) ⟨cPre_blind, cPre_at0 hK hN hS hA hZ⟩ rfl rfl hl.1 rfl (lv_room (Nat.le_of_ble_eq_true rfl)) dX6_works_101 ⟨Nat.le_of_ble_eq_true rfl, Nat.le_of_ble_eq_true rfl⟩) hP hS hA (fun H locs hP hS => ?_)
                    refine lv_imul hx hb dX6_works_104 ?_
                    refine lv_iadd hx hb dX6_works_105 ?_
                    refine lv_iload_n hx hb dX6_works_106 rfl (lv_at hl 3 rfl) ?_
                    refine lv_iconst (v := (1 : Int32)) hx hb dX6_works_107 (by decide) ?_
                    refine lv_iadd hx hb dX6_works_108 ?_
                    obtain ⟨u65, e66, h⟩ := bd_some h
                    refine k_i (va_runV (As := [.int (v24 + (v43 * u63)), .int (v8 + (1 : Int32))]) (rest := [.int (v24 + (v43 * u59)), .ref (q 2)]) ⟨hx, hb, hml, hown, hts⟩ (kX6_isThere l D q cI cJ cZ tP H.size wwd wmn (0 : Int32) v44 v45 wwl v46 v47 v48 v49 v50 wta (v24 + (v43 * u63)) (v8 + (1 : Int32)) u65 e66) (cwV 2 hts gX6_works_X6_isThere rfl rfl rfl (by decide +kernel) ⟨Nat.le_of_ble_eq_true rfl, Nat.le_of_ble_eq_true rfl⟩) ⟨cPre_blind, va_recv hK hP (ci := 6) (q0 := 0) rfl rfl, cPre_at hP hK hN hD hS hA hZ⟩ rfl rfl hl.1 rfl (lv_room (Nat.le_of_ble_eq_true rfl)) dX6_works_109 ⟨Nat.le_of_ble_eq_true rfl, Nat.le_of_ble_eq_true rfl⟩) hD hS hA (fun H locs hP hD hS => ?_)
                    refine lv_if_eq (tgt := 119) hx hb dX6_works_112 (by decide) (fun c67 => ?_) (fun c67 => ?_)
                    · have h := (if_pos c67).symm.trans h
                      refine lv_iconst (v := (0 : Int32)) hx hb dX6_works_119 (by decide) ?_
                      obtain ⟨i68, h⟩ := ck_some h
                      refine va_zast hx hb hK hP hD hS 2 2 rfl rfl i68 dX6_works_120 (fun H locs hP hD hS => ?_)
                      have hP : va_P D vwCl (WM_ q cI cJ cZ wwd wmn (0 : Int32) u65.2.1 u65.2.2.1 wwl (upd v46 (v24 + (v43 * u59)).toNatClampNeg (vp_nar .boolean (0 : Int32))) u65.2.2.2.1 u65.2.2.2.2.1 u65.2.2.2.2.2.1 u65.2.2.2.2.2.2 wta) H := hP
                      have hD : va_D A (WM_ q cI cJ cZ wwd wmn (0 : Int32) u65.2.1 u65.2.2.1 wwl (upd v46 (v24 + (v43 * u59)).toNatClampNeg (vp_nar .boolean (0 : Int32))) u65.2.2.2.1 u65.2.2.2.2.1 u65.2.2.2.2.2.1 u65.2.2.2.2.2.2 wta) := hD
                      refine lv_iinc (v := (v43 + (1 : Int32))) (lv' := [(4, .int (v43 + (1 : Int32))), (3, .int (v27 v24.toNatClampNeg)), (2, .int v24), (1, .int v8), (0, .ref (q 0))]) hx hb dX6_works_121 hl (k := 0) rfl rfl (by decide) rfl (fun ls hl => ?_)
                      refine lv_goto (tgt := 73) hx hb dX6_works_124 (by decide) ?_
                      exact ih56 _ _ _ _ (Option.some.inj h).symm ⟨hP, hD, hS, lv_sub hl [0, 1, 2, 3, 4] rfl⟩
                    · have h := (if_neg c67).symm.trans h
                      refine lv_iconst (v := (1 : Int32)) hx hb dX6_works_115 (by decide) ?_
                      refine lv_goto (tgt := 120) hx hb dX6_works_116 (by decide) ?_
                      obtain ⟨i69, h⟩ := ck_some h
                      refine va_zast hx hb hK hP hD hS 2 2 rfl rfl i69 dX6_works_120 (fun H locs hP hD hS => ?_)
                      have hP : va_P D vwCl (WM_ q cI cJ cZ wwd wmn (0 : Int32) u65.2.1 u65.2.2.1 wwl (upd v46 (v24 + (v43 * u59)).toNatClampNeg (vp_nar .boolean (1 : Int32))) u65.2.2.2.1 u65.2.2.2.2.1 u65.2.2.2.2.2.1 u65.2.2.2.2.2.2 wta) H := hP
                      have hD : va_D A (WM_ q cI cJ cZ wwd wmn (0 : Int32) u65.2.1 u65.2.2.1 wwl (upd v46 (v24 + (v43 * u59)).toNatClampNeg (vp_nar .boolean (1 : Int32))) u65.2.2.2.1 u65.2.2.2.2.1 u65.2.2.2.2.2.1 u65.2.2.2.2.2.2 wta) := hD
                      refine lv_iinc (v := (v43 + (1 : Int32))) (lv' := [(4, .int (v43 + (1 : Int32))), (3, .int (v27 v24.toNatClampNeg)), (2, .int v24), (1, .int v8), (0, .ref (q 0))]) hx hb dX6_works_121 hl (k := 0) rfl rfl (by decide) rfl (fun ls hl => ?_)
                      refine lv_goto (tgt := 73) hx hb dX6_works_124 (by decide) ?_
                      exact ih56 _ _ _ _ (Option.some.inj h).symm ⟨hP, hD, hS, lv_sub hl [0, 1, 2, 3, 4] rfl⟩
    · intro K6
      refine W_lp (body := (fun (st : (Int32 × (Nat → Int32))) => fX6_works_L15  st.1 st.2)) (P := fun (st : (Int32 × (Nat → Int32))) H locs ls => va_P D vwCl (WM_ q cI cJ cZ wwd wmn (0 : Int32) wsm wnm wwl st.2 wev wne wsu wnx wta) H ∧ va_D A (WM_ q cI cJ cZ wwd wmn (0 : Int32) wsm wnm wwl st.2 wev wne wsu wnx wta) ∧ va_S A s.heap H locs ∧ lv_has ls 5 [(1, .int st.1), (0, .ref (q 0))]) (g := fun _ ls => F0 m 15 ls []) (r := u4) ?_ fu_ ((0 : Int32), wif) _ _ _ e5 ⟨hP, hD, hS, lv_sub hl [0, 1] rfl⟩
      intro st xx72 H locs ls h hq ih71 hR70
      obtain ⟨hP, hD, hS, hl⟩ := hq
      obtain ⟨v2, v3⟩ := st
      have hP : va_P D vwCl (WM_ q cI cJ cZ wwd wmn (0 : Int32) wsm wnm wwl v3 wev wne wsu wnx wta) H := hP
      have hD : va_D A (WM_ q cI cJ cZ wwd wmn (0 : Int32) wsm wnm wwl v3 wev wne wsu wnx wta) := hD
      have hl : lv_has ls 5 [(1, .int v2), (0, .ref (q 0))] := hl
      have h : fX6_works_L15  v2 v3 = some xx72 := h
      unfold fX6_works_L15 at h
      refine lv_iload_n hx hb dX6_works_15 rfl (lv_at hl 0 rfl) ?_
      refine lv_sipush (v := (6561 : Int32)) hx hb dX6_works_16 (by decide) ?_
      refine lv_icmp_ge (tgt := 43) hx hb dX6_works_19 (by decide) (fun c73 => ?_) (fun c73 => ?_)
      · have h := (if_pos c73).symm.trans h
        exact K6 _ _ _ _ ⟨(hR70 _ (Option.some.inj h).symm).symm, hP, hD, hS, lv_sub hl [0, 1] rfl⟩
      · have h := (if_neg c73).symm.trans h
        refine lv_aload_n hx hb dX6_works_22 rfl (lv_at hl 1 rfl) ?_
        refine va_get (D := D) (ci := 6) (v := .ref (q 2)) (C := RX6) (T := TX6) (N := 12) hx hb hts wiX6_works_X6 hown hK hP 0 rfl rfl 3 (by decide) (hts _ wmX6_works_1) (fun _ h9 => h9) rfl dX6_works_23 ?_
        refine lv_iload_n hx hb dX6_works_26 rfl (lv_at hl 0 rfl) ?_
        refine lv_iload_n hx hb dX6_works_27 rfl (lv_at hl 0 rfl) ?_
        refine lv_if_ne (tgt := 35) hx hb dX6_works_28 (by decide) (fun c74 => ?_) (fun c74 => ?_)
        · have h := (if_neg c74).symm.trans h
          refine lv_iconst (v := (0 : Int32)) hx hb dX6_works_35 (by decide) ?_
          obtain ⟨i75, h⟩ := ck_some h
          refine va_zast hx hb hK hP hD hS 2 2 rfl rfl i75 dX6_works_36 (fun H locs hP hD hS => ?_)
          have hP : va_P D vwCl (WM_ q cI cJ cZ wwd wmn (0 : Int32) wsm wnm wwl (upd v3 v2.toNatClampNeg (vp_nar .boolean (0 : Int32))) wev wne wsu wnx wta) H := hP
          have hD : va_D A (WM_ q cI cJ cZ wwd wmn (0 : Int32) wsm wnm wwl (upd v3 v2.toNatClampNeg (vp_nar .boolean (0 : Int32))) wev wne wsu wnx wta) := hD
          refine lv_iinc (v := (v2 + (1 : Int32))) (lv' := [(1, .int (v2 + (1 : Int32))), (0, .ref (q 0))]) hx hb dX6_works_37 hl (k := 0) rfl rfl (by decide) rfl (fun ls hl => ?_)
          refine lv_goto (tgt := 15) hx hb dX6_works_40 (by decide) ?_
          exact ih71 _ _ _ _ (Option.some.inj h).symm ⟨hP, hD, hS, lv_sub hl [0, 1] rfl⟩
        · have h := (if_pos c74).symm.trans h
          refine lv_iconst (v := (1 : Int32)) hx hb dX6_works_31 (by decide) ?_
          refine lv_goto (tgt := 36) hx hb dX6_works_32 (by decide) ?_
          obtain ⟨i76, h⟩ := ck_some h
          refine va_zast hx hb hK hP hD hS 2 2 rfl rfl i76 dX6_works_36 (fun H locs hP hD hS => ?_)
          have hP : va_P D vwCl (WM_ q cI cJ cZ wwd wmn (0 : Int32) wsm wnm wwl (upd v3 v2.toNatClampNeg (vp_nar .boolean (1 : Int32))) wev wne wsu wnx wta) H := hP
          have hD : va_D A (WM_ q cI cJ cZ wwd wmn (0 : Int32) wsm wnm wwl (upd v3 v2.toNatClampNeg (vp_nar .boolean (1 : Int32))) wev wne wsu wnx wta) := hD
          refine lv_iinc (v := (v2 + (1 : Int32))) (lv' := [(1, .int (v2 + (1 : Int32))), (0, .ref (q 0))]) hx hb dX6_works_37 hl (k := 0) rfl rfl (by decide) rfl (fun ls hl => ?_)
          refine lv_goto (tgt := 15) hx hb dX6_works_40 (by decide) ?_
          exact ih71 _ _ _ _ (Option.some.inj h).symm ⟨hP, hD, hS, lv_sub hl [0, 1] rfl⟩
  · have h := (if_pos c1).symm.trans h
    obtain rfl := Option.some.inj h
    exact W.vret hx hb hr (fun t ht hW => ⟨⟨(), rfl, trivial, by rw [ht]; exact hP, hD⟩, hS.F ht⟩) hS.2.2 dX6_works_7

-- X6_isFace
theorem wmX6_isFace_0 : (.fieldLink RX6 13 "SpaceWallsModel" "isFace" "[Z" : Cond) ∈ wsX6_isFace := by decide +kernel
theorem wiX6_isFace_X6 : ∀ w ∈ u_ws RX6 TX6 12, w ∈ wsX6_isFace := by decide +kernel
set_option maxHeartbeats 8000000 in
set_option maxRecDepth 100000 in
theorem kX6_isFace (l : Launch) (D : va_G) (q : Nat → Nat) (cI cJ cZ : ClassId) (tP sz : Nat) (wwd : Int32) (wmn : Int32) (wod : Int32) (wsm : Int32) (wnm : Int32) (wwl : (Nat → Int32)) (wif : (Nat → Int32)) (wev : (Nat → Int32)) (wne : (Nat → Int32)) (wsu : (Nat → Int64)) (wnx : (Nat → Int64)) (wta : (Nat → Int64)) (p1 : Int32) (uu : (Int32 × Int32 × Int32 × Int32 × (Nat → Int32) × (Nat → Int32) × (Nat → Int32) × (Nat → Int64) × (Nat → Int64))) (h : fX6_isFace wwd wmn wod wsm wnm wwl wif wev wne wsu wnx p1 = some uu) : Met l yX6_isFace wsX6_isFace ({ frames := 4, cells := 0, slots := 0, locals := 104 }) (cPre D cI cJ cZ tP (WM_ q cI cJ cZ wwd wmn wod wsm wnm wwl wif wev wne wsu wnx wta) sz [.ref (q 0), .int p1]) (cQi D (va_A (WM_ q cI cJ cZ wwd wmn wod wsm wnm wwl wif wev wne wsu wnx wta) sz) (WM_ q cI cJ cZ wwd wmn uu.2.1 uu.2.2.1 uu.2.2.2.1 wwl uu.2.2.2.2.1 uu.2.2.2.2.2.1 uu.2.2.2.2.2.2.1 uu.2.2.2.2.2.2.2.1 uu.2.2.2.2.2.2.2.2 wta) uu.1) 0 0 (va_A (WM_ q cI cJ cZ wwd wmn wod wsm wnm wwl wif wev wne wsu wnx wta) sz) := by
  refine Met.ofW (cc := cX6_isFace) (maxL := 2) (ret := (some .boolean)) (by decide) rfl ?_
  intro p e s m args below meth c s₁ B hml hv
  obtain ⟨rfl, hsz, hP, hK, hN, hD0, hZ⟩ := hv
  have hx := B.exec
  have hb := B.bytes
  have hr := B.returns
  have hts := atoms_spec (ws := wsX6_isFace) B.pre
  have hown : s.vm.findClass RX6 = some m.cls := findClass_of_methodNamed B.named
  have hlocks := B.notSynchronized
  subst hsz
  have hD := hD0.self (sz := s.heap.size)
  generalize hAe : va_A (WM_ q cI cJ cZ wwd wmn wod wsm wnm wwl wif wev wne wsu wnx wta) s.heap.size = A at hD hZ ⊢
  have hA : ∀ q : Nat, s.heap.size ≤ q → A q := fun q h => by rw [← hAe]; exact Or.inr h
  have hS : va_S A s.heap s.heap [] := va_S.rf
  have hl := lv_entry ([.ref (q 0), .int p1]) (n := 2) (Nat.le_of_ble_eq_true rfl)
  rw [lg_entry_eq]
  generalize (lg_sl ([.ref (q 0), .int p1]) ++ List.replicate (2 - (lg_sl ([.ref (q 0), .int p1])).length) Slot.unset).toArray = ls at hl ⊢
  have hl : lv_has ls 2 [(0, .ref (q 0)), (1, .int p1)] := hl
  unfold fX6_isFace at h
  refine lv_aload_n hx hb dX6_isFace_0 rfl (lv_at hl 0 rfl) ?_
  obtain ⟨u1, e2, h⟩ := bd_some h
  refine k_v (va_runV (As := []) (rest := []) ⟨hx, hb, hml, hown, hts⟩ (kX6_works l D q cI cJ cZ tP s.heap.size wwd wmn wod wsm wnm wwl wif wev wne wsu wnx wta  u1 e2) (cwV 0 hts gX6_isFace_X6_works rfl rfl rfl (by decide +kernel) ⟨Nat.le_of_ble_eq_true rfl, Nat.le_of_ble_eq_true rfl⟩) ⟨cPre_blind, va_recv hK hP (ci := 6) (q0 := 0) rfl rfl, cPre_at hP hK hN hD hS hA hZ⟩ rfl rfl hl.1 rfl (lv_room (Nat.le_of_ble_eq_true rfl)) dX6_isFace_1 ⟨Nat.le_of_ble_eq_true rfl, Nat.le_of_ble_eq_true rfl⟩) hD hS hA (fun H locs hP hD hS => ?_)
  refine lv_iload_n hx hb dX6_isFace_4 rfl (lv_at hl 1 rfl) ?_
  refine lv_iconst (v := (0 : Int32)) hx hb dX6_isFace_5 (by decide) ?_
  refine lv_sipush (v := (6560 : Int32)) hx hb dX6_isFace_6 (by decide) ?_
  obtain ⟨u3, e4, h⟩ := bd_some h
  refine k_i0 (va_runS (As := [.int p1, .int (0 : Int32), .int (6560 : Int32)]) (rest := []) ⟨hx, hb, hml, hown, hts⟩ (kX6_in l D cI cJ cZ tP H.size  p1 (0 : Int32) (6560 : Int32) u3 e4) (va_cwS 3 hts gX6_isFace_X6_in rfl rfl rfl (by decide +kernel) ⟨Nat.le_of_ble_eq_true rfl, Nat.le_of_ble_eq_true rfl⟩) ⟨cPre_blind, cPre_at0 hK hN hS hA hZ⟩ rfl rfl hl.1 rfl (lv_room (Nat.le_of_ble_eq_true rfl)) dX6_isFace_9 ⟨Nat.le_of_ble_eq_true rfl, Nat.le_of_ble_eq_true rfl⟩) hP hS hA (fun H locs hP hS => ?_)
  refine lv_if_eq (tgt := 28) hx hb dX6_isFace_12 (by decide) (fun c5 => ?_) (fun c5 => ?_)
  · have h := (if_pos c5).symm.trans h
    refine lv_iconst (v := (0 : Int32)) hx hb dX6_isFace_28 (by decide) ?_
    obtain rfl := Option.some.inj h
    exact W.zret (v := (0 : Int32)) hx hb hr (by decide) (fun t ht hW => ⟨⟨(0 : Int32), (), rfl, rfl, by rw [ht]; exact hP, hD⟩, hS.F ht⟩) hS.2.2 dX6_isFace_29
  · have h := (if_neg c5).symm.trans h
    refine lv_aload_n hx hb dX6_isFace_15 rfl (lv_at hl 0 rfl) ?_
    refine va_get (D := D) (ci := 6) (v := .ref (q 2)) (C := RX6) (T := TX6) (N := 12) hx hb hts wiX6_isFace_X6 hown hK hP 0 rfl rfl 3 (by decide) (hts _ wmX6_isFace_0) (fun _ h9 => h9) rfl dX6_isFace_16 ?_
    refine lv_iload_n hx hb dX6_isFace_19 rfl (lv_at hl 1 rfl) ?_
    obtain ⟨i6, h⟩ := ck_some h
    refine va_zald hx hb hK hP 2 2 rfl rfl i6 dX6_isFace_20 ?_
    refine lv_if_eq (tgt := 28) hx hb dX6_isFace_21 (by decide) (fun c7 => ?_) (fun c7 => ?_)
    · have h := (if_pos c7).symm.trans h
      refine lv_iconst (v := (0 : Int32)) hx hb dX6_isFace_28 (by decide) ?_
      obtain rfl := Option.some.inj h
      exact W.zret (v := (0 : Int32)) hx hb hr (by decide) (fun t ht hW => ⟨⟨(0 : Int32), (), rfl, rfl, by rw [ht]; exact hP, hD⟩, hS.F ht⟩) hS.2.2 dX6_isFace_29
    · have h := (if_neg c7).symm.trans h
      refine lv_iconst (v := (1 : Int32)) hx hb dX6_isFace_24 (by decide) ?_
      refine lv_goto (tgt := 29) hx hb dX6_isFace_25 (by decide) ?_
      obtain rfl := Option.some.inj h
      exact W.zret (v := (1 : Int32)) hx hb hr (by decide) (fun t ht hW => ⟨⟨(1 : Int32), (), rfl, rfl, by rw [ht]; exact hP, hD⟩, hS.F ht⟩) hS.2.2 dX6_isFace_29

-- X6_rank
theorem wmX6_rank_0 : (.fieldLink RX6 49 "SpaceWallsModel" "many" "I" : Cond) ∈ wsX6_rank := by decide +kernel
theorem wmX6_rank_1 : (.fieldLink RX6 34 "SpaceWallsModel" "table" "[J" : Cond) ∈ wsX6_rank := by decide +kernel
theorem wiX6_rank_X6 : ∀ w ∈ u_ws RX6 TX6 12, w ∈ wsX6_rank := by decide +kernel
set_option maxHeartbeats 8000000 in
set_option maxRecDepth 100000 in
theorem kX6_rank (l : Launch) (D : va_G) (q : Nat → Nat) (cI cJ cZ : ClassId) (tP sz : Nat) (wwd : Int32) (wmn : Int32) (wod : Int32) (wsm : Int32) (wnm : Int32) (wwl : (Nat → Int32)) (wif : (Nat → Int32)) (wev : (Nat → Int32)) (wne : (Nat → Int32)) (wsu : (Nat → Int64)) (wnx : (Nat → Int64)) (wta : (Nat → Int64)) (p1 : Int32) (p2 : Int32) (uu : (Int32 × (Nat → Int64))) (h : fX6_rank wmn wwl wta p1 p2 = some uu) : Met l yX6_rank wsX6_rank ({ frames := 1, cells := 0, slots := 0, locals := 22 }) (cPre D cI cJ cZ tP (WM_ q cI cJ cZ wwd wmn wod wsm wnm wwl wif wev wne wsu wnx wta) sz [.ref (q 0), .int p1, .int p2]) (cQi D (va_A (WM_ q cI cJ cZ wwd wmn wod wsm wnm wwl wif wev wne wsu wnx wta) sz) (WM_ q cI cJ cZ wwd wmn wod wsm wnm wwl wif wev wne wsu wnx uu.2) uu.1) 0 0 (va_A (WM_ q cI cJ cZ wwd wmn wod wsm wnm wwl wif wev wne wsu wnx wta) sz) := by
  refine Met.ofW (cc := cX6_rank) (maxL := 13) (ret := (some .int)) (by decide) rfl ?_
  intro p e s m args below meth c s₁ B hml hv
  obtain ⟨rfl, hsz, hP, hK, hN, hD0, hZ⟩ := hv
  have hx := B.exec
  have hb := B.bytes
  have hr := B.returns
  have hts := atoms_spec (ws := wsX6_rank) B.pre
  have hown : s.vm.findClass RX6 = some m.cls := findClass_of_methodNamed B.named
  have hlocks := B.notSynchronized
  subst hsz
  have hD := hD0.self (sz := s.heap.size)
  generalize hAe : va_A (WM_ q cI cJ cZ wwd wmn wod wsm wnm wwl wif wev wne wsu wnx wta) s.heap.size = A at hD hZ ⊢
  have hA : ∀ q : Nat, s.heap.size ≤ q → A q := fun q h => by rw [← hAe]; exact Or.inr h
  have hS : va_S A s.heap s.heap [] := va_S.rf
  have hl := lv_entry ([.ref (q 0), .int p1, .int p2]) (n := 13) (Nat.le_of_ble_eq_true rfl)
  rw [lg_entry_eq]
  generalize (lg_sl ([.ref (q 0), .int p1, .int p2]) ++ List.replicate (13 - (lg_sl ([.ref (q 0), .int p1, .int p2])).length) Slot.unset).toArray = ls at hl ⊢
  have hl : lv_has ls 13 [(0, .ref (q 0)), (1, .int p1), (2, .int p2)] := hl
  unfold fX6_rank at h
  refine lv_iconst (v := (0 : Int32)) hx hb dX6_rank_0 (by decide) ?_
  refine lv_istore_n (lv' := [(3, .int (0 : Int32)), (0, .ref (q 0)), (1, .int p1), (2, .int p2)]) hx hb dX6_rank_1 rfl hl (by decide) rfl (fun ls hl => ?_)
  refine lv_iconst (v := (0 : Int32)) hx hb dX6_rank_2 (by decide) ?_
  refine lv_istore (lv' := [(4, .int (0 : Int32)), (3, .int (0 : Int32)), (0, .ref (q 0)), (1, .int p1), (2, .int p2)]) hx hb dX6_rank_3 hl (by decide) rfl (fun ls hl => ?_)
  obtain ⟨u4, e5, h⟩ := bd_some h
  refine W_leave (P := fun (y : (Int32 × Int32 × (Nat → Int64))) H locs ls => u4 = y ∧ va_P D vwCl (WM_ q cI cJ cZ wwd wmn wod wsm wnm wwl wif wev wne wsu wnx y.2.2) H ∧ va_D A (WM_ q cI cJ cZ wwd wmn wod wsm wnm wwl wif wev wne wsu wnx y.2.2) ∧ va_S A s.heap H locs ∧ lv_has ls 13 [(4, .int y.1), (3, .int y.2.1), (0, .ref (q 0)), (1, .int p1), (2, .int p2)]) (g := fun ls => F0 m 80 ls []) ?_ ?_
  · intro y H locs ls hq
    obtain ⟨hy, hP, hD, hS, hl⟩ := hq
    subst hy
    have hl : lv_has ls 13 [(4, .int u4.1), (3, .int u4.2.1), (0, .ref (q 0)), (1, .int p1), (2, .int p2)] := hl
    refine lv_iconst (v := (0 : Int32)) hx hb dX6_rank_80 (by decide) ?_
    refine lv_istore (lv' := [(4, .int (0 : Int32)), (3, .int u4.2.1), (0, .ref (q 0)), (1, .int p1), (2, .int p2)]) hx hb dX6_rank_81 hl (by decide) rfl (fun ls hl => ?_)
    refine lv_iconst (v := (0 : Int32)) hx hb dX6_rank_83 (by decide) ?_
    refine lv_istore (lv' := [(5, .int (0 : Int32)), (4, .int (0 : Int32)), (3, .int u4.2.1), (0, .ref (q 0)), (1, .int p1), (2, .int p2)]) hx hb dX6_rank_84 hl (by decide) rfl (fun ls hl => ?_)
    obtain ⟨u11, e12, h⟩ := bd_some h
    refine W_leave (P := fun (y : (Int32 × Int32 × (Nat → Int64))) H locs ls => u11 = y ∧ va_P D vwCl (WM_ q cI cJ cZ wwd wmn wod wsm wnm wwl wif wev wne wsu wnx y.2.2) H ∧ va_D A (WM_ q cI cJ cZ wwd wmn wod wsm wnm wwl wif wev wne wsu wnx y.2.2) ∧ va_S A s.heap H locs ∧ lv_has ls 13 [(5, .int y.1), (4, .int y.2.1), (3, .int u4.2.1), (0, .ref (q 0)), (1, .int p1), (2, .int p2)]) (g := fun ls => F0 m 314 ls []) ?_ ?_
    · intro y H locs ls hq
      obtain ⟨hy, hP, hD, hS, hl⟩ := hq
      subst hy
      have hl : lv_has ls 13 [(5, .int u11.1), (4, .int u11.2.1), (3, .int u4.2.1), (0, .ref (q 0)), (1, .int p1), (2, .int p2)] := hl
      refine lv_iload hx hb dX6_rank_314 (lv_at hl 1 rfl) ?_
      obtain rfl := Option.some.inj h
      exact W.iret (v := u11.2.1) hx hb hr (fun t ht hW => ⟨⟨u11.2.1, (), rfl, rfl, by rw [ht]; exact hP, hD⟩, hS.F ht⟩) hS.2.2 dX6_rank_316
    · intro K13
      refine W_lp (body := (fun (st : (Int32 × Int32 × (Nat → Int64))) => fX6_rank_L86 p2 u4 st.1 st.2.1 st.2.2)) (P := fun (st : (Int32 × Int32 × (Nat → Int64))) H locs ls => va_P D vwCl (WM_ q cI cJ cZ wwd wmn wod wsm wnm wwl wif wev wne wsu wnx st.2.2) H ∧ va_D A (WM_ q cI cJ cZ wwd wmn wod wsm wnm wwl wif wev wne wsu wnx st.2.2) ∧ va_S A s.heap H locs ∧ lv_has ls 13 [(5, .int st.1), (4, .int st.2.1), (3, .int u4.2.1), (0, .ref (q 0)), (1, .int p1), (2, .int p2)]) (g := fun _ ls => F0 m 86 ls []) (r := u11) ?_ fu_ ((0 : Int32), (0 : Int32), u4.2.2) _ _ _ e12 ⟨hP, hD, hS, lv_sub hl [0, 1, 2, 3, 4, 5] rfl⟩
      intro st xx17 H locs ls h hq ih16 hR15
      obtain ⟨hP, hD, hS, hl⟩ := hq
      obtain ⟨v8, v9, v10⟩ := st
      have hP : va_P D vwCl (WM_ q cI cJ cZ wwd wmn wod wsm wnm wwl wif wev wne wsu wnx v10) H := hP
      have hD : va_D A (WM_ q cI cJ cZ wwd wmn wod wsm wnm wwl wif wev wne wsu wnx v10) := hD
      have hl : lv_has ls 13 [(5, .int v8), (4, .int v9), (3, .int u4.2.1), (0, .ref (q 0)), (1, .int p1), (2, .int p2)] := hl
      have h : fX6_rank_L86 p2 u4 v8 v9 v10 = some xx17 := h
      unfold fX6_rank_L86 at h
      refine lv_iload hx hb dX6_rank_86 (lv_at hl 0 rfl) ?_
      refine lv_iload_n hx hb dX6_rank_88 rfl (lv_at hl 5 rfl) ?_
      refine lv_icmp_ge (tgt := 314) hx hb dX6_rank_89 (by decide) (fun c18 => ?_) (fun c18 => ?_)
      · have h := (if_pos c18).symm.trans h
        exact K13 _ _ _ _ ⟨(hR15 _ (Option.some.inj h).symm).symm, hP, hD, hS, lv_sub hl [0, 1, 2, 3, 4, 5] rfl⟩
      · have h := (if_neg c18).symm.trans h
        refine lv_iload hx hb dX6_rank_92 (lv_at hl 1 rfl) ?_
        refine lv_istore (lv' := [(6, .int v9), (5, .int v8), (4, .int v9), (3, .int u4.2.1), (0, .ref (q 0)), (1, .int p1), (2, .int p2)]) hx hb dX6_rank_94 hl (by decide) rfl (fun ls hl => ?_)
        obtain ⟨u20, e21, h⟩ := bd_some h
        refine W_leave (P := fun (y : Int32) H locs ls => u20 = y ∧ va_P D vwCl (WM_ q cI cJ cZ wwd wmn wod wsm wnm wwl wif wev wne wsu wnx v10) H ∧ va_D A (WM_ q cI cJ cZ wwd wmn wod wsm wnm wwl wif wev wne wsu wnx v10) ∧ va_S A s.heap H locs ∧ lv_has ls 13 [(6, .int y), (5, .int v8), (4, .int v9), (3, .int u4.2.1), (0, .ref (q 0)), (1, .int p1), (2, .int p2)]) (g := fun ls => F0 m 125 ls []) ?_ ?_
        · intro y H locs ls hq
          obtain ⟨hy, hP, hD, hS, hl⟩ := hq
          subst hy
          have hl : lv_has ls 13 [(6, .int u20), (5, .int v8), (4, .int v9), (3, .int u4.2.1), (0, .ref (q 0)), (1, .int p1), (2, .int p2)] := hl
          refine lv_iload hx hb dX6_rank_125 (lv_at hl 0 rfl) ?_
          refine lv_iload_n hx hb dX6_rank_127 rfl (lv_at hl 3 rfl) ?_
          refine lv_icmp_ne (tgt := 134) hx hb dX6_rank_128 (by decide) (fun c24 => ?_) (fun c24 => ?_)
          · have h := (if_neg c24).symm.trans h
            refine lv_iconst (v := (0 : Int32)) hx hb dX6_rank_134 (by decide) ?_
            refine lv_istore (lv' := [(7, .int (0 : Int32)), (6, .int u20), (5, .int v8), (4, .int v9), (3, .int u4.2.1), (0, .ref (q 0)), (1, .int p1), (2, .int p2)]) hx hb dX6_rank_135 hl (by decide) rfl (fun ls hl => ?_)
            obtain ⟨u27, e28, h⟩ := bd_some h
            refine W_leave (P := fun (y : (Int32 × (Nat → Int64))) H locs ls => u27 = y ∧ va_P D vwCl (WM_ q cI cJ cZ wwd wmn wod wsm wnm wwl wif wev wne wsu wnx y.2) H ∧ va_D A (WM_ q cI cJ cZ wwd wmn wod wsm wnm wwl wif wev wne wsu wnx y.2) ∧ va_S A s.heap H locs ∧ lv_has ls 13 [(7, .int y.1), (6, .int u20), (5, .int v8), (4, .int v9), (3, .int u4.2.1), (0, .ref (q 0)), (1, .int p1), (2, .int p2)]) (g := fun ls => F0 m 201 ls []) ?_ ?_
            · intro y H locs ls hq
              obtain ⟨hy, hP, hD, hS, hl⟩ := hq
              subst hy
              have hl : lv_has ls 13 [(7, .int u27.1), (6, .int u20), (5, .int v8), (4, .int v9), (3, .int u4.2.1), (0, .ref (q 0)), (1, .int p1), (2, .int p2)] := hl
              refine lv_iload hx hb dX6_rank_201 (lv_at hl 3 rfl) ?_
              refine lv_iconst (v := (1 : Int32)) hx hb dX6_rank_203 (by decide) ?_
              refine lv_iadd hx hb dX6_rank_204 ?_
              refine lv_istore (lv' := [(7, .int (v9 + (1 : Int32))), (6, .int u20), (5, .int v8), (4, .int v9), (3, .int u4.2.1), (0, .ref (q 0)), (1, .int p1), (2, .int p2)]) hx hb dX6_rank_205 hl (by decide) rfl (fun ls hl => ?_)
              obtain ⟨u33, e34, h⟩ := bd_some h
              refine W_leave (P := fun (y : (Int32 × (Nat → Int64))) H locs ls => u33 = y ∧ va_P D vwCl (WM_ q cI cJ cZ wwd wmn wod wsm wnm wwl wif wev wne wsu wnx y.2) H ∧ va_D A (WM_ q cI cJ cZ wwd wmn wod wsm wnm wwl wif wev wne wsu wnx y.2) ∧ va_S A s.heap H locs ∧ lv_has ls 13 [(7, .int y.1), (6, .int u20), (5, .int v8), (4, .int v9), (3, .int u4.2.1), (0, .ref (q 0)), (1, .int p1), (2, .int p2)]) (g := fun ls => F0 m 305 ls []) ?_ ?_
              · intro y H locs ls hq
                obtain ⟨hy, hP, hD, hS, hl⟩ := hq
                subst hy
                have hl : lv_has ls 13 [(7, .int u33.1), (6, .int u20), (5, .int v8), (4, .int v9), (3, .int u4.2.1), (0, .ref (q 0)), (1, .int p1), (2, .int p2)] := hl
                refine lv_iinc (v := (v9 + (1 : Int32))) (lv' := [(4, .int (v9 + (1 : Int32))), (7, .int u33.1), (6, .int u20), (5, .int v8), (3, .int u4.2.1), (0, .ref (q 0)), (1, .int p1), (2, .int p2)]) hx hb dX6_rank_305 hl (k := 3) rfl rfl (by decide) rfl (fun ls hl => ?_)
                refine lv_iinc (v := (v8 + (1 : Int32))) (lv' := [(5, .int (v8 + (1 : Int32))), (4, .int (v9 + (1 : Int32))), (7, .int u33.1), (6, .int u20), (3, .int u4.2.1), (0, .ref (q 0)), (1, .int p1), (2, .int p2)]) hx hb dX6_rank_308 hl (k := 3) rfl rfl (by decide) rfl (fun ls hl => ?_)
                refine lv_goto (tgt := 86) hx hb dX6_rank_311 (by decide) ?_
                exact ih16 _ _ _ _ (Option.some.inj h).symm ⟨hP, hD, hS, lv_sub hl [0, 1, 4, 5, 6, 7] rfl⟩
              · intro K35
                refine W_lp (body := (fun (st : (Int32 × (Nat → Int64))) => fX6_rank_L207 u4 v8 v9 st.1 st.2)) (P := fun (st : (Int32 × (Nat → Int64))) H locs ls => va_P D vwCl (WM_ q cI cJ cZ wwd wmn wod wsm wnm wwl wif wev wne wsu wnx st.2) H ∧ va_D A (WM_ q cI cJ cZ wwd wmn wod wsm wnm wwl wif wev wne wsu wnx st.2) ∧ va_S A s.heap H locs ∧ lv_has ls 13 [(7, .int st.1), (6, .int u20), (5, .int v8), (4, .int v9), (3, .int u4.2.1), (0, .ref (q 0)), (1, .int p1), (2, .int p2)]) (g := fun _ ls => F0 m 207 ls []) (r := u33) ?_ fu_ ((v9 + (1 : Int32)), u27.2) _ _ _ e34 ⟨hP, hD, hS, lv_sub hl [0, 1, 2, 3, 4, 5, 6, 7] rfl⟩
                intro st xx39 H locs ls h hq ih38 hR37
                obtain ⟨hP, hD, hS, hl⟩ := hq
                obtain ⟨v31, v32⟩ := st
                have hP : va_P D vwCl (WM_ q cI cJ cZ wwd wmn wod wsm wnm wwl wif wev wne wsu wnx v32) H := hP
                have hD : va_D A (WM_ q cI cJ cZ wwd wmn wod wsm wnm wwl wif wev wne wsu wnx v32) := hD
                have hl : lv_has ls 13 [(7, .int v31), (6, .int u20), (5, .int v8), (4, .int v9), (3, .int u4.2.1), (0, .ref (q 0)), (1, .int p1), (2, .int p2)] := hl
                have h : fX6_rank_L207 u4 v8 v9 v31 v32 = some xx39 := h
                unfold fX6_rank_L207 at h
                refine lv_iload hx hb dX6_rank_207 (lv_at hl 0 rfl) ?_
                refine lv_iload_n hx hb dX6_rank_209 rfl (lv_at hl 4 rfl) ?_
                refine lv_icmp_ge (tgt := 305) hx hb dX6_rank_210 (by decide) (fun c40 => ?_) (fun c40 => ?_)
                · have h := (if_pos c40).symm.trans h
                  exact K35 _ _ _ _ ⟨(hR37 _ (Option.some.inj h).symm).symm, hP, hD, hS, lv_sub hl [0, 1, 2, 3, 4, 5, 6, 7] rfl⟩
                · have h := (if_neg c40).symm.trans h
                  refine lv_aload_n hx hb dX6_rank_213 rfl (lv_at hl 5 rfl) ?_
                  refine va_get (D := D) (ci := 6) (v := .ref (q 7)) (C := RX6) (T := TX6) (N := 12) hx hb hts wiX6_rank_X6 hown hK hP 0 rfl rfl 11 (by decide) (hts _ wmX6_rank_1) (fun _ h9 => h9) rfl dX6_rank_214 ?_
                  refine lv_iconst (v := (4 : Int32)) hx hb dX6_rank_217 (by decide) ?_
                  refine lv_iload hx hb dX6_rank_218 (lv_at hl 0 rfl) ?_
                  refine lv_imul hx hb dX6_rank_220 ?_
                  refine lv_iload hx hb dX6_rank_221 (lv_at hl 2 rfl) ?_
                  refine lv_iadd hx hb dX6_rank_223 ?_
                  obtain ⟨i41, h⟩ := ck_some h
                  refine va_lald hx hb hK hP 7 1 rfl rfl i41 dX6_rank_224 ?_
                  refine lv_lstore (lv' := [(8, .long (v32 (((4 : Int32) * v31) + v8).toNatClampNeg)), (7, .int v31), (6, .int u20), (5, .int v8), (4, .int v9), (3, .int u4.2.1), (0, .ref (q 0)), (1, .int p1), (2, .int p2)]) hx hb dX6_rank_225 hl (by decide) rfl (fun ls hl => ?_)
                  refine lv_aload_n hx hb dX6_rank_227 rfl (lv_at hl 6 rfl) ?_
                  refine va_get (D := D) (ci := 6) (v := .ref (q 7)) (C := RX6) (T := TX6) (N := 12) hx hb hts wiX6_rank_X6 hown hK hP 0 rfl rfl 11 (by decide) (hts _ wmX6_rank_1) (fun _ h9 => h9) rfl dX6_rank_228 ?_
                  refine lv_iconst (v := (4 : Int32)) hx hb dX6_rank_231 (by decide) ?_
                  refine lv_iload hx hb dX6_rank_232 (lv_at hl 4 rfl) ?_
                  refine lv_imul hx hb dX6_rank_234 ?_
                  refine lv_iload hx hb dX6_rank_235 (lv_at hl 3 rfl) ?_
                  refine lv_iadd hx hb dX6_rank_237 ?_
                  obtain ⟨i42, h⟩ := ck_some h
                  refine va_lald hx hb hK hP 7 1 rfl rfl i42 dX6_rank_238 ?_
                  refine lv_lstore (lv' := [(10, .long (v32 (((4 : Int32) * v9) + v8).toNatClampNeg)), (8, .long (v32 (((4 : Int32) * v31) + v8).toNatClampNeg)), (7, .int v31), (6, .int u20), (5, .int v8), (4, .int v9), (3, .int u4.2.1), (0, .ref (q 0)), (1, .int p1), (2, .int p2)]) hx hb dX6_rank_239 hl (by decide) rfl (fun ls hl => ?_)
                  refine lv_iconst (v := (0 : Int32)) hx hb dX6_rank_241 (by decide) ?_
                  refine lv_istore (lv' := [(12, .int (0 : Int32)), (10, .long (v32 (((4 : Int32) * v9) + v8).toNatClampNeg)), (8, .long (v32 (((4 : Int32) * v31) + v8).toNatClampNeg)), (7, .int v31), (6, .int u20), (5, .int v8), (4, .int v9), (3, .int u4.2.1), (0, .ref (q 0)), (1, .int p1), (2, .int p2)]) hx hb dX6_rank_242 hl (by decide) rfl (fun ls hl => ?_)
                  obtain ⟨u45, e46, h⟩ := bd_some h
                  refine W_leave (P := fun (y : (Int32 × (Nat → Int64))) H locs ls => u45 = y ∧ va_P D vwCl (WM_ q cI cJ cZ wwd wmn wod wsm wnm wwl wif wev wne wsu wnx y.2) H ∧ va_D A (WM_ q cI cJ cZ wwd wmn wod wsm wnm wwl wif wev wne wsu wnx y.2) ∧ va_S A s.heap H locs ∧ lv_has ls 13 [(12, .int y.1), (10, .long (v32 (((4 : Int32) * v9) + v8).toNatClampNeg)), (8, .long (v32 (((4 : Int32) * v31) + v8).toNatClampNeg)), (7, .int v31), (6, .int u20), (5, .int v8), (4, .int v9), (3, .int u4.2.1), (0, .ref (q 0)), (1, .int p1), (2, .int p2)]) (g := fun ls => F0 m 299 ls []) ?_ ?_
                  · intro y H locs ls hq
                    obtain ⟨hy, hP, hD, hS, hl⟩ := hq
                    subst hy
                    have hl : lv_has ls 13 [(12, .int u45.1), (10, .long (v32 (((4 : Int32) * v9) + v8).toNatClampNeg)), (8, .long (v32 (((4 : Int32) * v31) + v8).toNatClampNeg)), (7, .int v31), (6, .int u20), (5, .int v8), (4, .int v9), (3, .int u4.2.1), (0, .ref (q 0)), (1, .int p1), (2, .int p2)] := hl
                    refine lv_iinc (v := (v31 + (1 : Int32))) (lv' := [(7, .int (v31 + (1 : Int32))), (12, .int u45.1), (10, .long (v32 (((4 : Int32) * v9) + v8).toNatClampNeg)), (8, .long (v32 (((4 : Int32) * v31) + v8).toNatClampNeg)), (6, .int u20), (5, .int v8), (4, .int v9), (3, .int u4.2.1), (0, .ref (q 0)), (1, .int p1), (2, .int p2)]) hx hb dX6_rank_299 hl (k := 3) rfl rfl (by decide) rfl (fun ls hl => ?_)
                    refine lv_goto (tgt := 207) hx hb dX6_rank_302 (by decide) ?_
                    exact ih38 _ _ _ _ (Option.some.inj h).symm ⟨hP, hD, hS, lv_sub hl [0, 4, 5, 6, 7, 8, 9, 10] rfl⟩
                  · intro K47
                    refine W_lp (body := (fun (st : (Int32 × (Nat → Int64))) => fX6_rank_L244 v31 v9 v32 v8 st.1 st.2)) (P := fun (st : (Int32 × (Nat → Int64))) H locs ls => va_P D vwCl (WM_ q cI cJ cZ wwd wmn wod wsm wnm wwl wif wev wne wsu wnx st.2) H ∧ va_D A (WM_ q cI cJ cZ wwd wmn wod wsm wnm wwl wif wev wne wsu wnx st.2) ∧ va_S A s.heap H locs ∧ lv_has ls 13 [(12, .int st.1), (10, .long (v32 (((4 : Int32) * v9) + v8).toNatClampNeg)), (8, .long (v32 (((4 : Int32) * v31) + v8).toNatClampNeg)), (7, .int v31), (6, .int u20), (5, .int v8), (4, .int v9), (3, .int u4.2.1), (0, .ref (q 0)), (1, .int p1), (2, .int p2)]) (g := fun _ ls => F0 m 244 ls []) (r := u45) ?_ fu_ ((0 : Int32), v32) _ _ _ e46 ⟨hP, hD, hS, lv_sub hl [0, 1, 2, 3, 4, 5, 6, 7, 8, 9, 10] rfl⟩
                    intro st xx51 H locs ls h hq ih50 hR49
                    obtain ⟨hP, hD, hS, hl⟩ := hq
                    obtain ⟨v43, v44⟩ := st
                    have hP : va_P D vwCl (WM_ q cI cJ cZ wwd wmn wod wsm wnm wwl wif wev wne wsu wnx v44) H := hP
                    have hD : va_D A (WM_ q cI cJ cZ wwd wmn wod wsm wnm wwl wif wev wne wsu wnx v44) := hD
                    have hl : lv_has ls 13 [(12, .int v43), (10, .long (v32 (((4 : Int32) * v9) + v8).toNatClampNeg)), (8, .long (v32 (((4 : Int32) * v31) + v8).toNatClampNeg)), (7, .int v31), (6, .int u20), (5, .int v8), (4, .int v9), (3, .int u4.2.1), (0, .ref (q 0)), (1, .int p1), (2, .int p2)] := hl
                    have h : fX6_rank_L244 v31 v9 v32 v8 v43 v44 = some xx51 := h
                    unfold fX6_rank_L244 at h
                    refine lv_iload hx hb dX6_rank_244 (lv_at hl 0 rfl) ?_
                    refine lv_iconst (v := (4 : Int32)) hx hb dX6_rank_246 (by decide) ?_
                    refine lv_icmp_ge (tgt := 299) hx hb dX6_rank_247 (by decide) (fun c52 => ?_) (fun c52 => ?_)
                    · have h := (if_pos c52).symm.trans h
                      exact K47 _ _ _ _ ⟨(hR49 _ (Option.some.inj h).symm).symm, hP, hD, hS, lv_sub hl [0, 1, 2, 3, 4, 5, 6, 7, 8, 9, 10] rfl⟩
                    · have h := (if_neg c52).symm.trans h
                      refine lv_aload_n hx hb dX6_rank_250 rfl (lv_at hl 8 rfl) ?_
                      refine va_get (D := D) (ci := 6) (v := .ref (q 7)) (C := RX6) (T := TX6) (N := 12) hx hb hts wiX6_rank_X6 hown hK hP 0 rfl rfl 11 (by decide) (hts _ wmX6_rank_1) (fun _ h9 => h9) rfl dX6_rank_251 ?_
                      refine lv_iconst (v := (4 : Int32)) hx hb dX6_rank_254 (by decide) ?_
                      refine lv_iload hx hb dX6_rank_255 (lv_at hl 3 rfl) ?_
                      refine lv_imul hx hb dX6_rank_257 ?_
                      refine lv_iload hx hb dX6_rank_258 (lv_at hl 0 rfl) ?_
                      refine lv_iadd hx hb dX6_rank_260 ?_
                      refine lv_aload_n hx hb dX6_rank_261 rfl (lv_at hl 8 rfl) ?_
                      refine va_get (D := D) (ci := 6) (v := .ref (q 7)) (C := RX6) (T := TX6) (N := 12) hx hb hts wiX6_rank_X6 hown hK hP 0 rfl rfl 11 (by decide) (hts _ wmX6_rank_1) (fun _ h9 => h9) rfl dX6_rank_262 ?_
                      refine lv_iconst (v := (4 : Int32)) hx hb dX6_rank_265 (by decide) ?_
                      refine lv_iload hx hb dX6_rank_266 (lv_at hl 3 rfl) ?_
                      refine lv_imul hx hb dX6_rank_268 ?_
                      refine lv_iload hx hb dX6_rank_269 (lv_at hl 0 rfl) ?_
                      refine lv_iadd hx hb dX6_rank_271 ?_
                      obtain ⟨i53, h⟩ := ck_some h
                      refine va_lald hx hb hK hP 7 1 rfl rfl i53 dX6_rank_272 ?_
                      refine lv_lload hx hb dX6_rank_273 (lv_at hl 1 rfl) ?_
                      refine lv_lmul hx hb dX6_rank_275 ?_
                      refine lv_aload_n hx hb dX6_rank_276 rfl (lv_at hl 8 rfl) ?_
                      refine va_get (D := D) (ci := 6) (v := .ref (q 7)) (C := RX6) (T := TX6) (N := 12) hx hb hts wiX6_rank_X6 hown hK hP 0 rfl rfl 11 (by decide) (hts _ wmX6_rank_1) (fun _ h9 => h9) rfl dX6_rank_277 ?_
                      refine lv_iconst (v := (4 : Int32)) hx hb dX6_rank_280 (by decide) ?_
                      refine lv_iload hx hb dX6_rank_281 (lv_at hl 6 rfl) ?_
                      refine lv_imul hx hb dX6_rank_283 ?_
                      refine lv_iload hx hb dX6_rank_284 (lv_at hl 0 rfl) ?_
                      refine lv_iadd hx hb dX6_rank_286 ?_
                      obtain ⟨i54, h⟩ := ck_some h
                      refine va_lald hx hb hK hP 7 1 rfl rfl i54 dX6_rank_287 ?_
                      refine lv_lload hx hb dX6_rank_288 (lv_at hl 2 rfl) ?_
                      refine lv_lmul hx hb dX6_rank_290 ?_
                      refine lv_lsub hx hb dX6_rank_291 ?_
                      obtain ⟨i55, h⟩ := ck_some h
                      refine va_last hx hb hK hP hD hS 7 1 rfl rfl i55 dX6_rank_292 (fun H locs hP hD hS => ?_)
                      have hP : va_P D vwCl (WM_ q cI cJ cZ wwd wmn wod wsm wnm wwl wif wev wne wsu wnx (vp_updL v44 (((4 : Int32) * v31) + v43).toNatClampNeg (((v44 (((4 : Int32) * v31) + v43).toNatClampNeg) * (v32 (((4 : Int32) * v9) + v8).toNatClampNeg)) - ((v44 (((4 : Int32) * v9) + v43).toNatClampNeg) * (v32 (((4 : Int32) * v31) + v8).toNatClampNeg))))) H := hP
                      have hD : va_D A (WM_ q cI cJ cZ wwd wmn wod wsm wnm wwl wif wev wne wsu wnx (vp_updL v44 (((4 : Int32) * v31) + v43).toNatClampNeg (((v44 (((4 : Int32) * v31) + v43).toNatClampNeg) * (v32 (((4 : Int32) * v9) + v8).toNatClampNeg)) - ((v44 (((4 : Int32) * v9) + v43).toNatClampNeg) * (v32 (((4 : Int32) * v31) + v8).toNatClampNeg))))) := hD
                      refine lv_iinc (v := (v43 + (1 : Int32))) (lv' := [(12, .int (v43 + (1 : Int32))), (10, .long (v32 (((4 : Int32) * v9) + v8).toNatClampNeg)), (8, .long (v32 (((4 : Int32) * v31) + v8).toNatClampNeg)), (7, .int v31), (6, .int u20), (5, .int v8), (4, .int v9), (3, .int u4.2.1), (0, .ref (q 0)), (1, .int p1), (2, .int p2)]) hx hb dX6_rank_293 hl (k := 0) rfl rfl (by decide) rfl (fun ls hl => ?_)
                      refine lv_goto (tgt := 244) hx hb dX6_rank_296 (by decide) ?_
                      exact ih50 _ _ _ _ (Option.some.inj h).symm ⟨hP, hD, hS, lv_sub hl [0, 1, 2, 3, 4, 5, 6, 7, 8, 9, 10] rfl⟩
            · intro K29
              refine W_lp (body := (fun (st : (Int32 × (Nat → Int64))) => fX6_rank_L137 u20 v9 st.1 st.2)) (P := fun (st : (Int32 × (Nat → Int64))) H locs ls => va_P D vwCl (WM_ q cI cJ cZ wwd wmn wod wsm wnm wwl wif wev wne wsu wnx st.2) H ∧ va_D A (WM_ q cI cJ cZ wwd wmn wod wsm wnm wwl wif wev wne wsu wnx st.2) ∧ va_S A s.heap H locs ∧ lv_has ls 13 [(7, .int st.1), (6, .int u20), (5, .int v8), (4, .int v9), (3, .int u4.2.1), (0, .ref (q 0)), (1, .int p1), (2, .int p2)]) (g := fun _ ls => F0 m 137 ls []) (r := u27) ?_ fu_ ((0 : Int32), v10) _ _ _ e28 ⟨hP, hD, hS, lv_sub hl [0, 1, 2, 3, 4, 5, 6, 7] rfl⟩
              intro st xx58 H locs ls h hq ih57 hR56
              obtain ⟨hP, hD, hS, hl⟩ := hq
              obtain ⟨v25, v26⟩ := st
              have hP : va_P D vwCl (WM_ q cI cJ cZ wwd wmn wod wsm wnm wwl wif wev wne wsu wnx v26) H := hP
              have hD : va_D A (WM_ q cI cJ cZ wwd wmn wod wsm wnm wwl wif wev wne wsu wnx v26) := hD
              have hl : lv_has ls 13 [(7, .int v25), (6, .int u20), (5, .int v8), (4, .int v9), (3, .int u4.2.1), (0, .ref (q 0)), (1, .int p1), (2, .int p2)] := hl
              have h : fX6_rank_L137 u20 v9 v25 v26 = some xx58 := h
              unfold fX6_rank_L137 at h
              refine lv_iload hx hb dX6_rank_137 (lv_at hl 0 rfl) ?_
              refine lv_iconst (v := (4 : Int32)) hx hb dX6_rank_139 (by decide) ?_
              refine lv_icmp_ge (tgt := 201) hx hb dX6_rank_140 (by decide) (fun c59 => ?_) (fun c59 => ?_)
              · have h := (if_pos c59).symm.trans h
                exact K29 _ _ _ _ ⟨(hR56 _ (Option.some.inj h).symm).symm, hP, hD, hS, lv_sub hl [0, 1, 2, 3, 4, 5, 6, 7] rfl⟩
              · have h := (if_neg c59).symm.trans h
                refine lv_aload_n hx hb dX6_rank_143 rfl (lv_at hl 5 rfl) ?_
                refine va_get (D := D) (ci := 6) (v := .ref (q 7)) (C := RX6) (T := TX6) (N := 12) hx hb hts wiX6_rank_X6 hown hK hP 0 rfl rfl 11 (by decide) (hts _ wmX6_rank_1) (fun _ h9 => h9) rfl dX6_rank_144 ?_
                refine lv_iconst (v := (4 : Int32)) hx hb dX6_rank_147 (by decide) ?_
                refine lv_iload hx hb dX6_rank_148 (lv_at hl 1 rfl) ?_
                refine lv_imul hx hb dX6_rank_150 ?_
                refine lv_iload hx hb dX6_rank_151 (lv_at hl 0 rfl) ?_
                refine lv_iadd hx hb dX6_rank_153 ?_
                obtain ⟨i60, h⟩ := ck_some h
                refine va_lald hx hb hK hP 7 1 rfl rfl i60 dX6_rank_154 ?_
                refine lv_lstore (lv' := [(8, .long (v26 (((4 : Int32) * u20) + v25).toNatClampNeg)), (7, .int v25), (6, .int u20), (5, .int v8), (4, .int v9), (3, .int u4.2.1), (0, .ref (q 0)), (1, .int p1), (2, .int p2)]) hx hb dX6_rank_155 hl (by decide) rfl (fun ls hl => ?_)
                refine lv_aload_n hx hb dX6_rank_157 rfl (lv_at hl 6 rfl) ?_
                refine va_get (D := D) (ci := 6) (v := .ref (q 7)) (C := RX6) (T := TX6) (N := 12) hx hb hts wiX6_rank_X6 hown hK hP 0 rfl rfl 11 (by decide) (hts _ wmX6_rank_1) (fun _ h9 => h9) rfl dX6_rank_158 ?_
                refine lv_iconst (v := (4 : Int32)) hx hb dX6_rank_161 (by decide) ?_
                refine lv_iload hx hb dX6_rank_162 (lv_at hl 2 rfl) ?_
                refine lv_imul hx hb dX6_rank_164 ?_
                refine lv_iload hx hb dX6_rank_165 (lv_at hl 1 rfl) ?_
                refine lv_iadd hx hb dX6_rank_167 ?_
                refine lv_aload_n hx hb dX6_rank_168 rfl (lv_at hl 6 rfl) ?_
                refine va_get (D := D) (ci := 6) (v := .ref (q 7)) (C := RX6) (T := TX6) (N := 12) hx hb hts wiX6_rank_X6 hown hK hP 0 rfl rfl 11 (by decide) (hts _ wmX6_rank_1) (fun _ h9 => h9) rfl dX6_rank_169 ?_
                refine lv_iconst (v := (4 : Int32)) hx hb dX6_rank_172 (by decide) ?_
                refine lv_iload hx hb dX6_rank_173 (lv_at hl 4 rfl) ?_
                refine lv_imul hx hb dX6_rank_175 ?_
                refine lv_iload hx hb dX6_rank_176 (lv_at hl 1 rfl) ?_
                refine lv_iadd hx hb dX6_rank_178 ?_
                obtain ⟨i61, h⟩ := ck_some h
                refine va_lald hx hb hK hP 7 1 rfl rfl i61 dX6_rank_179 ?_
                obtain ⟨i62, h⟩ := ck_some h
                refine va_last hx hb hK hP hD hS 7 1 rfl rfl i62 dX6_rank_180 (fun H locs hP hD hS => ?_)
                have hP : va_P D vwCl (WM_ q cI cJ cZ wwd wmn wod wsm wnm wwl wif wev wne wsu wnx (vp_updL v26 (((4 : Int32) * u20) + v25).toNatClampNeg (v26 (((4 : Int32) * v9) + v25).toNatClampNeg))) H := hP
                have hD : va_D A (WM_ q cI cJ cZ wwd wmn wod wsm wnm wwl wif wev wne wsu wnx (vp_updL v26 (((4 : Int32) * u20) + v25).toNatClampNeg (v26 (((4 : Int32) * v9) + v25).toNatClampNeg))) := hD
                refine lv_aload_n hx hb dX6_rank_181 rfl (lv_at hl 6 rfl) ?_
                refine va_get (D := D) (ci := 6) (v := .ref (q 7)) (C := RX6) (T := TX6) (N := 12) hx hb hts wiX6_rank_X6 hown hK hP 0 rfl rfl 11 (by decide) (hts _ wmX6_rank_1) (fun _ h9 => h9) rfl dX6_rank_182 ?_
                refine lv_iconst (v := (4 : Int32)) hx hb dX6_rank_185 (by decide) ?_
                refine lv_iload hx hb dX6_rank_186 (lv_at hl 4 rfl) ?_
                refine lv_imul hx hb dX6_rank_188 ?_
                refine lv_iload hx hb dX6_rank_189 (lv_at hl 1 rfl) ?_
                refine lv_iadd hx hb dX6_rank_191 ?_
                refine lv_lload hx hb dX6_rank_192 (lv_at hl 0 rfl) ?_
                obtain ⟨i63, h⟩ := ck_some h
                refine va_last hx hb hK hP hD hS 7 1 rfl rfl i63 dX6_rank_194 (fun H locs hP hD hS => ?_)
                have hP : va_P D vwCl (WM_ q cI cJ cZ wwd wmn wod wsm wnm wwl wif wev wne wsu wnx (vp_updL (vp_updL v26 (((4 : Int32) * u20) + v25).toNatClampNeg (v26 (((4 : Int32) * v9) + v25).toNatClampNeg)) (((4 : Int32) * v9) + v25).toNatClampNeg (v26 (((4 : Int32) * u20) + v25).toNatClampNeg))) H := hP
                have hD : va_D A (WM_ q cI cJ cZ wwd wmn wod wsm wnm wwl wif wev wne wsu wnx (vp_updL (vp_updL v26 (((4 : Int32) * u20) + v25).toNatClampNeg (v26 (((4 : Int32) * v9) + v25).toNatClampNeg)) (((4 : Int32) * v9) + v25).toNatClampNeg (v26 (((4 : Int32) * u20) + v25).toNatClampNeg))) := hD
                refine lv_iinc (v := (v25 + (1 : Int32))) (lv' := [(7, .int (v25 + (1 : Int32))), (8, .long (v26 (((4 : Int32) * u20) + v25).toNatClampNeg)), (6, .int u20), (5, .int v8), (4, .int v9), (3, .int u4.2.1), (0, .ref (q 0)), (1, .int p1), (2, .int p2)]) hx hb dX6_rank_195 hl (k := 1) rfl rfl (by decide) rfl (fun ls hl => ?_)
                refine lv_goto (tgt := 137) hx hb dX6_rank_198 (by decide) ?_
                exact ih57 _ _ _ _ (Option.some.inj h).symm ⟨hP, hD, hS, lv_sub hl [0, 2, 3, 4, 5, 6, 7, 8] rfl⟩
          · have h := (if_pos c24).symm.trans h
            refine lv_goto (tgt := 308) hx hb dX6_rank_131 (by decide) ?_
            refine lv_iinc (v := (v8 + (1 : Int32))) (lv' := [(5, .int (v8 + (1 : Int32))), (6, .int u20), (4, .int v9), (3, .int u4.2.1), (0, .ref (q 0)), (1, .int p1), (2, .int p2)]) hx hb dX6_rank_308 hl (k := 1) rfl rfl (by decide) rfl (fun ls hl => ?_)
            refine lv_goto (tgt := 86) hx hb dX6_rank_311 (by decide) ?_
            exact ih16 _ _ _ _ (Option.some.inj h).symm ⟨hP, hD, hS, lv_sub hl [0, 2, 3, 4, 5, 6] rfl⟩
        · intro K22
          refine W_lp (body := (fun (st : Int32) => fX6_rank_L96 u4 v8 v10 st)) (P := fun (st : Int32) H locs ls => va_P D vwCl (WM_ q cI cJ cZ wwd wmn wod wsm wnm wwl wif wev wne wsu wnx v10) H ∧ va_D A (WM_ q cI cJ cZ wwd wmn wod wsm wnm wwl wif wev wne wsu wnx v10) ∧ va_S A s.heap H locs ∧ lv_has ls 13 [(6, .int st), (5, .int v8), (4, .int v9), (3, .int u4.2.1), (0, .ref (q 0)), (1, .int p1), (2, .int p2)]) (g := fun _ ls => F0 m 96 ls []) (r := u20) ?_ fu_ v9 _ _ _ e21 ⟨hP, hD, hS, lv_sub hl [0, 1, 2, 3, 4, 5, 6] rfl⟩
          intro v19 xx66 H locs ls h hq ih65 hR64
          obtain ⟨hP, hD, hS, hl⟩ := hq
          have hP : va_P D vwCl (WM_ q cI cJ cZ wwd wmn wod wsm wnm wwl wif wev wne wsu wnx v10) H := hP
          have hD : va_D A (WM_ q cI cJ cZ wwd wmn wod wsm wnm wwl wif wev wne wsu wnx v10) := hD
          have hl : lv_has ls 13 [(6, .int v19), (5, .int v8), (4, .int v9), (3, .int u4.2.1), (0, .ref (q 0)), (1, .int p1), (2, .int p2)] := hl
          have h : fX6_rank_L96 u4 v8 v10 v19 = some xx66 := h
          unfold fX6_rank_L96 at h
          refine lv_iload hx hb dX6_rank_96 (lv_at hl 0 rfl) ?_
          refine lv_iload_n hx hb dX6_rank_98 rfl (lv_at hl 3 rfl) ?_
          refine lv_icmp_ge (tgt := 125) hx hb dX6_rank_99 (by decide) (fun c67 => ?_) (fun c67 => ?_)
          · have h := (if_pos c67).symm.trans h
            exact K22 _ _ _ _ ⟨(hR64 _ (Option.some.inj h).symm).symm, hP, hD, hS, lv_sub hl [0, 1, 2, 3, 4, 5, 6] rfl⟩
          · have h := (if_neg c67).symm.trans h
            refine lv_aload_n hx hb dX6_rank_102 rfl (lv_at hl 4 rfl) ?_
            refine va_get (D := D) (ci := 6) (v := .ref (q 7)) (C := RX6) (T := TX6) (N := 12) hx hb hts wiX6_rank_X6 hown hK hP 0 rfl rfl 11 (by decide) (hts _ wmX6_rank_1) (fun _ h9 => h9) rfl dX6_rank_103 ?_
            refine lv_iconst (v := (4 : Int32)) hx hb dX6_rank_106 (by decide) ?_
            refine lv_iload hx hb dX6_rank_107 (lv_at hl 0 rfl) ?_
            refine lv_imul hx hb dX6_rank_109 ?_
            refine lv_iload hx hb dX6_rank_110 (lv_at hl 1 rfl) ?_
            refine lv_iadd hx hb dX6_rank_112 ?_
            obtain ⟨i68, h⟩ := ck_some h
            refine va_lald hx hb hK hP 7 1 rfl rfl i68 dX6_rank_113 ?_
            refine lv_lconst (v := (0 : Int64)) hx hb dX6_rank_114 (by decide) ?_
            refine W.lcmp hx hb dX6_rank_115 ?_
            refine lv_if_ne (tgt := 125) hx hb dX6_rank_116 (by decide) (fun c69 => ?_) (fun c69 => ?_)
            · have h := (if_neg c69).symm.trans h
              exact K22 _ _ _ _ ⟨(hR64 _ (Option.some.inj h).symm).symm, hP, hD, hS, lv_sub hl [0, 1, 2, 3, 4, 5, 6] rfl⟩
            · have h := (if_pos c69).symm.trans h
              refine lv_iinc (v := (v19 + (1 : Int32))) (lv' := [(6, .int (v19 + (1 : Int32))), (5, .int v8), (4, .int v9), (3, .int u4.2.1), (0, .ref (q 0)), (1, .int p1), (2, .int p2)]) hx hb dX6_rank_119 hl (k := 0) rfl rfl (by decide) rfl (fun ls hl => ?_)
              refine lv_goto (tgt := 96) hx hb dX6_rank_122 (by decide) ?_
              exact ih65 _ _ _ _ (Option.some.inj h).symm ⟨hP, hD, hS, lv_sub hl [0, 1, 2, 3, 4, 5, 6] rfl⟩
  · intro K6
    refine W_lp (body := (fun (st : (Int32 × Int32 × (Nat → Int64))) => fX6_rank_L5 wmn p1 p2 wwl st.1 st.2.1 st.2.2)) (P := fun (st : (Int32 × Int32 × (Nat → Int64))) H locs ls => va_P D vwCl (WM_ q cI cJ cZ wwd wmn wod wsm wnm wwl wif wev wne wsu wnx st.2.2) H ∧ va_D A (WM_ q cI cJ cZ wwd wmn wod wsm wnm wwl wif wev wne wsu wnx st.2.2) ∧ va_S A s.heap H locs ∧ lv_has ls 13 [(4, .int st.1), (3, .int st.2.1), (0, .ref (q 0)), (1, .int p1), (2, .int p2)]) (g := fun _ ls => F0 m 5 ls []) (r := u4) ?_ fu_ ((0 : Int32), (0 : Int32), wta) _ _ _ e5 ⟨hP, hD, hS, lv_sub hl [0, 1, 2, 3, 4] rfl⟩
    intro st xx72 H locs ls h hq ih71 hR70
    obtain ⟨hP, hD, hS, hl⟩ := hq
    obtain ⟨v1, v2, v3⟩ := st
    have hP : va_P D vwCl (WM_ q cI cJ cZ wwd wmn wod wsm wnm wwl wif wev wne wsu wnx v3) H := hP
    have hD : va_D A (WM_ q cI cJ cZ wwd wmn wod wsm wnm wwl wif wev wne wsu wnx v3) := hD
    have hl : lv_has ls 13 [(4, .int v1), (3, .int v2), (0, .ref (q 0)), (1, .int p1), (2, .int p2)] := hl
    have h : fX6_rank_L5 wmn p1 p2 wwl v1 v2 v3 = some xx72 := h
    unfold fX6_rank_L5 at h
    refine lv_iload hx hb dX6_rank_5 (lv_at hl 0 rfl) ?_
    refine lv_aload_n hx hb dX6_rank_7 rfl (lv_at hl 2 rfl) ?_
    refine va_get (D := D) (ci := 6) (v := .int wmn) (C := RX6) (T := TX6) (N := 12) hx hb hts wiX6_rank_X6 hown hK hP 0 rfl rfl 1 (by decide) (hts _ wmX6_rank_0) (fun _ h9 => h9) rfl dX6_rank_8 ?_
    refine lv_icmp_ge (tgt := 80) hx hb dX6_rank_11 (by decide) (fun c73 => ?_) (fun c73 => ?_)
    · have h := (if_pos c73).symm.trans h
      exact K6 _ _ _ _ ⟨(hR70 _ (Option.some.inj h).symm).symm, hP, hD, hS, lv_sub hl [0, 1, 2, 3, 4] rfl⟩
    · have h := (if_neg c73).symm.trans h
      refine lv_iload_n hx hb dX6_rank_14 rfl (lv_at hl 3 rfl) ?_
      refine lv_iload hx hb dX6_rank_15 (lv_at hl 0 rfl) ?_
      refine lv_ishr hx hb dX6_rank_17 ?_
      refine lv_iconst (v := (1 : Int32)) hx hb dX6_rank_18 (by decide) ?_
      refine lv_iand hx hb dX6_rank_19 ?_
      refine lv_if_ne (tgt := 26) hx hb dX6_rank_20 (by decide) (fun c74 => ?_) (fun c74 => ?_)
      · have h := (if_neg c74).symm.trans h
        refine lv_iconst (v := (0 : Int32)) hx hb dX6_rank_26 (by decide) ?_
        refine lv_istore (lv' := [(5, .int (0 : Int32)), (4, .int v1), (3, .int v2), (0, .ref (q 0)), (1, .int p1), (2, .int p2)]) hx hb dX6_rank_27 hl (by decide) rfl (fun ls hl => ?_)
        obtain ⟨u77, e78, h⟩ := bd_some h
        refine W_leave (P := fun (y : (Int32 × (Nat → Int64))) H locs ls => u77 = y ∧ va_P D vwCl (WM_ q cI cJ cZ wwd wmn wod wsm wnm wwl wif wev wne wsu wnx y.2) H ∧ va_D A (WM_ q cI cJ cZ wwd wmn wod wsm wnm wwl wif wev wne wsu wnx y.2) ∧ va_S A s.heap H locs ∧ lv_has ls 13 [(5, .int y.1), (4, .int v1), (3, .int v2), (0, .ref (q 0)), (1, .int p1), (2, .int p2)]) (g := fun ls => F0 m 71 ls []) ?_ ?_
        · intro y H locs ls hq
          obtain ⟨hy, hP, hD, hS, hl⟩ := hq
          subst hy
          have hl : lv_has ls 13 [(5, .int u77.1), (4, .int v1), (3, .int v2), (0, .ref (q 0)), (1, .int p1), (2, .int p2)] := hl
          refine lv_iinc (v := (v2 + (1 : Int32))) (lv' := [(3, .int (v2 + (1 : Int32))), (5, .int u77.1), (4, .int v1), (0, .ref (q 0)), (1, .int p1), (2, .int p2)]) hx hb dX6_rank_71 hl (k := 2) rfl rfl (by decide) rfl (fun ls hl => ?_)
          refine lv_iinc (v := (v1 + (1 : Int32))) (lv' := [(4, .int (v1 + (1 : Int32))), (3, .int (v2 + (1 : Int32))), (5, .int u77.1), (0, .ref (q 0)), (1, .int p1), (2, .int p2)]) hx hb dX6_rank_74 hl (k := 2) rfl rfl (by decide) rfl (fun ls hl => ?_)
          refine lv_goto (tgt := 5) hx hb dX6_rank_77 (by decide) ?_
          exact ih71 _ _ _ _ (Option.some.inj h).symm ⟨hP, hD, hS, lv_sub hl [0, 1, 3, 4, 5] rfl⟩
        · intro K79
          refine W_lp (body := (fun (st : (Int32 × (Nat → Int64))) => fX6_rank_L29 p2 v2 wwl v1 st.1 st.2)) (P := fun (st : (Int32 × (Nat → Int64))) H locs ls => va_P D vwCl (WM_ q cI cJ cZ wwd wmn wod wsm wnm wwl wif wev wne wsu wnx st.2) H ∧ va_D A (WM_ q cI cJ cZ wwd wmn wod wsm wnm wwl wif wev wne wsu wnx st.2) ∧ va_S A s.heap H locs ∧ lv_has ls 13 [(5, .int st.1), (4, .int v1), (3, .int v2), (0, .ref (q 0)), (1, .int p1), (2, .int p2)]) (g := fun _ ls => F0 m 29 ls []) (r := u77) ?_ fu_ ((0 : Int32), v3) _ _ _ e78 ⟨hP, hD, hS, lv_sub hl [0, 1, 2, 3, 4, 5] rfl⟩
          intro st xx83 H locs ls h hq ih82 hR81
          obtain ⟨hP, hD, hS, hl⟩ := hq
          obtain ⟨v75, v76⟩ := st
          have hP : va_P D vwCl (WM_ q cI cJ cZ wwd wmn wod wsm wnm wwl wif wev wne wsu wnx v76) H := hP
          have hD : va_D A (WM_ q cI cJ cZ wwd wmn wod wsm wnm wwl wif wev wne wsu wnx v76) := hD
          have hl : lv_has ls 13 [(5, .int v75), (4, .int v1), (3, .int v2), (0, .ref (q 0)), (1, .int p1), (2, .int p2)] := hl
          have h : fX6_rank_L29 p2 v2 wwl v1 v75 v76 = some xx83 := h
          unfold fX6_rank_L29 at h
          refine lv_iload hx hb dX6_rank_29 (lv_at hl 0 rfl) ?_
          refine lv_iconst (v := (4 : Int32)) hx hb dX6_rank_31 (by decide) ?_
          refine lv_icmp_ge (tgt := 71) hx hb dX6_rank_32 (by decide) (fun c84 => ?_) (fun c84 => ?_)
          · have h := (if_pos c84).symm.trans h
            exact K79 _ _ _ _ ⟨(hR81 _ (Option.some.inj h).symm).symm, hP, hD, hS, lv_sub hl [0, 1, 2, 3, 4, 5] rfl⟩
          · have h := (if_neg c84).symm.trans h
            refine lv_aload_n hx hb dX6_rank_35 rfl (lv_at hl 3 rfl) ?_
            refine va_get (D := D) (ci := 6) (v := .ref (q 7)) (C := RX6) (T := TX6) (N := 12) hx hb hts wiX6_rank_X6 hown hK hP 0 rfl rfl 11 (by decide) (hts _ wmX6_rank_1) (fun _ h9 => h9) rfl dX6_rank_36 ?_
            refine lv_iconst (v := (4 : Int32)) hx hb dX6_rank_39 (by decide) ?_
            refine lv_iload_n hx hb dX6_rank_40 rfl (lv_at hl 2 rfl) ?_
            refine lv_imul hx hb dX6_rank_41 ?_
            refine lv_iload hx hb dX6_rank_42 (lv_at hl 0 rfl) ?_
            refine lv_iadd hx hb dX6_rank_44 ?_
            refine lv_iload hx hb dX6_rank_45 (lv_at hl 0 rfl) ?_
            refine lv_iload_n hx hb dX6_rank_47 rfl (lv_at hl 5 rfl) ?_
            refine lv_icmp_ge (tgt := 63) hx hb dX6_rank_48 (by decide) (fun c85 => ?_) (fun c85 => ?_)
            · have h := (if_pos c85).symm.trans h
              refine lv_lconst (v := (0 : Int64)) hx hb dX6_rank_63 (by decide) ?_
              obtain ⟨i86, h⟩ := ck_some h
              refine va_last hx hb hK hP hD hS 7 1 rfl rfl i86 dX6_rank_64 (fun H locs hP hD hS => ?_)
              have hP : va_P D vwCl (WM_ q cI cJ cZ wwd wmn wod wsm wnm wwl wif wev wne wsu wnx (vp_updL v76 (((4 : Int32) * v2) + v75).toNatClampNeg (0 : Int64))) H := hP
              have hD : va_D A (WM_ q cI cJ cZ wwd wmn wod wsm wnm wwl wif wev wne wsu wnx (vp_updL v76 (((4 : Int32) * v2) + v75).toNatClampNeg (0 : Int64))) := hD
              refine lv_iinc (v := (v75 + (1 : Int32))) (lv' := [(5, .int (v75 + (1 : Int32))), (4, .int v1), (3, .int v2), (0, .ref (q 0)), (1, .int p1), (2, .int p2)]) hx hb dX6_rank_65 hl (k := 0) rfl rfl (by decide) rfl (fun ls hl => ?_)
              refine lv_goto (tgt := 29) hx hb dX6_rank_68 (by decide) ?_
              exact ih82 _ _ _ _ (Option.some.inj h).symm ⟨hP, hD, hS, lv_sub hl [0, 1, 2, 3, 4, 5] rfl⟩
            · have h := (if_neg c85).symm.trans h
              refine lv_aload_n hx hb dX6_rank_51 rfl (lv_at hl 3 rfl) ?_
              refine lv_iload hx hb dX6_rank_52 (lv_at hl 1 rfl) ?_
              refine lv_iload hx hb dX6_rank_54 (lv_at hl 0 rfl) ?_
              obtain ⟨u87, e88, h⟩ := bd_some h
              refine k_i (va_runV (As := [.int v1, .int v75]) (rest := [.int (((4 : Int32) * v2) + v75), .ref (q 7)]) ⟨hx, hb, hml, hown, hts⟩ (kX6_at l D q cI cJ cZ tP H.size wwd wmn wod wsm wnm wwl wif wev wne wsu wnx v76 v1 v75 u87 e88) (cwV 2 hts gX6_rank_X6_at rfl rfl rfl (by decide +kernel) ⟨Nat.le_of_ble_eq_true rfl, Nat.le_of_ble_eq_true rfl⟩) ⟨cPre_blind, va_recv hK hP (ci := 6) (q0 := 0) rfl rfl, cPre_at hP hK hN hD hS hA hZ⟩ rfl rfl hl.1 rfl (lv_room (Nat.le_of_ble_eq_true rfl)) dX6_rank_56 ⟨Nat.le_of_ble_eq_true rfl, Nat.le_of_ble_eq_true rfl⟩) hD hS hA (fun H locs hP hD hS => ?_)
              refine lv_i2l (v := u87.toInt64) hx hb dX6_rank_59 rfl ?_
              refine lv_goto (tgt := 64) hx hb dX6_rank_60 (by decide) ?_
              obtain ⟨i89, h⟩ := ck_some h
              refine va_last hx hb hK hP hD hS 7 1 rfl rfl i89 dX6_rank_64 (fun H locs hP hD hS => ?_)
              have hP : va_P D vwCl (WM_ q cI cJ cZ wwd wmn wod wsm wnm wwl wif wev wne wsu wnx (vp_updL v76 (((4 : Int32) * v2) + v75).toNatClampNeg u87.toInt64)) H := hP
              have hD : va_D A (WM_ q cI cJ cZ wwd wmn wod wsm wnm wwl wif wev wne wsu wnx (vp_updL v76 (((4 : Int32) * v2) + v75).toNatClampNeg u87.toInt64)) := hD
              refine lv_iinc (v := (v75 + (1 : Int32))) (lv' := [(5, .int (v75 + (1 : Int32))), (4, .int v1), (3, .int v2), (0, .ref (q 0)), (1, .int p1), (2, .int p2)]) hx hb dX6_rank_65 hl (k := 0) rfl rfl (by decide) rfl (fun ls hl => ?_)
              refine lv_goto (tgt := 29) hx hb dX6_rank_68 (by decide) ?_
              exact ih82 _ _ _ _ (Option.some.inj h).symm ⟨hP, hD, hS, lv_sub hl [0, 1, 2, 3, 4, 5] rfl⟩
      · have h := (if_pos c74).symm.trans h
        refine lv_goto (tgt := 74) hx hb dX6_rank_23 (by decide) ?_
        refine lv_iinc (v := (v1 + (1 : Int32))) (lv' := [(4, .int (v1 + (1 : Int32))), (3, .int v2), (0, .ref (q 0)), (1, .int p1), (2, .int p2)]) hx hb dX6_rank_74 hl (k := 0) rfl rfl (by decide) rfl (fun ls hl => ?_)
        refine lv_goto (tgt := 5) hx hb dX6_rank_77 (by decide) ?_
        exact ih71 _ _ _ _ (Option.some.inj h).symm ⟨hP, hD, hS, lv_sub hl [0, 1, 2, 3, 4] rfl⟩

-- X6_meets
set_option maxHeartbeats 8000000 in
set_option maxRecDepth 100000 in
theorem kX6_meets (l : Launch) (D : va_G) (q : Nat → Nat) (cI cJ cZ : ClassId) (tP sz : Nat) (wwd : Int32) (wmn : Int32) (wod : Int32) (wsm : Int32) (wnm : Int32) (wwl : (Nat → Int32)) (wif : (Nat → Int32)) (wev : (Nat → Int32)) (wne : (Nat → Int32)) (wsu : (Nat → Int64)) (wnx : (Nat → Int64)) (wta : (Nat → Int64)) (p1 : Int32) (uu : (Int32 × (Nat → Int64))) (h : fX6_meets wmn wwl wta p1 = some uu) : Met l yX6_meets wsX6_meets ({ frames := 2, cells := 0, slots := 0, locals := 54 }) (cPre D cI cJ cZ tP (WM_ q cI cJ cZ wwd wmn wod wsm wnm wwl wif wev wne wsu wnx wta) sz [.ref (q 0), .int p1]) (cQi D (va_A (WM_ q cI cJ cZ wwd wmn wod wsm wnm wwl wif wev wne wsu wnx wta) sz) (WM_ q cI cJ cZ wwd wmn wod wsm wnm wwl wif wev wne wsu wnx uu.2) uu.1) 0 0 (va_A (WM_ q cI cJ cZ wwd wmn wod wsm wnm wwl wif wev wne wsu wnx wta) sz) := by
  refine Met.ofW (cc := cX6_meets) (maxL := 2) (ret := (some .boolean)) (by decide) rfl ?_
  intro p e s m args below meth c s₁ B hml hv
  obtain ⟨rfl, hsz, hP, hK, hN, hD0, hZ⟩ := hv
  have hx := B.exec
  have hb := B.bytes
  have hr := B.returns
  have hts := atoms_spec (ws := wsX6_meets) B.pre
  have hown : s.vm.findClass RX6 = some m.cls := findClass_of_methodNamed B.named
  have hlocks := B.notSynchronized
  subst hsz
  have hD := hD0.self (sz := s.heap.size)
  generalize hAe : va_A (WM_ q cI cJ cZ wwd wmn wod wsm wnm wwl wif wev wne wsu wnx wta) s.heap.size = A at hD hZ ⊢
  have hA : ∀ q : Nat, s.heap.size ≤ q → A q := fun q h => by rw [← hAe]; exact Or.inr h
  have hS : va_S A s.heap s.heap [] := va_S.rf
  have hl := lv_entry ([.ref (q 0), .int p1]) (n := 2) (Nat.le_of_ble_eq_true rfl)
  rw [lg_entry_eq]
  generalize (lg_sl ([.ref (q 0), .int p1]) ++ List.replicate (2 - (lg_sl ([.ref (q 0), .int p1])).length) Slot.unset).toArray = ls at hl ⊢
  have hl : lv_has ls 2 [(0, .ref (q 0)), (1, .int p1)] := hl
  unfold fX6_meets at h
  refine lv_aload_n hx hb dX6_meets_0 rfl (lv_at hl 0 rfl) ?_
  refine lv_iload_n hx hb dX6_meets_1 rfl (lv_at hl 1 rfl) ?_
  refine lv_iconst (v := (4 : Int32)) hx hb dX6_meets_2 (by decide) ?_
  obtain ⟨u1, e2, h⟩ := bd_some h
  refine k_i (va_runV (As := [.int p1, .int (4 : Int32)]) (rest := []) ⟨hx, hb, hml, hown, hts⟩ (kX6_rank l D q cI cJ cZ tP s.heap.size wwd wmn wod wsm wnm wwl wif wev wne wsu wnx wta p1 (4 : Int32) u1 e2) (cwV 2 hts gX6_meets_X6_rank rfl rfl rfl (by decide +kernel) ⟨Nat.le_of_ble_eq_true rfl, Nat.le_of_ble_eq_true rfl⟩) ⟨cPre_blind, va_recv hK hP (ci := 6) (q0 := 0) rfl rfl, cPre_at hP hK hN hD hS hA hZ⟩ rfl rfl hl.1 rfl (lv_room (Nat.le_of_ble_eq_true rfl)) dX6_meets_3 ⟨Nat.le_of_ble_eq_true rfl, Nat.le_of_ble_eq_true rfl⟩) hD hS hA (fun H locs hP hD hS => ?_)
  refine lv_aload_n hx hb dX6_meets_6 rfl (lv_at hl 0 rfl) ?_
  refine lv_iload_n hx hb dX6_meets_7 rfl (lv_at hl 1 rfl) ?_
  refine lv_iconst (v := (3 : Int32)) hx hb dX6_meets_8 (by decide) ?_
  obtain ⟨u3, e4, h⟩ := bd_some h
  refine k_i (va_runV (As := [.int p1, .int (3 : Int32)]) (rest := [.int u1.1]) ⟨hx, hb, hml, hown, hts⟩ (kX6_rank l D q cI cJ cZ tP H.size wwd wmn wod wsm wnm wwl wif wev wne wsu wnx u1.2 p1 (3 : Int32) u3 e4) (cwV 2 hts gX6_meets_X6_rank rfl rfl rfl (by decide +kernel) ⟨Nat.le_of_ble_eq_true rfl, Nat.le_of_ble_eq_true rfl⟩) ⟨cPre_blind, va_recv hK hP (ci := 6) (q0 := 0) rfl rfl, cPre_at hP hK hN hD hS hA hZ⟩ rfl rfl hl.1 rfl (lv_room (Nat.le_of_ble_eq_true rfl)) dX6_meets_9 ⟨Nat.le_of_ble_eq_true rfl, Nat.le_of_ble_eq_true rfl⟩) hD hS hA (fun H locs hP hD hS => ?_)
  refine lv_icmp_ne (tgt := 19) hx hb dX6_meets_12 (by decide) (fun c5 => ?_) (fun c5 => ?_)
  · have h := (if_neg c5).symm.trans h
    refine lv_iconst (v := (0 : Int32)) hx hb dX6_meets_19 (by decide) ?_
    obtain rfl := Option.some.inj h
    exact W.zret (v := (0 : Int32)) hx hb hr (by decide) (fun t ht hW => ⟨⟨(0 : Int32), (), rfl, rfl, by rw [ht]; exact hP, hD⟩, hS.F ht⟩) hS.2.2 dX6_meets_20
  · have h := (if_pos c5).symm.trans h
    refine lv_iconst (v := (1 : Int32)) hx hb dX6_meets_15 (by decide) ?_
    refine lv_goto (tgt := 20) hx hb dX6_meets_16 (by decide) ?_
    obtain rfl := Option.some.inj h
    exact W.zret (v := (1 : Int32)) hx hb hr (by decide) (fun t ht hW => ⟨⟨(1 : Int32), (), rfl, rfl, by rw [ht]; exact hP, hD⟩, hS.F ht⟩) hS.2.2 dX6_meets_20

-- X6_onWalls
theorem wmX6_onWalls_0 : (.fieldLink RX6 49 "SpaceWallsModel" "many" "I" : Cond) ∈ wsX6_onWalls := by decide +kernel
theorem wiX6_onWalls_X6 : ∀ w ∈ u_ws RX6 TX6 12, w ∈ wsX6_onWalls := by decide +kernel
set_option maxHeartbeats 8000000 in
set_option maxRecDepth 100000 in
theorem kX6_onWalls (l : Launch) (D : va_G) (q : Nat → Nat) (cI cJ cZ : ClassId) (tP sz : Nat) (wwd : Int32) (wmn : Int32) (wod : Int32) (wsm : Int32) (wnm : Int32) (wwl : (Nat → Int32)) (wif : (Nat → Int32)) (wev : (Nat → Int32)) (wne : (Nat → Int32)) (wsu : (Nat → Int64)) (wnx : (Nat → Int64)) (wta : (Nat → Int64)) (p1 : Int32) (uu : Int32) (h : fX6_onWalls wmn p1 = some uu) : Met l yX6_onWalls wsX6_onWalls ({ frames := 2, cells := 0, slots := 0, locals := 43 }) (cPre D cI cJ cZ tP (WM_ q cI cJ cZ wwd wmn wod wsm wnm wwl wif wev wne wsu wnx wta) sz [.ref (q 0), .int p1]) (cQi D (va_A (WM_ q cI cJ cZ wwd wmn wod wsm wnm wwl wif wev wne wsu wnx wta) sz) (WM_ q cI cJ cZ wwd wmn wod wsm wnm wwl wif wev wne wsu wnx wta) uu) 0 0 (va_A (WM_ q cI cJ cZ wwd wmn wod wsm wnm wwl wif wev wne wsu wnx wta) sz) := by
  refine Met.ofW (cc := cX6_onWalls) (maxL := 4) (ret := (some .int)) (by decide) rfl ?_
  intro p e s m args below meth c s₁ B hml hv
  obtain ⟨rfl, hsz, hP, hK, hN, hD0, hZ⟩ := hv
  have hx := B.exec
  have hb := B.bytes
  have hr := B.returns
  have hts := atoms_spec (ws := wsX6_onWalls) B.pre
  have hown : s.vm.findClass RX6 = some m.cls := findClass_of_methodNamed B.named
  have hlocks := B.notSynchronized
  subst hsz
  have hD := hD0.self (sz := s.heap.size)
  generalize hAe : va_A (WM_ q cI cJ cZ wwd wmn wod wsm wnm wwl wif wev wne wsu wnx wta) s.heap.size = A at hD hZ ⊢
  have hA : ∀ q : Nat, s.heap.size ≤ q → A q := fun q h => by rw [← hAe]; exact Or.inr h
  have hS : va_S A s.heap s.heap [] := va_S.rf
  have hl := lv_entry ([.ref (q 0), .int p1]) (n := 4) (Nat.le_of_ble_eq_true rfl)
  rw [lg_entry_eq]
  generalize (lg_sl ([.ref (q 0), .int p1]) ++ List.replicate (4 - (lg_sl ([.ref (q 0), .int p1])).length) Slot.unset).toArray = ls at hl ⊢
  have hl : lv_has ls 4 [(0, .ref (q 0)), (1, .int p1)] := hl
  unfold fX6_onWalls at h
  refine lv_iconst (v := (0 : Int32)) hx hb dX6_onWalls_0 (by decide) ?_
  refine lv_istore_n (lv' := [(2, .int (0 : Int32)), (0, .ref (q 0)), (1, .int p1)]) hx hb dX6_onWalls_1 rfl hl (by decide) rfl (fun ls hl => ?_)
  refine lv_iconst (v := (0 : Int32)) hx hb dX6_onWalls_2 (by decide) ?_
  refine lv_istore_n (lv' := [(3, .int (0 : Int32)), (2, .int (0 : Int32)), (0, .ref (q 0)), (1, .int p1)]) hx hb dX6_onWalls_3 rfl hl (by decide) rfl (fun ls hl => ?_)
  obtain ⟨u3, e4, h⟩ := bd_some h
  refine W_leave (P := fun (y : (Int32 × Int32)) H locs ls => u3 = y ∧ va_P D vwCl (WM_ q cI cJ cZ wwd wmn wod wsm wnm wwl wif wev wne wsu wnx wta) H ∧ va_D A (WM_ q cI cJ cZ wwd wmn wod wsm wnm wwl wif wev wne wsu wnx wta) ∧ va_S A s.heap H locs ∧ lv_has ls 4 [(3, .int y.1), (2, .int y.2), (0, .ref (q 0)), (1, .int p1)]) (g := fun ls => F0 m 37 ls []) ?_ ?_
  · intro y H locs ls hq
    obtain ⟨hy, hP, hD, hS, hl⟩ := hq
    subst hy
    have hl : lv_has ls 4 [(3, .int u3.1), (2, .int u3.2), (0, .ref (q 0)), (1, .int p1)] := hl
    refine lv_iload_n hx hb dX6_onWalls_37 rfl (lv_at hl 1 rfl) ?_
    obtain rfl := Option.some.inj h
    exact W.iret (v := u3.2) hx hb hr (fun t ht hW => ⟨⟨u3.2, (), rfl, rfl, by rw [ht]; exact hP, hD⟩, hS.F ht⟩) hS.2.2 dX6_onWalls_38
  · intro K5
    refine W_lp (body := (fun (st : (Int32 × Int32)) => fX6_onWalls_L4 wmn p1 st.1 st.2)) (P := fun (st : (Int32 × Int32)) H locs ls => va_P D vwCl (WM_ q cI cJ cZ wwd wmn wod wsm wnm wwl wif wev wne wsu wnx wta) H ∧ va_D A (WM_ q cI cJ cZ wwd wmn wod wsm wnm wwl wif wev wne wsu wnx wta) ∧ va_S A s.heap H locs ∧ lv_has ls 4 [(3, .int st.1), (2, .int st.2), (0, .ref (q 0)), (1, .int p1)]) (g := fun _ ls => F0 m 4 ls []) (r := u3) ?_ fu_ ((0 : Int32), (0 : Int32)) _ _ _ e4 ⟨hP, hD, hS, lv_sub hl [0, 1, 2, 3] rfl⟩
    intro st xx9 H locs ls h hq ih8 hR7
    obtain ⟨hP, hD, hS, hl⟩ := hq
    obtain ⟨v1, v2⟩ := st
    have hP : va_P D vwCl (WM_ q cI cJ cZ wwd wmn wod wsm wnm wwl wif wev wne wsu wnx wta) H := hP
    have hD : va_D A (WM_ q cI cJ cZ wwd wmn wod wsm wnm wwl wif wev wne wsu wnx wta) := hD
    have hl : lv_has ls 4 [(3, .int v1), (2, .int v2), (0, .ref (q 0)), (1, .int p1)] := hl
    have h : fX6_onWalls_L4 wmn p1 v1 v2 = some xx9 := h
    unfold fX6_onWalls_L4 at h
    refine lv_iload_n hx hb dX6_onWalls_4 rfl (lv_at hl 0 rfl) ?_
    refine lv_aload_n hx hb dX6_onWalls_5 rfl (lv_at hl 2 rfl) ?_
    refine va_get (D := D) (ci := 6) (v := .int wmn) (C := RX6) (T := TX6) (N := 12) hx hb hts wiX6_onWalls_X6 hown hK hP 0 rfl rfl 1 (by decide) (hts _ wmX6_onWalls_0) (fun _ h9 => h9) rfl dX6_onWalls_6 ?_
    refine lv_icmp_ge (tgt := 37) hx hb dX6_onWalls_9 (by decide) (fun c10 => ?_) (fun c10 => ?_)
    · have h := (if_pos c10).symm.trans h
      exact K5 _ _ _ _ ⟨(hR7 _ (Option.some.inj h).symm).symm, hP, hD, hS, lv_sub hl [0, 1, 2, 3] rfl⟩
    · have h := (if_neg c10).symm.trans h
      refine lv_iload_n hx hb dX6_onWalls_12 rfl (lv_at hl 1 rfl) ?_
      refine lv_iload_n hx hb dX6_onWalls_13 rfl (lv_at hl 3 rfl) ?_
      refine lv_iload_n hx hb dX6_onWalls_14 rfl (lv_at hl 0 rfl) ?_
      obtain ⟨u11, e12, h⟩ := bd_some h
      refine k_i0 (va_runS (As := [.int p1, .int v1]) (rest := [.int v2]) ⟨hx, hb, hml, hown, hts⟩ (kX6_sign l D cI cJ cZ tP H.size  p1 v1 u11 e12) (va_cwS 2 hts gX6_onWalls_X6_sign rfl rfl rfl (by decide +kernel) ⟨Nat.le_of_ble_eq_true rfl, Nat.le_of_ble_eq_true rfl⟩) ⟨cPre_blind, cPre_at0 hK hN hS hA hZ⟩ rfl rfl hl.1 rfl (lv_room (Nat.le_of_ble_eq_true rfl)) dX6_onWalls_15 ⟨Nat.le_of_ble_eq_true rfl, Nat.le_of_ble_eq_true rfl⟩) hP hS hA (fun H locs hP hS => ?_)
      refine lv_iconst (v := (1 : Int32)) hx hb dX6_onWalls_18 (by decide) ?_
      refine lv_icmp_ne (tgt := 28) hx hb dX6_onWalls_19 (by decide) (fun c13 => ?_) (fun c13 => ?_)
      · have h := (if_neg c13).symm.trans h
        refine lv_iconst (v := (0 : Int32)) hx hb dX6_onWalls_28 (by decide) ?_
        refine lv_ior hx hb dX6_onWalls_29 ?_
        refine lv_istore_n (lv' := [(2, .int (v2 ||| (0 : Int32))), (3, .int v1), (0, .ref (q 0)), (1, .int p1)]) hx hb dX6_onWalls_30 rfl hl (by decide) rfl (fun ls hl => ?_)
        refine lv_iinc (v := (v1 + (1 : Int32))) (lv' := [(3, .int (v1 + (1 : Int32))), (2, .int (v2 ||| (0 : Int32))), (0, .ref (q 0)), (1, .int p1)]) hx hb dX6_onWalls_31 hl (k := 1) rfl rfl (by decide) rfl (fun ls hl => ?_)
        refine lv_goto (tgt := 4) hx hb dX6_onWalls_34 (by decide) ?_
        exact ih8 _ _ _ _ (Option.some.inj h).symm ⟨hP, hD, hS, lv_sub hl [0, 1, 2, 3] rfl⟩
      · have h := (if_pos c13).symm.trans h
        refine lv_iconst (v := (1 : Int32)) hx hb dX6_onWalls_22 (by decide) ?_
        refine lv_iload_n hx hb dX6_onWalls_23 rfl (lv_at hl 0 rfl) ?_
        refine lv_ishl hx hb dX6_onWalls_24 ?_
        refine lv_goto (tgt := 29) hx hb dX6_onWalls_25 (by decide) ?_
        refine lv_ior hx hb dX6_onWalls_29 ?_
        refine lv_istore_n (lv' := [(2, .int (v2 ||| ((1 : Int32) <<< (v1 &&& 31)))), (3, .int v1), (0, .ref (q 0)), (1, .int p1)]) hx hb dX6_onWalls_30 rfl hl (by decide) rfl (fun ls hl => ?_)
        refine lv_iinc (v := (v1 + (1 : Int32))) (lv' := [(3, .int (v1 + (1 : Int32))), (2, .int (v2 ||| ((1 : Int32) <<< (v1 &&& 31)))), (0, .ref (q 0)), (1, .int p1)]) hx hb dX6_onWalls_31 hl (k := 1) rfl rfl (by decide) rfl (fun ls hl => ?_)
        refine lv_goto (tgt := 4) hx hb dX6_onWalls_34 (by decide) ?_
        exact ih8 _ _ _ _ (Option.some.inj h).symm ⟨hP, hD, hS, lv_sub hl [0, 1, 2, 3] rfl⟩
