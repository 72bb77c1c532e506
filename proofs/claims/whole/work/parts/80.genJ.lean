-- X6_isSame
theorem wmX6_isSame_0 : (.arrayClass .int : Cond) ∈ wsX6_isSame := by decide +kernel
set_option maxHeartbeats 8000000 in
set_option maxRecDepth 100000 in
theorem kX6_isSame (l : Launch) (D : va_G) (q : Nat → Nat) (cI cJ cZ : ClassId) (tP sz : Nat) (wwd : Int32) (wmn : Int32) (wod : Int32) (wsm : Int32) (wnm : Int32) (wwl : (Nat → Int32)) (wif : (Nat → Int32)) (wev : (Nat → Int32)) (wne : (Nat → Int32)) (wsu : (Nat → Int64)) (wnx : (Nat → Int64)) (wta : (Nat → Int64)) (p1 : Int32) (p2 : Int32) (p3 : Int32) (p4 : Int32) (p5 : Int32) (uu : Int32) (h : fX6_isSame wwl p1 p2 p3 p4 p5 = some uu) : Met l yX6_isSame wsX6_isSame ({ frames := 1, cells := 1, slots := 4, locals := 22 }) (cPre D cI cJ cZ tP (WM_ q cI cJ cZ wwd wmn wod wsm wnm wwl wif wev wne wsu wnx wta) sz [.ref (q 0), .int p1, .int p2, .int p3, .int p4, .int p5]) (cQi D (va_A (WM_ q cI cJ cZ wwd wmn wod wsm wnm wwl wif wev wne wsu wnx wta) sz) (WM_ q cI cJ cZ wwd wmn wod wsm wnm wwl wif wev wne wsu wnx wta) uu) 1 4 (va_A (WM_ q cI cJ cZ wwd wmn wod wsm wnm wwl wif wev wne wsu wnx wta) sz) := by
  refine Met.ofW (cc := cX6_isSame) (maxL := 9) (ret := (some .boolean)) (by decide) rfl ?_
  intro p e s m args below meth c s₁ B hml hv
  obtain ⟨rfl, hsz, hP, hK, hN, hD0, hZ⟩ := hv
  have hx := B.exec
  have hb := B.bytes
  have hr := B.returns
  have hts := atoms_spec (ws := wsX6_isSame) B.pre
  have hown : s.vm.findClass RX6 = some m.cls := findClass_of_methodNamed B.named
  have hlocks := B.notSynchronized
  subst hsz
  have hD := hD0.self (sz := s.heap.size)
  generalize hAe : va_A (WM_ q cI cJ cZ wwd wmn wod wsm wnm wwl wif wev wne wsu wnx wta) s.heap.size = A at hD hZ ⊢
  have hA : ∀ q : Nat, s.heap.size ≤ q → A q := fun q h => by rw [← hAe]; exact Or.inr h
  have hS : va_S A s.heap s.heap [] := va_S.rf
  have hl := lv_entry ([.ref (q 0), .int p1, .int p2, .int p3, .int p4, .int p5]) (n := 9) (Nat.le_of_ble_eq_true rfl)
  rw [lg_entry_eq]
  generalize (lg_sl ([.ref (q 0), .int p1, .int p2, .int p3, .int p4, .int p5]) ++ List.replicate (9 - (lg_sl ([.ref (q 0), .int p1, .int p2, .int p3, .int p4, .int p5])).length) Slot.unset).toArray = ls at hl ⊢
  have hl : lv_has ls 9 [(0, .ref (q 0)), (1, .int p1), (2, .int p2), (3, .int p3), (4, .int p4), (5, .int p5)] := hl
  unfold fX6_isSame at h
  refine lv_iconst (v := (4 : Int32)) hx hb dX6_isSame_0 (by decide) ?_
  refine k_newI (n := (4 : Int32)) (N := 4) hx hb (hts _ wmX6_isSame_0) hK hP hD hS hA (by decide) rfl (by decide) (Nat.le_of_ble_eq_true rfl) (Nat.le_of_ble_eq_true rfl) dX6_isSame_1 (fun tq H hP hD hS => ?_)
  have hP : va_P D vwCl ((WM_ q cI cJ cZ wwd wmn wod wsm wnm wwl wif wev wne wsu wnx wta) ++ [(tq, .inl (cI, 4, .inl (fun (_ : Nat) => (0 : Int32))))]) H := hP
  have hD : va_D A ((WM_ q cI cJ cZ wwd wmn wod wsm wnm wwl wif wev wne wsu wnx wta) ++ [(tq, .inl (cI, 4, .inl (fun (_ : Nat) => (0 : Int32))))]) := hD
  refine lv_dup hx hb dX6_isSame_3 rfl ?_
  refine lv_iconst (v := (0 : Int32)) hx hb dX6_isSame_4 (by decide) ?_
  refine lv_iload_n hx hb dX6_isSame_5 rfl (lv_at hl 2 rfl) ?_
  obtain ⟨i1, h⟩ := ck_some h
  refine va_iast hx hb hK hP hD hS 8 0 rfl rfl i1 dX6_isSame_6 (fun H locs hP hD hS => ?_)
  have hP : va_P D vwCl ((WM_ q cI cJ cZ wwd wmn wod wsm wnm wwl wif wev wne wsu wnx wta) ++ [(tq, .inl (cI, 4, .inl (upd (fun (_ : Nat) => (0 : Int32)) (0 : Int32).toNatClampNeg p2)))]) H := hP
  have hD : va_D A ((WM_ q cI cJ cZ wwd wmn wod wsm wnm wwl wif wev wne wsu wnx wta) ++ [(tq, .inl (cI, 4, .inl (upd (fun (_ : Nat) => (0 : Int32)) (0 : Int32).toNatClampNeg p2)))]) := hD
  refine lv_dup hx hb dX6_isSame_7 rfl ?_
  refine lv_iconst (v := (1 : Int32)) hx hb dX6_isSame_8 (by decide) ?_
  refine lv_iload_n hx hb dX6_isSame_9 rfl (lv_at hl 3 rfl) ?_
  obtain ⟨i2, h⟩ := ck_some h
  refine va_iast hx hb hK hP hD hS 8 0 rfl rfl i2 dX6_isSame_10 (fun H locs hP hD hS => ?_)
  have hP : va_P D vwCl ((WM_ q cI cJ cZ wwd wmn wod wsm wnm wwl wif wev wne wsu wnx wta) ++ [(tq, .inl (cI, 4, .inl (upd (upd (fun (_ : Nat) => (0 : Int32)) (0 : Int32).toNatClampNeg p2) (1 : Int32).toNatClampNeg p3)))]) H := hP
  have hD : va_D A ((WM_ q cI cJ cZ wwd wmn wod wsm wnm wwl wif wev wne wsu wnx wta) ++ [(tq, .inl (cI, 4, .inl (upd (upd (fun (_ : Nat) => (0 : Int32)) (0 : Int32).toNatClampNeg p2) (1 : Int32).toNatClampNeg p3)))]) := hD
  refine lv_dup hx hb dX6_isSame_11 rfl ?_
  refine lv_iconst (v := (2 : Int32)) hx hb dX6_isSame_12 (by decide) ?_
  refine lv_iload hx hb dX6_isSame_13 (lv_at hl 4 rfl) ?_
  obtain ⟨i3, h⟩ := ck_some h
  refine va_iast hx hb hK hP hD hS 8 0 rfl rfl i3 dX6_isSame_15 (fun H locs hP hD hS => ?_)
  have hP : va_P D vwCl ((WM_ q cI cJ cZ wwd wmn wod wsm wnm wwl wif wev wne wsu wnx wta) ++ [(tq, .inl (cI, 4, .inl (upd (upd (upd (fun (_ : Nat) => (0 : Int32)) (0 : Int32).toNatClampNeg p2) (1 : Int32).toNatClampNeg p3) (2 : Int32).toNatClampNeg p4)))]) H := hP
  have hD : va_D A ((WM_ q cI cJ cZ wwd wmn wod wsm wnm wwl wif wev wne wsu wnx wta) ++ [(tq, .inl (cI, 4, .inl (upd (upd (upd (fun (_ : Nat) => (0 : Int32)) (0 : Int32).toNatClampNeg p2) (1 : Int32).toNatClampNeg p3) (2 : Int32).toNatClampNeg p4)))]) := hD
  refine lv_dup hx hb dX6_isSame_16 rfl ?_
  refine lv_iconst (v := (3 : Int32)) hx hb dX6_isSame_17 (by decide) ?_
  refine lv_iload hx hb dX6_isSame_18 (lv_at hl 5 rfl) ?_
  obtain ⟨i4, h⟩ := ck_some h
  refine va_iast hx hb hK hP hD hS 8 0 rfl rfl i4 dX6_isSame_20 (fun H locs hP hD hS => ?_)
  have hP : va_P D vwCl ((WM_ q cI cJ cZ wwd wmn wod wsm wnm wwl wif wev wne wsu wnx wta) ++ [(tq, .inl (cI, 4, .inl (upd (upd (upd (upd (fun (_ : Nat) => (0 : Int32)) (0 : Int32).toNatClampNeg p2) (1 : Int32).toNatClampNeg p3) (2 : Int32).toNatClampNeg p4) (3 : Int32).toNatClampNeg p5)))]) H := hP
  have hD : va_D A ((WM_ q cI cJ cZ wwd wmn wod wsm wnm wwl wif wev wne wsu wnx wta) ++ [(tq, .inl (cI, 4, .inl (upd (upd (upd (upd (fun (_ : Nat) => (0 : Int32)) (0 : Int32).toNatClampNeg p2) (1 : Int32).toNatClampNeg p3) (2 : Int32).toNatClampNeg p4) (3 : Int32).toNatClampNeg p5)))]) := hD
  obtain ⟨tf5, etf5⟩ : ∃ f : Nat → Int32, f = (upd (upd (upd (upd (fun (_ : Nat) => (0 : Int32)) (0 : Int32).toNatClampNeg p2) (1 : Int32).toNatClampNeg p3) (2 : Int32).toNatClampNeg p4) (3 : Int32).toNatClampNeg p5) := ⟨_, rfl⟩
  have h := nm_some etf5 h
  have hP : va_P D vwCl ((WM_ q cI cJ cZ wwd wmn wod wsm wnm wwl wif wev wne wsu wnx wta) ++ [(tq, .inl (cI, 4, .inl tf5))]) H := by rw [etf5]; exact hP
  have hD : va_D A ((WM_ q cI cJ cZ wwd wmn wod wsm wnm wwl wif wev wne wsu wnx wta) ++ [(tq, .inl (cI, 4, .inl tf5))]) := by rw [etf5]; exact hD
  refine lv_astore (lv' := [(6, .ref tq), (0, .ref (q 0)), (1, .int p1), (2, .int p2), (3, .int p3), (4, .int p4), (5, .int p5)]) hx hb dX6_isSame_21 hl (by decide) rfl (fun ls hl => ?_)
  refine lv_iconst (v := (0 : Int32)) hx hb dX6_isSame_23 (by decide) ?_
  refine lv_istore (lv' := [(7, .int (0 : Int32)), (6, .ref tq), (0, .ref (q 0)), (1, .int p1), (2, .int p2), (3, .int p3), (4, .int p4), (5, .int p5)]) hx hb dX6_isSame_24 hl (by decide) rfl (fun ls hl => ?_)
  obtain ⟨u7, e8, h⟩ := bd_some h
  have KR10 : ∀ y12, Sum.inr y12 = u7 → y12 = uu := by
    intro y12 hy
    subst hy
    have h := se_inr h
    exact Option.some.inj h
  refine W_leave (P := fun (y : Int32) H locs ls => u7 = Sum.inl y ∧ va_P D vwCl ((WM_ q cI cJ cZ wwd wmn wod wsm wnm wwl wif wev wne wsu wnx wta) ++ [(tq, .inl (cI, 4, .inl tf5))]) H ∧ va_D A ((WM_ q cI cJ cZ wwd wmn wod wsm wnm wwl wif wev wne wsu wnx wta) ++ [(tq, .inl (cI, 4, .inl tf5))]) ∧ va_S A s.heap H locs ∧ lv_has ls 9 [(7, .int y), (6, .ref tq), (0, .ref (q 0)), (1, .int p1), (2, .int p2), (3, .int p3), (4, .int p4), (5, .int p5)]) (g := fun ls => F0 m 84 ls []) ?_ ?_
  · intro x11 H locs ls hq
    obtain ⟨hy, hP, hD, hS, hl⟩ := hq
    subst hy
    have h := se_inl h
    refine lv_iconst (v := (1 : Int32)) hx hb dX6_isSame_84 (by decide) ?_
    obtain rfl := Option.some.inj h
    exact W.zret (v := (1 : Int32)) hx hb hr (by decide) (fun t ht hW => ⟨⟨(1 : Int32), (), rfl, rfl, by rw [ht]; exact va_P_l hP, va_D_l hD⟩, hS.F ht⟩) hS.2.2 dX6_isSame_85
  · intro K9
    refine W_lp (body := (fun (st : Int32) => fX6_isSame_L26 wwl p1 tf5 st)) (P := fun (st : Int32) H locs ls => va_P D vwCl ((WM_ q cI cJ cZ wwd wmn wod wsm wnm wwl wif wev wne wsu wnx wta) ++ [(tq, .inl (cI, 4, .inl tf5))]) H ∧ va_D A ((WM_ q cI cJ cZ wwd wmn wod wsm wnm wwl wif wev wne wsu wnx wta) ++ [(tq, .inl (cI, 4, .inl tf5))]) ∧ va_S A s.heap H locs ∧ lv_has ls 9 [(7, .int st), (6, .ref tq), (0, .ref (q 0)), (1, .int p1), (2, .int p2), (3, .int p3), (4, .int p4), (5, .int p5)]) (g := fun _ ls => F0 m 26 ls []) (r := u7) ?_ fu_ (0 : Int32) _ _ _ e8 ⟨hP, hD, hS, lv_sub hl [0, 1, 2, 3, 4, 5, 6, 7] rfl⟩
    intro v6 xx15 H locs ls h hq ih14 hR13
    obtain ⟨hP, hD, hS, hl⟩ := hq
    have hP : va_P D vwCl ((WM_ q cI cJ cZ wwd wmn wod wsm wnm wwl wif wev wne wsu wnx wta) ++ [(tq, .inl (cI, 4, .inl tf5))]) H := hP
    have hD : va_D A ((WM_ q cI cJ cZ wwd wmn wod wsm wnm wwl wif wev wne wsu wnx wta) ++ [(tq, .inl (cI, 4, .inl tf5))]) := hD
    have hl : lv_has ls 9 [(7, .int v6), (6, .ref tq), (0, .ref (q 0)), (1, .int p1), (2, .int p2), (3, .int p3), (4, .int p4), (5, .int p5)] := hl
    have h : fX6_isSame_L26 wwl p1 tf5 v6 = some xx15 := h
    unfold fX6_isSame_L26 at h
    refine lv_iload hx hb dX6_isSame_26 (lv_at hl 0 rfl) ?_
    refine lv_iconst (v := (4 : Int32)) hx hb dX6_isSame_28 (by decide) ?_
    refine lv_icmp_ge (tgt := 84) hx hb dX6_isSame_29 (by decide) (fun c16 => ?_) (fun c16 => ?_)
    · have h := (if_pos c16).symm.trans h
      exact K9 _ _ _ _ ⟨(hR13 _ (Option.some.inj h).symm).symm, hP, hD, hS, lv_sub hl [0, 1, 2, 3, 4, 5, 6, 7] rfl⟩
    · have h := (if_neg c16).symm.trans h
      refine lv_iconst (v := (0 : Int32)) hx hb dX6_isSame_32 (by decide) ?_
      refine lv_istore (lv' := [(8, .int (0 : Int32)), (7, .int v6), (6, .ref tq), (0, .ref (q 0)), (1, .int p1), (2, .int p2), (3, .int p3), (4, .int p4), (5, .int p5)]) hx hb dX6_isSame_33 hl (by decide) rfl (fun ls hl => ?_)
      obtain ⟨u18, e19, h⟩ := bd_some h
      have KR21 : ∀ y23, Sum.inr y23 = u18 → y23 = uu := by
        intro y23 hy
        subst hy
        have h := se_inr h
        exact KR10 _ (hR13 _ (Option.some.inj h).symm)
      refine W_leave (P := fun (y : Int32) H locs ls => u18 = Sum.inl y ∧ va_P D vwCl ((WM_ q cI cJ cZ wwd wmn wod wsm wnm wwl wif wev wne wsu wnx wta) ++ [(tq, .inl (cI, 4, .inl tf5))]) H ∧ va_D A ((WM_ q cI cJ cZ wwd wmn wod wsm wnm wwl wif wev wne wsu wnx wta) ++ [(tq, .inl (cI, 4, .inl tf5))]) ∧ va_S A s.heap H locs ∧ lv_has ls 9 [(8, .int y), (7, .int v6), (6, .ref tq), (0, .ref (q 0)), (1, .int p1), (2, .int p2), (3, .int p3), (4, .int p4), (5, .int p5)]) (g := fun ls => F0 m 78 ls []) ?_ ?_
      · intro x22 H locs ls hq
        obtain ⟨hy, hP, hD, hS, hl⟩ := hq
        subst hy
        have h := se_inl h
        refine lv_iinc (v := (v6 + (1 : Int32))) (lv' := [(7, .int (v6 + (1 : Int32))), (8, .int x22), (6, .ref tq), (0, .ref (q 0)), (1, .int p1), (2, .int p2), (3, .int p3), (4, .int p4), (5, .int p5)]) hx hb dX6_isSame_78 hl (k := 1) rfl rfl (by decide) rfl (fun ls hl => ?_)
        refine lv_goto (tgt := 26) hx hb dX6_isSame_81 (by decide) ?_
        exact ih14 _ _ _ _ (Option.some.inj h).symm ⟨hP, hD, hS, lv_sub hl [0, 2, 3, 4, 5, 6, 7, 8] rfl⟩
      · intro K20
        refine W_lp (body := (fun (st : Int32) => fX6_isSame_L35 wwl p1 v6 tf5 st)) (P := fun (st : Int32) H locs ls => va_P D vwCl ((WM_ q cI cJ cZ wwd wmn wod wsm wnm wwl wif wev wne wsu wnx wta) ++ [(tq, .inl (cI, 4, .inl tf5))]) H ∧ va_D A ((WM_ q cI cJ cZ wwd wmn wod wsm wnm wwl wif wev wne wsu wnx wta) ++ [(tq, .inl (cI, 4, .inl tf5))]) ∧ va_S A s.heap H locs ∧ lv_has ls 9 [(8, .int st), (7, .int v6), (6, .ref tq), (0, .ref (q 0)), (1, .int p1), (2, .int p2), (3, .int p3), (4, .int p4), (5, .int p5)]) (g := fun _ ls => F0 m 35 ls []) (r := u18) ?_ fu_ (0 : Int32) _ _ _ e19 ⟨hP, hD, hS, lv_sub hl [0, 1, 2, 3, 4, 5, 6, 7, 8] rfl⟩
        intro v17 xx26 H locs ls h hq ih25 hR24
        obtain ⟨hP, hD, hS, hl⟩ := hq
        have hP : va_P D vwCl ((WM_ q cI cJ cZ wwd wmn wod wsm wnm wwl wif wev wne wsu wnx wta) ++ [(tq, .inl (cI, 4, .inl tf5))]) H := hP
        have hD : va_D A ((WM_ q cI cJ cZ wwd wmn wod wsm wnm wwl wif wev wne wsu wnx wta) ++ [(tq, .inl (cI, 4, .inl tf5))]) := hD
        have hl : lv_has ls 9 [(8, .int v17), (7, .int v6), (6, .ref tq), (0, .ref (q 0)), (1, .int p1), (2, .int p2), (3, .int p3), (4, .int p4), (5, .int p5)] := hl
        have h : fX6_isSame_L35 wwl p1 v6 tf5 v17 = some xx26 := h
        unfold fX6_isSame_L35 at h
        refine lv_iload hx hb dX6_isSame_35 (lv_at hl 0 rfl) ?_
        refine lv_iconst (v := (4 : Int32)) hx hb dX6_isSame_37 (by decide) ?_
        refine lv_icmp_ge (tgt := 78) hx hb dX6_isSame_38 (by decide) (fun c27 => ?_) (fun c27 => ?_)
        · have h := (if_pos c27).symm.trans h
          exact K20 _ _ _ _ ⟨(hR24 _ (Option.some.inj h).symm).symm, hP, hD, hS, lv_sub hl [0, 1, 2, 3, 4, 5, 6, 7, 8] rfl⟩
        · have h := (if_neg c27).symm.trans h
          refine lv_aload_n hx hb dX6_isSame_41 rfl (lv_at hl 3 rfl) ?_
          refine lv_iload_n hx hb dX6_isSame_42 rfl (lv_at hl 4 rfl) ?_
          refine lv_iload hx hb dX6_isSame_43 (lv_at hl 1 rfl) ?_
          obtain ⟨u28, e29, h⟩ := bd_some h
          refine k_iX (va_runV (As := [.int p1, .int v6]) (rest := []) ⟨hx, hb, hml, hown, hts⟩ (kX6_at l D q cI cJ cZ tP H.size wwd wmn wod wsm wnm wwl wif wev wne wsu wnx wta p1 v6 u28 e29) (cwV 2 hts gX6_isSame_X6_at rfl rfl rfl (by decide +kernel) ⟨Nat.le_of_ble_eq_true rfl, Nat.le_of_ble_eq_true rfl⟩) ⟨cPre_blind, va_recv hK (va_P_l hP) (ci := 6) (q0 := 0) rfl rfl, cPre_at (va_P_l hP) hK hN (va_D_l hD) hS hA hZ⟩ rfl rfl hl.1 rfl (lv_room (Nat.le_of_ble_eq_true rfl)) dX6_isSame_45 ⟨Nat.le_of_ble_eq_true rfl, Nat.le_of_ble_eq_true rfl⟩) hP hD hS hA (fun H locs hP hD hS => ?_)
          refine lv_aload hx hb dX6_isSame_48 (lv_at hl 2 rfl) ?_
          refine lv_iload hx hb dX6_isSame_50 (lv_at hl 0 rfl) ?_
          obtain ⟨i30, h⟩ := ck_some h
          refine va_iald hx hb hK hP 8 0 rfl rfl i30 dX6_isSame_52 ?_
          refine lv_imul hx hb dX6_isSame_53 ?_
          refine lv_aload_n hx hb dX6_isSame_54 rfl (lv_at hl 3 rfl) ?_
          refine lv_iload_n hx hb dX6_isSame_55 rfl (lv_at hl 4 rfl) ?_
          refine lv_iload hx hb dX6_isSame_56 (lv_at hl 0 rfl) ?_
          obtain ⟨u31, e32, h⟩ := bd_some h
          refine k_iX (va_runV (As := [.int p1, .int v17]) (rest := [.int (u28 * (tf5 v17.toNatClampNeg))]) ⟨hx, hb, hml, hown, hts⟩ (kX6_at l D q cI cJ cZ tP H.size wwd wmn wod wsm wnm wwl wif wev wne wsu wnx wta p1 v17 u31 e32) (cwV 2 hts gX6_isSame_X6_at rfl rfl rfl (by decide +kernel) ⟨Nat.le_of_ble_eq_true rfl, Nat.le_of_ble_eq_true rfl⟩) ⟨cPre_blind, va_recv hK (va_P_l hP) (ci := 6) (q0 := 0) rfl rfl, cPre_at (va_P_l hP) hK hN (va_D_l hD) hS hA hZ⟩ rfl rfl hl.1 rfl (lv_room (Nat.le_of_ble_eq_true rfl)) dX6_isSame_58 ⟨Nat.le_of_ble_eq_true rfl, Nat.le_of_ble_eq_true rfl⟩) hP hD hS hA (fun H locs hP hD hS => ?_)
          refine lv_aload hx hb dX6_isSame_61 (lv_at hl 2 rfl) ?_
          refine lv_iload hx hb dX6_isSame_63 (lv_at hl 1 rfl) ?_
          obtain ⟨i33, h⟩ := ck_some h
          refine va_iald hx hb hK hP 8 0 rfl rfl i33 dX6_isSame_65 ?_
          refine lv_imul hx hb dX6_isSame_66 ?_
          refine lv_icmp_eq (tgt := 72) hx hb dX6_isSame_67 (by decide) (fun c34 => ?_) (fun c34 => ?_)
          · have h := (if_pos c34).symm.trans h
            refine lv_iinc (v := (v17 + (1 : Int32))) (lv' := [(8, .int (v17 + (1 : Int32))), (7, .int v6), (6, .ref tq), (0, .ref (q 0)), (1, .int p1), (2, .int p2), (3, .int p3), (4, .int p4), (5, .int p5)]) hx hb dX6_isSame_72 hl (k := 0) rfl rfl (by decide) rfl (fun ls hl => ?_)
            refine lv_goto (tgt := 35) hx hb dX6_isSame_75 (by decide) ?_
            exact ih25 _ _ _ _ (Option.some.inj h).symm ⟨hP, hD, hS, lv_sub hl [0, 1, 2, 3, 4, 5, 6, 7, 8] rfl⟩
          · have h := (if_neg c34).symm.trans h
            refine lv_iconst (v := (0 : Int32)) hx hb dX6_isSame_70 (by decide) ?_
            have hu := KR21 _ (hR24 _ (Option.some.inj h).symm)
            subst hu
            exact W.zret (v := (0 : Int32)) hx hb hr (by decide) (fun t ht hW => ⟨⟨(0 : Int32), (), rfl, rfl, by rw [ht]; exact va_P_l hP, va_D_l hD⟩, hS.F ht⟩) hS.2.2 dX6_isSame_71

-- X6_row
theorem wmX6_row_0 : (.arrayClass .int : Cond) ∈ wsX6_row := by decide +kernel
theorem wmX6_row_1 : (.fieldLink RX6 37 "SpaceWallsModel" "wide" "I" : Cond) ∈ wsX6_row := by decide +kernel
theorem wmX6_row_2 : (.constant RX6 60 (-1000000 : Int32) : Cond) ∈ wsX6_row := by decide +kernel
theorem wmX6_row_3 : (.constant RX6 61 (1000000 : Int32) : Cond) ∈ wsX6_row := by decide +kernel
theorem wmX6_row_4 : (.fieldLink RX6 49 "SpaceWallsModel" "many" "I" : Cond) ∈ wsX6_row := by decide +kernel
theorem wiX6_row_X6 : ∀ w ∈ u_ws RX6 TX6 12, w ∈ wsX6_row := by decide +kernel
set_option maxHeartbeats 8000000 in
set_option maxRecDepth 100000 in
theorem kX6_row (l : Launch) (D : va_G) (q : Nat → Nat) (cI cJ cZ : ClassId) (tP sz : Nat) (wwd : Int32) (wmn : Int32) (wod : Int32) (wsm : Int32) (wnm : Int32) (wwl : (Nat → Int32)) (wif : (Nat → Int32)) (wev : (Nat → Int32)) (wne : (Nat → Int32)) (wsu : (Nat → Int64)) (wnx : (Nat → Int64)) (wta : (Nat → Int64)) (p1 : Int32) (p2 : Int32) (p3 : Int32) (uu : Int32) (h : fX6_row wwd wmn wwl p1 p2 p3 = some uu) : Met l yX6_row wsX6_row ({ frames := 1, cells := 1, slots := 3, locals := 22 }) (cPre D cI cJ cZ tP (WM_ q cI cJ cZ wwd wmn wod wsm wnm wwl wif wev wne wsu wnx wta) sz [.ref (q 0), .int p1, .int p2, .int p3]) (cQi D (va_A (WM_ q cI cJ cZ wwd wmn wod wsm wnm wwl wif wev wne wsu wnx wta) sz) (WM_ q cI cJ cZ wwd wmn wod wsm wnm wwl wif wev wne wsu wnx wta) uu) 1 3 (va_A (WM_ q cI cJ cZ wwd wmn wod wsm wnm wwl wif wev wne wsu wnx wta) sz) := by
  refine Met.ofW (cc := cX6_row) (maxL := 8) (ret := (some .int)) (by decide) rfl ?_
  intro p e s m args below meth c s₁ B hml hv
  obtain ⟨rfl, hsz, hP, hK, hN, hD0, hZ⟩ := hv
  have hx := B.exec
  have hb := B.bytes
  have hr := B.returns
  have hts := atoms_spec (ws := wsX6_row) B.pre
  have hown : s.vm.findClass RX6 = some m.cls := findClass_of_methodNamed B.named
  have hlocks := B.notSynchronized
  subst hsz
  have hD := hD0.self (sz := s.heap.size)
  generalize hAe : va_A (WM_ q cI cJ cZ wwd wmn wod wsm wnm wwl wif wev wne wsu wnx wta) s.heap.size = A at hD hZ ⊢
  have hA : ∀ q : Nat, s.heap.size ≤ q → A q := fun q h => by rw [← hAe]; exact Or.inr h
  have hS : va_S A s.heap s.heap [] := va_S.rf
  have hl := lv_entry ([.ref (q 0), .int p1, .int p2, .int p3]) (n := 8) (Nat.le_of_ble_eq_true rfl)
  rw [lg_entry_eq]
  generalize (lg_sl ([.ref (q 0), .int p1, .int p2, .int p3]) ++ List.replicate (8 - (lg_sl ([.ref (q 0), .int p1, .int p2, .int p3])).length) Slot.unset).toArray = ls at hl ⊢
  have hl : lv_has ls 8 [(0, .ref (q 0)), (1, .int p1), (2, .int p2), (3, .int p3)] := hl
  unfold fX6_row at h
  refine lv_iconst (v := (3 : Int32)) hx hb dX6_row_0 (by decide) ?_
  refine k_newI (n := (3 : Int32)) (N := 3) hx hb (hts _ wmX6_row_0) hK hP hD hS hA (by decide) rfl (by decide) (Nat.le_of_ble_eq_true rfl) (Nat.le_of_ble_eq_true rfl) dX6_row_1 (fun tq H hP hD hS => ?_)
  have hP : va_P D vwCl ((WM_ q cI cJ cZ wwd wmn wod wsm wnm wwl wif wev wne wsu wnx wta) ++ [(tq, .inl (cI, 3, .inl (fun (_ : Nat) => (0 : Int32))))]) H := hP
  have hD : va_D A ((WM_ q cI cJ cZ wwd wmn wod wsm wnm wwl wif wev wne wsu wnx wta) ++ [(tq, .inl (cI, 3, .inl (fun (_ : Nat) => (0 : Int32))))]) := hD
  refine lv_dup hx hb dX6_row_3 rfl ?_
  refine lv_iconst (v := (0 : Int32)) hx hb dX6_row_4 (by decide) ?_
  refine lv_iload_n hx hb dX6_row_5 rfl (lv_at hl 1 rfl) ?_
  obtain ⟨i1, h⟩ := ck_some h
  refine va_iast hx hb hK hP hD hS 8 0 rfl rfl i1 dX6_row_6 (fun H locs hP hD hS => ?_)
  have hP : va_P D vwCl ((WM_ q cI cJ cZ wwd wmn wod wsm wnm wwl wif wev wne wsu wnx wta) ++ [(tq, .inl (cI, 3, .inl (upd (fun (_ : Nat) => (0 : Int32)) (0 : Int32).toNatClampNeg p1)))]) H := hP
  have hD : va_D A ((WM_ q cI cJ cZ wwd wmn wod wsm wnm wwl wif wev wne wsu wnx wta) ++ [(tq, .inl (cI, 3, .inl (upd (fun (_ : Nat) => (0 : Int32)) (0 : Int32).toNatClampNeg p1)))]) := hD
  refine lv_dup hx hb dX6_row_7 rfl ?_
  refine lv_iconst (v := (1 : Int32)) hx hb dX6_row_8 (by decide) ?_
  refine lv_aload_n hx hb dX6_row_9 rfl (lv_at hl 0 rfl) ?_
  refine va_get (D := D) (ci := 6) (v := .int wwd) (C := RX6) (T := TX6) (N := 12) hx hb hts wiX6_row_X6 hown hK hP 0 rfl rfl 0 (by decide) (hts _ wmX6_row_1) (fun _ h9 => h9) rfl dX6_row_10 ?_
  refine lv_iconst (v := (1 : Int32)) hx hb dX6_row_13 (by decide) ?_
  obtain ⟨u2, e3, h⟩ := bd_some h
  refine W_join (P := fun H locs ls => va_P D vwCl ((WM_ q cI cJ cZ wwd wmn wod wsm wnm wwl wif wev wne wsu wnx wta) ++ [(tq, .inl (cI, 3, .inl (upd (fun (_ : Nat) => (0 : Int32)) (0 : Int32).toNatClampNeg p1)))]) H ∧ va_D A ((WM_ q cI cJ cZ wwd wmn wod wsm wnm wwl wif wev wne wsu wnx wta) ++ [(tq, .inl (cI, 3, .inl (upd (fun (_ : Nat) => (0 : Int32)) (0 : Int32).toNatClampNeg p1)))]) ∧ va_S A s.heap H locs ∧ lv_has ls 8 [(0, .ref (q 0)), (1, .int p1), (2, .int p2), (3, .int p3)]) (g := fun ls => F0 m 22 ls [.int u2, .int (1 : Int32), .ref tq, .ref tq]) ?_ ?_
  · intro H locs ls hq
    obtain ⟨hP, hD, hS, hl⟩ := hq
    obtain ⟨i5, h⟩ := ck_some h
    refine va_iast hx hb hK hP hD hS 8 0 rfl rfl i5 dX6_row_22 (fun H locs hP hD hS => ?_)
    have hP : va_P D vwCl ((WM_ q cI cJ cZ wwd wmn wod wsm wnm wwl wif wev wne wsu wnx wta) ++ [(tq, .inl (cI, 3, .inl (upd (upd (fun (_ : Nat) => (0 : Int32)) (0 : Int32).toNatClampNeg p1) (1 : Int32).toNatClampNeg u2)))]) H := hP
    have hD : va_D A ((WM_ q cI cJ cZ wwd wmn wod wsm wnm wwl wif wev wne wsu wnx wta) ++ [(tq, .inl (cI, 3, .inl (upd (upd (fun (_ : Nat) => (0 : Int32)) (0 : Int32).toNatClampNeg p1) (1 : Int32).toNatClampNeg u2)))]) := hD
    refine lv_dup hx hb dX6_row_23 rfl ?_
    refine lv_iconst (v := (2 : Int32)) hx hb dX6_row_24 (by decide) ?_
    refine lv_aload_n hx hb dX6_row_25 rfl (lv_at hl 0 rfl) ?_
    refine va_get (D := D) (ci := 6) (v := .int wwd) (C := RX6) (T := TX6) (N := 12) hx hb hts wiX6_row_X6 hown hK hP 0 rfl rfl 0 (by decide) (hts _ wmX6_row_1) (fun _ h9 => h9) rfl dX6_row_26 ?_
    refine lv_iconst (v := (2 : Int32)) hx hb dX6_row_29 (by decide) ?_
    obtain ⟨u6, e7, h⟩ := bd_some h
    refine W_join (P := fun H locs ls => va_P D vwCl ((WM_ q cI cJ cZ wwd wmn wod wsm wnm wwl wif wev wne wsu wnx wta) ++ [(tq, .inl (cI, 3, .inl (upd (upd (fun (_ : Nat) => (0 : Int32)) (0 : Int32).toNatClampNeg p1) (1 : Int32).toNatClampNeg u2)))]) H ∧ va_D A ((WM_ q cI cJ cZ wwd wmn wod wsm wnm wwl wif wev wne wsu wnx wta) ++ [(tq, .inl (cI, 3, .inl (upd (upd (fun (_ : Nat) => (0 : Int32)) (0 : Int32).toNatClampNeg p1) (1 : Int32).toNatClampNeg u2)))]) ∧ va_S A s.heap H locs ∧ lv_has ls 8 [(0, .ref (q 0)), (1, .int p1), (2, .int p2), (3, .int p3)]) (g := fun ls => F0 m 38 ls [.int u6, .int (2 : Int32), .ref tq, .ref tq]) ?_ ?_
    · intro H locs ls hq
      obtain ⟨hP, hD, hS, hl⟩ := hq
      obtain ⟨i9, h⟩ := ck_some h
      refine va_iast hx hb hK hP hD hS 8 0 rfl rfl i9 dX6_row_38 (fun H locs hP hD hS => ?_)
      have hP : va_P D vwCl ((WM_ q cI cJ cZ wwd wmn wod wsm wnm wwl wif wev wne wsu wnx wta) ++ [(tq, .inl (cI, 3, .inl (upd (upd (upd (fun (_ : Nat) => (0 : Int32)) (0 : Int32).toNatClampNeg p1) (1 : Int32).toNatClampNeg u2) (2 : Int32).toNatClampNeg u6)))]) H := hP
      have hD : va_D A ((WM_ q cI cJ cZ wwd wmn wod wsm wnm wwl wif wev wne wsu wnx wta) ++ [(tq, .inl (cI, 3, .inl (upd (upd (upd (fun (_ : Nat) => (0 : Int32)) (0 : Int32).toNatClampNeg p1) (1 : Int32).toNatClampNeg u2) (2 : Int32).toNatClampNeg u6)))]) := hD
      obtain ⟨tf10, etf10⟩ : ∃ f : Nat → Int32, f = (upd (upd (upd (fun (_ : Nat) => (0 : Int32)) (0 : Int32).toNatClampNeg p1) (1 : Int32).toNatClampNeg u2) (2 : Int32).toNatClampNeg u6) := ⟨_, rfl⟩
      have h := nm_some etf10 h
      have hP : va_P D vwCl ((WM_ q cI cJ cZ wwd wmn wod wsm wnm wwl wif wev wne wsu wnx wta) ++ [(tq, .inl (cI, 3, .inl tf10))]) H := by rw [etf10]; exact hP
      have hD : va_D A ((WM_ q cI cJ cZ wwd wmn wod wsm wnm wwl wif wev wne wsu wnx wta) ++ [(tq, .inl (cI, 3, .inl tf10))]) := by rw [etf10]; exact hD
      refine lv_astore (lv' := [(4, .ref tq), (0, .ref (q 0)), (1, .int p1), (2, .int p2), (3, .int p3)]) hx hb dX6_row_39 hl (by decide) rfl (fun ls hl => ?_)
      refine lv_iconst (v := (0 : Int32)) hx hb dX6_row_41 (by decide) ?_
      refine lv_istore (lv' := [(5, .int (0 : Int32)), (4, .ref tq), (0, .ref (q 0)), (1, .int p1), (2, .int p2), (3, .int p3)]) hx hb dX6_row_42 hl (by decide) rfl (fun ls hl => ?_)
      obtain ⟨u12, e13, h⟩ := bd_some h
      have KR15 : ∀ y17, Sum.inr y17 = u12 → y17 = uu := by
        intro y17 hy
        subst hy
        have h := se_inr h
        exact Option.some.inj h
      refine W_leave (P := fun (y : Int32) H locs ls => u12 = Sum.inl y ∧ va_P D vwCl ((WM_ q cI cJ cZ wwd wmn wod wsm wnm wwl wif wev wne wsu wnx wta) ++ [(tq, .inl (cI, 3, .inl tf10))]) H ∧ va_D A ((WM_ q cI cJ cZ wwd wmn wod wsm wnm wwl wif wev wne wsu wnx wta) ++ [(tq, .inl (cI, 3, .inl tf10))]) ∧ va_S A s.heap H locs ∧ lv_has ls 8 [(5, .int y), (4, .ref tq), (0, .ref (q 0)), (1, .int p1), (2, .int p2), (3, .int p3)]) (g := fun ls => F0 m 73 ls []) ?_ ?_
      · intro x16 H locs ls hq
        obtain ⟨hy, hP, hD, hS, hl⟩ := hq
        subst hy
        have h := se_inl h
        refine lv_iconst (v := (0 : Int32)) hx hb dX6_row_73 (by decide) ?_
        refine lv_istore (lv' := [(5, .int (0 : Int32)), (4, .ref tq), (0, .ref (q 0)), (1, .int p1), (2, .int p2), (3, .int p3)]) hx hb dX6_row_74 hl (by decide) rfl (fun ls hl => ?_)
        refine lv_iconst (v := (0 : Int32)) hx hb dX6_row_76 (by decide) ?_
        refine lv_istore (lv' := [(6, .int (0 : Int32)), (5, .int (0 : Int32)), (4, .ref tq), (0, .ref (q 0)), (1, .int p1), (2, .int p2), (3, .int p3)]) hx hb dX6_row_77 hl (by decide) rfl (fun ls hl => ?_)
        obtain ⟨u20, e21, h⟩ := bd_some h
        refine W_leave (P := fun (y : (Int32 × Int32)) H locs ls => u20 = y ∧ va_P D vwCl ((WM_ q cI cJ cZ wwd wmn wod wsm wnm wwl wif wev wne wsu wnx wta) ++ [(tq, .inl (cI, 3, .inl tf10))]) H ∧ va_D A ((WM_ q cI cJ cZ wwd wmn wod wsm wnm wwl wif wev wne wsu wnx wta) ++ [(tq, .inl (cI, 3, .inl tf10))]) ∧ va_S A s.heap H locs ∧ lv_has ls 8 [(6, .int y.1), (5, .int y.2), (4, .ref tq), (0, .ref (q 0)), (1, .int p1), (2, .int p2), (3, .int p3)]) (g := fun ls => F0 m 178 ls []) ?_ ?_
        · intro y H locs ls hq
          obtain ⟨hy, hP, hD, hS, hl⟩ := hq
          subst hy
          have hl : lv_has ls 8 [(6, .int u20.1), (5, .int u20.2), (4, .ref tq), (0, .ref (q 0)), (1, .int p1), (2, .int p2), (3, .int p3)] := hl
          refine lv_iload hx hb dX6_row_178 (lv_at hl 1 rfl) ?_
          obtain rfl := Option.some.inj h
          exact W.iret (v := u20.2) hx hb hr (fun t ht hW => ⟨⟨u20.2, (), rfl, rfl, by rw [ht]; exact va_P_l hP, va_D_l hD⟩, hS.F ht⟩) hS.2.2 dX6_row_180
        · intro K22
          refine W_lp (body := (fun (st : (Int32 × Int32)) => fX6_row_L79 wmn wwl tf10 st.1 st.2)) (P := fun (st : (Int32 × Int32)) H locs ls => va_P D vwCl ((WM_ q cI cJ cZ wwd wmn wod wsm wnm wwl wif wev wne wsu wnx wta) ++ [(tq, .inl (cI, 3, .inl tf10))]) H ∧ va_D A ((WM_ q cI cJ cZ wwd wmn wod wsm wnm wwl wif wev wne wsu wnx wta) ++ [(tq, .inl (cI, 3, .inl tf10))]) ∧ va_S A s.heap H locs ∧ lv_has ls 8 [(6, .int st.1), (5, .int st.2), (4, .ref tq), (0, .ref (q 0)), (1, .int p1), (2, .int p2), (3, .int p3)]) (g := fun _ ls => F0 m 79 ls []) (r := u20) ?_ fu_ ((0 : Int32), (0 : Int32)) _ _ _ e21 ⟨hP, hD, hS, lv_sub hl [0, 1, 2, 3, 4, 5, 6] rfl⟩
          intro st xx26 H locs ls h hq ih25 hR24
          obtain ⟨hP, hD, hS, hl⟩ := hq
          obtain ⟨v18, v19⟩ := st
          have hP : va_P D vwCl ((WM_ q cI cJ cZ wwd wmn wod wsm wnm wwl wif wev wne wsu wnx wta) ++ [(tq, .inl (cI, 3, .inl tf10))]) H := hP
          have hD : va_D A ((WM_ q cI cJ cZ wwd wmn wod wsm wnm wwl wif wev wne wsu wnx wta) ++ [(tq, .inl (cI, 3, .inl tf10))]) := hD
          have hl : lv_has ls 8 [(6, .int v18), (5, .int v19), (4, .ref tq), (0, .ref (q 0)), (1, .int p1), (2, .int p2), (3, .int p3)] := hl
          have h : fX6_row_L79 wmn wwl tf10 v18 v19 = some xx26 := h
          unfold fX6_row_L79 at h
          refine lv_iload hx hb dX6_row_79 (lv_at hl 0 rfl) ?_
          refine lv_aload_n hx hb dX6_row_81 rfl (lv_at hl 3 rfl) ?_
          refine va_get (D := D) (ci := 6) (v := .int wmn) (C := RX6) (T := TX6) (N := 12) hx hb hts wiX6_row_X6 hown hK hP 0 rfl rfl 1 (by decide) (hts _ wmX6_row_4) (fun _ h9 => h9) rfl dX6_row_82 ?_
          refine lv_icmp_ge (tgt := 178) hx hb dX6_row_85 (by decide) (fun c27 => ?_) (fun c27 => ?_)
          · have h := (if_pos c27).symm.trans h
            exact K22 _ _ _ _ ⟨(hR24 _ (Option.some.inj h).symm).symm, hP, hD, hS, lv_sub hl [0, 1, 2, 3, 4, 5, 6] rfl⟩
          · have h := (if_neg c27).symm.trans h
            refine lv_aload_n hx hb dX6_row_88 rfl (lv_at hl 3 rfl) ?_
            refine lv_iload hx hb dX6_row_89 (lv_at hl 0 rfl) ?_
            refine lv_iconst (v := (0 : Int32)) hx hb dX6_row_91 (by decide) ?_
            obtain ⟨u28, e29, h⟩ := bd_some h
            refine k_iX (va_runV (As := [.int v18, .int (0 : Int32)]) (rest := []) ⟨hx, hb, hml, hown, hts⟩ (kX6_at l D q cI cJ cZ tP H.size wwd wmn wod wsm wnm wwl wif wev wne wsu wnx wta v18 (0 : Int32) u28 e29) (cwV 2 hts gX6_row_X6_at rfl rfl rfl (by decide +kernel) ⟨Nat.le_of_ble_eq_true rfl, Nat.le_of_ble_eq_true rfl⟩) ⟨cPre_blind, va_recv hK (va_P_l hP) (ci := 6) (q0 := 0) rfl rfl, cPre_at (va_P_l hP) hK hN (va_D_l hD) hS hA hZ⟩ rfl rfl hl.1 rfl (lv_room (Nat.le_of_ble_eq_true rfl)) dX6_row_92 ⟨Nat.le_of_ble_eq_true rfl, Nat.le_of_ble_eq_true rfl⟩) hP hD hS hA (fun H locs hP hD hS => ?_)
            refine lv_aload hx hb dX6_row_95 (lv_at hl 2 rfl) ?_
            refine lv_iconst (v := (0 : Int32)) hx hb dX6_row_97 (by decide) ?_
            obtain ⟨i30, h⟩ := ck_some h
            refine va_iald hx hb hK hP 8 0 rfl rfl i30 dX6_row_98 ?_
            refine lv_imul hx hb dX6_row_99 ?_
            refine lv_aload_n hx hb dX6_row_100 rfl (lv_at hl 3 rfl) ?_
            refine lv_iload hx hb dX6_row_101 (lv_at hl 0 rfl) ?_
            refine lv_iconst (v := (1 : Int32)) hx hb dX6_row_103 (by decide) ?_
            obtain ⟨u31, e32, h⟩ := bd_some h
            refine k_iX (va_runV (As := [.int v18, .int (1 : Int32)]) (rest := [.int (u28 * (tf10 (0 : Int32).toNatClampNeg))]) ⟨hx, hb, hml, hown, hts⟩ (kX6_at l D q cI cJ cZ tP H.size wwd wmn wod wsm wnm wwl wif wev wne wsu wnx wta v18 (1 : Int32) u31 e32) (cwV 2 hts gX6_row_X6_at rfl rfl rfl (by decide +kernel) ⟨Nat.le_of_ble_eq_true rfl, Nat.le_of_ble_eq_true rfl⟩) ⟨cPre_blind, va_recv hK (va_P_l hP) (ci := 6) (q0 := 0) rfl rfl, cPre_at (va_P_l hP) hK hN (va_D_l hD) hS hA hZ⟩ rfl rfl hl.1 rfl (lv_room (Nat.le_of_ble_eq_true rfl)) dX6_row_104 ⟨Nat.le_of_ble_eq_true rfl, Nat.le_of_ble_eq_true rfl⟩) hP hD hS hA (fun H locs hP hD hS => ?_)
            refine lv_aload hx hb dX6_row_107 (lv_at hl 2 rfl) ?_
            refine lv_iconst (v := (1 : Int32)) hx hb dX6_row_109 (by decide) ?_
            obtain ⟨i33, h⟩ := ck_some h
            refine va_iald hx hb hK hP 8 0 rfl rfl i33 dX6_row_110 ?_
            refine lv_imul hx hb dX6_row_111 ?_
            refine lv_iadd hx hb dX6_row_112 ?_
            refine lv_aload_n hx hb dX6_row_113 rfl (lv_at hl 3 rfl) ?_
            refine lv_iload hx hb dX6_row_114 (lv_at hl 0 rfl) ?_
            refine lv_iconst (v := (2 : Int32)) hx hb dX6_row_116 (by decide) ?_
            obtain ⟨u34, e35, h⟩ := bd_some h
            refine k_iX (va_runV (As := [.int v18, .int (2 : Int32)]) (rest := [.int ((u28 * (tf10 (0 : Int32).toNatClampNeg)) + (u31 * (tf10 (1 : Int32).toNatClampNeg)))]) ⟨hx, hb, hml, hown, hts⟩ (kX6_at l D q cI cJ cZ tP H.size wwd wmn wod wsm wnm wwl wif wev wne wsu wnx wta v18 (2 : Int32) u34 e35) (cwV 2 hts gX6_row_X6_at rfl rfl rfl (by decide +kernel) ⟨Nat.le_of_ble_eq_true rfl, Nat.le_of_ble_eq_true rfl⟩) ⟨cPre_blind, va_recv hK (va_P_l hP) (ci := 6) (q0 := 0) rfl rfl, cPre_at (va_P_l hP) hK hN (va_D_l hD) hS hA hZ⟩ rfl rfl hl.1 rfl (lv_room (Nat.le_of_ble_eq_true rfl)) dX6_row_117 ⟨Nat.le_of_ble_eq_true rfl, Nat.le_of_ble_eq_true rfl⟩) hP hD hS hA (fun H locs hP hD hS => ?_)
            refine lv_aload hx hb dX6_row_120 (lv_at hl 2 rfl) ?_
            refine lv_iconst (v := (2 : Int32)) hx hb dX6_row_122 (by decide) ?_
            obtain ⟨i36, h⟩ := ck_some h
            refine va_iald hx hb hK hP 8 0 rfl rfl i36 dX6_row_123 ?_
            refine lv_imul hx hb dX6_row_124 ?_
            refine lv_iadd hx hb dX6_row_125 ?_
            refine lv_topi (fun n37 en37 => ?_)
            have h := nm_some en37 h
            refine lv_istore (lv' := [(7, .int n37), (6, .int v18), (5, .int v19), (4, .ref tq), (0, .ref (q 0)), (1, .int p1), (2, .int p2), (3, .int p3)]) hx hb dX6_row_126 hl (by decide) rfl (fun ls hl => ?_)
            refine lv_iload hx hb dX6_row_128 (lv_at hl 2 rfl) ?_
            refine lv_iload hx hb dX6_row_130 (lv_at hl 1 rfl) ?_
            obtain ⟨u38, e39, h⟩ := bd_some h
            refine k_i0 (va_runS (As := [.int v18]) (rest := [.int v19]) ⟨hx, hb, hml, hown, hts⟩ (kX6_power l D cI cJ cZ tP H.size  v18 u38 e39) (va_cwS 1 hts gX6_row_X6_power rfl rfl rfl (by decide +kernel) ⟨Nat.le_of_ble_eq_true rfl, Nat.le_of_ble_eq_true rfl⟩) ⟨cPre_blind, cPre_at0 hK hN hS hA hZ⟩ rfl rfl hl.1 rfl (lv_room (Nat.le_of_ble_eq_true rfl)) dX6_row_132 ⟨Nat.le_of_ble_eq_true rfl, Nat.le_of_ble_eq_true rfl⟩) hP hS hA (fun H locs hP hS => ?_)
            refine lv_iload hx hb dX6_row_135 (lv_at hl 0 rfl) ?_
            refine lv_aload_n hx hb dX6_row_137 rfl (lv_at hl 4 rfl) ?_
            refine lv_iload hx hb dX6_row_138 (lv_at hl 1 rfl) ?_
            refine lv_iconst (v := (3 : Int32)) hx hb dX6_row_140 (by decide) ?_
            obtain ⟨u40, e41, h⟩ := bd_some h
            refine k_iX (va_runV (As := [.int v18, .int (3 : Int32)]) (rest := [.int n37, .int u38, .int v19]) ⟨hx, hb, hml, hown, hts⟩ (kX6_at l D q cI cJ cZ tP H.size wwd wmn wod wsm wnm wwl wif wev wne wsu wnx wta v18 (3 : Int32) u40 e41) (cwV 2 hts gX6_row_X6_at rfl rfl rfl (by decide +kernel) ⟨Nat.le_of_ble_eq_true rfl, Nat.le_of_ble_eq_true rfl⟩) ⟨cPre_blind, va_recv hK (va_P_l hP) (ci := 6) (q0 := 0) rfl rfl, cPre_at (va_P_l hP) hK hN (va_D_l hD) hS hA hZ⟩ rfl rfl hl.1 rfl (lv_room (Nat.le_of_ble_eq_true rfl)) dX6_row_141 ⟨Nat.le_of_ble_eq_true rfl, Nat.le_of_ble_eq_true rfl⟩) hP hD hS hA (fun H locs hP hD hS => ?_)
            refine lv_icmp_ge (tgt := 151) hx hb dX6_row_144 (by decide) (fun c42 => ?_) (fun c42 => ?_)
            · have h := (if_pos c42).symm.trans h
              refine lv_iload hx hb dX6_row_151 (lv_at hl 0 rfl) ?_
              refine lv_aload_n hx hb dX6_row_153 rfl (lv_at hl 4 rfl) ?_
              refine lv_iload hx hb dX6_row_154 (lv_at hl 1 rfl) ?_
              refine lv_iconst (v := (3 : Int32)) hx hb dX6_row_156 (by decide) ?_
              obtain ⟨u43, e44, h⟩ := bd_some h
              refine k_iX (va_runV (As := [.int v18, .int (3 : Int32)]) (rest := [.int n37, .int u38, .int v19]) ⟨hx, hb, hml, hown, hts⟩ (kX6_at l D q cI cJ cZ tP H.size wwd wmn wod wsm wnm wwl wif wev wne wsu wnx wta v18 (3 : Int32) u43 e44) (cwV 2 hts gX6_row_X6_at rfl rfl rfl (by decide +kernel) ⟨Nat.le_of_ble_eq_true rfl, Nat.le_of_ble_eq_true rfl⟩) ⟨cPre_blind, va_recv hK (va_P_l hP) (ci := 6) (q0 := 0) rfl rfl, cPre_at (va_P_l hP) hK hN (va_D_l hD) hS hA hZ⟩ rfl rfl hl.1 rfl (lv_room (Nat.le_of_ble_eq_true rfl)) dX6_row_157 ⟨Nat.le_of_ble_eq_true rfl, Nat.le_of_ble_eq_true rfl⟩) hP hD hS hA (fun H locs hP hD hS => ?_)
              refine lv_icmp_ne (tgt := 167) hx hb dX6_row_160 (by decide) (fun c45 => ?_) (fun c45 => ?_)
              · have h := (if_neg c45).symm.trans h
                refine lv_iconst (v := (2 : Int32)) hx hb dX6_row_167 (by decide) ?_
                refine lv_imul hx hb dX6_row_168 ?_
                refine lv_iadd hx hb dX6_row_169 ?_
                refine lv_istore (lv' := [(5, .int (v19 + (u38 * (2 : Int32)))), (7, .int n37), (6, .int v18), (4, .ref tq), (0, .ref (q 0)), (1, .int p1), (2, .int p2), (3, .int p3)]) hx hb dX6_row_170 hl (by decide) rfl (fun ls hl => ?_)
                refine lv_iinc (v := (v18 + (1 : Int32))) (lv' := [(6, .int (v18 + (1 : Int32))), (5, .int (v19 + (u38 * (2 : Int32)))), (7, .int n37), (4, .ref tq), (0, .ref (q 0)), (1, .int p1), (2, .int p2), (3, .int p3)]) hx hb dX6_row_172 hl (k := 2) rfl rfl (by decide) rfl (fun ls hl => ?_)
                refine lv_goto (tgt := 79) hx hb dX6_row_175 (by decide) ?_
                exact ih25 _ _ _ _ (Option.some.inj h).symm ⟨hP, hD, hS, lv_sub hl [0, 1, 3, 4, 5, 6, 7] rfl⟩
              · have h := (if_pos c45).symm.trans h
                refine lv_iconst (v := (1 : Int32)) hx hb dX6_row_163 (by decide) ?_
                refine lv_goto (tgt := 168) hx hb dX6_row_164 (by decide) ?_
                refine lv_imul hx hb dX6_row_168 ?_
                refine lv_iadd hx hb dX6_row_169 ?_
                refine lv_istore (lv' := [(5, .int (v19 + (u38 * (1 : Int32)))), (7, .int n37), (6, .int v18), (4, .ref tq), (0, .ref (q 0)), (1, .int p1), (2, .int p2), (3, .int p3)]) hx hb dX6_row_170 hl (by decide) rfl (fun ls hl => ?_)
                refine lv_iinc (v := (v18 + (1 : Int32))) (lv' := [(6, .int (v18 + (1 : Int32))), (5, .int (v19 + (u38 * (1 : Int32)))), (7, .int n37), (4, .ref tq), (0, .ref (q 0)), (1, .int p1), (2, .int p2), (3, .int p3)]) hx hb dX6_row_172 hl (k := 2) rfl rfl (by decide) rfl (fun ls hl => ?_)
                refine lv_goto (tgt := 79) hx hb dX6_row_175 (by decide) ?_
                exact ih25 _ _ _ _ (Option.some.inj h).symm ⟨hP, hD, hS, lv_sub hl [0, 1, 3, 4, 5, 6, 7] rfl⟩
            · have h := (if_neg c42).symm.trans h
              refine lv_iconst (v := (0 : Int32)) hx hb dX6_row_147 (by decide) ?_
              refine lv_goto (tgt := 168) hx hb dX6_row_148 (by decide) ?_
              refine lv_imul hx hb dX6_row_168 ?_
              refine lv_iadd hx hb dX6_row_169 ?_
              refine lv_istore (lv' := [(5, .int (v19 + (u38 * (0 : Int32)))), (7, .int n37), (6, .int v18), (4, .ref tq), (0, .ref (q 0)), (1, .int p1), (2, .int p2), (3, .int p3)]) hx hb dX6_row_170 hl (by decide) rfl (fun ls hl => ?_)
              refine lv_iinc (v := (v18 + (1 : Int32))) (lv' := [(6, .int (v18 + (1 : Int32))), (5, .int (v19 + (u38 * (0 : Int32)))), (7, .int n37), (4, .ref tq), (0, .ref (q 0)), (1, .int p1), (2, .int p2), (3, .int p3)]) hx hb dX6_row_172 hl (k := 2) rfl rfl (by decide) rfl (fun ls hl => ?_)
              refine lv_goto (tgt := 79) hx hb dX6_row_175 (by decide) ?_
              exact ih25 _ _ _ _ (Option.some.inj h).symm ⟨hP, hD, hS, lv_sub hl [0, 1, 3, 4, 5, 6, 7] rfl⟩
      · intro K14
        refine W_lp (body := (fun (st : Int32) => fX6_row_L44 tf10 st)) (P := fun (st : Int32) H locs ls => va_P D vwCl ((WM_ q cI cJ cZ wwd wmn wod wsm wnm wwl wif wev wne wsu wnx wta) ++ [(tq, .inl (cI, 3, .inl tf10))]) H ∧ va_D A ((WM_ q cI cJ cZ wwd wmn wod wsm wnm wwl wif wev wne wsu wnx wta) ++ [(tq, .inl (cI, 3, .inl tf10))]) ∧ va_S A s.heap H locs ∧ lv_has ls 8 [(5, .int st), (4, .ref tq), (0, .ref (q 0)), (1, .int p1), (2, .int p2), (3, .int p3)]) (g := fun _ ls => F0 m 44 ls []) (r := u12) ?_ fu_ (0 : Int32) _ _ _ e13 ⟨hP, hD, hS, lv_sub hl [0, 1, 2, 3, 4, 5] rfl⟩
        intro v11 xx48 H locs ls h hq ih47 hR46
        obtain ⟨hP, hD, hS, hl⟩ := hq
        have hP : va_P D vwCl ((WM_ q cI cJ cZ wwd wmn wod wsm wnm wwl wif wev wne wsu wnx wta) ++ [(tq, .inl (cI, 3, .inl tf10))]) H := hP
        have hD : va_D A ((WM_ q cI cJ cZ wwd wmn wod wsm wnm wwl wif wev wne wsu wnx wta) ++ [(tq, .inl (cI, 3, .inl tf10))]) := hD
        have hl : lv_has ls 8 [(5, .int v11), (4, .ref tq), (0, .ref (q 0)), (1, .int p1), (2, .int p2), (3, .int p3)] := hl
        have h : fX6_row_L44 tf10 v11 = some xx48 := h
        unfold fX6_row_L44 at h
        refine lv_iload hx hb dX6_row_44 (lv_at hl 0 rfl) ?_
        refine lv_iconst (v := (3 : Int32)) hx hb dX6_row_46 (by decide) ?_
        refine lv_icmp_ge (tgt := 73) hx hb dX6_row_47 (by decide) (fun c49 => ?_) (fun c49 => ?_)
        · have h := (if_pos c49).symm.trans h
          exact K14 _ _ _ _ ⟨(hR46 _ (Option.some.inj h).symm).symm, hP, hD, hS, lv_sub hl [0, 1, 2, 3, 4, 5] rfl⟩
        · have h := (if_neg c49).symm.trans h
          refine lv_aload hx hb dX6_row_50 (lv_at hl 1 rfl) ?_
          refine lv_iload hx hb dX6_row_52 (lv_at hl 0 rfl) ?_
          obtain ⟨i50, h⟩ := ck_some h
          refine va_iald hx hb hK hP 8 0 rfl rfl i50 dX6_row_54 ?_
          refine lv_ldc hx hb hown (hts _ wmX6_row_2) dX6_row_55 ?_
          refine lv_ldc hx hb hown (hts _ wmX6_row_3) dX6_row_57 ?_
          obtain ⟨u51, e52, h⟩ := bd_some h
          refine k_i0 (va_runS (As := [.int (tf10 v11.toNatClampNeg), .int (-1000000 : Int32), .int (1000000 : Int32)]) (rest := []) ⟨hx, hb, hml, hown, hts⟩ (kX6_in l D cI cJ cZ tP H.size  (tf10 v11.toNatClampNeg) (-1000000 : Int32) (1000000 : Int32) u51 e52) (va_cwS 3 hts gX6_row_X6_in rfl rfl rfl (by decide +kernel) ⟨Nat.le_of_ble_eq_true rfl, Nat.le_of_ble_eq_true rfl⟩) ⟨cPre_blind, cPre_at0 hK hN hS hA hZ⟩ rfl rfl hl.1 rfl (lv_room (Nat.le_of_ble_eq_true rfl)) dX6_row_59 ⟨Nat.le_of_ble_eq_true rfl, Nat.le_of_ble_eq_true rfl⟩) hP hS hA (fun H locs hP hS => ?_)
          refine lv_if_ne (tgt := 67) hx hb dX6_row_62 (by decide) (fun c53 => ?_) (fun c53 => ?_)
          · have h := (if_neg c53).symm.trans h
            refine lv_iinc (v := (v11 + (1 : Int32))) (lv' := [(5, .int (v11 + (1 : Int32))), (4, .ref tq), (0, .ref (q 0)), (1, .int p1), (2, .int p2), (3, .int p3)]) hx hb dX6_row_67 hl (k := 0) rfl rfl (by decide) rfl (fun ls hl => ?_)
            refine lv_goto (tgt := 44) hx hb dX6_row_70 (by decide) ?_
            exact ih47 _ _ _ _ (Option.some.inj h).symm ⟨hP, hD, hS, lv_sub hl [0, 1, 2, 3, 4, 5] rfl⟩
          · have h := (if_pos c53).symm.trans h
            refine lv_iconst (v := (-1 : Int32)) hx hb dX6_row_65 (by decide) ?_
            have hu := KR15 _ (hR46 _ (Option.some.inj h).symm)
            subst hu
            exact W.iret (v := (-1 : Int32)) hx hb hr (fun t ht hW => ⟨⟨(-1 : Int32), (), rfl, rfl, by rw [ht]; exact va_P_l hP, va_D_l hD⟩, hS.F ht⟩) hS.2.2 dX6_row_66
    · intro J8
      have h := e7
      refine lv_icmp_le (tgt := 37) hx hb dX6_row_30 (by decide) (fun c54 => ?_) (fun c54 => ?_)
      · have h := (if_pos c54).symm.trans h
        refine lv_iconst (v := (0 : Int32)) hx hb dX6_row_37 (by decide) ?_
        obtain rfl := Option.some.inj h
        exact J8 _ _ _ ⟨hP, hD, hS, lv_sub hl [0, 1, 2, 3] rfl⟩
      · have h := (if_neg c54).symm.trans h
        refine lv_iload_n hx hb dX6_row_33 rfl (lv_at hl 3 rfl) ?_
        refine lv_goto (tgt := 38) hx hb dX6_row_34 (by decide) ?_
        obtain rfl := Option.some.inj h
        exact J8 _ _ _ ⟨hP, hD, hS, lv_sub hl [0, 1, 2, 3] rfl⟩
  · intro J4
    have h := e3
    refine lv_icmp_le (tgt := 21) hx hb dX6_row_14 (by decide) (fun c55 => ?_) (fun c55 => ?_)
    · have h := (if_pos c55).symm.trans h
      refine lv_iconst (v := (0 : Int32)) hx hb dX6_row_21 (by decide) ?_
      obtain rfl := Option.some.inj h
      exact J4 _ _ _ ⟨hP, hD, hS, lv_sub hl [0, 1, 2, 3] rfl⟩
    · have h := (if_neg c55).symm.trans h
      refine lv_iload_n hx hb dX6_row_17 rfl (lv_at hl 2 rfl) ?_
      refine lv_goto (tgt := 22) hx hb dX6_row_18 (by decide) ?_
      obtain rfl := Option.some.inj h
      exact J4 _ _ _ ⟨hP, hD, hS, lv_sub hl [0, 1, 2, 3] rfl⟩
