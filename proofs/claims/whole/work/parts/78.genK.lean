-- X6_bounded
theorem wmX6_bounded_0 : (.fieldLink RX6 49 "SpaceWallsModel" "many" "I" : Cond) ∈ wsX6_bounded := by decide +kernel
theorem wmX6_bounded_1 : (.fieldLink RX6 37 "SpaceWallsModel" "wide" "I" : Cond) ∈ wsX6_bounded := by decide +kernel
theorem wiX6_bounded_X6 : ∀ w ∈ u_ws RX6 TX6 12, w ∈ wsX6_bounded := by decide +kernel
set_option maxHeartbeats 8000000 in
set_option maxRecDepth 100000 in
theorem kX6_bounded (l : Launch) (D : va_G) (q : Nat → Nat) (cI cJ cZ : ClassId) (tP sz : Nat) (wwd : Int32) (wmn : Int32) (wod : Int32) (wsm : Int32) (wnm : Int32) (wwl : (Nat → Int32)) (wif : (Nat → Int32)) (wev : (Nat → Int32)) (wne : (Nat → Int32)) (wsu : (Nat → Int64)) (wnx : (Nat → Int64)) (wta : (Nat → Int64)) (p1 : Int32) (uu : (Int32 × Int32 × Int32 × Int32 × (Nat → Int32) × (Nat → Int32) × (Nat → Int32) × (Nat → Int64) × (Nat → Int64) × (Nat → Int64))) (h : fX6_bounded wwd wmn wod wsm wnm wwl wif wev wne wsu wnx wta p1 = some uu) : Met l yX6_bounded wsX6_bounded ({ frames := 6, cells := 0, slots := 0, locals := 146 }) (cPre D cI cJ cZ tP (WM_ q cI cJ cZ wwd wmn wod wsm wnm wwl wif wev wne wsu wnx wta) sz [.ref (q 0), .int p1]) (cQi D (va_A (WM_ q cI cJ cZ wwd wmn wod wsm wnm wwl wif wev wne wsu wnx wta) sz) (WM_ q cI cJ cZ wwd wmn uu.2.1 uu.2.2.1 uu.2.2.2.1 wwl uu.2.2.2.2.1 uu.2.2.2.2.2.1 uu.2.2.2.2.2.2.1 uu.2.2.2.2.2.2.2.1 uu.2.2.2.2.2.2.2.2.1 uu.2.2.2.2.2.2.2.2.2) uu.1) 0 0 (va_A (WM_ q cI cJ cZ wwd wmn wod wsm wnm wwl wif wev wne wsu wnx wta) sz) := by
  refine Met.ofW (cc := cX6_bounded) (maxL := 7) (ret := (some .boolean)) (by decide) rfl ?_
  intro p e s m args below meth c s₁ B hml hv
  obtain ⟨rfl, hsz, hP, hK, hN, hD0, hZ⟩ := hv
  have hx := B.exec
  have hb := B.bytes
  have hr := B.returns
  have hts := atoms_spec (ws := wsX6_bounded) B.pre
  have hown : s.vm.findClass RX6 = some m.cls := findClass_of_methodNamed B.named
  have hlocks := B.notSynchronized
  subst hsz
  have hD := hD0.self (sz := s.heap.size)
  generalize hAe : va_A (WM_ q cI cJ cZ wwd wmn wod wsm wnm wwl wif wev wne wsu wnx wta) s.heap.size = A at hD hZ ⊢
  have hA : ∀ q : Nat, s.heap.size ≤ q → A q := fun q h => by rw [← hAe]; exact Or.inr h
  have hS : va_S A s.heap s.heap [] := va_S.rf
  have hl := lv_entry ([.ref (q 0), .int p1]) (n := 7) (Nat.le_of_ble_eq_true rfl)
  rw [lg_entry_eq]
  generalize (lg_sl ([.ref (q 0), .int p1]) ++ List.replicate (7 - (lg_sl ([.ref (q 0), .int p1])).length) Slot.unset).toArray = ls at hl ⊢
  have hl : lv_has ls 7 [(0, .ref (q 0)), (1, .int p1)] := hl
  unfold fX6_bounded at h
  refine lv_aload_n hx hb dX6_bounded_0 rfl (lv_at hl 0 rfl) ?_
  refine lv_iload_n hx hb dX6_bounded_1 rfl (lv_at hl 1 rfl) ?_
  obtain ⟨u1, e2, h⟩ := bd_some h
  refine k_i (va_runV (As := [.int p1]) (rest := []) ⟨hx, hb, hml, hown, hts⟩ (kX6_isRoom l D q cI cJ cZ tP s.heap.size wwd wmn wod wsm wnm wwl wif wev wne wsu wnx wta p1 u1 e2) (cwV 1 hts gX6_bounded_X6_isRoom rfl rfl rfl (by decide +kernel) ⟨Nat.le_of_ble_eq_true rfl, Nat.le_of_ble_eq_true rfl⟩) ⟨cPre_blind, va_recv hK hP (ci := 6) (q0 := 0) rfl rfl, cPre_at hP hK hN hD hS hA hZ⟩ rfl rfl hl.1 rfl (lv_room (Nat.le_of_ble_eq_true rfl)) dX6_bounded_2 ⟨Nat.le_of_ble_eq_true rfl, Nat.le_of_ble_eq_true rfl⟩) hD hS hA (fun H locs hP hD hS => ?_)
  refine lv_if_eq (tgt := 28) hx hb dX6_bounded_5 (by decide) (fun c3 => ?_) (fun c3 => ?_)
  · have h := (if_pos c3).symm.trans h
    refine lv_iconst (v := (0 : Int32)) hx hb dX6_bounded_28 (by decide) ?_
    obtain rfl := Option.some.inj h
    exact W.zret (v := (0 : Int32)) hx hb hr (by decide) (fun t ht hW => ⟨⟨(0 : Int32), (), rfl, rfl, by rw [ht]; exact hP, hD⟩, hS.F ht⟩) hS.2.2 dX6_bounded_29
  · have h := (if_neg c3).symm.trans h
    refine lv_aload_n hx hb dX6_bounded_8 rfl (lv_at hl 0 rfl) ?_
    refine lv_iconst (v := (1 : Int32)) hx hb dX6_bounded_9 (by decide) ?_
    refine lv_aload_n hx hb dX6_bounded_10 rfl (lv_at hl 0 rfl) ?_
    refine va_get (D := D) (ci := 6) (v := .int wmn) (C := RX6) (T := TX6) (N := 12) hx hb hts wiX6_bounded_X6 hown hK hP 0 rfl rfl 1 (by decide) (hts _ wmX6_bounded_0) (fun _ h9 => h9) rfl dX6_bounded_11 ?_
    refine lv_ishl hx hb dX6_bounded_14 ?_
    refine lv_iconst (v := (1 : Int32)) hx hb dX6_bounded_15 (by decide) ?_
    refine lv_isub hx hb dX6_bounded_16 ?_
    refine lv_iconst (v := (3 : Int32)) hx hb dX6_bounded_17 (by decide) ?_
    obtain ⟨u4, e5, h⟩ := bd_some h
    refine k_i (va_runV (As := [.int (((1 : Int32) <<< (wmn &&& 31)) - (1 : Int32)), .int (3 : Int32)]) (rest := []) ⟨hx, hb, hml, hown, hts⟩ (kX6_rank l D q cI cJ cZ tP H.size wwd wmn u1.2.1 u1.2.2.1 u1.2.2.2.1 wwl u1.2.2.2.2.1 u1.2.2.2.2.2.1 u1.2.2.2.2.2.2.1 u1.2.2.2.2.2.2.2.1 u1.2.2.2.2.2.2.2.2 wta (((1 : Int32) <<< (wmn &&& 31)) - (1 : Int32)) (3 : Int32) u4 e5) (cwV 2 hts gX6_bounded_X6_rank rfl rfl rfl (by decide +kernel) ⟨Nat.le_of_ble_eq_true rfl, Nat.le_of_ble_eq_true rfl⟩) ⟨cPre_blind, va_recv hK hP (ci := 6) (q0 := 0) rfl rfl, cPre_at hP hK hN hD hS hA hZ⟩ rfl rfl hl.1 rfl (lv_room (Nat.le_of_ble_eq_true rfl)) dX6_bounded_18 ⟨Nat.le_of_ble_eq_true rfl, Nat.le_of_ble_eq_true rfl⟩) hD hS hA (fun H locs hP hD hS => ?_)
    refine lv_aload_n hx hb dX6_bounded_21 rfl (lv_at hl 0 rfl) ?_
    refine va_get (D := D) (ci := 6) (v := .int wwd) (C := RX6) (T := TX6) (N := 12) hx hb hts wiX6_bounded_X6 hown hK hP 0 rfl rfl 0 (by decide) (hts _ wmX6_bounded_1) (fun _ h9 => h9) rfl dX6_bounded_22 ?_
    refine lv_icmp_ge (tgt := 30) hx hb dX6_bounded_25 (by decide) (fun c6 => ?_) (fun c6 => ?_)
    · have h := (if_pos c6).symm.trans h
      refine lv_aload_n hx hb dX6_bounded_30 rfl (lv_at hl 0 rfl) ?_
      refine va_get (D := D) (ci := 6) (v := .int wwd) (C := RX6) (T := TX6) (N := 12) hx hb hts wiX6_bounded_X6 hown hK hP 0 rfl rfl 0 (by decide) (hts _ wmX6_bounded_1) (fun _ h9 => h9) rfl dX6_bounded_31 ?_
      refine lv_iconst (v := (1 : Int32)) hx hb dX6_bounded_34 (by decide) ?_
      refine lv_icmp_ne (tgt := 55) hx hb dX6_bounded_35 (by decide) (fun c7 => ?_) (fun c7 => ?_)
      · have h := (if_neg c7).symm.trans h
        refine lv_iconst (v := (0 : Int32)) hx hb dX6_bounded_55 (by decide) ?_
        refine lv_istore_n (lv' := [(2, .int (0 : Int32)), (0, .ref (q 0)), (1, .int p1)]) hx hb dX6_bounded_56 rfl hl (by decide) rfl (fun ls hl => ?_)
        obtain ⟨u9, e10, h⟩ := bd_some h
        have KR12 : ∀ y14, Sum.inr y14 = u9 → y14 = uu := by
          intro y14 hy
          subst hy
          have h := se_inr h
          exact Option.some.inj h
        refine W_leave (P := fun (y : Int32) H locs ls => u9 = Sum.inl y ∧ va_P D vwCl (WM_ q cI cJ cZ wwd wmn u1.2.1 u1.2.2.1 u1.2.2.2.1 wwl u1.2.2.2.2.1 u1.2.2.2.2.2.1 u1.2.2.2.2.2.2.1 u1.2.2.2.2.2.2.2.1 u1.2.2.2.2.2.2.2.2 u4.2) H ∧ va_D A (WM_ q cI cJ cZ wwd wmn u1.2.1 u1.2.2.1 u1.2.2.2.1 wwl u1.2.2.2.2.1 u1.2.2.2.2.2.1 u1.2.2.2.2.2.2.1 u1.2.2.2.2.2.2.2.1 u1.2.2.2.2.2.2.2.2 u4.2) ∧ va_S A s.heap H locs ∧ lv_has ls 7 [(2, .int y), (0, .ref (q 0)), (1, .int p1)]) (g := fun ls => F0 m 219 ls []) ?_ ?_
        · intro x13 H locs ls hq
          obtain ⟨hy, hP, hD, hS, hl⟩ := hq
          subst hy
          have h := se_inl h
          refine lv_iconst (v := (1 : Int32)) hx hb dX6_bounded_219 (by decide) ?_
          obtain rfl := Option.some.inj h
          exact W.zret (v := (1 : Int32)) hx hb hr (by decide) (fun t ht hW => ⟨⟨(1 : Int32), (), rfl, rfl, by rw [ht]; exact hP, hD⟩, hS.F ht⟩) hS.2.2 dX6_bounded_220
        · intro K11
          refine W_lp (body := (fun (st : Int32) => fX6_bounded_L57 wmn wwd wwl p1 u1 u4 st)) (P := fun (st : Int32) H locs ls => va_P D vwCl (WM_ q cI cJ cZ wwd wmn u1.2.1 u1.2.2.1 u1.2.2.2.1 wwl u1.2.2.2.2.1 u1.2.2.2.2.2.1 u1.2.2.2.2.2.2.1 u1.2.2.2.2.2.2.2.1 u1.2.2.2.2.2.2.2.2 u4.2) H ∧ va_D A (WM_ q cI cJ cZ wwd wmn u1.2.1 u1.2.2.1 u1.2.2.2.1 wwl u1.2.2.2.2.1 u1.2.2.2.2.2.1 u1.2.2.2.2.2.2.1 u1.2.2.2.2.2.2.2.1 u1.2.2.2.2.2.2.2.2 u4.2) ∧ va_S A s.heap H locs ∧ lv_has ls 7 [(2, .int st), (0, .ref (q 0)), (1, .int p1)]) (g := fun _ ls => F0 m 57 ls []) (r := u9) ?_ fu_ (0 : Int32) _ _ _ e10 ⟨hP, hD, hS, lv_sub hl [0, 1, 2] rfl⟩
          intro v8 xx17 H locs ls h hq ih16 hR15
          obtain ⟨hP, hD, hS, hl⟩ := hq
          have hP : va_P D vwCl (WM_ q cI cJ cZ wwd wmn u1.2.1 u1.2.2.1 u1.2.2.2.1 wwl u1.2.2.2.2.1 u1.2.2.2.2.2.1 u1.2.2.2.2.2.2.1 u1.2.2.2.2.2.2.2.1 u1.2.2.2.2.2.2.2.2 u4.2) H := hP
          have hD : va_D A (WM_ q cI cJ cZ wwd wmn u1.2.1 u1.2.2.1 u1.2.2.2.1 wwl u1.2.2.2.2.1 u1.2.2.2.2.2.1 u1.2.2.2.2.2.2.1 u1.2.2.2.2.2.2.2.1 u1.2.2.2.2.2.2.2.2 u4.2) := hD
          have hl : lv_has ls 7 [(2, .int v8), (0, .ref (q 0)), (1, .int p1)] := hl
          have h : fX6_bounded_L57 wmn wwd wwl p1 u1 u4 v8 = some xx17 := h
          unfold fX6_bounded_L57 at h
          refine lv_iload_n hx hb dX6_bounded_57 rfl (lv_at hl 0 rfl) ?_
          refine lv_aload_n hx hb dX6_bounded_58 rfl (lv_at hl 1 rfl) ?_
          refine va_get (D := D) (ci := 6) (v := .int wmn) (C := RX6) (T := TX6) (N := 12) hx hb hts wiX6_bounded_X6 hown hK hP 0 rfl rfl 1 (by decide) (hts _ wmX6_bounded_0) (fun _ h9 => h9) rfl dX6_bounded_59 ?_
          refine lv_icmp_ge (tgt := 219) hx hb dX6_bounded_62 (by decide) (fun c18 => ?_) (fun c18 => ?_)
          · have h := (if_pos c18).symm.trans h
            exact K11 _ _ _ _ ⟨(hR15 _ (Option.some.inj h).symm).symm, hP, hD, hS, lv_sub hl [0, 1, 2] rfl⟩
          · have h := (if_neg c18).symm.trans h
            refine lv_aload_n hx hb dX6_bounded_65 rfl (lv_at hl 1 rfl) ?_
            refine va_get (D := D) (ci := 6) (v := .int wwd) (C := RX6) (T := TX6) (N := 12) hx hb hts wiX6_bounded_X6 hown hK hP 0 rfl rfl 0 (by decide) (hts _ wmX6_bounded_1) (fun _ h9 => h9) rfl dX6_bounded_66 ?_
            refine lv_iconst (v := (2 : Int32)) hx hb dX6_bounded_69 (by decide) ?_
            refine lv_icmp_ne (tgt := 97) hx hb dX6_bounded_70 (by decide) (fun c19 => ?_) (fun c19 => ?_)
            · have h := (if_neg c19).symm.trans h
              refine lv_iconst (v := (0 : Int32)) hx hb dX6_bounded_97 (by decide) ?_
              refine lv_istore_n (lv' := [(3, .int (0 : Int32)), (2, .int v8), (0, .ref (q 0)), (1, .int p1)]) hx hb dX6_bounded_98 rfl hl (by decide) rfl (fun ls hl => ?_)
              obtain ⟨u21, e22, h⟩ := bd_some h
              have KR24 : ∀ y26, Sum.inr y26 = u21 → y26 = uu := by
                intro y26 hy
                subst hy
                have h := se_inr h
                exact KR12 _ (hR15 _ (Option.some.inj h).symm)
              refine W_leave (P := fun (y : Int32) H locs ls => u21 = Sum.inl y ∧ va_P D vwCl (WM_ q cI cJ cZ wwd wmn u1.2.1 u1.2.2.1 u1.2.2.2.1 wwl u1.2.2.2.2.1 u1.2.2.2.2.2.1 u1.2.2.2.2.2.2.1 u1.2.2.2.2.2.2.2.1 u1.2.2.2.2.2.2.2.2 u4.2) H ∧ va_D A (WM_ q cI cJ cZ wwd wmn u1.2.1 u1.2.2.1 u1.2.2.2.1 wwl u1.2.2.2.2.1 u1.2.2.2.2.2.1 u1.2.2.2.2.2.2.1 u1.2.2.2.2.2.2.2.1 u1.2.2.2.2.2.2.2.2 u4.2) ∧ va_S A s.heap H locs ∧ lv_has ls 7 [(3, .int y), (2, .int v8), (0, .ref (q 0)), (1, .int p1)]) (g := fun ls => F0 m 213 ls []) ?_ ?_
              · intro x25 H locs ls hq
                obtain ⟨hy, hP, hD, hS, hl⟩ := hq
                subst hy
                have h := se_inl h
                refine lv_iinc (v := (v8 + (1 : Int32))) (lv' := [(2, .int (v8 + (1 : Int32))), (3, .int x25), (0, .ref (q 0)), (1, .int p1)]) hx hb dX6_bounded_213 hl (k := 1) rfl rfl (by decide) rfl (fun ls hl => ?_)
                refine lv_goto (tgt := 57) hx hb dX6_bounded_216 (by decide) ?_
                exact ih16 _ _ _ _ (Option.some.inj h).symm ⟨hP, hD, hS, lv_sub hl [0, 2, 3] rfl⟩
              · intro K23
                refine W_lp (body := (fun (st : Int32) => fX6_bounded_L99 v8 wwl wmn p1 u1 u4 st)) (P := fun (st : Int32) H locs ls => va_P D vwCl (WM_ q cI cJ cZ wwd wmn u1.2.1 u1.2.2.1 u1.2.2.2.1 wwl u1.2.2.2.2.1 u1.2.2.2.2.2.1 u1.2.2.2.2.2.2.1 u1.2.2.2.2.2.2.2.1 u1.2.2.2.2.2.2.2.2 u4.2) H ∧ va_D A (WM_ q cI cJ cZ wwd wmn u1.2.1 u1.2.2.1 u1.2.2.2.1 wwl u1.2.2.2.2.1 u1.2.2.2.2.2.1 u1.2.2.2.2.2.2.1 u1.2.2.2.2.2.2.2.1 u1.2.2.2.2.2.2.2.2 u4.2) ∧ va_S A s.heap H locs ∧ lv_has ls 7 [(3, .int st), (2, .int v8), (0, .ref (q 0)), (1, .int p1)]) (g := fun _ ls => F0 m 99 ls []) (r := u21) ?_ fu_ (0 : Int32) _ _ _ e22 ⟨hP, hD, hS, lv_sub hl [0, 1, 2, 3] rfl⟩
                intro v20 xx29 H locs ls h hq ih28 hR27
                obtain ⟨hP, hD, hS, hl⟩ := hq
                have hP : va_P D vwCl (WM_ q cI cJ cZ wwd wmn u1.2.1 u1.2.2.1 u1.2.2.2.1 wwl u1.2.2.2.2.1 u1.2.2.2.2.2.1 u1.2.2.2.2.2.2.1 u1.2.2.2.2.2.2.2.1 u1.2.2.2.2.2.2.2.2 u4.2) H := hP
                have hD : va_D A (WM_ q cI cJ cZ wwd wmn u1.2.1 u1.2.2.1 u1.2.2.2.1 wwl u1.2.2.2.2.1 u1.2.2.2.2.2.1 u1.2.2.2.2.2.2.1 u1.2.2.2.2.2.2.2.1 u1.2.2.2.2.2.2.2.2 u4.2) := hD
                have hl : lv_has ls 7 [(3, .int v20), (2, .int v8), (0, .ref (q 0)), (1, .int p1)] := hl
                have h : fX6_bounded_L99 v8 wwl wmn p1 u1 u4 v20 = some xx29 := h
                unfold fX6_bounded_L99 at h
                refine lv_iload_n hx hb dX6_bounded_99 rfl (lv_at hl 0 rfl) ?_
                refine lv_iload_n hx hb dX6_bounded_100 rfl (lv_at hl 1 rfl) ?_
                refine lv_icmp_ge (tgt := 213) hx hb dX6_bounded_101 (by decide) (fun c30 => ?_) (fun c30 => ?_)
                · have h := (if_pos c30).symm.trans h
                  exact K23 _ _ _ _ ⟨(hR27 _ (Option.some.inj h).symm).symm, hP, hD, hS, lv_sub hl [0, 1, 2, 3] rfl⟩
                · have h := (if_neg c30).symm.trans h
                  refine lv_aload_n hx hb dX6_bounded_104 rfl (lv_at hl 2 rfl) ?_
                  refine lv_iload_n hx hb dX6_bounded_105 rfl (lv_at hl 1 rfl) ?_
                  refine lv_iconst (v := (1 : Int32)) hx hb dX6_bounded_106 (by decide) ?_
                  obtain ⟨u31, e32, h⟩ := bd_some h
                  refine k_i (va_runV (As := [.int v8, .int (1 : Int32)]) (rest := []) ⟨hx, hb, hml, hown, hts⟩ (kX6_at l D q cI cJ cZ tP H.size wwd wmn u1.2.1 u1.2.2.1 u1.2.2.2.1 wwl u1.2.2.2.2.1 u1.2.2.2.2.2.1 u1.2.2.2.2.2.2.1 u1.2.2.2.2.2.2.2.1 u1.2.2.2.2.2.2.2.2 u4.2 v8 (1 : Int32) u31 e32) (cwV 2 hts gX6_bounded_X6_at rfl rfl rfl (by decide +kernel) ⟨Nat.le_of_ble_eq_true rfl, Nat.le_of_ble_eq_true rfl⟩) ⟨cPre_blind, va_recv hK hP (ci := 6) (q0 := 0) rfl rfl, cPre_at hP hK hN hD hS hA hZ⟩ rfl rfl hl.1 rfl (lv_room (Nat.le_of_ble_eq_true rfl)) dX6_bounded_107 ⟨Nat.le_of_ble_eq_true rfl, Nat.le_of_ble_eq_true rfl⟩) hD hS hA (fun H locs hP hD hS => ?_)
                  refine lv_aload_n hx hb dX6_bounded_110 rfl (lv_at hl 2 rfl) ?_
                  refine lv_iload_n hx hb dX6_bounded_111 rfl (lv_at hl 0 rfl) ?_
                  refine lv_iconst (v := (2 : Int32)) hx hb dX6_bounded_112 (by decide) ?_
                  obtain ⟨u33, e34, h⟩ := bd_some h
                  refine k_i (va_runV (As := [.int v20, .int (2 : Int32)]) (rest := [.int u31]) ⟨hx, hb, hml, hown, hts⟩ (kX6_at l D q cI cJ cZ tP H.size wwd wmn u1.2.1 u1.2.2.1 u1.2.2.2.1 wwl u1.2.2.2.2.1 u1.2.2.2.2.2.1 u1.2.2.2.2.2.2.1 u1.2.2.2.2.2.2.2.1 u1.2.2.2.2.2.2.2.2 u4.2 v20 (2 : Int32) u33 e34) (cwV 2 hts gX6_bounded_X6_at rfl rfl rfl (by decide +kernel) ⟨Nat.le_of_ble_eq_true rfl, Nat.le_of_ble_eq_true rfl⟩) ⟨cPre_blind, va_recv hK hP (ci := 6) (q0 := 0) rfl rfl, cPre_at hP hK hN hD hS hA hZ⟩ rfl rfl hl.1 rfl (lv_room (Nat.le_of_ble_eq_true rfl)) dX6_bounded_113 ⟨Nat.le_of_ble_eq_true rfl, Nat.le_of_ble_eq_true rfl⟩) hD hS hA (fun H locs hP hD hS => ?_)
                  refine lv_imul hx hb dX6_bounded_116 ?_
                  refine lv_aload_n hx hb dX6_bounded_117 rfl (lv_at hl 2 rfl) ?_
                  refine lv_iload_n hx hb dX6_bounded_118 rfl (lv_at hl 1 rfl) ?_
                  refine lv_iconst (v := (2 : Int32)) hx hb dX6_bounded_119 (by decide) ?_
                  obtain ⟨u35, e36, h⟩ := bd_some h
                  refine k_i (va_runV (As := [.int v8, .int (2 : Int32)]) (rest := [.int (u31 * u33)]) ⟨hx, hb, hml, hown, hts⟩ (kX6_at l D q cI cJ cZ tP H.size wwd wmn u1.2.1 u1.2.2.1 u1.2.2.2.1 wwl u1.2.2.2.2.1 u1.2.2.2.2.2.1 u1.2.2.2.2.2.2.1 u1.2.2.2.2.2.2.2.1 u1.2.2.2.2.2.2.2.2 u4.2 v8 (2 : Int32) u35 e36) (cwV 2 hts gX6_bounded_X6_at rfl rfl rfl (by decide +kernel) ⟨Nat.le_of_ble_eq_true rfl, Nat.le_of_ble_eq_true rfl⟩) ⟨cPre_blind, va_recv hK hP (ci := 6) (q0 := 0) rfl rfl, cPre_at hP hK hN hD hS hA hZ⟩ rfl rfl hl.1 rfl (lv_room (Nat.le_of_ble_eq_true rfl)) dX6_bounded_120 ⟨Nat.le_of_ble_eq_true rfl, Nat.le_of_ble_eq_true rfl⟩) hD hS hA (fun H locs hP hD hS => ?_)
                  refine lv_aload_n hx hb dX6_bounded_123 rfl (lv_at hl 2 rfl) ?_
                  refine lv_iload_n hx hb dX6_bounded_124 rfl (lv_at hl 0 rfl) ?_
                  refine lv_iconst (v := (1 : Int32)) hx hb dX6_bounded_125 (by decide) ?_
                  obtain ⟨u37, e38, h⟩ := bd_some h
                  refine k_i (va_runV (As := [.int v20, .int (1 : Int32)]) (rest := [.int u35, .int (u31 * u33)]) ⟨hx, hb, hml, hown, hts⟩ (kX6_at l D q cI cJ cZ tP H.size wwd wmn u1.2.1 u1.2.2.1 u1.2.2.2.1 wwl u1.2.2.2.2.1 u1.2.2.2.2.2.1 u1.2.2.2.2.2.2.1 u1.2.2.2.2.2.2.2.1 u1.2.2.2.2.2.2.2.2 u4.2 v20 (1 : Int32) u37 e38) (cwV 2 hts gX6_bounded_X6_at rfl rfl rfl (by decide +kernel) ⟨Nat.le_of_ble_eq_true rfl, Nat.le_of_ble_eq_true rfl⟩) ⟨cPre_blind, va_recv hK hP (ci := 6) (q0 := 0) rfl rfl, cPre_at hP hK hN hD hS hA hZ⟩ rfl rfl hl.1 rfl (lv_room (Nat.le_of_ble_eq_true rfl)) dX6_bounded_126 ⟨Nat.le_of_ble_eq_true rfl, Nat.le_of_ble_eq_true rfl⟩) hD hS hA (fun H locs hP hD hS => ?_)
                  refine lv_imul hx hb dX6_bounded_129 ?_
                  refine lv_isub hx hb dX6_bounded_130 ?_
                  refine lv_istore (lv' := [(4, .int ((u31 * u33) - (u35 * u37))), (3, .int v20), (2, .int v8), (0, .ref (q 0)), (1, .int p1)]) hx hb dX6_bounded_131 hl (by decide) rfl (fun ls hl => ?_)
                  refine lv_aload_n hx hb dX6_bounded_133 rfl (lv_at hl 3 rfl) ?_
                  refine lv_iload_n hx hb dX6_bounded_134 rfl (lv_at hl 2 rfl) ?_
                  refine lv_iconst (v := (2 : Int32)) hx hb dX6_bounded_135 (by decide) ?_
                  obtain ⟨u39, e40, h⟩ := bd_some h
                  refine k_i (va_runV (As := [.int v8, .int (2 : Int32)]) (rest := []) ⟨hx, hb, hml, hown, hts⟩ (kX6_at l D q cI cJ cZ tP H.size wwd wmn u1.2.1 u1.2.2.1 u1.2.2.2.1 wwl u1.2.2.2.2.1 u1.2.2.2.2.2.1 u1.2.2.2.2.2.2.1 u1.2.2.2.2.2.2.2.1 u1.2.2.2.2.2.2.2.2 u4.2 v8 (2 : Int32) u39 e40) (cwV 2 hts gX6_bounded_X6_at rfl rfl rfl (by decide +kernel) ⟨Nat.le_of_ble_eq_true rfl, Nat.le_of_ble_eq_true rfl⟩) ⟨cPre_blind, va_recv hK hP (ci := 6) (q0 := 0) rfl rfl, cPre_at hP hK hN hD hS hA hZ⟩ rfl rfl hl.1 rfl (lv_room (Nat.le_of_ble_eq_true rfl)) dX6_bounded_136 ⟨Nat.le_of_ble_eq_true rfl, Nat.le_of_ble_eq_true rfl⟩) hD hS hA (fun H locs hP hD hS => ?_)
                  refine lv_aload_n hx hb dX6_bounded_139 rfl (lv_at hl 3 rfl) ?_
                  refine lv_iload_n hx hb dX6_bounded_140 rfl (lv_at hl 1 rfl) ?_
                  refine lv_iconst (v := (0 : Int32)) hx hb dX6_bounded_141 (by decide) ?_
                  obtain ⟨u41, e42, h⟩ := bd_some h
                  refine k_i (va_runV (As := [.int v20, .int (0 : Int32)]) (rest := [.int u39]) ⟨hx, hb, hml, hown, hts⟩ (kX6_at l D q cI cJ cZ tP H.size wwd wmn u1.2.1 u1.2.2.1 u1.2.2.2.1 wwl u1.2.2.2.2.1 u1.2.2.2.2.2.1 u1.2.2.2.2.2.2.1 u1.2.2.2.2.2.2.2.1 u1.2.2.2.2.2.2.2.2 u4.2 v20 (0 : Int32) u41 e42) (cwV 2 hts gX6_bounded_X6_at rfl rfl rfl (by decide +kernel) ⟨Nat.le_of_ble_eq_true rfl, Nat.le_of_ble_eq_true rfl⟩) ⟨cPre_blind, va_recv hK hP (ci := 6) (q0 := 0) rfl rfl, cPre_at hP hK hN hD hS hA hZ⟩ rfl rfl hl.1 rfl (lv_room (Nat.le_of_ble_eq_true rfl)) dX6_bounded_142 ⟨Nat.le_of_ble_eq_true rfl, Nat.le_of_ble_eq_true rfl⟩) hD hS hA (fun H locs hP hD hS => ?_)
                  refine lv_imul hx hb dX6_bounded_145 ?_
                  refine lv_aload_n hx hb dX6_bounded_146 rfl (lv_at hl 3 rfl) ?_
                  refine lv_iload_n hx hb dX6_bounded_147 rfl (lv_at hl 2 rfl) ?_
                  refine lv_iconst (v := (0 : Int32)) hx hb dX6_bounded_148 (by decide) ?_
                  obtain ⟨u43, e44, h⟩ := bd_some h
                  refine k_i (va_runV (As := [.int v8, .int (0 : Int32)]) (rest := [.int (u39 * u41)]) ⟨hx, hb, hml, hown, hts⟩ (kX6_at l D q cI cJ cZ tP H.size wwd wmn u1.2.1 u1.2.2.1 u1.2.2.2.1 wwl u1.2.2.2.2.1 u1.2.2.2.2.2.1 u1.2.2.2.2.2.2.1 u1.2.2.2.2.2.2.2.1 u1.2.2.2.2.2.2.2.2 u4.2 v8 (0 : Int32) u43 e44) (cwV 2 hts gX6_bounded_X6_at rfl rfl rfl (by decide +kernel) ⟨Nat.le_of_ble_eq_true rfl, Nat.le_of_ble_eq_true rfl⟩) ⟨cPre_blind, va_recv hK hP (ci := 6) (q0 := 0) rfl rfl, cPre_at hP hK hN hD hS hA hZ⟩ rfl rfl hl.1 rfl (lv_room (Nat.le_of_ble_eq_true rfl)) dX6_bounded_149 ⟨Nat.le_of_ble_eq_true rfl, Nat.le_of_ble_eq_true rfl⟩) hD hS hA (fun H locs hP hD hS => ?_)
                  refine lv_aload_n hx hb dX6_bounded_152 rfl (lv_at hl 3 rfl) ?_
                  refine lv_iload_n hx hb dX6_bounded_153 rfl (lv_at hl 1 rfl) ?_
                  refine lv_iconst (v := (2 : Int32)) hx hb dX6_bounded_154 (by decide) ?_
                  obtain ⟨u45, e46, h⟩ := bd_some h
                  refine k_i (va_runV (As := [.int v20, .int (2 : Int32)]) (rest := [.int u43, .int (u39 * u41)]) ⟨hx, hb, hml, hown, hts⟩ (kX6_at l D q cI cJ cZ tP H.size wwd wmn u1.2.1 u1.2.2.1 u1.2.2.2.1 wwl u1.2.2.2.2.1 u1.2.2.2.2.2.1 u1.2.2.2.2.2.2.1 u1.2.2.2.2.2.2.2.1 u1.2.2.2.2.2.2.2.2 u4.2 v20 (2 : Int32) u45 e46) (cwV 2 hts gX6_bounded_X6_at rfl rfl rfl (by decide +kernel) ⟨Nat.le_of_ble_eq_true rfl, Nat.le_of_ble_eq_true rfl⟩) ⟨cPre_blind, va_recv hK hP (ci := 6) (q0 := 0) rfl rfl, cPre_at hP hK hN hD hS hA hZ⟩ rfl rfl hl.1 rfl (lv_room (Nat.le_of_ble_eq_true rfl)) dX6_bounded_155 ⟨Nat.le_of_ble_eq_true rfl, Nat.le_of_ble_eq_true rfl⟩) hD hS hA (fun H locs hP hD hS => ?_)
                  refine lv_imul hx hb dX6_bounded_158 ?_
                  refine lv_isub hx hb dX6_bounded_159 ?_
                  refine lv_istore (lv' := [(5, .int ((u39 * u41) - (u43 * u45))), (4, .int ((u31 * u33) - (u35 * u37))), (3, .int v20), (2, .int v8), (0, .ref (q 0)), (1, .int p1)]) hx hb dX6_bounded_160 hl (by decide) rfl (fun ls hl => ?_)
                  refine lv_aload_n hx hb dX6_bounded_162 rfl (lv_at hl 4 rfl) ?_
                  refine lv_iload_n hx hb dX6_bounded_163 rfl (lv_at hl 3 rfl) ?_
                  refine lv_iconst (v := (0 : Int32)) hx hb dX6_bounded_164 (by decide) ?_
                  obtain ⟨u47, e48, h⟩ := bd_some h
                  refine k_i (va_runV (As := [.int v8, .int (0 : Int32)]) (rest := []) ⟨hx, hb, hml, hown, hts⟩ (kX6_at l D q cI cJ cZ tP H.size wwd wmn u1.2.1 u1.2.2.1 u1.2.2.2.1 wwl u1.2.2.2.2.1 u1.2.2.2.2.2.1 u1.2.2.2.2.2.2.1 u1.2.2.2.2.2.2.2.1 u1.2.2.2.2.2.2.2.2 u4.2 v8 (0 : Int32) u47 e48) (cwV 2 hts gX6_bounded_X6_at rfl rfl rfl (by decide +kernel) ⟨Nat.le_of_ble_eq_true rfl, Nat.le_of_ble_eq_true rfl⟩) ⟨cPre_blind, va_recv hK hP (ci := 6) (q0 := 0) rfl rfl, cPre_at hP hK hN hD hS hA hZ⟩ rfl rfl hl.1 rfl (lv_room (Nat.le_of_ble_eq_true rfl)) dX6_bounded_165 ⟨Nat.le_of_ble_eq_true rfl, Nat.le_of_ble_eq_true rfl⟩) hD hS hA (fun H locs hP hD hS => ?_)
                  refine lv_aload_n hx hb dX6_bounded_168 rfl (lv_at hl 4 rfl) ?_
                  refine lv_iload_n hx hb dX6_bounded_169 rfl (lv_at hl 2 rfl) ?_
                  refine lv_iconst (v := (1 : Int32)) hx hb dX6_bounded_170 (by decide) ?_
                  obtain ⟨u49, e50, h⟩ := bd_some h
                  refine k_i (va_runV (As := [.int v20, .int (1 : Int32)]) (rest := [.int u47]) ⟨hx, hb, hml, hown, hts⟩ (kX6_at l D q cI cJ cZ tP H.size wwd wmn u1.2.1 u1.2.2.1 u1.2.2.2.1 wwl u1.2.2.2.2.1 u1.2.2.2.2.2.1 u1.2.2.2.2.2.2.1 u1.2.2.2.2.2.2.2.1 u1.2.2.2.2.2.2.2.2 u4.2 v20 (1 : Int32) u49 e50) (cwV 2 hts gX6_bounded_X6_at rfl rfl rfl (by decide +kernel) ⟨Nat.le_of_ble_eq_true rfl, Nat.le_of_ble_eq_true rfl⟩) ⟨cPre_blind, va_recv hK hP (ci := 6) (q0 := 0) rfl rfl, cPre_at hP hK hN hD hS hA hZ⟩ rfl rfl hl.1 rfl (lv_room (Nat.le_of_ble_eq_true rfl)) dX6_bounded_171 ⟨Nat.le_of_ble_eq_true rfl, Nat.le_of_ble_eq_true rfl⟩) hD hS hA (fun H locs hP hD hS => ?_)
                  refine lv_imul hx hb dX6_bounded_174 ?_
                  refine lv_aload_n hx hb dX6_bounded_175 rfl (lv_at hl 4 rfl) ?_
                  refine lv_iload_n hx hb dX6_bounded_176 rfl (lv_at hl 3 rfl) ?_
                  refine lv_iconst (v := (1 : Int32)) hx hb dX6_bounded_177 (by decide) ?_
                  obtain ⟨u51, e52, h⟩ := bd_some h
                  refine k_i (va_runV (As := [.int v8, .int (1 : Int32)]) (rest := [.int (u47 * u49)]) ⟨hx, hb, hml, hown, hts⟩ (kX6_at l D q cI cJ cZ tP H.size wwd wmn u1.2.1 u1.2.2.1 u1.2.2.2.1 wwl u1.2.2.2.2.1 u1.2.2.2.2.2.1 u1.2.2.2.2.2.2.1 u1.2.2.2.2.2.2.2.1 u1.2.2.2.2.2.2.2.2 u4.2 v8 (1 : Int32) u51 e52) (cwV 2 hts gX6_bounded_X6_at rfl rfl rfl (by decide +kernel) ⟨Nat.le_of_ble_eq_true rfl, Nat.le_of_ble_eq_true rfl⟩) ⟨cPre_blind, va_recv hK hP (ci := 6) (q0 := 0) rfl rfl, cPre_at hP hK hN hD hS hA hZ⟩ rfl rfl hl.1 rfl (lv_room (Nat.le_of_ble_eq_true rfl)) dX6_bounded_178 ⟨Nat.le_of_ble_eq_true rfl, Nat.le_of_ble_eq_true rfl⟩) hD hS hA (fun H locs hP hD hS => ?_)
                  refine lv_aload_n hx hb dX6_bounded_181 rfl (lv_at hl 4 rfl) ?_
                  refine lv_iload_n hx hb dX6_bounded_182 rfl (lv_at hl 2 rfl) ?_
                  refine lv_iconst (v := (0 : Int32)) hx hb dX6_bounded_183 (by decide) ?_
                  obtain ⟨u53, e54, h⟩ := bd_some h
                  refine k_i (va_runV (As := [.int v20, .int (0 : Int32)]) (rest := [.int u51, .int (u47 * u49)]) ⟨hx, hb, hml, hown, hts⟩ (kX6_at l D q cI cJ cZ tP H.size wwd wmn u1.2.1 u1.2.2.1 u1.2.2.2.1 wwl u1.2.2.2.2.1 u1.2.2.2.2.2.1 u1.2.2.2.2.2.2.1 u1.2.2.2.2.2.2.2.1 u1.2.2.2.2.2.2.2.2 u4.2 v20 (0 : Int32) u53 e54) (cwV 2 hts gX6_bounded_X6_at rfl rfl rfl (by decide +kernel) ⟨Nat.le_of_ble_eq_true rfl, Nat.le_of_ble_eq_true rfl⟩) ⟨cPre_blind, va_recv hK hP (ci := 6) (q0 := 0) rfl rfl, cPre_at hP hK hN hD hS hA hZ⟩ rfl rfl hl.1 rfl (lv_room (Nat.le_of_ble_eq_true rfl)) dX6_bounded_184 ⟨Nat.le_of_ble_eq_true rfl, Nat.le_of_ble_eq_true rfl⟩) hD hS hA (fun H locs hP hD hS => ?_)
                  refine lv_imul hx hb dX6_bounded_187 ?_
                  refine lv_isub hx hb dX6_bounded_188 ?_
                  refine lv_istore (lv' := [(6, .int ((u47 * u49) - (u51 * u53))), (5, .int ((u39 * u41) - (u43 * u45))), (4, .int ((u31 * u33) - (u35 * u37))), (3, .int v20), (2, .int v8), (0, .ref (q 0)), (1, .int p1)]) hx hb dX6_bounded_189 hl (by decide) rfl (fun ls hl => ?_)
                  refine lv_aload_n hx hb dX6_bounded_191 rfl (lv_at hl 5 rfl) ?_
                  refine lv_iload_n hx hb dX6_bounded_192 rfl (lv_at hl 6 rfl) ?_
                  refine lv_iload hx hb dX6_bounded_193 (lv_at hl 2 rfl) ?_
                  refine lv_iload hx hb dX6_bounded_195 (lv_at hl 1 rfl) ?_
                  refine lv_iload hx hb dX6_bounded_197 (lv_at hl 0 rfl) ?_
                  obtain ⟨u55, e56, h⟩ := bd_some h
                  refine k_i (va_runV (As := [.int p1, .int ((u31 * u33) - (u35 * u37)), .int ((u39 * u41) - (u43 * u45)), .int ((u47 * u49) - (u51 * u53))]) (rest := []) ⟨hx, hb, hml, hown, hts⟩ (kX6_leadsEither l D q cI cJ cZ tP H.size wwd wmn u1.2.1 u1.2.2.1 u1.2.2.2.1 wwl u1.2.2.2.2.1 u1.2.2.2.2.2.1 u1.2.2.2.2.2.2.1 u1.2.2.2.2.2.2.2.1 u1.2.2.2.2.2.2.2.2 u4.2 p1 ((u31 * u33) - (u35 * u37)) ((u39 * u41) - (u43 * u45)) ((u47 * u49) - (u51 * u53)) u55 e56) (cwV 4 hts gX6_bounded_X6_leadsEither rfl rfl rfl (by decide +kernel) ⟨Nat.le_of_ble_eq_true rfl, Nat.le_of_ble_eq_true rfl⟩) ⟨cPre_blind, va_recv hK hP (ci := 6) (q0 := 0) rfl rfl, cPre_at hP hK hN hD hS hA hZ⟩ rfl rfl hl.1 rfl (lv_room (Nat.le_of_ble_eq_true rfl)) dX6_bounded_199 ⟨Nat.le_of_ble_eq_true rfl, Nat.le_of_ble_eq_true rfl⟩) hD hS hA (fun H locs hP hD hS => ?_)
                  refine lv_if_eq (tgt := 207) hx hb dX6_bounded_202 (by decide) (fun c57 => ?_) (fun c57 => ?_)
                  · have h := (if_pos c57).symm.trans h
                    refine lv_iinc (v := (v20 + (1 : Int32))) (lv' := [(3, .int (v20 + (1 : Int32))), (6, .int ((u47 * u49) - (u51 * u53))), (5, .int ((u39 * u41) - (u43 * u45))), (4, .int ((u31 * u33) - (u35 * u37))), (2, .int v8), (0, .ref (q 0)), (1, .int p1)]) hx hb dX6_bounded_207 hl (k := 3) rfl rfl (by decide) rfl (fun ls hl => ?_)
                    refine lv_goto (tgt := 99) hx hb dX6_bounded_210 (by decide) ?_
                    exact ih28 _ _ _ _ (Option.some.inj h).symm ⟨hP, hD, hS, lv_sub hl [0, 4, 5, 6] rfl⟩
                  · have h := (if_neg c57).symm.trans h
                    refine lv_iconst (v := (0 : Int32)) hx hb dX6_bounded_205 (by decide) ?_
                    have hu := KR24 _ (hR27 _ (Option.some.inj h).symm)
                    subst hu
                    exact W.zret (v := (0 : Int32)) hx hb hr (by decide) (fun t ht hW => ⟨⟨(0 : Int32), (), rfl, rfl, by rw [ht]; exact hP, hD⟩, hS.F ht⟩) hS.2.2 dX6_bounded_206
            · have h := (if_pos c19).symm.trans h
              refine lv_aload_n hx hb dX6_bounded_73 rfl (lv_at hl 1 rfl) ?_
              refine lv_iload_n hx hb dX6_bounded_74 rfl (lv_at hl 2 rfl) ?_
              refine lv_aload_n hx hb dX6_bounded_75 rfl (lv_at hl 1 rfl) ?_
              refine lv_iload_n hx hb dX6_bounded_76 rfl (lv_at hl 0 rfl) ?_
              refine lv_iconst (v := (1 : Int32)) hx hb dX6_bounded_77 (by decide) ?_
              obtain ⟨u58, e59, h⟩ := bd_some h
              refine k_i (va_runV (As := [.int v8, .int (1 : Int32)]) (rest := [.int p1, .ref (q 0)]) ⟨hx, hb, hml, hown, hts⟩ (kX6_at l D q cI cJ cZ tP H.size wwd wmn u1.2.1 u1.2.2.1 u1.2.2.2.1 wwl u1.2.2.2.2.1 u1.2.2.2.2.2.1 u1.2.2.2.2.2.2.1 u1.2.2.2.2.2.2.2.1 u1.2.2.2.2.2.2.2.2 u4.2 v8 (1 : Int32) u58 e59) (cwV 2 hts gX6_bounded_X6_at rfl rfl rfl (by decide +kernel) ⟨Nat.le_of_ble_eq_true rfl, Nat.le_of_ble_eq_true rfl⟩) ⟨cPre_blind, va_recv hK hP (ci := 6) (q0 := 0) rfl rfl, cPre_at hP hK hN hD hS hA hZ⟩ rfl rfl hl.1 rfl (lv_room (Nat.le_of_ble_eq_true rfl)) dX6_bounded_78 ⟨Nat.le_of_ble_eq_true rfl, Nat.le_of_ble_eq_true rfl⟩) hD hS hA (fun H locs hP hD hS => ?_)
              refine lv_ineg hx hb dX6_bounded_81 ?_
              refine lv_aload_n hx hb dX6_bounded_82 rfl (lv_at hl 1 rfl) ?_
              refine lv_iload_n hx hb dX6_bounded_83 rfl (lv_at hl 0 rfl) ?_
              refine lv_iconst (v := (0 : Int32)) hx hb dX6_bounded_84 (by decide) ?_
              obtain ⟨u60, e61, h⟩ := bd_some h
              refine k_i (va_runV (As := [.int v8, .int (0 : Int32)]) (rest := [.int (-u58), .int p1, .ref (q 0)]) ⟨hx, hb, hml, hown, hts⟩ (kX6_at l D q cI cJ cZ tP H.size wwd wmn u1.2.1 u1.2.2.1 u1.2.2.2.1 wwl u1.2.2.2.2.1 u1.2.2.2.2.2.1 u1.2.2.2.2.2.2.1 u1.2.2.2.2.2.2.2.1 u1.2.2.2.2.2.2.2.2 u4.2 v8 (0 : Int32) u60 e61) (cwV 2 hts gX6_bounded_X6_at rfl rfl rfl (by decide +kernel) ⟨Nat.le_of_ble_eq_true rfl, Nat.le_of_ble_eq_true rfl⟩) ⟨cPre_blind, va_recv hK hP (ci := 6) (q0 := 0) rfl rfl, cPre_at hP hK hN hD hS hA hZ⟩ rfl rfl hl.1 rfl (lv_room (Nat.le_of_ble_eq_true rfl)) dX6_bounded_85 ⟨Nat.le_of_ble_eq_true rfl, Nat.le_of_ble_eq_true rfl⟩) hD hS hA (fun H locs hP hD hS => ?_)
              refine lv_iconst (v := (0 : Int32)) hx hb dX6_bounded_88 (by decide) ?_
              obtain ⟨u62, e63, h⟩ := bd_some h
              refine k_i (va_runV (As := [.int p1, .int (-u58), .int u60, .int (0 : Int32)]) (rest := []) ⟨hx, hb, hml, hown, hts⟩ (kX6_leadsEither l D q cI cJ cZ tP H.size wwd wmn u1.2.1 u1.2.2.1 u1.2.2.2.1 wwl u1.2.2.2.2.1 u1.2.2.2.2.2.1 u1.2.2.2.2.2.2.1 u1.2.2.2.2.2.2.2.1 u1.2.2.2.2.2.2.2.2 u4.2 p1 (-u58) u60 (0 : Int32) u62 e63) (cwV 4 hts gX6_bounded_X6_leadsEither rfl rfl rfl (by decide +kernel) ⟨Nat.le_of_ble_eq_true rfl, Nat.le_of_ble_eq_true rfl⟩) ⟨cPre_blind, va_recv hK hP (ci := 6) (q0 := 0) rfl rfl, cPre_at hP hK hN hD hS hA hZ⟩ rfl rfl hl.1 rfl (lv_room (Nat.le_of_ble_eq_true rfl)) dX6_bounded_89 ⟨Nat.le_of_ble_eq_true rfl, Nat.le_of_ble_eq_true rfl⟩) hD hS hA (fun H locs hP hD hS => ?_)
              refine lv_if_eq (tgt := 213) hx hb dX6_bounded_92 (by decide) (fun c64 => ?_) (fun c64 => ?_)
              · have h := (if_pos c64).symm.trans h
                refine lv_iinc (v := (v8 + (1 : Int32))) (lv' := [(2, .int (v8 + (1 : Int32))), (0, .ref (q 0)), (1, .int p1)]) hx hb dX6_bounded_213 hl (k := 0) rfl rfl (by decide) rfl (fun ls hl => ?_)
                refine lv_goto (tgt := 57) hx hb dX6_bounded_216 (by decide) ?_
                exact ih16 _ _ _ _ (Option.some.inj h).symm ⟨hP, hD, hS, lv_sub hl [0, 1, 2] rfl⟩
              · have h := (if_neg c64).symm.trans h
                refine lv_iconst (v := (0 : Int32)) hx hb dX6_bounded_95 (by decide) ?_
                have hu := KR12 _ (hR15 _ (Option.some.inj h).symm)
                subst hu
                exact W.zret (v := (0 : Int32)) hx hb hr (by decide) (fun t ht hW => ⟨⟨(0 : Int32), (), rfl, rfl, by rw [ht]; exact hP, hD⟩, hS.F ht⟩) hS.2.2 dX6_bounded_96
      · have h := (if_pos c7).symm.trans h
        refine lv_aload_n hx hb dX6_bounded_38 rfl (lv_at hl 0 rfl) ?_
        refine lv_iload_n hx hb dX6_bounded_39 rfl (lv_at hl 1 rfl) ?_
        refine lv_iconst (v := (1 : Int32)) hx hb dX6_bounded_40 (by decide) ?_
        refine lv_iconst (v := (0 : Int32)) hx hb dX6_bounded_41 (by decide) ?_
        refine lv_iconst (v := (0 : Int32)) hx hb dX6_bounded_42 (by decide) ?_
        obtain ⟨u65, e66, h⟩ := bd_some h
        refine k_i (va_runV (As := [.int p1, .int (1 : Int32), .int (0 : Int32), .int (0 : Int32)]) (rest := []) ⟨hx, hb, hml, hown, hts⟩ (kX6_leadsEither l D q cI cJ cZ tP H.size wwd wmn u1.2.1 u1.2.2.1 u1.2.2.2.1 wwl u1.2.2.2.2.1 u1.2.2.2.2.2.1 u1.2.2.2.2.2.2.1 u1.2.2.2.2.2.2.2.1 u1.2.2.2.2.2.2.2.2 u4.2 p1 (1 : Int32) (0 : Int32) (0 : Int32) u65 e66) (cwV 4 hts gX6_bounded_X6_leadsEither rfl rfl rfl (by decide +kernel) ⟨Nat.le_of_ble_eq_true rfl, Nat.le_of_ble_eq_true rfl⟩) ⟨cPre_blind, va_recv hK hP (ci := 6) (q0 := 0) rfl rfl, cPre_at hP hK hN hD hS hA hZ⟩ rfl rfl hl.1 rfl (lv_room (Nat.le_of_ble_eq_true rfl)) dX6_bounded_43 ⟨Nat.le_of_ble_eq_true rfl, Nat.le_of_ble_eq_true rfl⟩) hD hS hA (fun H locs hP hD hS => ?_)
        refine lv_if_ne (tgt := 53) hx hb dX6_bounded_46 (by decide) (fun c67 => ?_) (fun c67 => ?_)
        · have h := (if_neg c67).symm.trans h
          refine lv_iconst (v := (0 : Int32)) hx hb dX6_bounded_53 (by decide) ?_
          obtain rfl := Option.some.inj h
          exact W.zret (v := (0 : Int32)) hx hb hr (by decide) (fun t ht hW => ⟨⟨(0 : Int32), (), rfl, rfl, by rw [ht]; exact hP, hD⟩, hS.F ht⟩) hS.2.2 dX6_bounded_54
        · have h := (if_pos c67).symm.trans h
          refine lv_iconst (v := (1 : Int32)) hx hb dX6_bounded_49 (by decide) ?_
          refine lv_goto (tgt := 54) hx hb dX6_bounded_50 (by decide) ?_
          obtain rfl := Option.some.inj h
          exact W.zret (v := (1 : Int32)) hx hb hr (by decide) (fun t ht hW => ⟨⟨(1 : Int32), (), rfl, rfl, by rw [ht]; exact hP, hD⟩, hS.F ht⟩) hS.2.2 dX6_bounded_54
    · have h := (if_neg c6).symm.trans h
      refine lv_iconst (v := (0 : Int32)) hx hb dX6_bounded_28 (by decide) ?_
      obtain rfl := Option.some.inj h
      exact W.zret (v := (0 : Int32)) hx hb hr (by decide) (fun t ht hW => ⟨⟨(0 : Int32), (), rfl, rfl, by rw [ht]; exact hP, hD⟩, hS.F ht⟩) hS.2.2 dX6_bounded_29

-- X6_boundedRooms
theorem wmX6_boundedRooms_0 : (.fieldLink RX6 49 "SpaceWallsModel" "many" "I" : Cond) ∈ wsX6_boundedRooms := by decide +kernel
theorem wiX6_boundedRooms_X6 : ∀ w ∈ u_ws RX6 TX6 12, w ∈ wsX6_boundedRooms := by decide +kernel
set_option maxHeartbeats 8000000 in
set_option maxRecDepth 100000 in
theorem kX6_boundedRooms (l : Launch) (D : va_G) (q : Nat → Nat) (cI cJ cZ : ClassId) (tP sz : Nat) (wwd : Int32) (wmn : Int32) (wod : Int32) (wsm : Int32) (wnm : Int32) (wwl : (Nat → Int32)) (wif : (Nat → Int32)) (wev : (Nat → Int32)) (wne : (Nat → Int32)) (wsu : (Nat → Int64)) (wnx : (Nat → Int64)) (wta : (Nat → Int64))  (uu : (Int32 × Int32 × Int32 × Int32 × (Nat → Int32) × (Nat → Int32) × (Nat → Int32) × (Nat → Int64) × (Nat → Int64) × (Nat → Int64))) (h : fX6_boundedRooms wwd wmn wod wsm wnm wwl wif wev wne wsu wnx wta = some uu) : Met l yX6_boundedRooms wsX6_boundedRooms ({ frames := 7, cells := 0, slots := 0, locals := 172 }) (cPre D cI cJ cZ tP (WM_ q cI cJ cZ wwd wmn wod wsm wnm wwl wif wev wne wsu wnx wta) sz [.ref (q 0)]) (cQi D (va_A (WM_ q cI cJ cZ wwd wmn wod wsm wnm wwl wif wev wne wsu wnx wta) sz) (WM_ q cI cJ cZ wwd wmn uu.2.1 uu.2.2.1 uu.2.2.2.1 wwl uu.2.2.2.2.1 uu.2.2.2.2.2.1 uu.2.2.2.2.2.2.1 uu.2.2.2.2.2.2.2.1 uu.2.2.2.2.2.2.2.2.1 uu.2.2.2.2.2.2.2.2.2) uu.1) 0 0 (va_A (WM_ q cI cJ cZ wwd wmn wod wsm wnm wwl wif wev wne wsu wnx wta) sz) := by
  refine Met.ofW (cc := cX6_boundedRooms) (maxL := 3) (ret := (some .int)) (by decide) rfl ?_
  intro p e s m args below meth c s₁ B hml hv
  obtain ⟨rfl, hsz, hP, hK, hN, hD0, hZ⟩ := hv
  have hx := B.exec
  have hb := B.bytes
  have hr := B.returns
  have hts := atoms_spec (ws := wsX6_boundedRooms) B.pre
  have hown : s.vm.findClass RX6 = some m.cls := findClass_of_methodNamed B.named
  have hlocks := B.notSynchronized
  subst hsz
  have hD := hD0.self (sz := s.heap.size)
  generalize hAe : va_A (WM_ q cI cJ cZ wwd wmn wod wsm wnm wwl wif wev wne wsu wnx wta) s.heap.size = A at hD hZ ⊢
  have hA : ∀ q : Nat, s.heap.size ≤ q → A q := fun q h => by rw [← hAe]; exact Or.inr h
  have hS : va_S A s.heap s.heap [] := va_S.rf
  have hl := lv_entry ([.ref (q 0)]) (n := 3) (Nat.le_of_ble_eq_true rfl)
  rw [lg_entry_eq]
  generalize (lg_sl ([.ref (q 0)]) ++ List.replicate (3 - (lg_sl ([.ref (q 0)])).length) Slot.unset).toArray = ls at hl ⊢
  have hl : lv_has ls 3 [(0, .ref (q 0))] := hl
  unfold fX6_boundedRooms at h
  refine lv_iconst (v := (0 : Int32)) hx hb dX6_boundedRooms_0 (by decide) ?_
  refine lv_istore_n (lv' := [(1, .int (0 : Int32)), (0, .ref (q 0))]) hx hb dX6_boundedRooms_1 rfl hl (by decide) rfl (fun ls hl => ?_)
  refine lv_iconst (v := (0 : Int32)) hx hb dX6_boundedRooms_2 (by decide) ?_
  refine lv_istore_n (lv' := [(2, .int (0 : Int32)), (1, .int (0 : Int32)), (0, .ref (q 0))]) hx hb dX6_boundedRooms_3 rfl hl (by decide) rfl (fun ls hl => ?_)
  obtain ⟨u12, e13, h⟩ := bd_some h
  refine W_leave (P := fun (y : (Int32 × Int32 × Int32 × Int32 × Int32 × (Nat → Int32) × (Nat → Int32) × (Nat → Int32) × (Nat → Int64) × (Nat → Int64) × (Nat → Int64))) H locs ls => u12 = y ∧ va_P D vwCl (WM_ q cI cJ cZ wwd wmn y.2.2.1 y.2.2.2.1 y.2.2.2.2.1 wwl y.2.2.2.2.2.1 y.2.2.2.2.2.2.1 y.2.2.2.2.2.2.2.1 y.2.2.2.2.2.2.2.2.1 y.2.2.2.2.2.2.2.2.2.1 y.2.2.2.2.2.2.2.2.2.2) H ∧ va_D A (WM_ q cI cJ cZ wwd wmn y.2.2.1 y.2.2.2.1 y.2.2.2.2.1 wwl y.2.2.2.2.2.1 y.2.2.2.2.2.2.1 y.2.2.2.2.2.2.2.1 y.2.2.2.2.2.2.2.2.1 y.2.2.2.2.2.2.2.2.2.1 y.2.2.2.2.2.2.2.2.2.2) ∧ va_S A s.heap H locs ∧ lv_has ls 3 [(2, .int y.1), (1, .int y.2.1), (0, .ref (q 0))]) (g := fun ls => F0 m 45 ls []) ?_ ?_
  · intro y H locs ls hq
    obtain ⟨hy, hP, hD, hS, hl⟩ := hq
    subst hy
    have hl : lv_has ls 3 [(2, .int u12.1), (1, .int u12.2.1), (0, .ref (q 0))] := hl
    refine lv_iload_n hx hb dX6_boundedRooms_45 rfl (lv_at hl 1 rfl) ?_
    obtain rfl := Option.some.inj h
    exact W.iret (v := u12.2.1) hx hb hr (fun t ht hW => ⟨⟨u12.2.1, (), rfl, rfl, by rw [ht]; exact hP, hD⟩, hS.F ht⟩) hS.2.2 dX6_boundedRooms_46
  · intro K14
    refine W_lp (body := (fun (st : (Int32 × Int32 × Int32 × Int32 × Int32 × (Nat → Int32) × (Nat → Int32) × (Nat → Int32) × (Nat → Int64) × (Nat → Int64) × (Nat → Int64))) => fX6_boundedRooms_L4 wmn wwd wwl st.1 st.2.1 st.2.2.1 st.2.2.2.1 st.2.2.2.2.1 st.2.2.2.2.2.1 st.2.2.2.2.2.2.1 st.2.2.2.2.2.2.2.1 st.2.2.2.2.2.2.2.2.1 st.2.2.2.2.2.2.2.2.2.1 st.2.2.2.2.2.2.2.2.2.2)) (P := fun (st : (Int32 × Int32 × Int32 × Int32 × Int32 × (Nat → Int32) × (Nat → Int32) × (Nat → Int32) × (Nat → Int64) × (Nat → Int64) × (Nat → Int64))) H locs ls => va_P D vwCl (WM_ q cI cJ cZ wwd wmn st.2.2.1 st.2.2.2.1 st.2.2.2.2.1 wwl st.2.2.2.2.2.1 st.2.2.2.2.2.2.1 st.2.2.2.2.2.2.2.1 st.2.2.2.2.2.2.2.2.1 st.2.2.2.2.2.2.2.2.2.1 st.2.2.2.2.2.2.2.2.2.2) H ∧ va_D A (WM_ q cI cJ cZ wwd wmn st.2.2.1 st.2.2.2.1 st.2.2.2.2.1 wwl st.2.2.2.2.2.1 st.2.2.2.2.2.2.1 st.2.2.2.2.2.2.2.1 st.2.2.2.2.2.2.2.2.1 st.2.2.2.2.2.2.2.2.2.1 st.2.2.2.2.2.2.2.2.2.2) ∧ va_S A s.heap H locs ∧ lv_has ls 3 [(2, .int st.1), (1, .int st.2.1), (0, .ref (q 0))]) (g := fun _ ls => F0 m 4 ls []) (r := u12) ?_ fu_ ((0 : Int32), (0 : Int32), wod, wsm, wnm, wif, wev, wne, wsu, wnx, wta) _ _ _ e13 ⟨hP, hD, hS, lv_sub hl [0, 1, 2] rfl⟩
    intro st xx18 H locs ls h hq ih17 hR16
    obtain ⟨hP, hD, hS, hl⟩ := hq
    obtain ⟨v1, v2, v3, v4, v5, v6, v7, v8, v9, v10, v11⟩ := st
    have hP : va_P D vwCl (WM_ q cI cJ cZ wwd wmn v3 v4 v5 wwl v6 v7 v8 v9 v10 v11) H := hP
    have hD : va_D A (WM_ q cI cJ cZ wwd wmn v3 v4 v5 wwl v6 v7 v8 v9 v10 v11) := hD
    have hl : lv_has ls 3 [(2, .int v1), (1, .int v2), (0, .ref (q 0))] := hl
    have h : fX6_boundedRooms_L4 wmn wwd wwl v1 v2 v3 v4 v5 v6 v7 v8 v9 v10 v11 = some xx18 := h
    unfold fX6_boundedRooms_L4 at h
    refine lv_iload_n hx hb dX6_boundedRooms_4 rfl (lv_at hl 0 rfl) ?_
    refine lv_aload_n hx hb dX6_boundedRooms_5 rfl (lv_at hl 2 rfl) ?_
    refine va_get (D := D) (ci := 6) (v := .int wmn) (C := RX6) (T := TX6) (N := 12) hx hb hts wiX6_boundedRooms_X6 hown hK hP 0 rfl rfl 1 (by decide) (hts _ wmX6_boundedRooms_0) (fun _ h9 => h9) rfl dX6_boundedRooms_6 ?_
    obtain ⟨u19, e20, h⟩ := bd_some h
    refine k_i0 (va_runS (As := [.int wmn]) (rest := [.int v1]) ⟨hx, hb, hml, hown, hts⟩ (kX6_power l D cI cJ cZ tP H.size  wmn u19 e20) (va_cwS 1 hts gX6_boundedRooms_X6_power rfl rfl rfl (by decide +kernel) ⟨Nat.le_of_ble_eq_true rfl, Nat.le_of_ble_eq_true rfl⟩) ⟨cPre_blind, cPre_at0 hK hN hS hA hZ⟩ rfl rfl hl.1 rfl (lv_room (Nat.le_of_ble_eq_true rfl)) dX6_boundedRooms_9 ⟨Nat.le_of_ble_eq_true rfl, Nat.le_of_ble_eq_true rfl⟩) hP hS hA (fun H locs hP hS => ?_)
    refine lv_icmp_ge (tgt := 45) hx hb dX6_boundedRooms_12 (by decide) (fun c21 => ?_) (fun c21 => ?_)
    · have h := (if_pos c21).symm.trans h
      exact K14 _ _ _ _ ⟨(hR16 _ (Option.some.inj h).symm).symm, hP, hD, hS, lv_sub hl [0, 1, 2] rfl⟩
    · have h := (if_neg c21).symm.trans h
      refine lv_iload_n hx hb dX6_boundedRooms_15 rfl (lv_at hl 1 rfl) ?_
      refine lv_aload_n hx hb dX6_boundedRooms_16 rfl (lv_at hl 2 rfl) ?_
      refine lv_iload_n hx hb dX6_boundedRooms_17 rfl (lv_at hl 0 rfl) ?_
      obtain ⟨u22, e23, h⟩ := bd_some h
      refine k_i (va_runV (As := [.int v1]) (rest := [.int v2]) ⟨hx, hb, hml, hown, hts⟩ (kX6_isRoom l D q cI cJ cZ tP H.size wwd wmn v3 v4 v5 wwl v6 v7 v8 v9 v10 v11 v1 u22 e23) (cwV 1 hts gX6_boundedRooms_X6_isRoom rfl rfl rfl (by decide +kernel) ⟨Nat.le_of_ble_eq_true rfl, Nat.le_of_ble_eq_true rfl⟩) ⟨cPre_blind, va_recv hK hP (ci := 6) (q0 := 0) rfl rfl, cPre_at hP hK hN hD hS hA hZ⟩ rfl rfl hl.1 rfl (lv_room (Nat.le_of_ble_eq_true rfl)) dX6_boundedRooms_18 ⟨Nat.le_of_ble_eq_true rfl, Nat.le_of_ble_eq_true rfl⟩) hD hS hA (fun H locs hP hD hS => ?_)
      refine lv_if_eq (tgt := 36) hx hb dX6_boundedRooms_21 (by decide) (fun c24 => ?_) (fun c24 => ?_)
      · have h := (if_pos c24).symm.trans h
        refine lv_iconst (v := (0 : Int32)) hx hb dX6_boundedRooms_36 (by decide) ?_
        refine lv_iadd hx hb dX6_boundedRooms_37 ?_
        refine lv_istore_n (lv' := [(1, .int (v2 + (0 : Int32))), (2, .int v1), (0, .ref (q 0))]) hx hb dX6_boundedRooms_38 rfl hl (by decide) rfl (fun ls hl => ?_)
        refine lv_iinc (v := (v1 + (1 : Int32))) (lv' := [(2, .int (v1 + (1 : Int32))), (1, .int (v2 + (0 : Int32))), (0, .ref (q 0))]) hx hb dX6_boundedRooms_39 hl (k := 1) rfl rfl (by decide) rfl (fun ls hl => ?_)
        refine lv_goto (tgt := 4) hx hb dX6_boundedRooms_42 (by decide) ?_
        exact ih17 _ _ _ _ (Option.some.inj h).symm ⟨hP, hD, hS, lv_sub hl [0, 1, 2] rfl⟩
      · have h := (if_neg c24).symm.trans h
        refine lv_aload_n hx hb dX6_boundedRooms_24 rfl (lv_at hl 2 rfl) ?_
        refine lv_iload_n hx hb dX6_boundedRooms_25 rfl (lv_at hl 0 rfl) ?_
        obtain ⟨u25, e26, h⟩ := bd_some h
        refine k_i (va_runV (As := [.int v1]) (rest := [.int v2]) ⟨hx, hb, hml, hown, hts⟩ (kX6_bounded l D q cI cJ cZ tP H.size wwd wmn u22.2.1 u22.2.2.1 u22.2.2.2.1 wwl u22.2.2.2.2.1 u22.2.2.2.2.2.1 u22.2.2.2.2.2.2.1 u22.2.2.2.2.2.2.2.1 u22.2.2.2.2.2.2.2.2 v11 v1 u25 e26) (cwV 1 hts gX6_boundedRooms_X6_bounded rfl rfl rfl (by decide +kernel) ⟨Nat.le_of_ble_eq_true rfl, Nat.le_of_ble_eq_true rfl⟩) ⟨cPre_blind, va_recv hK hP (ci := 6) (q0 := 0) rfl rfl, cPre_at hP hK hN hD hS hA hZ⟩ rfl rfl hl.1 rfl (lv_room (Nat.le_of_ble_eq_true rfl)) dX6_boundedRooms_26 ⟨Nat.le_of_ble_eq_true rfl, Nat.le_of_ble_eq_true rfl⟩) hD hS hA (fun H locs hP hD hS => ?_)
        refine lv_if_eq (tgt := 36) hx hb dX6_boundedRooms_29 (by decide) (fun c27 => ?_) (fun c27 => ?_)
        · have h := (if_pos c27).symm.trans h
          refine lv_iconst (v := (0 : Int32)) hx hb dX6_boundedRooms_36 (by decide) ?_
          refine lv_iadd hx hb dX6_boundedRooms_37 ?_
          refine lv_istore_n (lv' := [(1, .int (v2 + (0 : Int32))), (2, .int v1), (0, .ref (q 0))]) hx hb dX6_boundedRooms_38 rfl hl (by decide) rfl (fun ls hl => ?_)
          refine lv_iinc (v := (v1 + (1 : Int32))) (lv' := [(2, .int (v1 + (1 : Int32))), (1, .int (v2 + (0 : Int32))), (0, .ref (q 0))]) hx hb dX6_boundedRooms_39 hl (k := 1) rfl rfl (by decide) rfl (fun ls hl => ?_)
          refine lv_goto (tgt := 4) hx hb dX6_boundedRooms_42 (by decide) ?_
          exact ih17 _ _ _ _ (Option.some.inj h).symm ⟨hP, hD, hS, lv_sub hl [0, 1, 2] rfl⟩
        · have h := (if_neg c27).symm.trans h
          refine lv_iconst (v := (1 : Int32)) hx hb dX6_boundedRooms_32 (by decide) ?_
          refine lv_goto (tgt := 37) hx hb dX6_boundedRooms_33 (by decide) ?_
          refine lv_iadd hx hb dX6_boundedRooms_37 ?_
          refine lv_istore_n (lv' := [(1, .int (v2 + (1 : Int32))), (2, .int v1), (0, .ref (q 0))]) hx hb dX6_boundedRooms_38 rfl hl (by decide) rfl (fun ls hl => ?_)
          refine lv_iinc (v := (v1 + (1 : Int32))) (lv' := [(2, .int (v1 + (1 : Int32))), (1, .int (v2 + (1 : Int32))), (0, .ref (q 0))]) hx hb dX6_boundedRooms_39 hl (k := 1) rfl rfl (by decide) rfl (fun ls hl => ?_)
          refine lv_goto (tgt := 4) hx hb dX6_boundedRooms_42 (by decide) ?_
          exact ih17 _ _ _ _ (Option.some.inj h).symm ⟨hP, hD, hS, lv_sub hl [0, 1, 2] rfl⟩

-- X6_polynomial
theorem wmX6_polynomial_0 : (.fieldLink RX6 49 "SpaceWallsModel" "many" "I" : Cond) ∈ wsX6_polynomial := by decide +kernel
theorem wmX6_polynomial_1 : (.fieldLink RX6 37 "SpaceWallsModel" "wide" "I" : Cond) ∈ wsX6_polynomial := by decide +kernel
theorem wiX6_polynomial_X6 : ∀ w ∈ u_ws RX6 TX6 12, w ∈ wsX6_polynomial := by decide +kernel
set_option maxHeartbeats 8000000 in
set_option maxRecDepth 100000 in
theorem kX6_polynomial (l : Launch) (D : va_G) (q : Nat → Nat) (cI cJ cZ : ClassId) (tP sz : Nat) (wwd : Int32) (wmn : Int32) (wod : Int32) (wsm : Int32) (wnm : Int32) (wwl : (Nat → Int32)) (wif : (Nat → Int32)) (wev : (Nat → Int32)) (wne : (Nat → Int32)) (wsu : (Nat → Int64)) (wnx : (Nat → Int64)) (wta : (Nat → Int64)) (p1 : Int32) (p2 : Int32) (uu : (Int32 × (Nat → Int64))) (h : fX6_polynomial wwd wmn wwl wta p1 p2 = some uu) : Met l yX6_polynomial wsX6_polynomial ({ frames := 3, cells := 0, slots := 0, locals := 75 }) (cPre D cI cJ cZ tP (WM_ q cI cJ cZ wwd wmn wod wsm wnm wwl wif wev wne wsu wnx wta) sz [.ref (q 0), .int p1, .int p2]) (cQi D (va_A (WM_ q cI cJ cZ wwd wmn wod wsm wnm wwl wif wev wne wsu wnx wta) sz) (WM_ q cI cJ cZ wwd wmn wod wsm wnm wwl wif wev wne wsu wnx uu.2) uu.1) 0 0 (va_A (WM_ q cI cJ cZ wwd wmn wod wsm wnm wwl wif wev wne wsu wnx wta) sz) := by
  refine Met.ofW (cc := cX6_polynomial) (maxL := 5) (ret := (some .int)) (by decide) rfl ?_
  intro p e s m args below meth c s₁ B hml hv
  obtain ⟨rfl, hsz, hP, hK, hN, hD0, hZ⟩ := hv
  have hx := B.exec
  have hb := B.bytes
  have hr := B.returns
  have hts := atoms_spec (ws := wsX6_polynomial) B.pre
  have hown : s.vm.findClass RX6 = some m.cls := findClass_of_methodNamed B.named
  have hlocks := B.notSynchronized
  subst hsz
  have hD := hD0.self (sz := s.heap.size)
  generalize hAe : va_A (WM_ q cI cJ cZ wwd wmn wod wsm wnm wwl wif wev wne wsu wnx wta) s.heap.size = A at hD hZ ⊢
  have hA : ∀ q : Nat, s.heap.size ≤ q → A q := fun q h => by rw [← hAe]; exact Or.inr h
  have hS : va_S A s.heap s.heap [] := va_S.rf
  have hl := lv_entry ([.ref (q 0), .int p1, .int p2]) (n := 5) (Nat.le_of_ble_eq_true rfl)
  rw [lg_entry_eq]
  generalize (lg_sl ([.ref (q 0), .int p1, .int p2]) ++ List.replicate (5 - (lg_sl ([.ref (q 0), .int p1, .int p2])).length) Slot.unset).toArray = ls at hl ⊢
  have hl : lv_has ls 5 [(0, .ref (q 0)), (1, .int p1), (2, .int p2)] := hl
  unfold fX6_polynomial at h
  refine lv_iconst (v := (0 : Int32)) hx hb dX6_polynomial_0 (by decide) ?_
  refine lv_istore_n (lv' := [(3, .int (0 : Int32)), (0, .ref (q 0)), (1, .int p1), (2, .int p2)]) hx hb dX6_polynomial_1 rfl hl (by decide) rfl (fun ls hl => ?_)
  refine lv_iconst (v := (0 : Int32)) hx hb dX6_polynomial_2 (by decide) ?_
  refine lv_istore (lv' := [(4, .int (0 : Int32)), (3, .int (0 : Int32)), (0, .ref (q 0)), (1, .int p1), (2, .int p2)]) hx hb dX6_polynomial_3 hl (by decide) rfl (fun ls hl => ?_)
  obtain ⟨u4, e5, h⟩ := bd_some h
  refine W_leave (P := fun (y : (Int32 × Int32 × (Nat → Int64))) H locs ls => u4 = y ∧ va_P D vwCl (WM_ q cI cJ cZ wwd wmn wod wsm wnm wwl wif wev wne wsu wnx y.2.2) H ∧ va_D A (WM_ q cI cJ cZ wwd wmn wod wsm wnm wwl wif wev wne wsu wnx y.2.2) ∧ va_S A s.heap H locs ∧ lv_has ls 5 [(4, .int y.1), (3, .int y.2.1), (0, .ref (q 0)), (1, .int p1), (2, .int p2)]) (g := fun ls => F0 m 64 ls []) ?_ ?_
  · intro y H locs ls hq
    obtain ⟨hy, hP, hD, hS, hl⟩ := hq
    subst hy
    have hl : lv_has ls 5 [(4, .int u4.1), (3, .int u4.2.1), (0, .ref (q 0)), (1, .int p1), (2, .int p2)] := hl
    refine lv_iload_n hx hb dX6_polynomial_64 rfl (lv_at hl 1 rfl) ?_
    obtain rfl := Option.some.inj h
    exact W.iret (v := u4.2.1) hx hb hr (fun t ht hW => ⟨⟨u4.2.1, (), rfl, rfl, by rw [ht]; exact hP, hD⟩, hS.F ht⟩) hS.2.2 dX6_polynomial_65
  · intro K6
    refine W_lp (body := (fun (st : (Int32 × Int32 × (Nat → Int64))) => fX6_polynomial_L5 wmn p1 wwl wwd p2 st.1 st.2.1 st.2.2)) (P := fun (st : (Int32 × Int32 × (Nat → Int64))) H locs ls => va_P D vwCl (WM_ q cI cJ cZ wwd wmn wod wsm wnm wwl wif wev wne wsu wnx st.2.2) H ∧ va_D A (WM_ q cI cJ cZ wwd wmn wod wsm wnm wwl wif wev wne wsu wnx st.2.2) ∧ va_S A s.heap H locs ∧ lv_has ls 5 [(4, .int st.1), (3, .int st.2.1), (0, .ref (q 0)), (1, .int p1), (2, .int p2)]) (g := fun _ ls => F0 m 5 ls []) (r := u4) ?_ fu_ ((0 : Int32), (0 : Int32), wta) _ _ _ e5 ⟨hP, hD, hS, lv_sub hl [0, 1, 2, 3, 4] rfl⟩
    intro st xx10 H locs ls h hq ih9 hR8
    obtain ⟨hP, hD, hS, hl⟩ := hq
    obtain ⟨v1, v2, v3⟩ := st
    have hP : va_P D vwCl (WM_ q cI cJ cZ wwd wmn wod wsm wnm wwl wif wev wne wsu wnx v3) H := hP
    have hD : va_D A (WM_ q cI cJ cZ wwd wmn wod wsm wnm wwl wif wev wne wsu wnx v3) := hD
    have hl : lv_has ls 5 [(4, .int v1), (3, .int v2), (0, .ref (q 0)), (1, .int p1), (2, .int p2)] := hl
    have h : fX6_polynomial_L5 wmn p1 wwl wwd p2 v1 v2 v3 = some xx10 := h
    unfold fX6_polynomial_L5 at h
    refine lv_iload hx hb dX6_polynomial_5 (lv_at hl 0 rfl) ?_
    refine lv_iconst (v := (1 : Int32)) hx hb dX6_polynomial_7 (by decide) ?_
    refine lv_aload_n hx hb dX6_polynomial_8 rfl (lv_at hl 2 rfl) ?_
    refine va_get (D := D) (ci := 6) (v := .int wmn) (C := RX6) (T := TX6) (N := 12) hx hb hts wiX6_polynomial_X6 hown hK hP 0 rfl rfl 1 (by decide) (hts _ wmX6_polynomial_0) (fun _ h9 => h9) rfl dX6_polynomial_9 ?_
    refine lv_ishl hx hb dX6_polynomial_12 ?_
    refine lv_icmp_ge (tgt := 64) hx hb dX6_polynomial_13 (by decide) (fun c11 => ?_) (fun c11 => ?_)
    · have h := (if_pos c11).symm.trans h
      exact K6 _ _ _ _ ⟨(hR8 _ (Option.some.inj h).symm).symm, hP, hD, hS, lv_sub hl [0, 1, 2, 3, 4] rfl⟩
    · have h := (if_neg c11).symm.trans h
      refine lv_iload hx hb dX6_polynomial_16 (lv_at hl 0 rfl) ?_
      refine lv_iload_n hx hb dX6_polynomial_18 rfl (lv_at hl 3 rfl) ?_
      refine lv_iconst (v := (-1 : Int32)) hx hb dX6_polynomial_19 (by decide) ?_
      refine lv_ixor hx hb dX6_polynomial_20 ?_
      refine lv_iand hx hb dX6_polynomial_21 ?_
      refine lv_if_ne (tgt := 58) hx hb dX6_polynomial_22 (by decide) (fun c12 => ?_) (fun c12 => ?_)
      · have h := (if_neg c12).symm.trans h
        refine lv_iinc (v := (v1 + (1 : Int32))) (lv' := [(4, .int (v1 + (1 : Int32))), (3, .int v2), (0, .ref (q 0)), (1, .int p1), (2, .int p2)]) hx hb dX6_polynomial_58 hl (k := 0) rfl rfl (by decide) rfl (fun ls hl => ?_)
        refine lv_goto (tgt := 5) hx hb dX6_polynomial_61 (by decide) ?_
        exact ih9 _ _ _ _ (Option.some.inj h).symm ⟨hP, hD, hS, lv_sub hl [0, 1, 2, 3, 4] rfl⟩
      · have h := (if_pos c12).symm.trans h
        refine lv_aload_n hx hb dX6_polynomial_25 rfl (lv_at hl 2 rfl) ?_
        refine lv_iload hx hb dX6_polynomial_26 (lv_at hl 0 rfl) ?_
        obtain ⟨u13, e14, h⟩ := bd_some h
        refine k_i (va_runV (As := [.int v1]) (rest := []) ⟨hx, hb, hml, hown, hts⟩ (kX6_meets l D q cI cJ cZ tP H.size wwd wmn wod wsm wnm wwl wif wev wne wsu wnx v3 v1 u13 e14) (cwV 1 hts gX6_polynomial_X6_meets rfl rfl rfl (by decide +kernel) ⟨Nat.le_of_ble_eq_true rfl, Nat.le_of_ble_eq_true rfl⟩) ⟨cPre_blind, va_recv hK hP (ci := 6) (q0 := 0) rfl rfl, cPre_at hP hK hN hD hS hA hZ⟩ rfl rfl hl.1 rfl (lv_room (Nat.le_of_ble_eq_true rfl)) dX6_polynomial_28 ⟨Nat.le_of_ble_eq_true rfl, Nat.le_of_ble_eq_true rfl⟩) hD hS hA (fun H locs hP hD hS => ?_)
        refine lv_if_eq (tgt := 58) hx hb dX6_polynomial_31 (by decide) (fun c15 => ?_) (fun c15 => ?_)
        · have h := (if_pos c15).symm.trans h
          refine lv_iinc (v := (v1 + (1 : Int32))) (lv' := [(4, .int (v1 + (1 : Int32))), (3, .int v2), (0, .ref (q 0)), (1, .int p1), (2, .int p2)]) hx hb dX6_polynomial_58 hl (k := 0) rfl rfl (by decide) rfl (fun ls hl => ?_)
          refine lv_goto (tgt := 5) hx hb dX6_polynomial_61 (by decide) ?_
          exact ih9 _ _ _ _ (Option.some.inj h).symm ⟨hP, hD, hS, lv_sub hl [0, 1, 2, 3, 4] rfl⟩
        · have h := (if_neg c15).symm.trans h
          refine lv_aload_n hx hb dX6_polynomial_34 rfl (lv_at hl 2 rfl) ?_
          refine va_get (D := D) (ci := 6) (v := .int wwd) (C := RX6) (T := TX6) (N := 12) hx hb hts wiX6_polynomial_X6 hown hK hP 0 rfl rfl 0 (by decide) (hts _ wmX6_polynomial_1) (fun _ h9 => h9) rfl dX6_polynomial_35 ?_
          refine lv_aload_n hx hb dX6_polynomial_38 rfl (lv_at hl 2 rfl) ?_
          refine lv_iload hx hb dX6_polynomial_39 (lv_at hl 0 rfl) ?_
          refine lv_iconst (v := (3 : Int32)) hx hb dX6_polynomial_41 (by decide) ?_
          obtain ⟨u16, e17, h⟩ := bd_some h
          refine k_i (va_runV (As := [.int v1, .int (3 : Int32)]) (rest := [.int wwd]) ⟨hx, hb, hml, hown, hts⟩ (kX6_rank l D q cI cJ cZ tP H.size wwd wmn wod wsm wnm wwl wif wev wne wsu wnx u13.2 v1 (3 : Int32) u16 e17) (cwV 2 hts gX6_polynomial_X6_rank rfl rfl rfl (by decide +kernel) ⟨Nat.le_of_ble_eq_true rfl, Nat.le_of_ble_eq_true rfl⟩) ⟨cPre_blind, va_recv hK hP (ci := 6) (q0 := 0) rfl rfl, cPre_at hP hK hN hD hS hA hZ⟩ rfl rfl hl.1 rfl (lv_room (Nat.le_of_ble_eq_true rfl)) dX6_polynomial_42 ⟨Nat.le_of_ble_eq_true rfl, Nat.le_of_ble_eq_true rfl⟩) hD hS hA (fun H locs hP hD hS => ?_)
          refine lv_isub hx hb dX6_polynomial_45 ?_
          refine lv_iload_n hx hb dX6_polynomial_46 rfl (lv_at hl 4 rfl) ?_
          refine lv_icmp_ne (tgt := 58) hx hb dX6_polynomial_47 (by decide) (fun c18 => ?_) (fun c18 => ?_)
          · have h := (if_neg c18).symm.trans h
            refine lv_iinc (v := (v1 + (1 : Int32))) (lv' := [(4, .int (v1 + (1 : Int32))), (3, .int v2), (0, .ref (q 0)), (1, .int p1), (2, .int p2)]) hx hb dX6_polynomial_58 hl (k := 0) rfl rfl (by decide) rfl (fun ls hl => ?_)
            refine lv_goto (tgt := 5) hx hb dX6_polynomial_61 (by decide) ?_
            exact ih9 _ _ _ _ (Option.some.inj h).symm ⟨hP, hD, hS, lv_sub hl [0, 1, 2, 3, 4] rfl⟩
          · have h := (if_pos c18).symm.trans h
            refine lv_iload_n hx hb dX6_polynomial_50 rfl (lv_at hl 1 rfl) ?_
            refine lv_iload hx hb dX6_polynomial_51 (lv_at hl 0 rfl) ?_
            obtain ⟨u19, e20, h⟩ := bd_some h
            refine k_i0 (va_runS (As := [.int v1]) (rest := [.int v2]) ⟨hx, hb, hml, hown, hts⟩ (kX6_odd l D cI cJ cZ tP H.size  v1 u19 e20) (va_cwS 1 hts gX6_polynomial_X6_odd rfl rfl rfl (by decide +kernel) ⟨Nat.le_of_ble_eq_true rfl, Nat.le_of_ble_eq_true rfl⟩) ⟨cPre_blind, cPre_at0 hK hN hS hA hZ⟩ rfl rfl hl.1 rfl (lv_room (Nat.le_of_ble_eq_true rfl)) dX6_polynomial_53 ⟨Nat.le_of_ble_eq_true rfl, Nat.le_of_ble_eq_true rfl⟩) hP hS hA (fun H locs hP hS => ?_)
            refine lv_iadd hx hb dX6_polynomial_56 ?_
            refine lv_istore_n (lv' := [(3, .int (v2 + u19)), (4, .int v1), (0, .ref (q 0)), (1, .int p1), (2, .int p2)]) hx hb dX6_polynomial_57 rfl hl (by decide) rfl (fun ls hl => ?_)
            refine lv_iinc (v := (v1 + (1 : Int32))) (lv' := [(4, .int (v1 + (1 : Int32))), (3, .int (v2 + u19)), (0, .ref (q 0)), (1, .int p1), (2, .int p2)]) hx hb dX6_polynomial_58 hl (k := 1) rfl rfl (by decide) rfl (fun ls hl => ?_)
            refine lv_goto (tgt := 5) hx hb dX6_polynomial_61 (by decide) ?_
            exact ih9 _ _ _ _ (Option.some.inj h).symm ⟨hP, hD, hS, lv_sub hl [0, 1, 2, 3, 4] rfl⟩

-- X6_poly
theorem wmX6_poly_0 : (.fieldLink RX6 49 "SpaceWallsModel" "many" "I" : Cond) ∈ wsX6_poly := by decide +kernel
theorem wiX6_poly_X6 : ∀ w ∈ u_ws RX6 TX6 12, w ∈ wsX6_poly := by decide +kernel
set_option maxHeartbeats 8000000 in
set_option maxRecDepth 100000 in
theorem kX6_poly (l : Launch) (D : va_G) (q : Nat → Nat) (cI cJ cZ : ClassId) (tP sz : Nat) (wwd : Int32) (wmn : Int32) (wod : Int32) (wsm : Int32) (wnm : Int32) (wwl : (Nat → Int32)) (wif : (Nat → Int32)) (wev : (Nat → Int32)) (wne : (Nat → Int32)) (wsu : (Nat → Int64)) (wnx : (Nat → Int64)) (wta : (Nat → Int64)) (p1 : Int32) (uu : (Int32 × (Nat → Int64))) (h : fX6_poly wwd wmn wwl wta p1 = some uu) : Met l yX6_poly wsX6_poly ({ frames := 4, cells := 0, slots := 0, locals := 99 }) (cPre D cI cJ cZ tP (WM_ q cI cJ cZ wwd wmn wod wsm wnm wwl wif wev wne wsu wnx wta) sz [.ref (q 0), .int p1]) (cQi D (va_A (WM_ q cI cJ cZ wwd wmn wod wsm wnm wwl wif wev wne wsu wnx wta) sz) (WM_ q cI cJ cZ wwd wmn wod wsm wnm wwl wif wev wne wsu wnx uu.2) uu.1) 0 0 (va_A (WM_ q cI cJ cZ wwd wmn wod wsm wnm wwl wif wev wne wsu wnx wta) sz) := by
  refine Met.ofW (cc := cX6_poly) (maxL := 2) (ret := (some .int)) (by decide) rfl ?_
  intro p e s m args below meth c s₁ B hml hv
  obtain ⟨rfl, hsz, hP, hK, hN, hD0, hZ⟩ := hv
  have hx := B.exec
  have hb := B.bytes
  have hr := B.returns
  have hts := atoms_spec (ws := wsX6_poly) B.pre
  have hown : s.vm.findClass RX6 = some m.cls := findClass_of_methodNamed B.named
  have hlocks := B.notSynchronized
  subst hsz
  have hD := hD0.self (sz := s.heap.size)
  generalize hAe : va_A (WM_ q cI cJ cZ wwd wmn wod wsm wnm wwl wif wev wne wsu wnx wta) s.heap.size = A at hD hZ ⊢
  have hA : ∀ q : Nat, s.heap.size ≤ q → A q := fun q h => by rw [← hAe]; exact Or.inr h
  have hS : va_S A s.heap s.heap [] := va_S.rf
  have hl := lv_entry ([.ref (q 0), .int p1]) (n := 2) (Nat.le_of_ble_eq_true rfl)
  rw [lg_entry_eq]
  generalize (lg_sl ([.ref (q 0), .int p1]) ++ List.replicate (2 - (lg_sl ([.ref (q 0), .int p1])).length) Slot.unset).toArray = ls at hl ⊢
  have hl : lv_has ls 2 [(0, .ref (q 0)), (1, .int p1)] := hl
  unfold fX6_poly at h
  refine lv_aload_n hx hb dX6_poly_0 rfl (lv_at hl 0 rfl) ?_
  refine lv_iconst (v := (1 : Int32)) hx hb dX6_poly_1 (by decide) ?_
  refine lv_aload_n hx hb dX6_poly_2 rfl (lv_at hl 0 rfl) ?_
  refine va_get (D := D) (ci := 6) (v := .int wmn) (C := RX6) (T := TX6) (N := 12) hx hb hts wiX6_poly_X6 hown hK hP 0 rfl rfl 1 (by decide) (hts _ wmX6_poly_0) (fun _ h9 => h9) rfl dX6_poly_3 ?_
  refine lv_ishl hx hb dX6_poly_6 ?_
  refine lv_iconst (v := (1 : Int32)) hx hb dX6_poly_7 (by decide) ?_
  refine lv_isub hx hb dX6_poly_8 ?_
  refine lv_iload_n hx hb dX6_poly_9 rfl (lv_at hl 1 rfl) ?_
  obtain ⟨u1, e2, h⟩ := bd_some h
  refine k_i (va_runV (As := [.int (((1 : Int32) <<< (wmn &&& 31)) - (1 : Int32)), .int p1]) (rest := []) ⟨hx, hb, hml, hown, hts⟩ (kX6_polynomial l D q cI cJ cZ tP s.heap.size wwd wmn wod wsm wnm wwl wif wev wne wsu wnx wta (((1 : Int32) <<< (wmn &&& 31)) - (1 : Int32)) p1 u1 e2) (cwV 2 hts gX6_poly_X6_polynomial rfl rfl rfl (by decide +kernel) ⟨Nat.le_of_ble_eq_true rfl, Nat.le_of_ble_eq_true rfl⟩) ⟨cPre_blind, va_recv hK hP (ci := 6) (q0 := 0) rfl rfl, cPre_at hP hK hN hD hS hA hZ⟩ rfl rfl hl.1 rfl (lv_room (Nat.le_of_ble_eq_true rfl)) dX6_poly_10 ⟨Nat.le_of_ble_eq_true rfl, Nat.le_of_ble_eq_true rfl⟩) hD hS hA (fun H locs hP hD hS => ?_)
  obtain rfl := Option.some.inj h
  exact W.iret (v := u1.1) hx hb hr (fun t ht hW => ⟨⟨u1.1, (), rfl, rfl, by rw [ht]; exact hP, hD⟩, hS.F ht⟩) hS.2.2 dX6_poly_13

-- X6_without
theorem wmX6_without_0 : (.fieldLink RX6 49 "SpaceWallsModel" "many" "I" : Cond) ∈ wsX6_without := by decide +kernel
theorem wiX6_without_X6 : ∀ w ∈ u_ws RX6 TX6 12, w ∈ wsX6_without := by decide +kernel
set_option maxHeartbeats 8000000 in
set_option maxRecDepth 100000 in
theorem kX6_without (l : Launch) (D : va_G) (q : Nat → Nat) (cI cJ cZ : ClassId) (tP sz : Nat) (wwd : Int32) (wmn : Int32) (wod : Int32) (wsm : Int32) (wnm : Int32) (wwl : (Nat → Int32)) (wif : (Nat → Int32)) (wev : (Nat → Int32)) (wne : (Nat → Int32)) (wsu : (Nat → Int64)) (wnx : (Nat → Int64)) (wta : (Nat → Int64)) (p1 : Int32) (p2 : Int32) (uu : (Int32 × (Nat → Int64))) (h : fX6_without wwd wmn wwl wta p1 p2 = some uu) : Met l yX6_without wsX6_without ({ frames := 4, cells := 0, slots := 0, locals := 99 }) (cPre D cI cJ cZ tP (WM_ q cI cJ cZ wwd wmn wod wsm wnm wwl wif wev wne wsu wnx wta) sz [.ref (q 0), .int p1, .int p2]) (cQi D (va_A (WM_ q cI cJ cZ wwd wmn wod wsm wnm wwl wif wev wne wsu wnx wta) sz) (WM_ q cI cJ cZ wwd wmn wod wsm wnm wwl wif wev wne wsu wnx uu.2) uu.1) 0 0 (va_A (WM_ q cI cJ cZ wwd wmn wod wsm wnm wwl wif wev wne wsu wnx wta) sz) := by
  refine Met.ofW (cc := cX6_without) (maxL := 3) (ret := (some .int)) (by decide) rfl ?_
  intro p e s m args below meth c s₁ B hml hv
  obtain ⟨rfl, hsz, hP, hK, hN, hD0, hZ⟩ := hv
  have hx := B.exec
  have hb := B.bytes
  have hr := B.returns
  have hts := atoms_spec (ws := wsX6_without) B.pre
  have hown : s.vm.findClass RX6 = some m.cls := findClass_of_methodNamed B.named
  have hlocks := B.notSynchronized
  subst hsz
  have hD := hD0.self (sz := s.heap.size)
  generalize hAe : va_A (WM_ q cI cJ cZ wwd wmn wod wsm wnm wwl wif wev wne wsu wnx wta) s.heap.size = A at hD hZ ⊢
  have hA : ∀ q : Nat, s.heap.size ≤ q → A q := fun q h => by rw [← hAe]; exact Or.inr h
  have hS : va_S A s.heap s.heap [] := va_S.rf
  have hl := lv_entry ([.ref (q 0), .int p1, .int p2]) (n := 3) (Nat.le_of_ble_eq_true rfl)
  rw [lg_entry_eq]
  generalize (lg_sl ([.ref (q 0), .int p1, .int p2]) ++ List.replicate (3 - (lg_sl ([.ref (q 0), .int p1, .int p2])).length) Slot.unset).toArray = ls at hl ⊢
  have hl : lv_has ls 3 [(0, .ref (q 0)), (1, .int p1), (2, .int p2)] := hl
  unfold fX6_without at h
  refine lv_iload_n hx hb dX6_without_0 rfl (lv_at hl 1 rfl) ?_
  refine lv_iconst (v := (0 : Int32)) hx hb dX6_without_1 (by decide) ?_
  refine lv_aload_n hx hb dX6_without_2 rfl (lv_at hl 0 rfl) ?_
  refine va_get (D := D) (ci := 6) (v := .int wmn) (C := RX6) (T := TX6) (N := 12) hx hb hts wiX6_without_X6 hown hK hP 0 rfl rfl 1 (by decide) (hts _ wmX6_without_0) (fun _ h9 => h9) rfl dX6_without_3 ?_
  refine lv_iconst (v := (1 : Int32)) hx hb dX6_without_6 (by decide) ?_
  refine lv_isub hx hb dX6_without_7 ?_
  obtain ⟨u1, e2, h⟩ := bd_some h
  refine k_i0 (va_runS (As := [.int p1, .int (0 : Int32), .int (wmn - (1 : Int32))]) (rest := []) ⟨hx, hb, hml, hown, hts⟩ (kX6_in l D cI cJ cZ tP s.heap.size  p1 (0 : Int32) (wmn - (1 : Int32)) u1 e2) (va_cwS 3 hts gX6_without_X6_in rfl rfl rfl (by decide +kernel) ⟨Nat.le_of_ble_eq_true rfl, Nat.le_of_ble_eq_true rfl⟩) ⟨cPre_blind, cPre_at0 hK hN hS hA hZ⟩ rfl rfl hl.1 rfl (lv_room (Nat.le_of_ble_eq_true rfl)) dX6_without_8 ⟨Nat.le_of_ble_eq_true rfl, Nat.le_of_ble_eq_true rfl⟩) hP hS hA (fun H locs hP hS => ?_)
  refine lv_if_eq (tgt := 36) hx hb dX6_without_11 (by decide) (fun c3 => ?_) (fun c3 => ?_)
  · have h := (if_pos c3).symm.trans h
    refine lv_iconst (v := (0 : Int32)) hx hb dX6_without_36 (by decide) ?_
    obtain rfl := Option.some.inj h
    exact W.iret (v := (0 : Int32)) hx hb hr (fun t ht hW => ⟨⟨(0 : Int32), (), rfl, rfl, by rw [ht]; exact hP, hD⟩, hS.F ht⟩) hS.2.2 dX6_without_37
  · have h := (if_neg c3).symm.trans h
    refine lv_aload_n hx hb dX6_without_14 rfl (lv_at hl 0 rfl) ?_
    refine lv_iconst (v := (1 : Int32)) hx hb dX6_without_15 (by decide) ?_
    refine lv_aload_n hx hb dX6_without_16 rfl (lv_at hl 0 rfl) ?_
    refine va_get (D := D) (ci := 6) (v := .int wmn) (C := RX6) (T := TX6) (N := 12) hx hb hts wiX6_without_X6 hown hK hP 0 rfl rfl 1 (by decide) (hts _ wmX6_without_0) (fun _ h9 => h9) rfl dX6_without_17 ?_
    refine lv_ishl hx hb dX6_without_20 ?_
    refine lv_iconst (v := (1 : Int32)) hx hb dX6_without_21 (by decide) ?_
    refine lv_isub hx hb dX6_without_22 ?_
    refine lv_iconst (v := (1 : Int32)) hx hb dX6_without_23 (by decide) ?_
    refine lv_iload_n hx hb dX6_without_24 rfl (lv_at hl 1 rfl) ?_
    refine lv_ishl hx hb dX6_without_25 ?_
    refine lv_iconst (v := (-1 : Int32)) hx hb dX6_without_26 (by decide) ?_
    refine lv_ixor hx hb dX6_without_27 ?_
    refine lv_iand hx hb dX6_without_28 ?_
    refine lv_iload_n hx hb dX6_without_29 rfl (lv_at hl 2 rfl) ?_
    obtain ⟨u4, e5, h⟩ := bd_some h
    refine k_i (va_runV (As := [.int ((((1 : Int32) <<< (wmn &&& 31)) - (1 : Int32)) &&& (((1 : Int32) <<< (p1 &&& 31)) ^^^ (-1 : Int32))), .int p2]) (rest := []) ⟨hx, hb, hml, hown, hts⟩ (kX6_polynomial l D q cI cJ cZ tP H.size wwd wmn wod wsm wnm wwl wif wev wne wsu wnx wta ((((1 : Int32) <<< (wmn &&& 31)) - (1 : Int32)) &&& (((1 : Int32) <<< (p1 &&& 31)) ^^^ (-1 : Int32))) p2 u4 e5) (cwV 2 hts gX6_without_X6_polynomial rfl rfl rfl (by decide +kernel) ⟨Nat.le_of_ble_eq_true rfl, Nat.le_of_ble_eq_true rfl⟩) ⟨cPre_blind, va_recv hK hP (ci := 6) (q0 := 0) rfl rfl, cPre_at hP hK hN hD hS hA hZ⟩ rfl rfl hl.1 rfl (lv_room (Nat.le_of_ble_eq_true rfl)) dX6_without_30 ⟨Nat.le_of_ble_eq_true rfl, Nat.le_of_ble_eq_true rfl⟩) hD hS hA (fun H locs hP hD hS => ?_)
    refine lv_goto (tgt := 37) hx hb dX6_without_33 (by decide) ?_
    obtain rfl := Option.some.inj h
    exact W.iret (v := u4.1) hx hb hr (fun t ht hW => ⟨⟨u4.1, (), rfl, rfl, by rw [ht]; exact hP, hD⟩, hS.F ht⟩) hS.2.2 dX6_without_37

-- X6_on
theorem wmX6_on_0 : (.fieldLink RX6 49 "SpaceWallsModel" "many" "I" : Cond) ∈ wsX6_on := by decide +kernel
theorem wmX6_on_1 : (.fieldLink RX6 37 "SpaceWallsModel" "wide" "I" : Cond) ∈ wsX6_on := by decide +kernel
theorem wiX6_on_X6 : ∀ w ∈ u_ws RX6 TX6 12, w ∈ wsX6_on := by decide +kernel
set_option maxHeartbeats 8000000 in
set_option maxRecDepth 100000 in
theorem kX6_on (l : Launch) (D : va_G) (q : Nat → Nat) (cI cJ cZ : ClassId) (tP sz : Nat) (wwd : Int32) (wmn : Int32) (wod : Int32) (wsm : Int32) (wnm : Int32) (wwl : (Nat → Int32)) (wif : (Nat → Int32)) (wev : (Nat → Int32)) (wne : (Nat → Int32)) (wsu : (Nat → Int64)) (wnx : (Nat → Int64)) (wta : (Nat → Int64)) (p1 : Int32) (p2 : Int32) (uu : (Int32 × (Nat → Int64))) (h : fX6_on wwd wmn wwl wta p1 p2 = some uu) : Met l yX6_on wsX6_on ({ frames := 3, cells := 0, slots := 0, locals := 75 }) (cPre D cI cJ cZ tP (WM_ q cI cJ cZ wwd wmn wod wsm wnm wwl wif wev wne wsu wnx wta) sz [.ref (q 0), .int p1, .int p2]) (cQi D (va_A (WM_ q cI cJ cZ wwd wmn wod wsm wnm wwl wif wev wne wsu wnx wta) sz) (WM_ q cI cJ cZ wwd wmn wod wsm wnm wwl wif wev wne wsu wnx uu.2) uu.1) 0 0 (va_A (WM_ q cI cJ cZ wwd wmn wod wsm wnm wwl wif wev wne wsu wnx wta) sz) := by
  refine Met.ofW (cc := cX6_on) (maxL := 8) (ret := (some .int)) (by decide) rfl ?_
  intro p e s m args below meth c s₁ B hml hv
  obtain ⟨rfl, hsz, hP, hK, hN, hD0, hZ⟩ := hv
  have hx := B.exec
  have hb := B.bytes
  have hr := B.returns
  have hts := atoms_spec (ws := wsX6_on) B.pre
  have hown : s.vm.findClass RX6 = some m.cls := findClass_of_methodNamed B.named
  have hlocks := B.notSynchronized
  subst hsz
  have hD := hD0.self (sz := s.heap.size)
  generalize hAe : va_A (WM_ q cI cJ cZ wwd wmn wod wsm wnm wwl wif wev wne wsu wnx wta) s.heap.size = A at hD hZ ⊢
  have hA : ∀ q : Nat, s.heap.size ≤ q → A q := fun q h => by rw [← hAe]; exact Or.inr h
  have hS : va_S A s.heap s.heap [] := va_S.rf
  have hl := lv_entry ([.ref (q 0), .int p1, .int p2]) (n := 8) (Nat.le_of_ble_eq_true rfl)
  rw [lg_entry_eq]
  generalize (lg_sl ([.ref (q 0), .int p1, .int p2]) ++ List.replicate (8 - (lg_sl ([.ref (q 0), .int p1, .int p2])).length) Slot.unset).toArray = ls at hl ⊢
  have hl : lv_has ls 8 [(0, .ref (q 0)), (1, .int p1), (2, .int p2)] := hl
  unfold fX6_on at h
  refine lv_iload_n hx hb dX6_on_0 rfl (lv_at hl 1 rfl) ?_
  refine lv_iconst (v := (0 : Int32)) hx hb dX6_on_1 (by decide) ?_
  refine lv_aload_n hx hb dX6_on_2 rfl (lv_at hl 0 rfl) ?_
  refine va_get (D := D) (ci := 6) (v := .int wmn) (C := RX6) (T := TX6) (N := 12) hx hb hts wiX6_on_X6 hown hK hP 0 rfl rfl 1 (by decide) (hts _ wmX6_on_0) (fun _ h9 => h9) rfl dX6_on_3 ?_
  refine lv_iconst (v := (1 : Int32)) hx hb dX6_on_6 (by decide) ?_
  refine lv_isub hx hb dX6_on_7 ?_
  obtain ⟨u1, e2, h⟩ := bd_some h
  refine k_i0 (va_runS (As := [.int p1, .int (0 : Int32), .int (wmn - (1 : Int32))]) (rest := []) ⟨hx, hb, hml, hown, hts⟩ (kX6_in l D cI cJ cZ tP s.heap.size  p1 (0 : Int32) (wmn - (1 : Int32)) u1 e2) (va_cwS 3 hts gX6_on_X6_in rfl rfl rfl (by decide +kernel) ⟨Nat.le_of_ble_eq_true rfl, Nat.le_of_ble_eq_true rfl⟩) ⟨cPre_blind, cPre_at0 hK hN hS hA hZ⟩ rfl rfl hl.1 rfl (lv_room (Nat.le_of_ble_eq_true rfl)) dX6_on_8 ⟨Nat.le_of_ble_eq_true rfl, Nat.le_of_ble_eq_true rfl⟩) hP hS hA (fun H locs hP hS => ?_)
  refine lv_if_ne (tgt := 16) hx hb dX6_on_11 (by decide) (fun c3 => ?_) (fun c3 => ?_)
  · have h := (if_neg c3).symm.trans h
    refine lv_iconst (v := (1 : Int32)) hx hb dX6_on_16 (by decide) ?_
    refine lv_iload_n hx hb dX6_on_17 rfl (lv_at hl 1 rfl) ?_
    refine lv_ishl hx hb dX6_on_18 ?_
    refine lv_istore_n (lv' := [(3, .int ((1 : Int32) <<< (p1 &&& 31))), (0, .ref (q 0)), (1, .int p1), (2, .int p2)]) hx hb dX6_on_19 rfl hl (by decide) rfl (fun ls hl => ?_)
    refine lv_iconst (v := (0 : Int32)) hx hb dX6_on_20 (by decide) ?_
    refine lv_istore (lv' := [(4, .int (0 : Int32)), (3, .int ((1 : Int32) <<< (p1 &&& 31))), (0, .ref (q 0)), (1, .int p1), (2, .int p2)]) hx hb dX6_on_21 hl (by decide) rfl (fun ls hl => ?_)
    refine lv_iconst (v := (0 : Int32)) hx hb dX6_on_23 (by decide) ?_
    refine lv_istore (lv' := [(5, .int (0 : Int32)), (4, .int (0 : Int32)), (3, .int ((1 : Int32) <<< (p1 &&& 31))), (0, .ref (q 0)), (1, .int p1), (2, .int p2)]) hx hb dX6_on_24 hl (by decide) rfl (fun ls hl => ?_)
    obtain ⟨u7, e8, h⟩ := bd_some h
    refine W_leave (P := fun (y : (Int32 × Int32 × (Nat → Int64))) H locs ls => u7 = y ∧ va_P D vwCl (WM_ q cI cJ cZ wwd wmn wod wsm wnm wwl wif wev wne wsu wnx y.2.2) H ∧ va_D A (WM_ q cI cJ cZ wwd wmn wod wsm wnm wwl wif wev wne wsu wnx y.2.2) ∧ va_S A s.heap H locs ∧ lv_has ls 8 [(5, .int y.1), (4, .int y.2.1), (3, .int ((1 : Int32) <<< (p1 &&& 31))), (0, .ref (q 0)), (1, .int p1), (2, .int p2)]) (g := fun ls => F0 m 145 ls []) ?_ ?_
    · intro y H locs ls hq
      obtain ⟨hy, hP, hD, hS, hl⟩ := hq
      subst hy
      have hl : lv_has ls 8 [(5, .int u7.1), (4, .int u7.2.1), (3, .int ((1 : Int32) <<< (p1 &&& 31))), (0, .ref (q 0)), (1, .int p1), (2, .int p2)] := hl
      refine lv_iconst (v := (0 : Int32)) hx hb dX6_on_145 (by decide) ?_
      refine lv_istore (lv' := [(5, .int (0 : Int32)), (4, .int u7.2.1), (3, .int ((1 : Int32) <<< (p1 &&& 31))), (0, .ref (q 0)), (1, .int p1), (2, .int p2)]) hx hb dX6_on_146 hl (by decide) rfl (fun ls hl => ?_)
      refine lv_iconst (v := (0 : Int32)) hx hb dX6_on_148 (by decide) ?_
      refine lv_istore (lv' := [(6, .int (0 : Int32)), (5, .int (0 : Int32)), (4, .int u7.2.1), (3, .int ((1 : Int32) <<< (p1 &&& 31))), (0, .ref (q 0)), (1, .int p1), (2, .int p2)]) hx hb dX6_on_149 hl (by decide) rfl (fun ls hl => ?_)
      obtain ⟨u14, e15, h⟩ := bd_some h
      refine W_leave (P := fun (y : (Int32 × Int32 × (Nat → Int64))) H locs ls => u14 = y ∧ va_P D vwCl (WM_ q cI cJ cZ wwd wmn wod wsm wnm wwl wif wev wne wsu wnx y.2.2) H ∧ va_D A (WM_ q cI cJ cZ wwd wmn wod wsm wnm wwl wif wev wne wsu wnx y.2.2) ∧ va_S A s.heap H locs ∧ lv_has ls 8 [(6, .int y.1), (5, .int y.2.1), (4, .int u7.2.1), (3, .int ((1 : Int32) <<< (p1 &&& 31))), (0, .ref (q 0)), (1, .int p1), (2, .int p2)]) (g := fun ls => F0 m 217 ls []) ?_ ?_
      · intro y H locs ls hq
        obtain ⟨hy, hP, hD, hS, hl⟩ := hq
        subst hy
        have hl : lv_has ls 8 [(6, .int u14.1), (5, .int u14.2.1), (4, .int u7.2.1), (3, .int ((1 : Int32) <<< (p1 &&& 31))), (0, .ref (q 0)), (1, .int p1), (2, .int p2)] := hl
        refine lv_iload hx hb dX6_on_217 (lv_at hl 1 rfl) ?_
        obtain rfl := Option.some.inj h
        exact W.iret (v := u14.2.1) hx hb hr (fun t ht hW => ⟨⟨u14.2.1, (), rfl, rfl, by rw [ht]; exact hP, hD⟩, hS.F ht⟩) hS.2.2 dX6_on_219
      · intro K16
        refine W_lp (body := (fun (st : (Int32 × Int32 × (Nat → Int64))) => fX6_on_L151 wmn u7 wwl p1 wwd p2 st.1 st.2.1 st.2.2)) (P := fun (st : (Int32 × Int32 × (Nat → Int64))) H locs ls => va_P D vwCl (WM_ q cI cJ cZ wwd wmn wod wsm wnm wwl wif wev wne wsu wnx st.2.2) H ∧ va_D A (WM_ q cI cJ cZ wwd wmn wod wsm wnm wwl wif wev wne wsu wnx st.2.2) ∧ va_S A s.heap H locs ∧ lv_has ls 8 [(6, .int st.1), (5, .int st.2.1), (4, .int u7.2.1), (3, .int ((1 : Int32) <<< (p1 &&& 31))), (0, .ref (q 0)), (1, .int p1), (2, .int p2)]) (g := fun _ ls => F0 m 151 ls []) (r := u14) ?_ fu_ ((0 : Int32), (0 : Int32), u7.2.2) _ _ _ e15 ⟨hP, hD, hS, lv_sub hl [0, 1, 2, 3, 4, 5, 6] rfl⟩
        intro st xx20 H locs ls h hq ih19 hR18
        obtain ⟨hP, hD, hS, hl⟩ := hq
        obtain ⟨v11, v12, v13⟩ := st
        have hP : va_P D vwCl (WM_ q cI cJ cZ wwd wmn wod wsm wnm wwl wif wev wne wsu wnx v13) H := hP
        have hD : va_D A (WM_ q cI cJ cZ wwd wmn wod wsm wnm wwl wif wev wne wsu wnx v13) := hD
        have hl : lv_has ls 8 [(6, .int v11), (5, .int v12), (4, .int u7.2.1), (3, .int ((1 : Int32) <<< (p1 &&& 31))), (0, .ref (q 0)), (1, .int p1), (2, .int p2)] := hl
        have h : fX6_on_L151 wmn u7 wwl p1 wwd p2 v11 v12 v13 = some xx20 := h
        unfold fX6_on_L151 at h
        refine lv_iload hx hb dX6_on_151 (lv_at hl 0 rfl) ?_
        refine lv_iconst (v := (1 : Int32)) hx hb dX6_on_153 (by decide) ?_
        refine lv_aload_n hx hb dX6_on_154 rfl (lv_at hl 4 rfl) ?_
        refine va_get (D := D) (ci := 6) (v := .int wmn) (C := RX6) (T := TX6) (N := 12) hx hb hts wiX6_on_X6 hown hK hP 0 rfl rfl 1 (by decide) (hts _ wmX6_on_0) (fun _ h9 => h9) rfl dX6_on_155 ?_
        refine lv_ishl hx hb dX6_on_158 ?_
        refine lv_icmp_ge (tgt := 217) hx hb dX6_on_159 (by decide) (fun c21 => ?_) (fun c21 => ?_)
        · have h := (if_pos c21).symm.trans h
          exact K16 _ _ _ _ ⟨(hR18 _ (Option.some.inj h).symm).symm, hP, hD, hS, lv_sub hl [0, 1, 2, 3, 4, 5, 6] rfl⟩
        · have h := (if_neg c21).symm.trans h
          refine lv_iload hx hb dX6_on_162 (lv_at hl 0 rfl) ?_
          refine lv_iload hx hb dX6_on_164 (lv_at hl 2 rfl) ?_
          refine lv_iconst (v := (-1 : Int32)) hx hb dX6_on_166 (by decide) ?_
          refine lv_ixor hx hb dX6_on_167 ?_
          refine lv_iand hx hb dX6_on_168 ?_
          refine lv_if_ne (tgt := 211) hx hb dX6_on_169 (by decide) (fun c22 => ?_) (fun c22 => ?_)
          · have h := (if_neg c22).symm.trans h
            refine lv_iinc (v := (v11 + (1 : Int32))) (lv' := [(6, .int (v11 + (1 : Int32))), (5, .int v12), (4, .int u7.2.1), (3, .int ((1 : Int32) <<< (p1 &&& 31))), (0, .ref (q 0)), (1, .int p1), (2, .int p2)]) hx hb dX6_on_211 hl (k := 0) rfl rfl (by decide) rfl (fun ls hl => ?_)
            refine lv_goto (tgt := 151) hx hb dX6_on_214 (by decide) ?_
            exact ih19 _ _ _ _ (Option.some.inj h).symm ⟨hP, hD, hS, lv_sub hl [0, 1, 2, 3, 4, 5, 6] rfl⟩
          · have h := (if_pos c22).symm.trans h
            refine lv_aload_n hx hb dX6_on_172 rfl (lv_at hl 4 rfl) ?_
            refine lv_iload hx hb dX6_on_173 (lv_at hl 0 rfl) ?_
            refine lv_iload_n hx hb dX6_on_175 rfl (lv_at hl 3 rfl) ?_
            refine lv_ior hx hb dX6_on_176 ?_
            obtain ⟨u23, e24, h⟩ := bd_some h
            refine k_i (va_runV (As := [.int (v11 ||| ((1 : Int32) <<< (p1 &&& 31)))]) (rest := []) ⟨hx, hb, hml, hown, hts⟩ (kX6_meets l D q cI cJ cZ tP H.size wwd wmn wod wsm wnm wwl wif wev wne wsu wnx v13 (v11 ||| ((1 : Int32) <<< (p1 &&& 31))) u23 e24) (cwV 1 hts gX6_on_X6_meets rfl rfl rfl (by decide +kernel) ⟨Nat.le_of_ble_eq_true rfl, Nat.le_of_ble_eq_true rfl⟩) ⟨cPre_blind, va_recv hK hP (ci := 6) (q0 := 0) rfl rfl, cPre_at hP hK hN hD hS hA hZ⟩ rfl rfl hl.1 rfl (lv_room (Nat.le_of_ble_eq_true rfl)) dX6_on_177 ⟨Nat.le_of_ble_eq_true rfl, Nat.le_of_ble_eq_true rfl⟩) hD hS hA (fun H locs hP hD hS => ?_)
            refine lv_if_eq (tgt := 211) hx hb dX6_on_180 (by decide) (fun c25 => ?_) (fun c25 => ?_)
            · have h := (if_pos c25).symm.trans h
              refine lv_iinc (v := (v11 + (1 : Int32))) (lv' := [(6, .int (v11 + (1 : Int32))), (5, .int v12), (4, .int u7.2.1), (3, .int ((1 : Int32) <<< (p1 &&& 31))), (0, .ref (q 0)), (1, .int p1), (2, .int p2)]) hx hb dX6_on_211 hl (k := 0) rfl rfl (by decide) rfl (fun ls hl => ?_)
              refine lv_goto (tgt := 151) hx hb dX6_on_214 (by decide) ?_
              exact ih19 _ _ _ _ (Option.some.inj h).symm ⟨hP, hD, hS, lv_sub hl [0, 1, 2, 3, 4, 5, 6] rfl⟩
            · have h := (if_neg c25).symm.trans h
              refine lv_aload_n hx hb dX6_on_183 rfl (lv_at hl 4 rfl) ?_
              refine va_get (D := D) (ci := 6) (v := .int wwd) (C := RX6) (T := TX6) (N := 12) hx hb hts wiX6_on_X6 hown hK hP 0 rfl rfl 0 (by decide) (hts _ wmX6_on_1) (fun _ h9 => h9) rfl dX6_on_184 ?_
              refine lv_aload_n hx hb dX6_on_187 rfl (lv_at hl 4 rfl) ?_
              refine lv_iload hx hb dX6_on_188 (lv_at hl 0 rfl) ?_
              refine lv_iload_n hx hb dX6_on_190 rfl (lv_at hl 3 rfl) ?_
              refine lv_ior hx hb dX6_on_191 ?_
              refine lv_iconst (v := (3 : Int32)) hx hb dX6_on_192 (by decide) ?_
              obtain ⟨u26, e27, h⟩ := bd_some h
              refine k_i (va_runV (As := [.int (v11 ||| ((1 : Int32) <<< (p1 &&& 31))), .int (3 : Int32)]) (rest := [.int wwd]) ⟨hx, hb, hml, hown, hts⟩ (kX6_rank l D q cI cJ cZ tP H.size wwd wmn wod wsm wnm wwl wif wev wne wsu wnx u23.2 (v11 ||| ((1 : Int32) <<< (p1 &&& 31))) (3 : Int32) u26 e27) (cwV 2 hts gX6_on_X6_rank rfl rfl rfl (by decide +kernel) ⟨Nat.le_of_ble_eq_true rfl, Nat.le_of_ble_eq_true rfl⟩) ⟨cPre_blind, va_recv hK hP (ci := 6) (q0 := 0) rfl rfl, cPre_at hP hK hN hD hS hA hZ⟩ rfl rfl hl.1 rfl (lv_room (Nat.le_of_ble_eq_true rfl)) dX6_on_193 ⟨Nat.le_of_ble_eq_true rfl, Nat.le_of_ble_eq_true rfl⟩) hD hS hA (fun H locs hP hD hS => ?_)
              refine lv_isub hx hb dX6_on_196 ?_
              refine lv_iload_n hx hb dX6_on_197 rfl (lv_at hl 6 rfl) ?_
              refine lv_icmp_ne (tgt := 211) hx hb dX6_on_198 (by decide) (fun c28 => ?_) (fun c28 => ?_)
              · have h := (if_neg c28).symm.trans h
                refine lv_iinc (v := (v11 + (1 : Int32))) (lv' := [(6, .int (v11 + (1 : Int32))), (5, .int v12), (4, .int u7.2.1), (3, .int ((1 : Int32) <<< (p1 &&& 31))), (0, .ref (q 0)), (1, .int p1), (2, .int p2)]) hx hb dX6_on_211 hl (k := 0) rfl rfl (by decide) rfl (fun ls hl => ?_)
                refine lv_goto (tgt := 151) hx hb dX6_on_214 (by decide) ?_
                exact ih19 _ _ _ _ (Option.some.inj h).symm ⟨hP, hD, hS, lv_sub hl [0, 1, 2, 3, 4, 5, 6] rfl⟩
              · have h := (if_pos c28).symm.trans h
                refine lv_iload hx hb dX6_on_201 (lv_at hl 1 rfl) ?_
                refine lv_iload hx hb dX6_on_203 (lv_at hl 0 rfl) ?_
                obtain ⟨u29, e30, h⟩ := bd_some h
                refine k_i0 (va_runS (As := [.int v11]) (rest := [.int v12]) ⟨hx, hb, hml, hown, hts⟩ (kX6_odd l D cI cJ cZ tP H.size  v11 u29 e30) (va_cwS 1 hts gX6_on_X6_odd rfl rfl rfl (by decide +kernel) ⟨Nat.le_of_ble_eq_true rfl, Nat.le_of_ble_eq_true rfl⟩) ⟨cPre_blind, cPre_at0 hK hN hS hA hZ⟩ rfl rfl hl.1 rfl (lv_room (Nat.le_of_ble_eq_true rfl)) dX6_on_205 ⟨Nat.le_of_ble_eq_true rfl, Nat.le_of_ble_eq_true rfl⟩) hP hS hA (fun H locs hP hS => ?_)
                refine lv_iadd hx hb dX6_on_208 ?_
                refine lv_istore (lv' := [(5, .int (v12 + u29)), (6, .int v11), (4, .int u7.2.1), (3, .int ((1 : Int32) <<< (p1 &&& 31))), (0, .ref (q 0)), (1, .int p1), (2, .int p2)]) hx hb dX6_on_209 hl (by decide) rfl (fun ls hl => ?_)
                refine lv_iinc (v := (v11 + (1 : Int32))) (lv' := [(6, .int (v11 + (1 : Int32))), (5, .int (v12 + u29)), (4, .int u7.2.1), (3, .int ((1 : Int32) <<< (p1 &&& 31))), (0, .ref (q 0)), (1, .int p1), (2, .int p2)]) hx hb dX6_on_211 hl (k := 1) rfl rfl (by decide) rfl (fun ls hl => ?_)
                refine lv_goto (tgt := 151) hx hb dX6_on_214 (by decide) ?_
                exact ih19 _ _ _ _ (Option.some.inj h).symm ⟨hP, hD, hS, lv_sub hl [0, 1, 2, 3, 4, 5, 6] rfl⟩
    · intro K9
      refine W_lp (body := (fun (st : (Int32 × Int32 × (Nat → Int64))) => fX6_on_L26 wmn p1 wwl st.1 st.2.1 st.2.2)) (P := fun (st : (Int32 × Int32 × (Nat → Int64))) H locs ls => va_P D vwCl (WM_ q cI cJ cZ wwd wmn wod wsm wnm wwl wif wev wne wsu wnx st.2.2) H ∧ va_D A (WM_ q cI cJ cZ wwd wmn wod wsm wnm wwl wif wev wne wsu wnx st.2.2) ∧ va_S A s.heap H locs ∧ lv_has ls 8 [(5, .int st.1), (4, .int st.2.1), (3, .int ((1 : Int32) <<< (p1 &&& 31))), (0, .ref (q 0)), (1, .int p1), (2, .int p2)]) (g := fun _ ls => F0 m 26 ls []) (r := u7) ?_ fu_ ((0 : Int32), (0 : Int32), wta) _ _ _ e8 ⟨hP, hD, hS, lv_sub hl [0, 1, 2, 3, 4, 5] rfl⟩
      intro st xx33 H locs ls h hq ih32 hR31
      obtain ⟨hP, hD, hS, hl⟩ := hq
      obtain ⟨v4, v5, v6⟩ := st
      have hP : va_P D vwCl (WM_ q cI cJ cZ wwd wmn wod wsm wnm wwl wif wev wne wsu wnx v6) H := hP
      have hD : va_D A (WM_ q cI cJ cZ wwd wmn wod wsm wnm wwl wif wev wne wsu wnx v6) := hD
      have hl : lv_has ls 8 [(5, .int v4), (4, .int v5), (3, .int ((1 : Int32) <<< (p1 &&& 31))), (0, .ref (q 0)), (1, .int p1), (2, .int p2)] := hl
      have h : fX6_on_L26 wmn p1 wwl v4 v5 v6 = some xx33 := h
      unfold fX6_on_L26 at h
      refine lv_iload hx hb dX6_on_26 (lv_at hl 0 rfl) ?_
      refine lv_aload_n hx hb dX6_on_28 rfl (lv_at hl 3 rfl) ?_
      refine va_get (D := D) (ci := 6) (v := .int wmn) (C := RX6) (T := TX6) (N := 12) hx hb hts wiX6_on_X6 hown hK hP 0 rfl rfl 1 (by decide) (hts _ wmX6_on_0) (fun _ h9 => h9) rfl dX6_on_29 ?_
      refine lv_icmp_ge (tgt := 145) hx hb dX6_on_32 (by decide) (fun c34 => ?_) (fun c34 => ?_)
      · have h := (if_pos c34).symm.trans h
        exact K9 _ _ _ _ ⟨(hR31 _ (Option.some.inj h).symm).symm, hP, hD, hS, lv_sub hl [0, 1, 2, 3, 4, 5] rfl⟩
      · have h := (if_neg c34).symm.trans h
        refine lv_iload hx hb dX6_on_35 (lv_at hl 0 rfl) ?_
        refine lv_iload_n hx hb dX6_on_37 rfl (lv_at hl 4 rfl) ?_
        refine lv_icmp_eq (tgt := 139) hx hb dX6_on_38 (by decide) (fun c35 => ?_) (fun c35 => ?_)
        · have h := (if_pos c35).symm.trans h
          refine lv_iinc (v := (v4 + (1 : Int32))) (lv' := [(5, .int (v4 + (1 : Int32))), (4, .int v5), (3, .int ((1 : Int32) <<< (p1 &&& 31))), (0, .ref (q 0)), (1, .int p1), (2, .int p2)]) hx hb dX6_on_139 hl (k := 0) rfl rfl (by decide) rfl (fun ls hl => ?_)
          refine lv_goto (tgt := 26) hx hb dX6_on_142 (by decide) ?_
          exact ih32 _ _ _ _ (Option.some.inj h).symm ⟨hP, hD, hS, lv_sub hl [0, 1, 2, 3, 4, 5] rfl⟩
        · have h := (if_neg c35).symm.trans h
          refine lv_aload_n hx hb dX6_on_41 rfl (lv_at hl 3 rfl) ?_
          refine lv_iload_n hx hb dX6_on_42 rfl (lv_at hl 2 rfl) ?_
          refine lv_iconst (v := (1 : Int32)) hx hb dX6_on_43 (by decide) ?_
          refine lv_iload hx hb dX6_on_44 (lv_at hl 0 rfl) ?_
          refine lv_ishl hx hb dX6_on_46 ?_
          refine lv_ior hx hb dX6_on_47 ?_
          obtain ⟨u36, e37, h⟩ := bd_some h
          refine k_i (va_runV (As := [.int (((1 : Int32) <<< (p1 &&& 31)) ||| ((1 : Int32) <<< (v4 &&& 31)))]) (rest := []) ⟨hx, hb, hml, hown, hts⟩ (kX6_meets l D q cI cJ cZ tP H.size wwd wmn wod wsm wnm wwl wif wev wne wsu wnx v6 (((1 : Int32) <<< (p1 &&& 31)) ||| ((1 : Int32) <<< (v4 &&& 31))) u36 e37) (cwV 1 hts gX6_on_X6_meets rfl rfl rfl (by decide +kernel) ⟨Nat.le_of_ble_eq_true rfl, Nat.le_of_ble_eq_true rfl⟩) ⟨cPre_blind, va_recv hK hP (ci := 6) (q0 := 0) rfl rfl, cPre_at hP hK hN hD hS hA hZ⟩ rfl rfl hl.1 rfl (lv_room (Nat.le_of_ble_eq_true rfl)) dX6_on_48 ⟨Nat.le_of_ble_eq_true rfl, Nat.le_of_ble_eq_true rfl⟩) hD hS hA (fun H locs hP hD hS => ?_)
          refine lv_if_eq (tgt := 139) hx hb dX6_on_51 (by decide) (fun c38 => ?_) (fun c38 => ?_)
          · have h := (if_pos c38).symm.trans h
            refine lv_iinc (v := (v4 + (1 : Int32))) (lv' := [(5, .int (v4 + (1 : Int32))), (4, .int v5), (3, .int ((1 : Int32) <<< (p1 &&& 31))), (0, .ref (q 0)), (1, .int p1), (2, .int p2)]) hx hb dX6_on_139 hl (k := 0) rfl rfl (by decide) rfl (fun ls hl => ?_)
            refine lv_goto (tgt := 26) hx hb dX6_on_142 (by decide) ?_
            exact ih32 _ _ _ _ (Option.some.inj h).symm ⟨hP, hD, hS, lv_sub hl [0, 1, 2, 3, 4, 5] rfl⟩
          · have h := (if_neg c38).symm.trans h
            refine lv_aload_n hx hb dX6_on_54 rfl (lv_at hl 3 rfl) ?_
            refine lv_iload_n hx hb dX6_on_55 rfl (lv_at hl 2 rfl) ?_
            refine lv_iconst (v := (1 : Int32)) hx hb dX6_on_56 (by decide) ?_
            refine lv_iload hx hb dX6_on_57 (lv_at hl 0 rfl) ?_
            refine lv_ishl hx hb dX6_on_59 ?_
            refine lv_ior hx hb dX6_on_60 ?_
            refine lv_iconst (v := (3 : Int32)) hx hb dX6_on_61 (by decide) ?_
            obtain ⟨u39, e40, h⟩ := bd_some h
            refine k_i (va_runV (As := [.int (((1 : Int32) <<< (p1 &&& 31)) ||| ((1 : Int32) <<< (v4 &&& 31))), .int (3 : Int32)]) (rest := []) ⟨hx, hb, hml, hown, hts⟩ (kX6_rank l D q cI cJ cZ tP H.size wwd wmn wod wsm wnm wwl wif wev wne wsu wnx u36.2 (((1 : Int32) <<< (p1 &&& 31)) ||| ((1 : Int32) <<< (v4 &&& 31))) (3 : Int32) u39 e40) (cwV 2 hts gX6_on_X6_rank rfl rfl rfl (by decide +kernel) ⟨Nat.le_of_ble_eq_true rfl, Nat.le_of_ble_eq_true rfl⟩) ⟨cPre_blind, va_recv hK hP (ci := 6) (q0 := 0) rfl rfl, cPre_at hP hK hN hD hS hA hZ⟩ rfl rfl hl.1 rfl (lv_room (Nat.le_of_ble_eq_true rfl)) dX6_on_62 ⟨Nat.le_of_ble_eq_true rfl, Nat.le_of_ble_eq_true rfl⟩) hD hS hA (fun H locs hP hD hS => ?_)
            refine lv_iconst (v := (2 : Int32)) hx hb dX6_on_65 (by decide) ?_
            refine lv_icmp_ge (tgt := 72) hx hb dX6_on_66 (by decide) (fun c41 => ?_) (fun c41 => ?_)
            · have h := (if_pos c41).symm.trans h
              refine lv_iconst (v := (1 : Int32)) hx hb dX6_on_72 (by decide) ?_
              refine lv_istore (lv' := [(6, .int (1 : Int32)), (5, .int v4), (4, .int v5), (3, .int ((1 : Int32) <<< (p1 &&& 31))), (0, .ref (q 0)), (1, .int p1), (2, .int p2)]) hx hb dX6_on_73 hl (by decide) rfl (fun ls hl => ?_)
              refine lv_iconst (v := (0 : Int32)) hx hb dX6_on_75 (by decide) ?_
              refine lv_istore (lv' := [(7, .int (0 : Int32)), (6, .int (1 : Int32)), (5, .int v4), (4, .int v5), (3, .int ((1 : Int32) <<< (p1 &&& 31))), (0, .ref (q 0)), (1, .int p1), (2, .int p2)]) hx hb dX6_on_76 hl (by decide) rfl (fun ls hl => ?_)
              obtain ⟨u45, e46, h⟩ := bd_some h
              refine W_leave (P := fun (y : (Int32 × Int32 × (Nat → Int64))) H locs ls => u45 = y ∧ va_P D vwCl (WM_ q cI cJ cZ wwd wmn wod wsm wnm wwl wif wev wne wsu wnx y.2.2) H ∧ va_D A (WM_ q cI cJ cZ wwd wmn wod wsm wnm wwl wif wev wne wsu wnx y.2.2) ∧ va_S A s.heap H locs ∧ lv_has ls 8 [(7, .int y.1), (6, .int y.2.1), (5, .int v4), (4, .int v5), (3, .int ((1 : Int32) <<< (p1 &&& 31))), (0, .ref (q 0)), (1, .int p1), (2, .int p2)]) (g := fun ls => F0 m 125 ls []) ?_ ?_
              · intro y H locs ls hq
                obtain ⟨hy, hP, hD, hS, hl⟩ := hq
                subst hy
                have hl : lv_has ls 8 [(7, .int u45.1), (6, .int u45.2.1), (5, .int v4), (4, .int v5), (3, .int ((1 : Int32) <<< (p1 &&& 31))), (0, .ref (q 0)), (1, .int p1), (2, .int p2)] := hl
                refine lv_iload hx hb dX6_on_125 (lv_at hl 1 rfl) ?_
                refine lv_if_eq (tgt := 139) hx hb dX6_on_127 (by decide) (fun c49 => ?_) (fun c49 => ?_)
                · have h := (if_pos c49).symm.trans h
                  refine lv_iinc (v := (v4 + (1 : Int32))) (lv' := [(5, .int (v4 + (1 : Int32))), (7, .int u45.1), (6, .int u45.2.1), (4, .int v5), (3, .int ((1 : Int32) <<< (p1 &&& 31))), (0, .ref (q 0)), (1, .int p1), (2, .int p2)]) hx hb dX6_on_139 hl (k := 2) rfl rfl (by decide) rfl (fun ls hl => ?_)
                  refine lv_goto (tgt := 26) hx hb dX6_on_142 (by decide) ?_
                  exact ih32 _ _ _ _ (Option.some.inj h).symm ⟨hP, hD, hS, lv_sub hl [0, 3, 4, 5, 6, 7] rfl⟩
                · have h := (if_neg c49).symm.trans h
                  refine lv_iload hx hb dX6_on_130 (lv_at hl 3 rfl) ?_
                  refine lv_iconst (v := (1 : Int32)) hx hb dX6_on_132 (by decide) ?_
                  refine lv_iload hx hb dX6_on_133 (lv_at hl 2 rfl) ?_
                  refine lv_ishl hx hb dX6_on_135 ?_
                  refine lv_ior hx hb dX6_on_136 ?_
                  refine lv_istore (lv' := [(4, .int (v5 ||| ((1 : Int32) <<< (v4 &&& 31)))), (7, .int u45.1), (6, .int u45.2.1), (5, .int v4), (3, .int ((1 : Int32) <<< (p1 &&& 31))), (0, .ref (q 0)), (1, .int p1), (2, .int p2)]) hx hb dX6_on_137 hl (by decide) rfl (fun ls hl => ?_)
                  refine lv_iinc (v := (v4 + (1 : Int32))) (lv' := [(5, .int (v4 + (1 : Int32))), (4, .int (v5 ||| ((1 : Int32) <<< (v4 &&& 31)))), (7, .int u45.1), (6, .int u45.2.1), (3, .int ((1 : Int32) <<< (p1 &&& 31))), (0, .ref (q 0)), (1, .int p1), (2, .int p2)]) hx hb dX6_on_139 hl (k := 3) rfl rfl (by decide) rfl (fun ls hl => ?_)
                  refine lv_goto (tgt := 26) hx hb dX6_on_142 (by decide) ?_
                  exact ih32 _ _ _ _ (Option.some.inj h).symm ⟨hP, hD, hS, lv_sub hl [0, 1, 4, 5, 6, 7] rfl⟩
              · intro K47
                refine W_lp (body := (fun (st : (Int32 × Int32 × (Nat → Int64))) => fX6_on_L78 v4 v5 wmn wwl p1 st.1 st.2.1 st.2.2)) (P := fun (st : (Int32 × Int32 × (Nat → Int64))) H locs ls => va_P D vwCl (WM_ q cI cJ cZ wwd wmn wod wsm wnm wwl wif wev wne wsu wnx st.2.2) H ∧ va_D A (WM_ q cI cJ cZ wwd wmn wod wsm wnm wwl wif wev wne wsu wnx st.2.2) ∧ va_S A s.heap H locs ∧ lv_has ls 8 [(7, .int st.1), (6, .int st.2.1), (5, .int v4), (4, .int v5), (3, .int ((1 : Int32) <<< (p1 &&& 31))), (0, .ref (q 0)), (1, .int p1), (2, .int p2)]) (g := fun _ ls => F0 m 78 ls []) (r := u45) ?_ fu_ ((0 : Int32), (1 : Int32), u39.2) _ _ _ e46 ⟨hP, hD, hS, lv_sub hl [0, 1, 2, 3, 4, 5, 6, 7] rfl⟩
                intro st xx52 H locs ls h hq ih51 hR50
                obtain ⟨hP, hD, hS, hl⟩ := hq
                obtain ⟨v42, v43, v44⟩ := st
                have hP : va_P D vwCl (WM_ q cI cJ cZ wwd wmn wod wsm wnm wwl wif wev wne wsu wnx v44) H := hP
                have hD : va_D A (WM_ q cI cJ cZ wwd wmn wod wsm wnm wwl wif wev wne wsu wnx v44) := hD
                have hl : lv_has ls 8 [(7, .int v42), (6, .int v43), (5, .int v4), (4, .int v5), (3, .int ((1 : Int32) <<< (p1 &&& 31))), (0, .ref (q 0)), (1, .int p1), (2, .int p2)] := hl
                have h : fX6_on_L78 v4 v5 wmn wwl p1 v42 v43 v44 = some xx52 := h
                unfold fX6_on_L78 at h
                refine lv_iload hx hb dX6_on_78 (lv_at hl 0 rfl) ?_
                refine lv_iload hx hb dX6_on_80 (lv_at hl 2 rfl) ?_
                refine lv_icmp_ge (tgt := 125) hx hb dX6_on_82 (by decide) (fun c53 => ?_) (fun c53 => ?_)
                · have h := (if_pos c53).symm.trans h
                  exact K47 _ _ _ _ ⟨(hR50 _ (Option.some.inj h).symm).symm, hP, hD, hS, lv_sub hl [0, 1, 2, 3, 4, 5, 6, 7] rfl⟩
                · have h := (if_neg c53).symm.trans h
                  refine lv_iload hx hb dX6_on_85 (lv_at hl 3 rfl) ?_
                  refine lv_iload hx hb dX6_on_87 (lv_at hl 0 rfl) ?_
                  refine lv_ishr hx hb dX6_on_89 ?_
                  refine lv_iconst (v := (1 : Int32)) hx hb dX6_on_90 (by decide) ?_
                  refine lv_iand hx hb dX6_on_91 ?_
                  refine lv_iconst (v := (1 : Int32)) hx hb dX6_on_92 (by decide) ?_
                  refine lv_icmp_ne (tgt := 119) hx hb dX6_on_93 (by decide) (fun c54 => ?_) (fun c54 => ?_)
                  · have h := (if_neg c54).symm.trans h
                    refine lv_iinc (v := (v42 + (1 : Int32))) (lv' := [(7, .int (v42 + (1 : Int32))), (6, .int v43), (5, .int v4), (4, .int v5), (3, .int ((1 : Int32) <<< (p1 &&& 31))), (0, .ref (q 0)), (1, .int p1), (2, .int p2)]) hx hb dX6_on_119 hl (k := 0) rfl rfl (by decide) rfl (fun ls hl => ?_)
                    refine lv_goto (tgt := 78) hx hb dX6_on_122 (by decide) ?_
                    exact ih51 _ _ _ _ (Option.some.inj h).symm ⟨hP, hD, hS, lv_sub hl [0, 1, 2, 3, 4, 5, 6, 7] rfl⟩
                  · have h := (if_pos c54).symm.trans h
                    refine lv_aload_n hx hb dX6_on_96 rfl (lv_at hl 5 rfl) ?_
                    refine lv_iload_n hx hb dX6_on_97 rfl (lv_at hl 4 rfl) ?_
                    refine lv_iconst (v := (1 : Int32)) hx hb dX6_on_98 (by decide) ?_
                    refine lv_iload hx hb dX6_on_99 (lv_at hl 2 rfl) ?_
                    refine lv_ishl hx hb dX6_on_101 ?_
                    refine lv_ior hx hb dX6_on_102 ?_
                    refine lv_iconst (v := (1 : Int32)) hx hb dX6_on_103 (by decide) ?_
                    refine lv_iload hx hb dX6_on_104 (lv_at hl 0 rfl) ?_
                    refine lv_ishl hx hb dX6_on_106 ?_
                    refine lv_ior hx hb dX6_on_107 ?_
                    refine lv_iconst (v := (4 : Int32)) hx hb dX6_on_108 (by decide) ?_
                    obtain ⟨u55, e56, h⟩ := bd_some h
                    refine k_i (va_runV (As := [.int ((((1 : Int32) <<< (p1 &&& 31)) ||| ((1 : Int32) <<< (v4 &&& 31))) ||| ((1 : Int32) <<< (v42 &&& 31))), .int (4 : Int32)]) (rest := []) ⟨hx, hb, hml, hown, hts⟩ (kX6_rank l D q cI cJ cZ tP H.size wwd wmn wod wsm wnm wwl wif wev wne wsu wnx v44 ((((1 : Int32) <<< (p1 &&& 31)) ||| ((1 : Int32) <<< (v4 &&& 31))) ||| ((1 : Int32) <<< (v42 &&& 31))) (4 : Int32) u55 e56) (cwV 2 hts gX6_on_X6_rank rfl rfl rfl (by decide +kernel) ⟨Nat.le_of_ble_eq_true rfl, Nat.le_of_ble_eq_true rfl⟩) ⟨cPre_blind, va_recv hK hP (ci := 6) (q0 := 0) rfl rfl, cPre_at hP hK hN hD hS hA hZ⟩ rfl rfl hl.1 rfl (lv_room (Nat.le_of_ble_eq_true rfl)) dX6_on_109 ⟨Nat.le_of_ble_eq_true rfl, Nat.le_of_ble_eq_true rfl⟩) hD hS hA (fun H locs hP hD hS => ?_)
                    refine lv_iconst (v := (2 : Int32)) hx hb dX6_on_112 (by decide) ?_
                    refine lv_icmp_ne (tgt := 119) hx hb dX6_on_113 (by decide) (fun c57 => ?_) (fun c57 => ?_)
                    · have h := (if_neg c57).symm.trans h
                      refine lv_iinc (v := (v42 + (1 : Int32))) (lv' := [(7, .int (v42 + (1 : Int32))), (6, .int v43), (5, .int v4), (4, .int v5), (3, .int ((1 : Int32) <<< (p1 &&& 31))), (0, .ref (q 0)), (1, .int p1), (2, .int p2)]) hx hb dX6_on_119 hl (k := 0) rfl rfl (by decide) rfl (fun ls hl => ?_)
                      refine lv_goto (tgt := 78) hx hb dX6_on_122 (by decide) ?_
                      exact ih51 _ _ _ _ (Option.some.inj h).symm ⟨hP, hD, hS, lv_sub hl [0, 1, 2, 3, 4, 5, 6, 7] rfl⟩
                    · have h := (if_pos c57).symm.trans h
                      refine lv_iconst (v := (0 : Int32)) hx hb dX6_on_116 (by decide) ?_
                      refine lv_istore (lv' := [(6, .int (0 : Int32)), (7, .int v42), (5, .int v4), (4, .int v5), (3, .int ((1 : Int32) <<< (p1 &&& 31))), (0, .ref (q 0)), (1, .int p1), (2, .int p2)]) hx hb dX6_on_117 hl (by decide) rfl (fun ls hl => ?_)
                      refine lv_iinc (v := (v42 + (1 : Int32))) (lv' := [(7, .int (v42 + (1 : Int32))), (6, .int (0 : Int32)), (5, .int v4), (4, .int v5), (3, .int ((1 : Int32) <<< (p1 &&& 31))), (0, .ref (q 0)), (1, .int p1), (2, .int p2)]) hx hb dX6_on_119 hl (k := 1) rfl rfl (by decide) rfl (fun ls hl => ?_)
                      refine lv_goto (tgt := 78) hx hb dX6_on_122 (by decide) ?_
                      exact ih51 _ _ _ _ (Option.some.inj h).symm ⟨hP, hD, hS, lv_sub hl [0, 1, 2, 3, 4, 5, 6, 7] rfl⟩
            · have h := (if_neg c41).symm.trans h
              refine lv_goto (tgt := 139) hx hb dX6_on_69 (by decide) ?_
              refine lv_iinc (v := (v4 + (1 : Int32))) (lv' := [(5, .int (v4 + (1 : Int32))), (4, .int v5), (3, .int ((1 : Int32) <<< (p1 &&& 31))), (0, .ref (q 0)), (1, .int p1), (2, .int p2)]) hx hb dX6_on_139 hl (k := 0) rfl rfl (by decide) rfl (fun ls hl => ?_)
              refine lv_goto (tgt := 26) hx hb dX6_on_142 (by decide) ?_
              exact ih32 _ _ _ _ (Option.some.inj h).symm ⟨hP, hD, hS, lv_sub hl [0, 1, 2, 3, 4, 5] rfl⟩
  · have h := (if_pos c3).symm.trans h
    refine lv_iconst (v := (0 : Int32)) hx hb dX6_on_14 (by decide) ?_
    obtain rfl := Option.some.inj h
    exact W.iret (v := (0 : Int32)) hx hb hr (fun t ht hW => ⟨⟨(0 : Int32), (), rfl, rfl, by rw [ht]; exact hP, hD⟩, hS.F ht⟩) hS.2.2 dX6_on_15
