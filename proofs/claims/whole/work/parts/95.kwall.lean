/-! the contract of the reference's wall: its rounds make arrays -/
theorem tn_succ {v : Int32} {N : Nat} (h : in_R v N) (hN : N < 2 ^ 31) : (v + 1).toNatClampNeg = v.toNatClampNeg + 1 := by
  have h0 : ¬ v < 0 := fun q => h (Or.inl q)
  have h1 : v.toNatClampNeg < N := Nat.lt_of_not_le fun q => h (Or.inr q)
  have h2 : 0 ≤ v.toInt := Int.not_lt.mp fun q => h0 (Int32.lt_iff_toInt_lt.mpr q)
  have h3 : v = nI v.toNatClampNeg := by
    have h4 : (v.toNatClampNeg : Int) = v.toInt := Int.toNat_of_nonneg h2
    rw [← iI_nat, h4, iI_of]
  have h5 : v + 1 = nI (v.toNatClampNeg + 1) := by rw [← nI_1, ← h3]
  rw [h5, nI_clamp (by omega)]
section KA
variable {p : Program} {l : Launch} {e : Env} {R : Room} {s : State} {m : MethodId} {args : Array Value} {below : List Frame} {meth : Method} {c : Code} {H : Heap} {locs : List Loc} {cells slots : Nat} {Q : State → Prop} {pc : Nat} {ls : Array Slot} {st0 rest : List Value} {a : Array Value} {D : va_G} {A : Nat → Prop} {H0 : Heap} {ws ws' : va_W}
theorem k_iA {mc ms : Nat} {r0 : Int32} (hr : va_Run p l e R s m args below meth c H locs cells slots mc ms (F0 m pc ls st0) rest (cQi D (va_A ws H.size) ws' r0 a) (va_A ws H.size)) (hD : va_D A ws) (hS : va_S A H0 H locs) (hA : ∀ q, H0.size ≤ q → A q)
    (kk : ∀ (H1 : Heap) (locs1 : List Loc), va_P D vwCl ws' H1 → va_D A ws' → va_S A H0 H1 locs1 → W p l e R s m args below meth c H1 locs1 (cells + mc) (slots + ms) Q (F0 m (pc + 3) ls (.int r0 :: rest))) : W p l e R s m args below meth c H locs cells slots Q (F0 m pc ls st0) := by
  have hF := va_A_sub hD hS hA
  refine va_calli hr hS (fun q _ h => hF q h) hF (fun r u t H1 locs1 ht hvm hw hB hz hk hS1 => ?_)
  subst hw; subst ht
  exact kk _ _ hB.1 (hB.2.weaken (fun _ _ _ h => hF _ h)) hS1
theorem W_leaveA {cells slots c2 s2 : Nat} {X : Type} {P : X → Heap → List Loc → Array Slot → Prop} {g : Array Slot → JFrame} {g0 : JFrame}
    (rest : ∀ (y : X) (H : Heap) (locs : List Loc) (ls : Array Slot), P y H locs ls → W p l e R s m args below meth c H locs c2 s2 Q (g ls))
    (main : (∀ (y : X) (H : Heap) (locs : List Loc) (ls : Array Slot), P y H locs ls → W p l e R s m args below meth c H locs c2 s2 Q (g ls)) → W p l e R s m args below meth c H locs cells slots Q g0) : W p l e R s m args below meth c H locs cells slots Q g0 := main rest
end KA
theorem wmX6_wall_0 : (.fieldLink RX6 37 "SpaceWallsModel" "wide" "I" : Cond) ∈ wsX6_wall := by decide +kernel
theorem wmX6_wall_1 : (.fieldLink RX6 49 "SpaceWallsModel" "many" "I" : Cond) ∈ wsX6_wall := by decide +kernel
theorem wmX6_wall_2 : (.fieldLink RX6 9 "SpaceWallsModel" "walls" "[I" : Cond) ∈ wsX6_wall := by decide +kernel
theorem wmX6_wall_3 : (.fieldLink RX6 17 "SpaceWallsModel" "isOld" "Z" : Cond) ∈ wsX6_wall := by decide +kernel
theorem wiX6_wall_X6 : ∀ w ∈ u_ws RX6 TX6 12, w ∈ wsX6_wall := by decide +kernel
set_option maxHeartbeats 8000000 in
set_option maxRecDepth 100000 in
theorem kX6_wall (l : Launch) (D : va_G) (q : Nat → Nat) (cI cJ cZ : ClassId) (tP sz : Nat) (wwd : Int32) (wmn : Int32) (wod : Int32) (wsm : Int32) (wnm : Int32) (wwl : (Nat → Int32)) (wif : (Nat → Int32)) (wev : (Nat → Int32)) (wne : (Nat → Int32)) (wsu : (Nat → Int64)) (wnx : (Nat → Int64)) (wta : (Nat → Int64)) (p1 : Int32) (p2 : Int32) (p3 : Int32) (p4 : Int32) (uu : (Int32 × Int32 × Int32 × (Nat → Int32))) (h : fX6_wall wwd wmn wod wwl p1 p2 p3 p4 = some uu) : Met l yX6_wall wsX6_wall ({ frames := 2, cells := 8, slots := 32, locals := 50 }) (cPre D cI cJ cZ tP (WM_ q cI cJ cZ wwd wmn wod wsm wnm wwl wif wev wne wsu wnx wta) sz [.ref (q 0), .int p1, .int p2, .int p3, .int p4]) (cQi D (va_A (WM_ q cI cJ cZ wwd wmn wod wsm wnm wwl wif wev wne wsu wnx wta) sz) (WM_ q cI cJ cZ wwd uu.2.1 uu.2.2.1 wsm wnm uu.2.2.2 wif wev wne wsu wnx wta) uu.1) 8 32 (va_A (WM_ q cI cJ cZ wwd wmn wod wsm wnm wwl wif wev wne wsu wnx wta) sz) := by
  refine Met.ofW (cc := cX6_wall) (maxL := 6) (ret := (some .int)) (by decide) rfl ?_
  intro p e s m args below meth c s₁ B hml hv
  obtain ⟨rfl, hsz, hP, hK, hN, hD0, hZ⟩ := hv
  have hx := B.exec
  have hb := B.bytes
  have hr := B.returns
  have hts := atoms_spec (ws := wsX6_wall) B.pre
  have hown : s.vm.findClass RX6 = some m.cls := findClass_of_methodNamed B.named
  have hlocks := B.notSynchronized
  subst hsz
  have hD := hD0.self (sz := s.heap.size)
  generalize hAe : va_A (WM_ q cI cJ cZ wwd wmn wod wsm wnm wwl wif wev wne wsu wnx wta) s.heap.size = A at hD hZ ⊢
  have hA : ∀ q : Nat, s.heap.size ≤ q → A q := fun q h => by rw [← hAe]; exact Or.inr h
  have hS : va_S A s.heap s.heap [] := va_S.rf
  have hl := lv_entry ([.ref (q 0), .int p1, .int p2, .int p3, .int p4]) (n := 6) (Nat.le_of_ble_eq_true rfl)
  rw [lg_entry_eq]
  generalize (lg_sl ([.ref (q 0), .int p1, .int p2, .int p3, .int p4]) ++ List.replicate (6 - (lg_sl ([.ref (q 0), .int p1, .int p2, .int p3, .int p4])).length) Slot.unset).toArray = ls at hl ⊢
  have hl : lv_has ls 6 [(0, .ref (q 0)), (1, .int p1), (2, .int p2), (3, .int p3), (4, .int p4)] := hl
  refine W_join (P := fun H locs ls => fX6_wall_T wmn wod wwl p1 p2 p3 p4 = some uu ∧ va_P D vwCl (WM_ q cI cJ cZ wwd wmn wod wsm wnm wwl wif wev wne wsu wnx wta) H ∧ va_D A (WM_ q cI cJ cZ wwd wmn wod wsm wnm wwl wif wev wne wsu wnx wta) ∧ va_S A s.heap H locs ∧ lv_has ls 6 [(0, .ref (q 0)), (1, .int p1), (2, .int p2), (3, .int p3), (4, .int p4)]) (g := fun ls => F0 m 83 ls []) ?_ ?_
  · intro H locs ls hq
    obtain ⟨h, hP, hD, hS, hl⟩ := hq
    unfold fX6_wall_T at h
    refine lv_aload_n hx hb dX6_wall_83 rfl (lv_at hl 0 rfl) ?_
    refine va_get (D := D) (ci := 6) (v := .int wmn) (C := RX6) (T := TX6) (N := 12) hx hb hts wiX6_wall_X6 hown hK hP 0 rfl rfl 1 (by decide) (hts _ wmX6_wall_1) (fun _ h9 => h9) rfl dX6_wall_84 ?_
    refine lv_bipush (v := (8 : Int32)) hx hb dX6_wall_87 (by decide) ?_
    refine lv_icmp_ne (tgt := 94) hx hb dX6_wall_89 (by decide) (fun c16 => ?_) (fun c16 => ?_)
    · have h := (if_neg c16).symm.trans h
      refine lv_iconst (v := (0 : Int32)) hx hb dX6_wall_94 (by decide) ?_
      refine lv_istore (lv' := [(5, .int (0 : Int32)), (0, .ref (q 0)), (1, .int p1), (2, .int p2), (3, .int p3), (4, .int p4)]) hx hb dX6_wall_95 hl (by decide) rfl (fun ls hl => ?_)
      obtain ⟨u18, e19, h⟩ := bd_some h
      have KR21 : ∀ y23, Sum.inr y23 = u18 → y23 = uu := by
        intro y23 hy
        subst hy
        have h := se_inr h
        exact Option.some.inj h
      refine W_leaveA (c2 := 8) (s2 := 32) (P := fun (y : Int32) H locs ls => u18 = Sum.inl y ∧ va_P D vwCl (WM_ q cI cJ cZ wwd wmn wod wsm wnm wwl wif wev wne wsu wnx wta) H ∧ va_D A (WM_ q cI cJ cZ wwd wmn wod wsm wnm wwl wif wev wne wsu wnx wta) ∧ va_S A s.heap H locs ∧ lv_has ls 6 [(5, .int y), (0, .ref (q 0)), (1, .int p1), (2, .int p2), (3, .int p3), (4, .int p4)]) (g := fun ls => F0 m 128 ls []) ?_ ?_
      · intro x22 H locs ls hq
        obtain ⟨hy, hP, hD, hS, hl⟩ := hq
        subst hy
        have h := se_inl h
        refine lv_aload_n hx hb dX6_wall_128 rfl (lv_at hl 1 rfl) ?_
        refine va_get (D := D) (ci := 6) (v := .ref (q 1)) (C := RX6) (T := TX6) (N := 12) hx hb hts wiX6_wall_X6 hown hK hP 0 rfl rfl 2 (by decide) (hts _ wmX6_wall_2) (fun _ h9 => h9) rfl dX6_wall_129 ?_
        refine lv_iconst (v := (4 : Int32)) hx hb dX6_wall_132 (by decide) ?_
        refine lv_aload_n hx hb dX6_wall_133 rfl (lv_at hl 1 rfl) ?_
        refine va_get (D := D) (ci := 6) (v := .int wmn) (C := RX6) (T := TX6) (N := 12) hx hb hts wiX6_wall_X6 hown hK hP 0 rfl rfl 1 (by decide) (hts _ wmX6_wall_1) (fun _ h9 => h9) rfl dX6_wall_134 ?_
        refine lv_imul hx hb dX6_wall_137 ?_
        refine lv_iload_n hx hb dX6_wall_138 rfl (lv_at hl 2 rfl) ?_
        obtain ⟨i24, h⟩ := ck_some h
        refine va_iast hx hb hK hP hD hS 1 0 rfl rfl i24 dX6_wall_139 (fun H locs hP hD hS => ?_)
        have hP : va_P D vwCl (WM_ q cI cJ cZ wwd wmn wod wsm wnm (upd wwl ((4 : Int32) * wmn).toNatClampNeg p1) wif wev wne wsu wnx wta) H := hP
        have hD : va_D A (WM_ q cI cJ cZ wwd wmn wod wsm wnm (upd wwl ((4 : Int32) * wmn).toNatClampNeg p1) wif wev wne wsu wnx wta) := hD
        refine lv_aload_n hx hb dX6_wall_140 rfl (lv_at hl 1 rfl) ?_
        refine va_get (D := D) (ci := 6) (v := .ref (q 1)) (C := RX6) (T := TX6) (N := 12) hx hb hts wiX6_wall_X6 hown hK hP 0 rfl rfl 2 (by decide) (hts _ wmX6_wall_2) (fun _ h9 => h9) rfl dX6_wall_141 ?_
        refine lv_iconst (v := (4 : Int32)) hx hb dX6_wall_144 (by decide) ?_
        refine lv_aload_n hx hb dX6_wall_145 rfl (lv_at hl 1 rfl) ?_
        refine va_get (D := D) (ci := 6) (v := .int wmn) (C := RX6) (T := TX6) (N := 12) hx hb hts wiX6_wall_X6 hown hK hP 0 rfl rfl 1 (by decide) (hts _ wmX6_wall_1) (fun _ h9 => h9) rfl dX6_wall_146 ?_
        refine lv_imul hx hb dX6_wall_149 ?_
        refine lv_iconst (v := (1 : Int32)) hx hb dX6_wall_150 (by decide) ?_
        refine lv_iadd hx hb dX6_wall_151 ?_
        refine lv_iload_n hx hb dX6_wall_152 rfl (lv_at hl 3 rfl) ?_
        obtain ⟨i25, h⟩ := ck_some h
        refine va_iast hx hb hK hP hD hS 1 0 rfl rfl i25 dX6_wall_153 (fun H locs hP hD hS => ?_)
        have hP : va_P D vwCl (WM_ q cI cJ cZ wwd wmn wod wsm wnm (upd (upd wwl ((4 : Int32) * wmn).toNatClampNeg p1) (((4 : Int32) * wmn) + (1 : Int32)).toNatClampNeg p2) wif wev wne wsu wnx wta) H := hP
        have hD : va_D A (WM_ q cI cJ cZ wwd wmn wod wsm wnm (upd (upd wwl ((4 : Int32) * wmn).toNatClampNeg p1) (((4 : Int32) * wmn) + (1 : Int32)).toNatClampNeg p2) wif wev wne wsu wnx wta) := hD
        refine lv_aload_n hx hb dX6_wall_154 rfl (lv_at hl 1 rfl) ?_
        refine va_get (D := D) (ci := 6) (v := .ref (q 1)) (C := RX6) (T := TX6) (N := 12) hx hb hts wiX6_wall_X6 hown hK hP 0 rfl rfl 2 (by decide) (hts _ wmX6_wall_2) (fun _ h9 => h9) rfl dX6_wall_155 ?_
        refine lv_iconst (v := (4 : Int32)) hx hb dX6_wall_158 (by decide) ?_
        refine lv_aload_n hx hb dX6_wall_159 rfl (lv_at hl 1 rfl) ?_
        refine va_get (D := D) (ci := 6) (v := .int wmn) (C := RX6) (T := TX6) (N := 12) hx hb hts wiX6_wall_X6 hown hK hP 0 rfl rfl 1 (by decide) (hts _ wmX6_wall_1) (fun _ h9 => h9) rfl dX6_wall_160 ?_
        refine lv_imul hx hb dX6_wall_163 ?_
        refine lv_iconst (v := (2 : Int32)) hx hb dX6_wall_164 (by decide) ?_
        refine lv_iadd hx hb dX6_wall_165 ?_
        refine lv_iload_n hx hb dX6_wall_166 rfl (lv_at hl 4 rfl) ?_
        obtain ⟨i26, h⟩ := ck_some h
        refine va_iast hx hb hK hP hD hS 1 0 rfl rfl i26 dX6_wall_167 (fun H locs hP hD hS => ?_)
        have hP : va_P D vwCl (WM_ q cI cJ cZ wwd wmn wod wsm wnm (upd (upd (upd wwl ((4 : Int32) * wmn).toNatClampNeg p1) (((4 : Int32) * wmn) + (1 : Int32)).toNatClampNeg p2) (((4 : Int32) * wmn) + (2 : Int32)).toNatClampNeg p3) wif wev wne wsu wnx wta) H := hP
        have hD : va_D A (WM_ q cI cJ cZ wwd wmn wod wsm wnm (upd (upd (upd wwl ((4 : Int32) * wmn).toNatClampNeg p1) (((4 : Int32) * wmn) + (1 : Int32)).toNatClampNeg p2) (((4 : Int32) * wmn) + (2 : Int32)).toNatClampNeg p3) wif wev wne wsu wnx wta) := hD
        refine lv_aload_n hx hb dX6_wall_168 rfl (lv_at hl 1 rfl) ?_
        refine va_get (D := D) (ci := 6) (v := .ref (q 1)) (C := RX6) (T := TX6) (N := 12) hx hb hts wiX6_wall_X6 hown hK hP 0 rfl rfl 2 (by decide) (hts _ wmX6_wall_2) (fun _ h9 => h9) rfl dX6_wall_169 ?_
        refine lv_iconst (v := (4 : Int32)) hx hb dX6_wall_172 (by decide) ?_
        refine lv_aload_n hx hb dX6_wall_173 rfl (lv_at hl 1 rfl) ?_
        refine va_get (D := D) (ci := 6) (v := .int wmn) (C := RX6) (T := TX6) (N := 12) hx hb hts wiX6_wall_X6 hown hK hP 0 rfl rfl 1 (by decide) (hts _ wmX6_wall_1) (fun _ h9 => h9) rfl dX6_wall_174 ?_
        refine lv_imul hx hb dX6_wall_177 ?_
        refine lv_iconst (v := (3 : Int32)) hx hb dX6_wall_178 (by decide) ?_
        refine lv_iadd hx hb dX6_wall_179 ?_
        refine lv_iload hx hb dX6_wall_180 (lv_at hl 5 rfl) ?_
        obtain ⟨i27, h⟩ := ck_some h
        refine va_iast hx hb hK hP hD hS 1 0 rfl rfl i27 dX6_wall_182 (fun H locs hP hD hS => ?_)
        have hP : va_P D vwCl (WM_ q cI cJ cZ wwd wmn wod wsm wnm (upd (upd (upd (upd wwl ((4 : Int32) * wmn).toNatClampNeg p1) (((4 : Int32) * wmn) + (1 : Int32)).toNatClampNeg p2) (((4 : Int32) * wmn) + (2 : Int32)).toNatClampNeg p3) (((4 : Int32) * wmn) + (3 : Int32)).toNatClampNeg p4) wif wev wne wsu wnx wta) H := hP
        have hD : va_D A (WM_ q cI cJ cZ wwd wmn wod wsm wnm (upd (upd (upd (upd wwl ((4 : Int32) * wmn).toNatClampNeg p1) (((4 : Int32) * wmn) + (1 : Int32)).toNatClampNeg p2) (((4 : Int32) * wmn) + (2 : Int32)).toNatClampNeg p3) (((4 : Int32) * wmn) + (3 : Int32)).toNatClampNeg p4) wif wev wne wsu wnx wta) := hD
        refine lv_aload_n hx hb dX6_wall_183 rfl (lv_at hl 1 rfl) ?_
        refine lv_dup hx hb dX6_wall_184 rfl ?_
        refine va_get (D := D) (ci := 6) (v := .int wmn) (C := RX6) (T := TX6) (N := 12) hx hb hts wiX6_wall_X6 hown hK hP 0 rfl rfl 1 (by decide) (hts _ wmX6_wall_1) (fun _ h9 => h9) rfl dX6_wall_185 ?_
        refine lv_iconst (v := (1 : Int32)) hx hb dX6_wall_188 (by decide) ?_
        refine lv_iadd hx hb dX6_wall_189 ?_
        refine va_put (D := D) (ci := 6) (v := .int (wmn + (1 : Int32))) (ty := .int) (C := RX6) (T := TX6) (N := 12) hx hb hts wiX6_wall_X6 tyX6 tyX6_ok nmX6 hown hK hP hD hS 0 rfl rfl 1 (by decide) (hts _ wmX6_wall_1) (fun _ h9 => h9) rfl (by decide +kernel) rfl rfl (Nat.le_of_ble_eq_true rfl) dX6_wall_190 (fun H locs hP hD hS => ?_)
        have hP : va_P D vwCl (WM_ q cI cJ cZ wwd (wmn + (1 : Int32)) wod wsm wnm (upd (upd (upd (upd wwl ((4 : Int32) * wmn).toNatClampNeg p1) (((4 : Int32) * wmn) + (1 : Int32)).toNatClampNeg p2) (((4 : Int32) * wmn) + (2 : Int32)).toNatClampNeg p3) (((4 : Int32) * wmn) + (3 : Int32)).toNatClampNeg p4) wif wev wne wsu wnx wta) H := hP
        have hD : va_D A (WM_ q cI cJ cZ wwd (wmn + (1 : Int32)) wod wsm wnm (upd (upd (upd (upd wwl ((4 : Int32) * wmn).toNatClampNeg p1) (((4 : Int32) * wmn) + (1 : Int32)).toNatClampNeg p2) (((4 : Int32) * wmn) + (2 : Int32)).toNatClampNeg p3) (((4 : Int32) * wmn) + (3 : Int32)).toNatClampNeg p4) wif wev wne wsu wnx wta) := hD
        refine lv_aload_n hx hb dX6_wall_193 rfl (lv_at hl 1 rfl) ?_
        refine lv_iconst (v := (1 : Int32)) hx hb dX6_wall_194 (by decide) ?_
        refine va_put (D := D) (ci := 6) (v := .int (1 : Int32)) (ty := .boolean) (C := RX6) (T := TX6) (N := 12) hx hb hts wiX6_wall_X6 tyX6 tyX6_ok nmX6 hown hK hP hD hS 0 rfl rfl 4 (by decide) (hts _ wmX6_wall_3) (fun _ h9 => h9) rfl (by decide +kernel) rfl rfl (Nat.le_of_ble_eq_true rfl) dX6_wall_195 (fun H locs hP hD hS => ?_)
        have hP : va_P D vwCl (WM_ q cI cJ cZ wwd (wmn + (1 : Int32)) (1 : Int32) wsm wnm (upd (upd (upd (upd wwl ((4 : Int32) * wmn).toNatClampNeg p1) (((4 : Int32) * wmn) + (1 : Int32)).toNatClampNeg p2) (((4 : Int32) * wmn) + (2 : Int32)).toNatClampNeg p3) (((4 : Int32) * wmn) + (3 : Int32)).toNatClampNeg p4) wif wev wne wsu wnx wta) H := hP
        have hD : va_D A (WM_ q cI cJ cZ wwd (wmn + (1 : Int32)) (1 : Int32) wsm wnm (upd (upd (upd (upd wwl ((4 : Int32) * wmn).toNatClampNeg p1) (((4 : Int32) * wmn) + (1 : Int32)).toNatClampNeg p2) (((4 : Int32) * wmn) + (2 : Int32)).toNatClampNeg p3) (((4 : Int32) * wmn) + (3 : Int32)).toNatClampNeg p4) wif wev wne wsu wnx wta) := hD
        refine lv_aload_n hx hb dX6_wall_198 rfl (lv_at hl 1 rfl) ?_
        refine va_get (D := D) (ci := 6) (v := .int (wmn + (1 : Int32))) (C := RX6) (T := TX6) (N := 12) hx hb hts wiX6_wall_X6 hown hK hP 0 rfl rfl 1 (by decide) (hts _ wmX6_wall_1) (fun _ h9 => h9) rfl dX6_wall_199 ?_
        refine lv_iconst (v := (1 : Int32)) hx hb dX6_wall_202 (by decide) ?_
        refine lv_isub hx hb dX6_wall_203 ?_
        obtain rfl := Option.some.inj h
        exact W.iret (v := ((wmn + (1 : Int32)) - (1 : Int32))) hx hb hr (fun t ht hW => ⟨⟨((wmn + (1 : Int32)) - (1 : Int32)), (), rfl, rfl, by rw [ht]; exact hP, hD⟩, hS.F ht⟩) hS.2.2 dX6_wall_204
      · intro K20
        refine W.widen (k := (0 : Int32).toNatClampNeg) (n := 4 * (0 : Int32).toNatClampNeg) (by decide) (by decide) (W_lpA (fun st => st.toNatClampNeg) (fun st => 4 * st.toNatClampNeg) (body := (fun (st : Int32) => fX6_wall_L97 wmn wwl p1 p2 p3 p4 wod st)) (P := fun (st : Int32) H locs ls => va_P D vwCl (WM_ q cI cJ cZ wwd wmn wod wsm wnm wwl wif wev wne wsu wnx wta) H ∧ va_D A (WM_ q cI cJ cZ wwd wmn wod wsm wnm wwl wif wev wne wsu wnx wta) ∧ va_S A s.heap H locs ∧ lv_has ls 6 [(5, .int st), (0, .ref (q 0)), (1, .int p1), (2, .int p2), (3, .int p3), (4, .int p4)]) (g := fun _ ls => F0 m 97 ls []) (r := u18) ?_ fu_ (0 : Int32) _ _ _ e19 ⟨hP, hD, hS, lv_sub hl [0, 1, 2, 3, 4, 5] rfl⟩)
        intro v17 xx30 H locs ls h hq ih29 hR28
        obtain ⟨hP, hD, hS, hl⟩ := hq
        have hP : va_P D vwCl (WM_ q cI cJ cZ wwd wmn wod wsm wnm wwl wif wev wne wsu wnx wta) H := hP
        have hD : va_D A (WM_ q cI cJ cZ wwd wmn wod wsm wnm wwl wif wev wne wsu wnx wta) := hD
        have hl : lv_has ls 6 [(5, .int v17), (0, .ref (q 0)), (1, .int p1), (2, .int p2), (3, .int p3), (4, .int p4)] := hl
        have h : fX6_wall_L97 wmn wwl p1 p2 p3 p4 wod v17 = some xx30 := h
        unfold fX6_wall_L97 at h
        obtain ⟨i91, h⟩ := ck_some h
        have l91 : v17.toNatClampNeg < 9 := Nat.lt_of_not_le fun q => i91 (Or.inr q)
        refine lv_iload hx hb dX6_wall_97 (lv_at hl 0 rfl) ?_
        refine lv_aload_n hx hb dX6_wall_99 rfl (lv_at hl 1 rfl) ?_
        refine va_get (D := D) (ci := 6) (v := .int wmn) (C := RX6) (T := TX6) (N := 12) hx hb hts wiX6_wall_X6 hown hK hP 0 rfl rfl 1 (by decide) (hts _ wmX6_wall_1) (fun _ h9 => h9) rfl dX6_wall_100 ?_
        refine lv_icmp_ge (tgt := 128) hx hb dX6_wall_103 (by decide) (fun c31 => ?_) (fun c31 => ?_)
        · have h := (if_pos c31).symm.trans h
          exact W.widen (k := 8) (n := 32) (by omega) (by omega) (K20 _ _ _ _ ⟨(hR28 _ (Option.some.inj h).symm).symm, hP, hD, hS, lv_sub hl [0, 1, 2, 3, 4, 5] rfl⟩)
        · have h := (if_neg c31).symm.trans h
          refine lv_aload_n hx hb dX6_wall_106 rfl (lv_at hl 1 rfl) ?_
          refine lv_iload hx hb dX6_wall_107 (lv_at hl 0 rfl) ?_
          refine lv_iload_n hx hb dX6_wall_109 rfl (lv_at hl 2 rfl) ?_
          refine lv_iload_n hx hb dX6_wall_110 rfl (lv_at hl 3 rfl) ?_
          refine lv_iload_n hx hb dX6_wall_111 rfl (lv_at hl 4 rfl) ?_
          refine lv_iload hx hb dX6_wall_112 (lv_at hl 5 rfl) ?_
          obtain ⟨i92, h⟩ := ck_some h
          have l92 : v17.toNatClampNeg < 8 := Nat.lt_of_not_le fun q => i92 (Or.inr q)
          have l93 := tn_succ i92 (by decide)
          obtain ⟨u32, e33, h⟩ := bd_some h
          refine k_iA (mc := 1) (ms := 4) (va_runV (As := [.int v17, .int p1, .int p2, .int p3, .int p4]) (rest := []) ⟨hx, hb, hml, hown, hts⟩ (kX6_isSame l D q cI cJ cZ tP H.size wwd wmn wod wsm wnm wwl wif wev wne wsu wnx wta v17 p1 p2 p3 p4 u32 e33) (cwV 5 hts gX6_wall_X6_isSame rfl rfl rfl (by decide +kernel) ⟨Nat.le_of_ble_eq_true rfl, Nat.le_of_ble_eq_true rfl⟩) ⟨cPre_blind, va_recv hK hP (ci := 6) (q0 := 0) rfl rfl, cPre_at hP hK hN hD hS hA hZ⟩ rfl rfl hl.1 rfl (lv_room (Nat.le_of_ble_eq_true rfl)) dX6_wall_114 ⟨(show v17.toNatClampNeg + 1 ≤ 8 by omega), (show 4 * v17.toNatClampNeg + 4 ≤ 32 by omega)⟩) hD hS hA (fun H locs hP hD hS => ?_)
          refine lv_if_eq (tgt := 122) hx hb dX6_wall_117 (by decide) (fun c34 => ?_) (fun c34 => ?_)
          · have h := (if_pos c34).symm.trans h
            refine lv_iinc (v := (v17 + (1 : Int32))) (lv' := [(5, .int (v17 + (1 : Int32))), (0, .ref (q 0)), (1, .int p1), (2, .int p2), (3, .int p3), (4, .int p4)]) hx hb dX6_wall_122 hl (k := 0) rfl rfl (by decide) rfl (fun ls hl => ?_)
            refine lv_goto (tgt := 97) hx hb dX6_wall_125 (by decide) ?_
            exact W.widen (k := (v17 + 1).toNatClampNeg) (n := 4 * (v17 + 1).toNatClampNeg) (by omega) (by omega) (ih29 _ _ _ _ (Option.some.inj h).symm ⟨hP, hD, hS, lv_sub hl [0, 1, 2, 3, 4, 5] rfl⟩)
          · have h := (if_neg c34).symm.trans h
            refine lv_iconst (v := (-1 : Int32)) hx hb dX6_wall_120 (by decide) ?_
            have hu := KR21 _ (hR28 _ (Option.some.inj h).symm)
            subst hu
            exact W.widen (k := 8) (n := 32) (by omega) (by omega) (W.iret (v := (-1 : Int32)) hx hb hr (fun t ht hW => ⟨⟨(-1 : Int32), (), rfl, rfl, by rw [ht]; exact hP, hD⟩, hS.F ht⟩) hS.2.2 dX6_wall_121)
    · have h := (if_pos c16).symm.trans h
      refine lv_iconst (v := (-1 : Int32)) hx hb dX6_wall_92 (by decide) ?_
      obtain rfl := Option.some.inj h
      exact W.widen (k := 8) (n := 32) (by omega) (by omega) (W.iret (v := (-1 : Int32)) hx hb hr (fun t ht hW => ⟨⟨(-1 : Int32), (), rfl, rfl, by rw [ht]; exact hP, hD⟩, hS.F ht⟩) hS.2.2 dX6_wall_93)
  intro K83
  refine W_join (P := fun H locs ls => fX6_wall_S wwd wmn wod wwl p1 p2 p3 p4 = some uu ∧ va_P D vwCl (WM_ q cI cJ cZ wwd wmn wod wsm wnm wwl wif wev wne wsu wnx wta) H ∧ va_D A (WM_ q cI cJ cZ wwd wmn wod wsm wnm wwl wif wev wne wsu wnx wta) ∧ va_S A s.heap H locs ∧ lv_has ls 6 [(0, .ref (q 0)), (1, .int p1), (2, .int p2), (3, .int p3), (4, .int p4)]) (g := fun ls => F0 m 71 ls []) ?_ ?_
  · intro H locs ls hq
    obtain ⟨h, hP, hD, hS, hl⟩ := hq
    unfold fX6_wall_S at h
    refine lv_aload_n hx hb dX6_wall_71 rfl (lv_at hl 0 rfl) ?_
    refine va_get (D := D) (ci := 6) (v := .int wwd) (C := RX6) (T := TX6) (N := 12) hx hb hts wiX6_wall_X6 hown hK hP 0 rfl rfl 0 (by decide) (hts _ wmX6_wall_0) (fun _ h9 => h9) rfl dX6_wall_72 ?_
    refine lv_iconst (v := (2 : Int32)) hx hb dX6_wall_75 (by decide) ?_
    refine lv_icmp_ge (tgt := 83) hx hb dX6_wall_76 (by decide) (fun c15 => ?_) (fun c15 => ?_)
    · have h := (if_pos c15).symm.trans h
      exact K83 _ _ _ ⟨h, hP, hD, hS, hl⟩
    · have h := (if_neg c15).symm.trans h
      refine lv_iload_n hx hb dX6_wall_79 rfl (lv_at hl 2 rfl) ?_
      refine lv_if_ne (tgt := 92) hx hb dX6_wall_80 (by decide) (fun c35 => ?_) (fun c35 => ?_)
      · have h := (if_neg c35).symm.trans h
        refine lv_iconst (v := (-1 : Int32)) hx hb dX6_wall_92 (by decide) ?_
        obtain rfl := Option.some.inj h
        exact W.widen (k := 8) (n := 32) (by omega) (by omega) (W.iret (v := (-1 : Int32)) hx hb hr (fun t ht hW => ⟨⟨(-1 : Int32), (), rfl, rfl, by rw [ht]; exact hP, hD⟩, hS.F ht⟩) hS.2.2 dX6_wall_93)
      · have h := (if_pos c35).symm.trans h
        exact K83 _ _ _ ⟨h, hP, hD, hS, hl⟩
  intro K71
  refine W_join (P := fun H locs ls => fX6_wall_R wwd wmn wod wwl p1 p2 p3 p4 = some uu ∧ va_P D vwCl (WM_ q cI cJ cZ wwd wmn wod wsm wnm wwl wif wev wne wsu wnx wta) H ∧ va_D A (WM_ q cI cJ cZ wwd wmn wod wsm wnm wwl wif wev wne wsu wnx wta) ∧ va_S A s.heap H locs ∧ lv_has ls 6 [(0, .ref (q 0)), (1, .int p1), (2, .int p2), (3, .int p3), (4, .int p4)]) (g := fun ls => F0 m 59 ls []) ?_ ?_
  · intro H locs ls hq
    obtain ⟨h, hP, hD, hS, hl⟩ := hq
    unfold fX6_wall_R at h
    refine lv_aload_n hx hb dX6_wall_59 rfl (lv_at hl 0 rfl) ?_
    refine va_get (D := D) (ci := 6) (v := .int wwd) (C := RX6) (T := TX6) (N := 12) hx hb hts wiX6_wall_X6 hown hK hP 0 rfl rfl 0 (by decide) (hts _ wmX6_wall_0) (fun _ h9 => h9) rfl dX6_wall_60 ?_
    refine lv_iconst (v := (3 : Int32)) hx hb dX6_wall_63 (by decide) ?_
    refine lv_icmp_ge (tgt := 71) hx hb dX6_wall_64 (by decide) (fun c14 => ?_) (fun c14 => ?_)
    · have h := (if_pos c14).symm.trans h
      exact K71 _ _ _ ⟨h, hP, hD, hS, hl⟩
    · have h := (if_neg c14).symm.trans h
      refine lv_iload_n hx hb dX6_wall_67 rfl (lv_at hl 3 rfl) ?_
      refine lv_if_ne (tgt := 92) hx hb dX6_wall_68 (by decide) (fun c55 => ?_) (fun c55 => ?_)
      · have h := (if_neg c55).symm.trans h
        refine lv_iconst (v := (-1 : Int32)) hx hb dX6_wall_92 (by decide) ?_
        obtain rfl := Option.some.inj h
        exact W.widen (k := 8) (n := 32) (by omega) (by omega) (W.iret (v := (-1 : Int32)) hx hb hr (fun t ht hW => ⟨⟨(-1 : Int32), (), rfl, rfl, by rw [ht]; exact hP, hD⟩, hS.F ht⟩) hS.2.2 dX6_wall_93)
      · have h := (if_pos c55).symm.trans h
        exact K71 _ _ _ ⟨h, hP, hD, hS, hl⟩
  intro K59
  unfold fX6_wall at h
  refine lv_iload_n hx hb dX6_wall_0 rfl (lv_at hl 1 rfl) ?_
  refine lv_bipush (v := (-9 : Int32)) hx hb dX6_wall_1 (by decide) ?_
  refine lv_bipush (v := (9 : Int32)) hx hb dX6_wall_3 (by decide) ?_
  obtain ⟨u1, e2, h⟩ := bd_some h
  refine k_i0 (va_runS (As := [.int p1, .int (-9 : Int32), .int (9 : Int32)]) (rest := []) ⟨hx, hb, hml, hown, hts⟩ (kX6_in l D cI cJ cZ tP s.heap.size  p1 (-9 : Int32) (9 : Int32) u1 e2) (va_cwS 3 hts gX6_wall_X6_in rfl rfl rfl (by decide +kernel) ⟨Nat.le_of_ble_eq_true rfl, Nat.le_of_ble_eq_true rfl⟩) ⟨cPre_blind, cPre_at0 hK hN hS hA hZ⟩ rfl rfl hl.1 rfl (lv_room (Nat.le_of_ble_eq_true rfl)) dX6_wall_5 ⟨Nat.le_of_ble_eq_true rfl, Nat.le_of_ble_eq_true rfl⟩) hP hS hA (fun H locs hP hS => ?_)
  refine lv_if_eq (tgt := 57) hx hb dX6_wall_8 (by decide) (fun c3 => ?_) (fun c3 => ?_)
  · have h := (if_pos c3).symm.trans h
    refine lv_iconst (v := (-1 : Int32)) hx hb dX6_wall_57 (by decide) ?_
    obtain rfl := Option.some.inj h
    exact W.widen (k := 8) (n := 32) (by omega) (by omega) (W.iret (v := (-1 : Int32)) hx hb hr (fun t ht hW => ⟨⟨(-1 : Int32), (), rfl, rfl, by rw [ht]; exact hP, hD⟩, hS.F ht⟩) hS.2.2 dX6_wall_58)
  · have h := (if_neg c3).symm.trans h
    refine lv_iload_n hx hb dX6_wall_11 rfl (lv_at hl 2 rfl) ?_
    refine lv_bipush (v := (-9 : Int32)) hx hb dX6_wall_12 (by decide) ?_
    refine lv_bipush (v := (9 : Int32)) hx hb dX6_wall_14 (by decide) ?_
    obtain ⟨u4, e5, h⟩ := bd_some h
    refine k_i0 (va_runS (As := [.int p2, .int (-9 : Int32), .int (9 : Int32)]) (rest := []) ⟨hx, hb, hml, hown, hts⟩ (kX6_in l D cI cJ cZ tP H.size  p2 (-9 : Int32) (9 : Int32) u4 e5) (va_cwS 3 hts gX6_wall_X6_in rfl rfl rfl (by decide +kernel) ⟨Nat.le_of_ble_eq_true rfl, Nat.le_of_ble_eq_true rfl⟩) ⟨cPre_blind, cPre_at0 hK hN hS hA hZ⟩ rfl rfl hl.1 rfl (lv_room (Nat.le_of_ble_eq_true rfl)) dX6_wall_16 ⟨Nat.le_of_ble_eq_true rfl, Nat.le_of_ble_eq_true rfl⟩) hP hS hA (fun H locs hP hS => ?_)
    refine lv_if_eq (tgt := 57) hx hb dX6_wall_19 (by decide) (fun c6 => ?_) (fun c6 => ?_)
    · have h := (if_pos c6).symm.trans h
      refine lv_iconst (v := (-1 : Int32)) hx hb dX6_wall_57 (by decide) ?_
      obtain rfl := Option.some.inj h
      exact W.widen (k := 8) (n := 32) (by omega) (by omega) (W.iret (v := (-1 : Int32)) hx hb hr (fun t ht hW => ⟨⟨(-1 : Int32), (), rfl, rfl, by rw [ht]; exact hP, hD⟩, hS.F ht⟩) hS.2.2 dX6_wall_58)
    · have h := (if_neg c6).symm.trans h
      refine lv_iload_n hx hb dX6_wall_22 rfl (lv_at hl 3 rfl) ?_
      refine lv_bipush (v := (-9 : Int32)) hx hb dX6_wall_23 (by decide) ?_
      refine lv_bipush (v := (9 : Int32)) hx hb dX6_wall_25 (by decide) ?_
      obtain ⟨u7, e8, h⟩ := bd_some h
      refine k_i0 (va_runS (As := [.int p3, .int (-9 : Int32), .int (9 : Int32)]) (rest := []) ⟨hx, hb, hml, hown, hts⟩ (kX6_in l D cI cJ cZ tP H.size  p3 (-9 : Int32) (9 : Int32) u7 e8) (va_cwS 3 hts gX6_wall_X6_in rfl rfl rfl (by decide +kernel) ⟨Nat.le_of_ble_eq_true rfl, Nat.le_of_ble_eq_true rfl⟩) ⟨cPre_blind, cPre_at0 hK hN hS hA hZ⟩ rfl rfl hl.1 rfl (lv_room (Nat.le_of_ble_eq_true rfl)) dX6_wall_27 ⟨Nat.le_of_ble_eq_true rfl, Nat.le_of_ble_eq_true rfl⟩) hP hS hA (fun H locs hP hS => ?_)
      refine lv_if_eq (tgt := 57) hx hb dX6_wall_30 (by decide) (fun c9 => ?_) (fun c9 => ?_)
      · have h := (if_pos c9).symm.trans h
        refine lv_iconst (v := (-1 : Int32)) hx hb dX6_wall_57 (by decide) ?_
        obtain rfl := Option.some.inj h
        exact W.widen (k := 8) (n := 32) (by omega) (by omega) (W.iret (v := (-1 : Int32)) hx hb hr (fun t ht hW => ⟨⟨(-1 : Int32), (), rfl, rfl, by rw [ht]; exact hP, hD⟩, hS.F ht⟩) hS.2.2 dX6_wall_58)
      · have h := (if_neg c9).symm.trans h
        refine lv_iload hx hb dX6_wall_33 (lv_at hl 4 rfl) ?_
        refine lv_bipush (v := (-99 : Int32)) hx hb dX6_wall_35 (by decide) ?_
        refine lv_bipush (v := (99 : Int32)) hx hb dX6_wall_37 (by decide) ?_
        obtain ⟨u10, e11, h⟩ := bd_some h
        refine k_i0 (va_runS (As := [.int p4, .int (-99 : Int32), .int (99 : Int32)]) (rest := []) ⟨hx, hb, hml, hown, hts⟩ (kX6_in l D cI cJ cZ tP H.size  p4 (-99 : Int32) (99 : Int32) u10 e11) (va_cwS 3 hts gX6_wall_X6_in rfl rfl rfl (by decide +kernel) ⟨Nat.le_of_ble_eq_true rfl, Nat.le_of_ble_eq_true rfl⟩) ⟨cPre_blind, cPre_at0 hK hN hS hA hZ⟩ rfl rfl hl.1 rfl (lv_room (Nat.le_of_ble_eq_true rfl)) dX6_wall_39 ⟨Nat.le_of_ble_eq_true rfl, Nat.le_of_ble_eq_true rfl⟩) hP hS hA (fun H locs hP hS => ?_)
        refine lv_if_eq (tgt := 57) hx hb dX6_wall_42 (by decide) (fun c12 => ?_) (fun c12 => ?_)
        · have h := (if_pos c12).symm.trans h
          refine lv_iconst (v := (-1 : Int32)) hx hb dX6_wall_57 (by decide) ?_
          obtain rfl := Option.some.inj h
          exact W.widen (k := 8) (n := 32) (by omega) (by omega) (W.iret (v := (-1 : Int32)) hx hb hr (fun t ht hW => ⟨⟨(-1 : Int32), (), rfl, rfl, by rw [ht]; exact hP, hD⟩, hS.F ht⟩) hS.2.2 dX6_wall_58)
        · have h := (if_neg c12).symm.trans h
          refine lv_iload_n hx hb dX6_wall_45 rfl (lv_at hl 1 rfl) ?_
          refine lv_if_ne (tgt := 59) hx hb dX6_wall_46 (by decide) (fun c13 => ?_) (fun c13 => ?_)
          · have h := (if_neg c13).symm.trans h
            exact K59 _ _ _ ⟨h, hP, hD, hS, hl⟩
          · have h := (if_pos c13).symm.trans h
            refine lv_iload_n hx hb dX6_wall_49 rfl (lv_at hl 2 rfl) ?_
            refine lv_if_ne (tgt := 59) hx hb dX6_wall_50 (by decide) (fun c96 => ?_) (fun c96 => ?_)
            · have h := (if_neg c96).symm.trans h
              exact K59 _ _ _ ⟨h, hP, hD, hS, hl⟩
            · have h := (if_pos c96).symm.trans h
              refine lv_iload_n hx hb dX6_wall_53 rfl (lv_at hl 3 rfl) ?_
              refine lv_if_ne (tgt := 59) hx hb dX6_wall_54 (by decide) (fun c179 => ?_) (fun c179 => ?_)
              · have h := (if_neg c179).symm.trans h
                exact K59 _ _ _ ⟨h, hP, hD, hS, hl⟩
              · have h := (if_pos c179).symm.trans h
                refine lv_iconst (v := (-1 : Int32)) hx hb dX6_wall_57 (by decide) ?_
                obtain rfl := Option.some.inj h
                exact W.widen (k := 8) (n := 32) (by omega) (by omega) (W.iret (v := (-1 : Int32)) hx hb hr (fun t ht hW => ⟨⟨(-1 : Int32), (), rfl, rfl, by rw [ht]; exact hP, hD⟩, hS.F ht⟩) hS.2.2 dX6_wall_58)
