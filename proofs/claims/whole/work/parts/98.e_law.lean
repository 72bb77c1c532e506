/-! the law: one side beside the other -/
abbrev WL_ (q : Nat → Nat) (cI cZ : ClassId) (n d : Nat) (va vb vc ve vth vtu : NI_) (u : CT_) : va_W := WC_ q cI cZ (nI d) (nI n) u.1 u.2.1 u.2.2.1 va vb vc ve vth u.2.2.2.1 u.2.2.2.2.1 u.2.2.2.2.2.1 u.2.2.2.2.2.2.1 u.2.2.2.2.2.2.2.1 u.2.2.2.2.2.2.2.2.1 u.2.2.2.2.2.2.2.2.2.1 u.2.2.2.2.2.2.2.2.2.2.1 u.2.2.2.2.2.2.2.2.2.2.2.1 u.2.2.2.2.2.2.2.2.2.2.2.2.1 u.2.2.2.2.2.2.2.2.2.2.2.2.2.1 vtu u.2.2.2.2.2.2.2.2.2.2.2.2.2.2.1 u.2.2.2.2.2.2.2.2.2.2.2.2.2.2.2.1 u.2.2.2.2.2.2.2.2.2.2.2.2.2.2.2.2.1 u.2.2.2.2.2.2.2.2.2.2.2.2.2.2.2.2.2.1 u.2.2.2.2.2.2.2.2.2.2.2.2.2.2.2.2.2.2.1 u.2.2.2.2.2.2.2.2.2.2.2.2.2.2.2.2.2.2.2.1 u.2.2.2.2.2.2.2.2.2.2.2.2.2.2.2.2.2.2.2.2.1 u.2.2.2.2.2.2.2.2.2.2.2.2.2.2.2.2.2.2.2.2.2.1 u.2.2.2.2.2.2.2.2.2.2.2.2.2.2.2.2.2.2.2.2.2.2.1 u.2.2.2.2.2.2.2.2.2.2.2.2.2.2.2.2.2.2.2.2.2.2.2.1 u.2.2.2.2.2.2.2.2.2.2.2.2.2.2.2.2.2.2.2.2.2.2.2.2.1 u.2.2.2.2.2.2.2.2.2.2.2.2.2.2.2.2.2.2.2.2.2.2.2.2.2
abbrev WN_ (q : Nat → Nat) (cI cJ cZ : ClassId) (n d : Nat) (wl : NI_) (r : MT_) : va_W := WM_ q cI cJ cZ (nI d) (nI n) r.1 r.2.1 r.2.2.1 wl r.2.2.2.1 r.2.2.2.2.1 r.2.2.2.2.2.1 r.2.2.2.2.2.2.1 r.2.2.2.2.2.2.2.1 r.2.2.2.2.2.2.2.2
section KY
variable {p : Program} {l : Launch} {e : Env} {R : Room} {s : State} {m : MethodId} {args : Array Value} {below : List Frame} {meth : Method} {c : Code} {H : Heap} {locs : List Loc} {cells slots : Nat} {Q : State → Prop} {pc : Nat} {ls : Array Slot} {st0 rest : List Value} {a : Array Value} {D : va_G} {A : Nat → Prop} {H0 : Heap} {w w' x ws : va_W}
theorem va_P_sw (h : va_P D vwCl (w ++ x) H) : va_P D vwCl (x ++ w) H := (va_P_r h).app (va_P_l h)
theorem va_D_sw (h : va_D A (w ++ x)) : va_D A (x ++ w) := va_D.app (va_D_r h) (va_D_l h) (fun i j p q h1 h2 h3 => by
  have h4 := h.1 j (w.length + i) q p (app_l h2) (app_r h1) h3.symm
  have h5 : j < w.length := (List.getElem?_eq_some_iff.mp h2).1
  omega)
theorem k_iY {mc ms : Nat} {r0 : Int32} (hr : va_Run p l e R s m args below meth c H locs cells slots mc ms (F0 m pc ls st0) rest (cQi D (va_A w H.size) w' r0 a) (va_A w H.size)) (hP : va_P D vwCl (x ++ w) H) (hD : va_D A (x ++ w)) (hS : va_S A H0 H locs) (hA : ∀ q, H0.size ≤ q → A q)
    (kk : ∀ (H1 : Heap) (locs1 : List Loc), va_P D vwCl (x ++ w') H1 → va_D A (x ++ w') → va_S A H0 H1 locs1 → W p l e R s m args below meth c H1 locs1 (cells + mc) (slots + ms) Q (F0 m (pc + 3) ls (.int r0 :: rest))) : W p l e R s m args below meth c H locs cells slots Q (F0 m pc ls st0) :=
  k_iX hr (va_P_sw hP) (va_D_sw hD) hS hA (fun H1 locs1 a b c => kk H1 locs1 (va_P_sw a) (va_D_sw b) c)
end KY
theorem sw_out19 {x : Int32} (c0 : ¬ x = (0 : Int32)) (c1 : ¬ x = (1 : Int32)) (c2 : ¬ x = (2 : Int32)) (c3 : ¬ x = (3 : Int32)) (c4 : ¬ x = (4 : Int32)) (c5 : ¬ x = (5 : Int32)) (c6 : ¬ x = (6 : Int32)) (c7 : ¬ x = (7 : Int32)) (c8 : ¬ x = (8 : Int32)) (c9 : ¬ x = (9 : Int32)) (c10 : ¬ x = (10 : Int32)) (c11 : ¬ x = (11 : Int32)) (c12 : ¬ x = (12 : Int32)) (c13 : ¬ x = (13 : Int32)) (c14 : ¬ x = (14 : Int32)) (c15 : ¬ x = (15 : Int32)) (c16 : ¬ x = (16 : Int32)) (c17 : ¬ x = (17 : Int32)) (c18 : ¬ x = (18 : Int32)) : x.toInt < 0 ∨ 18 < x.toInt := by
  rcases Int.lt_or_le x.toInt 0 with h | h
  · exact Or.inl h
  rcases Int.lt_or_le 18 x.toInt with h2 | h2
  · exact Or.inr h2
  exfalso
  have hk : x.toInt = 0 ∨ x.toInt = 1 ∨ x.toInt = 2 ∨ x.toInt = 3 ∨ x.toInt = 4 ∨ x.toInt = 5 ∨ x.toInt = 6 ∨ x.toInt = 7 ∨ x.toInt = 8 ∨ x.toInt = 9 ∨ x.toInt = 10 ∨ x.toInt = 11 ∨ x.toInt = 12 ∨ x.toInt = 13 ∨ x.toInt = 14 ∨ x.toInt = 15 ∨ x.toInt = 16 ∨ x.toInt = 17 ∨ x.toInt = 18 := by omega
  rcases hk with hk | hk | hk | hk | hk | hk | hk | hk | hk | hk | hk | hk | hk | hk | hk | hk | hk | hk | hk
  · exact c0 (Int32.toInt_inj.mp (by rw [hk]; rfl))
  · exact c1 (Int32.toInt_inj.mp (by rw [hk]; rfl))
  · exact c2 (Int32.toInt_inj.mp (by rw [hk]; rfl))
  · exact c3 (Int32.toInt_inj.mp (by rw [hk]; rfl))
  · exact c4 (Int32.toInt_inj.mp (by rw [hk]; rfl))
  · exact c5 (Int32.toInt_inj.mp (by rw [hk]; rfl))
  · exact c6 (Int32.toInt_inj.mp (by rw [hk]; rfl))
  · exact c7 (Int32.toInt_inj.mp (by rw [hk]; rfl))
  · exact c8 (Int32.toInt_inj.mp (by rw [hk]; rfl))
  · exact c9 (Int32.toInt_inj.mp (by rw [hk]; rfl))
  · exact c10 (Int32.toInt_inj.mp (by rw [hk]; rfl))
  · exact c11 (Int32.toInt_inj.mp (by rw [hk]; rfl))
  · exact c12 (Int32.toInt_inj.mp (by rw [hk]; rfl))
  · exact c13 (Int32.toInt_inj.mp (by rw [hk]; rfl))
  · exact c14 (Int32.toInt_inj.mp (by rw [hk]; rfl))
  · exact c15 (Int32.toInt_inj.mp (by rw [hk]; rfl))
  · exact c16 (Int32.toInt_inj.mp (by rw [hk]; rfl))
  · exact c17 (Int32.toInt_inj.mp (by rw [hk]; rfl))
  · exact c18 (Int32.toInt_inj.mp (by rw [hk]; rfl))
set_option maxHeartbeats 8000000 in
set_option maxRecDepth 100000 in
theorem law_loop {p : Program} {e : Env} {s : State} {m : MethodId} {below : List Frame} {meth : Method} {c : Code} (l : Launch) {b L : Nat} {xs : Nat → Int32} (hL : L ≤ 2561) (hx : p.tables.exec = Jvm.exec) (hb : c.code = code) (hr : meth.sig.returnType = ret) (hml : c.maxLocals = 4) (hown : s.vm.findClass RL = some m.cls) (hts : ∀ w ∈ wsL_law, w.before #[Value.ref b] s = true) (hX : va_X b L xs s s.heap) (hbl : b < s.heap.size) (hlocks : meth.locks = false)
    {D : va_G} {cI cJ cZ : ClassId} {tP : Nat} (hK : va_K D vwCl (ty_ cI cJ cZ) s) (hN : NW_ s) (hZ : SP_ tP (fun q : Nat => s.heap.size ≤ q) s s.heap) (q q9 : Nat → Nat) (d : Nat) :
    ∀ (f j n : Nat) (va vb vc ve vth vtu wl : NI_) (u : CT_) (r : MT_) (H : Heap) (locs : List Loc) (ls : Array Slot), j ≤ 512 → 513 ≤ j + f → J_ n d va vb vc ve vth wl u r → va_P D vwCl (WL_ q cI cZ n d va vb vc ve vth vtu u ++ WN_ q9 cI cJ cZ n d wl r) H → va_D (fun q : Nat => s.heap.size ≤ q) (WL_ q cI cZ n d va vb vc ve vth vtu u ++ WN_ q9 cI cJ cZ n d wl r) → va_S (fun q : Nat => s.heap.size ≤ q) s.heap H locs → lv_has ls 4 [(3, .int (nI (1 + 5 * j))), (0, .ref b), (1, .ref (q 0)), (2, .ref (q9 0))] →
      W p l e room_1 s m #[Value.ref b] below meth c H locs (34 + 8 * j) (21318 + 32 * j) (lw_Z below #[Value.ref b] s) (F0 m 28 ls []) := by
  have hA : ∀ q : Nat, s.heap.size ≤ q → (fun q : Nat => s.heap.size ≤ q) q := fun _ h => h
  have hbA : ¬ (fun q : Nat => s.heap.size ≤ q) b := Nat.not_le.mpr hbl
  intro f
  induction f with
  | zero =>
    intro j n va vb vc ve vth vtu wl u r H locs ls h1 h2
    exact absurd h2 (by omega)
  | succ f ih =>
    intro j n va vb vc ve vth vtu wl u r H locs ls hj hf hJ hP hD hS hl
    refine lv_iload_n hx hb dL_law_28 rfl (lv_at hl 0 rfl) ?_
    refine lv_aload_n hx hb dL_law_29 rfl (lv_at hl 1 rfl) ?_
    refine va_slen hx hb hX hbl hbA hS dL_law_30 ?_
    refine lv_iconst (v := (5 : Int32)) hx hb dL_law_31 (by decide) ?_
    refine lv_isub hx hb dL_law_32 ?_
    have hcmp : (Int32.ofNat L - (5 : Int32) < nI (1 + 5 * j)) ↔ (L : Int) - 5 < 1 + 5 * j := by
      rw [show Int32.ofNat L = nI L from rfl, show (5 : Int32) = nI 5 from rfl, ← iI_nat, ← iI_nat, ← iI_nat, iI_sub, iI_lt ⟨by omega, by omega⟩ ⟨by omega, by omega⟩]
      omega
    refine lv_icmp_gt (tgt := 675) hx hb dL_law_33 (by decide) (fun c0 => ?_) (fun c0 => ?_)
    · refine lv_iconst (v := (1 : Int32)) hx hb dL_law_675 (by decide) ?_
      refine va_forget (fun q hq => hS.2.2 q hq) ?_
      refine W.widen (k := 639168) (n := 7184745) (by omega) (by omega) ?_
      exact lw_ret hx hb hr hlocks dL_law_676
    have hlt : 1 + 5 * j + 4 < L := by
      have h9 : ¬ (L : Int) - 5 < 1 + 5 * j := fun q => c0 (hcmp.mpr q)
      omega
    have hin : ∀ k : Nat, k < 5 → vp_in (nI (1 + 5 * j) + nI k) L := fun k hk => by rw [nI_add]; exact vp_in_nI (by omega) (by omega)
    have hin0 : vp_in (nI (1 + 5 * j)) L := vp_in_nI (by omega) (by omega)
    have K669 : ∀ (n : Nat) (va vb vc ve vth vtu wl : NI_) (u : CT_) (r : MT_) (H : Heap) (locs : List Loc) (ls : Array Slot) (k2 n2 : Nat), k2 ≤ 34 + 8 * j + 8 → n2 ≤ 21318 + 32 * j + 32 → J_ n d va vb vc ve vth wl u r → va_P D vwCl (WL_ q cI cZ n d va vb vc ve vth vtu u ++ WN_ q9 cI cJ cZ n d wl r) H → va_D (fun q : Nat => s.heap.size ≤ q) (WL_ q cI cZ n d va vb vc ve vth vtu u ++ WN_ q9 cI cJ cZ n d wl r) → va_S (fun q : Nat => s.heap.size ≤ q) s.heap H locs → lv_has ls 4 [(3, .int (nI (1 + 5 * j))), (0, .ref b), (1, .ref (q 0)), (2, .ref (q9 0))] → W p l e room_1 s m #[Value.ref b] below meth c H locs k2 n2 (lw_Z below #[Value.ref b] s) (F0 m 669 ls []) := by
      intro n va vb vc ve vth vtu wl u r H locs ls k2 n2 hk2 hn2 hJ hP hD hS hl
      refine lv_iinc (v := nI (1 + 5 * (j + 1))) (lv' := [(3, .int (nI (1 + 5 * (j + 1)))), (0, .ref b), (1, .ref (q 0)), (2, .ref (q9 0))]) hx hb dL_law_669 hl (k := 0) rfl (by rw [show Int32.ofInt 5 = nI 5 from rfl, nI_add]; rfl) (by decide) rfl (fun ls hl => ?_)
      refine lv_goto (tgt := 28) hx hb dL_law_672 (by decide) ?_
      exact W.widen (k := 34 + 8 * (j + 1)) (n := 21318 + 32 * (j + 1)) (by omega) (by omega) (ih (j + 1) n va vb vc ve vth vtu wl u r H locs ls (by omega) (by omega) hJ hP hD hS hl)
    refine lv_aload_n hx hb dL_law_36 rfl (lv_at hl 1 rfl) ?_
    refine lv_iload_n hx hb dL_law_37 rfl (lv_at hl 0 rfl) ?_
    refine va_sld hx hb hX hbl hbA hS hin0 dL_law_38 ?_
    refine lv_bipush (v := (31 : Int32)) hx hb dL_law_39 (by decide) ?_
    refine lv_iand hx hb dL_law_41 ?_
    generalize xs (nI (1 + 5 * j)).toNatClampNeg &&& (31 : Int32) = op
    by_cases c1 : op = (0 : Int32)
    · refine lv_tableIn (off := 90) (tgt := 132) hx hb dL_law_42 (by rw [c1]; decide) (by rw [c1]; decide) (by rw [c1]; rfl) (by decide) ?_
      obtain ⟨a, n2, va2, vb2, vc2, ve2, wl2, u2, r2, e5, hu, e6, hs2, hJ⟩ := j_wall hJ (xs (nI (1 + 5 * j) + (1 : Int32)).toNatClampNeg) (xs (nI (1 + 5 * j) + (2 : Int32)).toNatClampNeg) (xs (nI (1 + 5 * j) + (3 : Int32)).toNatClampNeg) (xs (nI (1 + 5 * j) + (4 : Int32)).toNatClampNeg)
      obtain ⟨fu, rfl⟩ : ∃ z, u2 = (z, u.2) := ⟨_, hu⟩
      obtain ⟨fr, rfl⟩ : ∃ z, r2 = (z, r.2) := ⟨_, hs2⟩
      refine lv_aload_n hx hb dL_law_132 rfl (lv_at hl 2 rfl) ?_
      refine lv_aload_n hx hb dL_law_133 rfl (lv_at hl 1 rfl) ?_
      refine lv_iload_n hx hb dL_law_134 rfl (lv_at hl 0 rfl) ?_
      refine lv_iconst (v := (1 : Int32)) hx hb dL_law_135 (by decide) ?_
      refine lv_iadd hx hb dL_law_136 ?_
      refine va_sld hx hb hX hbl hbA hS (hin 1 (by decide)) dL_law_137 ?_
      refine lv_aload_n hx hb dL_law_138 rfl (lv_at hl 1 rfl) ?_
      refine lv_iload_n hx hb dL_law_139 rfl (lv_at hl 0 rfl) ?_
      refine lv_iconst (v := (2 : Int32)) hx hb dL_law_140 (by decide) ?_
      refine lv_iadd hx hb dL_law_141 ?_
      refine va_sld hx hb hX hbl hbA hS (hin 2 (by decide)) dL_law_142 ?_
      refine lv_aload_n hx hb dL_law_143 rfl (lv_at hl 1 rfl) ?_
      refine lv_iload_n hx hb dL_law_144 rfl (lv_at hl 0 rfl) ?_
      refine lv_iconst (v := (3 : Int32)) hx hb dL_law_145 (by decide) ?_
      refine lv_iadd hx hb dL_law_146 ?_
      refine va_sld hx hb hX hbl hbA hS (hin 3 (by decide)) dL_law_147 ?_
      refine lv_aload_n hx hb dL_law_148 rfl (lv_at hl 1 rfl) ?_
      refine lv_iload_n hx hb dL_law_149 rfl (lv_at hl 0 rfl) ?_
      refine lv_iconst (v := (4 : Int32)) hx hb dL_law_150 (by decide) ?_
      refine lv_iadd hx hb dL_law_151 ?_
      refine va_sld hx hb hX hbl hbA hS (hin 4 (by decide)) dL_law_152 ?_
      refine k_iX (va_runV (As := [.int (xs (nI (1 + 5 * j) + (1 : Int32)).toNatClampNeg), .int (xs (nI (1 + 5 * j) + (2 : Int32)).toNatClampNeg), .int (xs (nI (1 + 5 * j) + (3 : Int32)).toNatClampNeg), .int (xs (nI (1 + 5 * j) + (4 : Int32)).toNatClampNeg)]) (rest := []) ⟨hx, hb, hml, hown, hts⟩ (kX5_wall l D q cI cJ cZ tP H.size (nI d) (nI n) u.1 u.2.1 u.2.2.1 va vb vc ve vth u.2.2.2.1 u.2.2.2.2.1 u.2.2.2.2.2.1 u.2.2.2.2.2.2.1 u.2.2.2.2.2.2.2.1 u.2.2.2.2.2.2.2.2.1 u.2.2.2.2.2.2.2.2.2.1 u.2.2.2.2.2.2.2.2.2.2.1 u.2.2.2.2.2.2.2.2.2.2.2.1 u.2.2.2.2.2.2.2.2.2.2.2.2.1 u.2.2.2.2.2.2.2.2.2.2.2.2.2.1 vtu u.2.2.2.2.2.2.2.2.2.2.2.2.2.2.1 u.2.2.2.2.2.2.2.2.2.2.2.2.2.2.2.1 u.2.2.2.2.2.2.2.2.2.2.2.2.2.2.2.2.1 u.2.2.2.2.2.2.2.2.2.2.2.2.2.2.2.2.2.1 u.2.2.2.2.2.2.2.2.2.2.2.2.2.2.2.2.2.2.1 u.2.2.2.2.2.2.2.2.2.2.2.2.2.2.2.2.2.2.2.1 u.2.2.2.2.2.2.2.2.2.2.2.2.2.2.2.2.2.2.2.2.1 u.2.2.2.2.2.2.2.2.2.2.2.2.2.2.2.2.2.2.2.2.2.1 u.2.2.2.2.2.2.2.2.2.2.2.2.2.2.2.2.2.2.2.2.2.2.1 u.2.2.2.2.2.2.2.2.2.2.2.2.2.2.2.2.2.2.2.2.2.2.2.1 u.2.2.2.2.2.2.2.2.2.2.2.2.2.2.2.2.2.2.2.2.2.2.2.2.1 u.2.2.2.2.2.2.2.2.2.2.2.2.2.2.2.2.2.2.2.2.2.2.2.2.2 (xs (nI (1 + 5 * j) + (1 : Int32)).toNatClampNeg) (xs (nI (1 + 5 * j) + (2 : Int32)).toNatClampNeg) (xs (nI (1 + 5 * j) + (3 : Int32)).toNatClampNeg) (xs (nI (1 + 5 * j) + (4 : Int32)).toNatClampNeg) (a, nI n2, fu, va2, vb2, vc2, ve2) e5) (cwV 4 hts gL_law_X5_wall rfl rfl rfl (by decide +kernel) ⟨Nat.le_of_ble_eq_true rfl, Nat.le_of_ble_eq_true rfl⟩) ⟨cPre_blind, va_recv hK (va_P_l hP) (ci := 5) (q0 := 0) rfl rfl, cPre_at (va_P_l hP) hK hN (va_D_l hD) hS hA hZ⟩ rfl rfl hl.1 rfl (lv_room (Nat.le_of_ble_eq_true rfl)) dL_law_153 ⟨(show 34 + 8 * j + 0 ≤ 639168 by omega), (show 21318 + 32 * j + 0 ≤ 7184745 by omega)⟩) hP hD hS hA (fun H locs hP hD hS => ?_)
      have hP : va_P D vwCl (WL_ q cI cZ n2 d va2 vb2 vc2 ve2 vth vtu (fu, u.2) ++ WN_ q9 cI cJ cZ n d wl r) H := hP
      have hD : va_D (fun q : Nat => s.heap.size ≤ q) (WL_ q cI cZ n2 d va2 vb2 vc2 ve2 vth vtu (fu, u.2) ++ WN_ q9 cI cJ cZ n d wl r) := hD
      refine lv_aload_n hx hb dL_law_156 rfl (lv_at hl 3 rfl) ?_
      refine lv_aload_n hx hb dL_law_157 rfl (lv_at hl 1 rfl) ?_
      refine lv_iload_n hx hb dL_law_158 rfl (lv_at hl 0 rfl) ?_
      refine lv_iconst (v := (1 : Int32)) hx hb dL_law_159 (by decide) ?_
      refine lv_iadd hx hb dL_law_160 ?_
      refine va_sld hx hb hX hbl hbA hS (hin 1 (by decide)) dL_law_161 ?_
      refine lv_aload_n hx hb dL_law_162 rfl (lv_at hl 1 rfl) ?_
      refine lv_iload_n hx hb dL_law_163 rfl (lv_at hl 0 rfl) ?_
      refine lv_iconst (v := (2 : Int32)) hx hb dL_law_164 (by decide) ?_
      refine lv_iadd hx hb dL_law_165 ?_
      refine va_sld hx hb hX hbl hbA hS (hin 2 (by decide)) dL_law_166 ?_
      refine lv_aload_n hx hb dL_law_167 rfl (lv_at hl 1 rfl) ?_
      refine lv_iload_n hx hb dL_law_168 rfl (lv_at hl 0 rfl) ?_
      refine lv_iconst (v := (3 : Int32)) hx hb dL_law_169 (by decide) ?_
      refine lv_iadd hx hb dL_law_170 ?_
      refine va_sld hx hb hX hbl hbA hS (hin 3 (by decide)) dL_law_171 ?_
      refine lv_aload_n hx hb dL_law_172 rfl (lv_at hl 1 rfl) ?_
      refine lv_iload_n hx hb dL_law_173 rfl (lv_at hl 0 rfl) ?_
      refine lv_iconst (v := (4 : Int32)) hx hb dL_law_174 (by decide) ?_
      refine lv_iadd hx hb dL_law_175 ?_
      refine va_sld hx hb hX hbl hbA hS (hin 4 (by decide)) dL_law_176 ?_
      refine k_iY (va_runV (As := [.int (xs (nI (1 + 5 * j) + (1 : Int32)).toNatClampNeg), .int (xs (nI (1 + 5 * j) + (2 : Int32)).toNatClampNeg), .int (xs (nI (1 + 5 * j) + (3 : Int32)).toNatClampNeg), .int (xs (nI (1 + 5 * j) + (4 : Int32)).toNatClampNeg)]) (rest := [.int a]) ⟨hx, hb, hml, hown, hts⟩ (kX6_wall l D q9 cI cJ cZ tP H.size (nI d) (nI n) r.1 r.2.1 r.2.2.1 wl r.2.2.2.1 r.2.2.2.2.1 r.2.2.2.2.2.1 r.2.2.2.2.2.2.1 r.2.2.2.2.2.2.2.1 r.2.2.2.2.2.2.2.2 (xs (nI (1 + 5 * j) + (1 : Int32)).toNatClampNeg) (xs (nI (1 + 5 * j) + (2 : Int32)).toNatClampNeg) (xs (nI (1 + 5 * j) + (3 : Int32)).toNatClampNeg) (xs (nI (1 + 5 * j) + (4 : Int32)).toNatClampNeg) (a, nI n2, fr, wl2) e6) (cwV 4 hts gL_law_X6_wall rfl rfl rfl (by decide +kernel) ⟨Nat.le_of_ble_eq_true rfl, Nat.le_of_ble_eq_true rfl⟩) ⟨cPre_blind, va_recv hK (va_P_r hP) (ci := 6) (q0 := 0) rfl rfl, cPre_at (va_P_r hP) hK hN (va_D_r hD) hS hA hZ⟩ rfl rfl hl.1 rfl (lv_room (Nat.le_of_ble_eq_true rfl)) dL_law_177 ⟨(show 34 + 8 * j + 0 + 8 ≤ 639168 by omega), (show 21318 + 32 * j + 0 + 32 ≤ 7184745 by omega)⟩) hP hD hS hA (fun H locs hP hD hS => ?_)
      have hP : va_P D vwCl (WL_ q cI cZ n2 d va2 vb2 vc2 ve2 vth vtu (fu, u.2) ++ WN_ q9 cI cJ cZ n2 d wl2 (fr, r.2)) H := hP
      have hD : va_D (fun q : Nat => s.heap.size ≤ q) (WL_ q cI cZ n2 d va2 vb2 vc2 ve2 vth vtu (fu, u.2) ++ WN_ q9 cI cJ cZ n2 d wl2 (fr, r.2)) := hD
      refine lv_icmp_eq (tgt := 669) hx hb dL_law_180 (by decide) (fun _ => ?_) (fun cc => absurd rfl cc)
      exact K669 n2 va2 vb2 vc2 ve2 vth vtu wl2 (fu, u.2) (fr, r.2) H locs ls _ _ (by omega) (by omega) hJ hP hD hS hl
    by_cases c2 : op = (1 : Int32)
    · refine lv_tableIn (off := 143) (tgt := 185) hx hb dL_law_42 (by rw [c2]; decide) (by rw [c2]; decide) (by rw [c2]; rfl) (by decide) ?_
      obtain ⟨a, n2, va2, vb2, vc2, ve2, wl2, u2, r2, e5, hu, e6, hs2, hJ⟩ := j_take hJ (xs (nI (1 + 5 * j) + (1 : Int32)).toNatClampNeg)
      obtain ⟨fu, rfl⟩ : ∃ z, u2 = (z, u.2) := ⟨_, hu⟩
      obtain ⟨fr, rfl⟩ : ∃ z, r2 = (z, r.2) := ⟨_, hs2⟩
      refine lv_aload_n hx hb dL_law_185 rfl (lv_at hl 2 rfl) ?_
      refine lv_aload_n hx hb dL_law_186 rfl (lv_at hl 1 rfl) ?_
      refine lv_iload_n hx hb dL_law_187 rfl (lv_at hl 0 rfl) ?_
      refine lv_iconst (v := (1 : Int32)) hx hb dL_law_188 (by decide) ?_
      refine lv_iadd hx hb dL_law_189 ?_
      refine va_sld hx hb hX hbl hbA hS (hin 1 (by decide)) dL_law_190 ?_
      refine k_iX (va_runV (As := [.int (xs (nI (1 + 5 * j) + (1 : Int32)).toNatClampNeg)]) (rest := []) ⟨hx, hb, hml, hown, hts⟩ (kX5_take l D q cI cJ cZ tP H.size (nI d) (nI n) u.1 u.2.1 u.2.2.1 va vb vc ve vth u.2.2.2.1 u.2.2.2.2.1 u.2.2.2.2.2.1 u.2.2.2.2.2.2.1 u.2.2.2.2.2.2.2.1 u.2.2.2.2.2.2.2.2.1 u.2.2.2.2.2.2.2.2.2.1 u.2.2.2.2.2.2.2.2.2.2.1 u.2.2.2.2.2.2.2.2.2.2.2.1 u.2.2.2.2.2.2.2.2.2.2.2.2.1 u.2.2.2.2.2.2.2.2.2.2.2.2.2.1 vtu u.2.2.2.2.2.2.2.2.2.2.2.2.2.2.1 u.2.2.2.2.2.2.2.2.2.2.2.2.2.2.2.1 u.2.2.2.2.2.2.2.2.2.2.2.2.2.2.2.2.1 u.2.2.2.2.2.2.2.2.2.2.2.2.2.2.2.2.2.1 u.2.2.2.2.2.2.2.2.2.2.2.2.2.2.2.2.2.2.1 u.2.2.2.2.2.2.2.2.2.2.2.2.2.2.2.2.2.2.2.1 u.2.2.2.2.2.2.2.2.2.2.2.2.2.2.2.2.2.2.2.2.1 u.2.2.2.2.2.2.2.2.2.2.2.2.2.2.2.2.2.2.2.2.2.1 u.2.2.2.2.2.2.2.2.2.2.2.2.2.2.2.2.2.2.2.2.2.2.1 u.2.2.2.2.2.2.2.2.2.2.2.2.2.2.2.2.2.2.2.2.2.2.2.1 u.2.2.2.2.2.2.2.2.2.2.2.2.2.2.2.2.2.2.2.2.2.2.2.2.1 u.2.2.2.2.2.2.2.2.2.2.2.2.2.2.2.2.2.2.2.2.2.2.2.2.2 (xs (nI (1 + 5 * j) + (1 : Int32)).toNatClampNeg) (a, nI n2, fu, va2, vb2, vc2, ve2) e5) (cwV 1 hts gL_law_X5_take rfl rfl rfl (by decide +kernel) ⟨Nat.le_of_ble_eq_true rfl, Nat.le_of_ble_eq_true rfl⟩) ⟨cPre_blind, va_recv hK (va_P_l hP) (ci := 5) (q0 := 0) rfl rfl, cPre_at (va_P_l hP) hK hN (va_D_l hD) hS hA hZ⟩ rfl rfl hl.1 rfl (lv_room (Nat.le_of_ble_eq_true rfl)) dL_law_191 ⟨(show 34 + 8 * j + 0 ≤ 639168 by omega), (show 21318 + 32 * j + 0 ≤ 7184745 by omega)⟩) hP hD hS hA (fun H locs hP hD hS => ?_)
      have hP : va_P D vwCl (WL_ q cI cZ n2 d va2 vb2 vc2 ve2 vth vtu (fu, u.2) ++ WN_ q9 cI cJ cZ n d wl r) H := hP
      have hD : va_D (fun q : Nat => s.heap.size ≤ q) (WL_ q cI cZ n2 d va2 vb2 vc2 ve2 vth vtu (fu, u.2) ++ WN_ q9 cI cJ cZ n d wl r) := hD
      refine lv_aload_n hx hb dL_law_194 rfl (lv_at hl 3 rfl) ?_
      refine lv_aload_n hx hb dL_law_195 rfl (lv_at hl 1 rfl) ?_
      refine lv_iload_n hx hb dL_law_196 rfl (lv_at hl 0 rfl) ?_
      refine lv_iconst (v := (1 : Int32)) hx hb dL_law_197 (by decide) ?_
      refine lv_iadd hx hb dL_law_198 ?_
      refine va_sld hx hb hX hbl hbA hS (hin 1 (by decide)) dL_law_199 ?_
      refine k_iY (va_runV (As := [.int (xs (nI (1 + 5 * j) + (1 : Int32)).toNatClampNeg)]) (rest := [.int a]) ⟨hx, hb, hml, hown, hts⟩ (kX6_take l D q9 cI cJ cZ tP H.size (nI d) (nI n) r.1 r.2.1 r.2.2.1 wl r.2.2.2.1 r.2.2.2.2.1 r.2.2.2.2.2.1 r.2.2.2.2.2.2.1 r.2.2.2.2.2.2.2.1 r.2.2.2.2.2.2.2.2 (xs (nI (1 + 5 * j) + (1 : Int32)).toNatClampNeg) (a, nI n2, fr, wl2) e6) (cwV 1 hts gL_law_X6_take rfl rfl rfl (by decide +kernel) ⟨Nat.le_of_ble_eq_true rfl, Nat.le_of_ble_eq_true rfl⟩) ⟨cPre_blind, va_recv hK (va_P_r hP) (ci := 6) (q0 := 0) rfl rfl, cPre_at (va_P_r hP) hK hN (va_D_r hD) hS hA hZ⟩ rfl rfl hl.1 rfl (lv_room (Nat.le_of_ble_eq_true rfl)) dL_law_200 ⟨(show 34 + 8 * j + 0 + 0 ≤ 639168 by omega), (show 21318 + 32 * j + 0 + 0 ≤ 7184745 by omega)⟩) hP hD hS hA (fun H locs hP hD hS => ?_)
      have hP : va_P D vwCl (WL_ q cI cZ n2 d va2 vb2 vc2 ve2 vth vtu (fu, u.2) ++ WN_ q9 cI cJ cZ n2 d wl2 (fr, r.2)) H := hP
      have hD : va_D (fun q : Nat => s.heap.size ≤ q) (WL_ q cI cZ n2 d va2 vb2 vc2 ve2 vth vtu (fu, u.2) ++ WN_ q9 cI cJ cZ n2 d wl2 (fr, r.2)) := hD
      refine lv_icmp_eq (tgt := 669) hx hb dL_law_203 (by decide) (fun _ => ?_) (fun cc => absurd rfl cc)
      exact K669 n2 va2 vb2 vc2 ve2 vth vtu wl2 (fu, u.2) (fr, r.2) H locs ls _ _ (by omega) (by omega) hJ hP hD hS hl
    by_cases c3 : op = (2 : Int32)
    · refine lv_tableIn (off := 166) (tgt := 208) hx hb dL_law_42 (by rw [c3]; decide) (by rw [c3]; decide) (by rw [c3]; rfl) (by decide) ?_
      obtain ⟨a, e5, e6⟩ := j_told hJ (xs (nI (1 + 5 * j) + (1 : Int32)).toNatClampNeg) (xs (nI (1 + 5 * j) + (2 : Int32)).toNatClampNeg)
      refine lv_aload_n hx hb dL_law_208 rfl (lv_at hl 2 rfl) ?_
      refine lv_aload_n hx hb dL_law_209 rfl (lv_at hl 1 rfl) ?_
      refine lv_iload_n hx hb dL_law_210 rfl (lv_at hl 0 rfl) ?_
      refine lv_iconst (v := (1 : Int32)) hx hb dL_law_211 (by decide) ?_
      refine lv_iadd hx hb dL_law_212 ?_
      refine va_sld hx hb hX hbl hbA hS (hin 1 (by decide)) dL_law_213 ?_
      refine lv_aload_n hx hb dL_law_214 rfl (lv_at hl 1 rfl) ?_
      refine lv_iload_n hx hb dL_law_215 rfl (lv_at hl 0 rfl) ?_
      refine lv_iconst (v := (2 : Int32)) hx hb dL_law_216 (by decide) ?_
      refine lv_iadd hx hb dL_law_217 ?_
      refine va_sld hx hb hX hbl hbA hS (hin 2 (by decide)) dL_law_218 ?_
      refine k_iX (va_runV (As := [.int (xs (nI (1 + 5 * j) + (1 : Int32)).toNatClampNeg), .int (xs (nI (1 + 5 * j) + (2 : Int32)).toNatClampNeg)]) (rest := []) ⟨hx, hb, hml, hown, hts⟩ (kX5_told l D q cI cJ cZ tP H.size (nI d) (nI n) u.1 u.2.1 u.2.2.1 va vb vc ve vth u.2.2.2.1 u.2.2.2.2.1 u.2.2.2.2.2.1 u.2.2.2.2.2.2.1 u.2.2.2.2.2.2.2.1 u.2.2.2.2.2.2.2.2.1 u.2.2.2.2.2.2.2.2.2.1 u.2.2.2.2.2.2.2.2.2.2.1 u.2.2.2.2.2.2.2.2.2.2.2.1 u.2.2.2.2.2.2.2.2.2.2.2.2.1 u.2.2.2.2.2.2.2.2.2.2.2.2.2.1 vtu u.2.2.2.2.2.2.2.2.2.2.2.2.2.2.1 u.2.2.2.2.2.2.2.2.2.2.2.2.2.2.2.1 u.2.2.2.2.2.2.2.2.2.2.2.2.2.2.2.2.1 u.2.2.2.2.2.2.2.2.2.2.2.2.2.2.2.2.2.1 u.2.2.2.2.2.2.2.2.2.2.2.2.2.2.2.2.2.2.1 u.2.2.2.2.2.2.2.2.2.2.2.2.2.2.2.2.2.2.2.1 u.2.2.2.2.2.2.2.2.2.2.2.2.2.2.2.2.2.2.2.2.1 u.2.2.2.2.2.2.2.2.2.2.2.2.2.2.2.2.2.2.2.2.2.1 u.2.2.2.2.2.2.2.2.2.2.2.2.2.2.2.2.2.2.2.2.2.2.1 u.2.2.2.2.2.2.2.2.2.2.2.2.2.2.2.2.2.2.2.2.2.2.2.1 u.2.2.2.2.2.2.2.2.2.2.2.2.2.2.2.2.2.2.2.2.2.2.2.2.1 u.2.2.2.2.2.2.2.2.2.2.2.2.2.2.2.2.2.2.2.2.2.2.2.2.2 (xs (nI (1 + 5 * j) + (1 : Int32)).toNatClampNeg) (xs (nI (1 + 5 * j) + (2 : Int32)).toNatClampNeg) a e5) (cwV 2 hts gL_law_X5_told rfl rfl rfl (by decide +kernel) ⟨Nat.le_of_ble_eq_true rfl, Nat.le_of_ble_eq_true rfl⟩) ⟨cPre_blind, va_recv hK (va_P_l hP) (ci := 5) (q0 := 0) rfl rfl, cPre_at (va_P_l hP) hK hN (va_D_l hD) hS hA hZ⟩ rfl rfl hl.1 rfl (lv_room (Nat.le_of_ble_eq_true rfl)) dL_law_219 ⟨(show 34 + 8 * j + 0 ≤ 639168 by omega), (show 21318 + 32 * j + 0 ≤ 7184745 by omega)⟩) hP hD hS hA (fun H locs hP hD hS => ?_)
      have hP : va_P D vwCl (WL_ q cI cZ n d va vb vc ve vth vtu u ++ WN_ q9 cI cJ cZ n d wl r) H := hP
      have hD : va_D (fun q : Nat => s.heap.size ≤ q) (WL_ q cI cZ n d va vb vc ve vth vtu u ++ WN_ q9 cI cJ cZ n d wl r) := hD
      refine lv_aload_n hx hb dL_law_222 rfl (lv_at hl 3 rfl) ?_
      refine lv_aload_n hx hb dL_law_223 rfl (lv_at hl 1 rfl) ?_
      refine lv_iload_n hx hb dL_law_224 rfl (lv_at hl 0 rfl) ?_
      refine lv_iconst (v := (1 : Int32)) hx hb dL_law_225 (by decide) ?_
      refine lv_iadd hx hb dL_law_226 ?_
      refine va_sld hx hb hX hbl hbA hS (hin 1 (by decide)) dL_law_227 ?_
      refine lv_aload_n hx hb dL_law_228 rfl (lv_at hl 1 rfl) ?_
      refine lv_iload_n hx hb dL_law_229 rfl (lv_at hl 0 rfl) ?_
      refine lv_iconst (v := (2 : Int32)) hx hb dL_law_230 (by decide) ?_
      refine lv_iadd hx hb dL_law_231 ?_
      refine va_sld hx hb hX hbl hbA hS (hin 2 (by decide)) dL_law_232 ?_
      refine k_iY (va_runV (As := [.int (xs (nI (1 + 5 * j) + (1 : Int32)).toNatClampNeg), .int (xs (nI (1 + 5 * j) + (2 : Int32)).toNatClampNeg)]) (rest := [.int a]) ⟨hx, hb, hml, hown, hts⟩ (kX6_told l D q9 cI cJ cZ tP H.size (nI d) (nI n) r.1 r.2.1 r.2.2.1 wl r.2.2.2.1 r.2.2.2.2.1 r.2.2.2.2.2.1 r.2.2.2.2.2.2.1 r.2.2.2.2.2.2.2.1 r.2.2.2.2.2.2.2.2 (xs (nI (1 + 5 * j) + (1 : Int32)).toNatClampNeg) (xs (nI (1 + 5 * j) + (2 : Int32)).toNatClampNeg) a e6) (cwV 2 hts gL_law_X6_told rfl rfl rfl (by decide +kernel) ⟨Nat.le_of_ble_eq_true rfl, Nat.le_of_ble_eq_true rfl⟩) ⟨cPre_blind, va_recv hK (va_P_r hP) (ci := 6) (q0 := 0) rfl rfl, cPre_at (va_P_r hP) hK hN (va_D_r hD) hS hA hZ⟩ rfl rfl hl.1 rfl (lv_room (Nat.le_of_ble_eq_true rfl)) dL_law_233 ⟨(show 34 + 8 * j + 0 + 0 ≤ 639168 by omega), (show 21318 + 32 * j + 0 + 0 ≤ 7184745 by omega)⟩) hP hD hS hA (fun H locs hP hD hS => ?_)
      have hP : va_P D vwCl (WL_ q cI cZ n d va vb vc ve vth vtu u ++ WN_ q9 cI cJ cZ n d wl r) H := hP
      have hD : va_D (fun q : Nat => s.heap.size ≤ q) (WL_ q cI cZ n d va vb vc ve vth vtu u ++ WN_ q9 cI cJ cZ n d wl r) := hD
      refine lv_icmp_eq (tgt := 669) hx hb dL_law_236 (by decide) (fun _ => ?_) (fun cc => absurd rfl cc)
      exact K669 n va vb vc ve vth vtu wl u r H locs ls _ _ (by omega) (by omega) hJ hP hD hS hl
    by_cases c4 : op = (3 : Int32)
    · refine lv_tableIn (off := 199) (tgt := 241) hx hb dL_law_42 (by rw [c4]; decide) (by rw [c4]; decide) (by rw [c4]; rfl) (by decide) ?_
      obtain ⟨a, e5, e6⟩ := j_row hJ (xs (nI (1 + 5 * j) + (1 : Int32)).toNatClampNeg) (xs (nI (1 + 5 * j) + (2 : Int32)).toNatClampNeg) (xs (nI (1 + 5 * j) + (3 : Int32)).toNatClampNeg)
      refine lv_aload_n hx hb dL_law_241 rfl (lv_at hl 2 rfl) ?_
      refine lv_aload_n hx hb dL_law_242 rfl (lv_at hl 1 rfl) ?_
      refine lv_iload_n hx hb dL_law_243 rfl (lv_at hl 0 rfl) ?_
      refine lv_iconst (v := (1 : Int32)) hx hb dL_law_244 (by decide) ?_
      refine lv_iadd hx hb dL_law_245 ?_
      refine va_sld hx hb hX hbl hbA hS (hin 1 (by decide)) dL_law_246 ?_
      refine lv_aload_n hx hb dL_law_247 rfl (lv_at hl 1 rfl) ?_
      refine lv_iload_n hx hb dL_law_248 rfl (lv_at hl 0 rfl) ?_
      refine lv_iconst (v := (2 : Int32)) hx hb dL_law_249 (by decide) ?_
      refine lv_iadd hx hb dL_law_250 ?_
      refine va_sld hx hb hX hbl hbA hS (hin 2 (by decide)) dL_law_251 ?_
      refine lv_aload_n hx hb dL_law_252 rfl (lv_at hl 1 rfl) ?_
      refine lv_iload_n hx hb dL_law_253 rfl (lv_at hl 0 rfl) ?_
      refine lv_iconst (v := (3 : Int32)) hx hb dL_law_254 (by decide) ?_
      refine lv_iadd hx hb dL_law_255 ?_
      refine va_sld hx hb hX hbl hbA hS (hin 3 (by decide)) dL_law_256 ?_
      refine k_iX (va_runV (As := [.int (xs (nI (1 + 5 * j) + (1 : Int32)).toNatClampNeg), .int (xs (nI (1 + 5 * j) + (2 : Int32)).toNatClampNeg), .int (xs (nI (1 + 5 * j) + (3 : Int32)).toNatClampNeg)]) (rest := []) ⟨hx, hb, hml, hown, hts⟩ (kX5_row l D q cI cJ cZ tP H.size (nI d) (nI n) u.1 u.2.1 u.2.2.1 va vb vc ve vth u.2.2.2.1 u.2.2.2.2.1 u.2.2.2.2.2.1 u.2.2.2.2.2.2.1 u.2.2.2.2.2.2.2.1 u.2.2.2.2.2.2.2.2.1 u.2.2.2.2.2.2.2.2.2.1 u.2.2.2.2.2.2.2.2.2.2.1 u.2.2.2.2.2.2.2.2.2.2.2.1 u.2.2.2.2.2.2.2.2.2.2.2.2.1 u.2.2.2.2.2.2.2.2.2.2.2.2.2.1 vtu u.2.2.2.2.2.2.2.2.2.2.2.2.2.2.1 u.2.2.2.2.2.2.2.2.2.2.2.2.2.2.2.1 u.2.2.2.2.2.2.2.2.2.2.2.2.2.2.2.2.1 u.2.2.2.2.2.2.2.2.2.2.2.2.2.2.2.2.2.1 u.2.2.2.2.2.2.2.2.2.2.2.2.2.2.2.2.2.2.1 u.2.2.2.2.2.2.2.2.2.2.2.2.2.2.2.2.2.2.2.1 u.2.2.2.2.2.2.2.2.2.2.2.2.2.2.2.2.2.2.2.2.1 u.2.2.2.2.2.2.2.2.2.2.2.2.2.2.2.2.2.2.2.2.2.1 u.2.2.2.2.2.2.2.2.2.2.2.2.2.2.2.2.2.2.2.2.2.2.1 u.2.2.2.2.2.2.2.2.2.2.2.2.2.2.2.2.2.2.2.2.2.2.2.1 u.2.2.2.2.2.2.2.2.2.2.2.2.2.2.2.2.2.2.2.2.2.2.2.2.1 u.2.2.2.2.2.2.2.2.2.2.2.2.2.2.2.2.2.2.2.2.2.2.2.2.2 (xs (nI (1 + 5 * j) + (1 : Int32)).toNatClampNeg) (xs (nI (1 + 5 * j) + (2 : Int32)).toNatClampNeg) (xs (nI (1 + 5 * j) + (3 : Int32)).toNatClampNeg) a e5) (cwV 3 hts gL_law_X5_row rfl rfl rfl (by decide +kernel) ⟨Nat.le_of_ble_eq_true rfl, Nat.le_of_ble_eq_true rfl⟩) ⟨cPre_blind, va_recv hK (va_P_l hP) (ci := 5) (q0 := 0) rfl rfl, cPre_at (va_P_l hP) hK hN (va_D_l hD) hS hA hZ⟩ rfl rfl hl.1 rfl (lv_room (Nat.le_of_ble_eq_true rfl)) dL_law_257 ⟨(show 34 + 8 * j + 0 ≤ 639168 by omega), (show 21318 + 32 * j + 0 ≤ 7184745 by omega)⟩) hP hD hS hA (fun H locs hP hD hS => ?_)
      have hP : va_P D vwCl (WL_ q cI cZ n d va vb vc ve vth vtu u ++ WN_ q9 cI cJ cZ n d wl r) H := hP
      have hD : va_D (fun q : Nat => s.heap.size ≤ q) (WL_ q cI cZ n d va vb vc ve vth vtu u ++ WN_ q9 cI cJ cZ n d wl r) := hD
      refine lv_aload_n hx hb dL_law_260 rfl (lv_at hl 3 rfl) ?_
      refine lv_aload_n hx hb dL_law_261 rfl (lv_at hl 1 rfl) ?_
      refine lv_iload_n hx hb dL_law_262 rfl (lv_at hl 0 rfl) ?_
      refine lv_iconst (v := (1 : Int32)) hx hb dL_law_263 (by decide) ?_
      refine lv_iadd hx hb dL_law_264 ?_
      refine va_sld hx hb hX hbl hbA hS (hin 1 (by decide)) dL_law_265 ?_
      refine lv_aload_n hx hb dL_law_266 rfl (lv_at hl 1 rfl) ?_
      refine lv_iload_n hx hb dL_law_267 rfl (lv_at hl 0 rfl) ?_
      refine lv_iconst (v := (2 : Int32)) hx hb dL_law_268 (by decide) ?_
      refine lv_iadd hx hb dL_law_269 ?_
      refine va_sld hx hb hX hbl hbA hS (hin 2 (by decide)) dL_law_270 ?_
      refine lv_aload_n hx hb dL_law_271 rfl (lv_at hl 1 rfl) ?_
      refine lv_iload_n hx hb dL_law_272 rfl (lv_at hl 0 rfl) ?_
      refine lv_iconst (v := (3 : Int32)) hx hb dL_law_273 (by decide) ?_
      refine lv_iadd hx hb dL_law_274 ?_
      refine va_sld hx hb hX hbl hbA hS (hin 3 (by decide)) dL_law_275 ?_
      refine k_iY (va_runV (As := [.int (xs (nI (1 + 5 * j) + (1 : Int32)).toNatClampNeg), .int (xs (nI (1 + 5 * j) + (2 : Int32)).toNatClampNeg), .int (xs (nI (1 + 5 * j) + (3 : Int32)).toNatClampNeg)]) (rest := [.int a]) ⟨hx, hb, hml, hown, hts⟩ (kX6_row l D q9 cI cJ cZ tP H.size (nI d) (nI n) r.1 r.2.1 r.2.2.1 wl r.2.2.2.1 r.2.2.2.2.1 r.2.2.2.2.2.1 r.2.2.2.2.2.2.1 r.2.2.2.2.2.2.2.1 r.2.2.2.2.2.2.2.2 (xs (nI (1 + 5 * j) + (1 : Int32)).toNatClampNeg) (xs (nI (1 + 5 * j) + (2 : Int32)).toNatClampNeg) (xs (nI (1 + 5 * j) + (3 : Int32)).toNatClampNeg) a e6) (cwV 3 hts gL_law_X6_row rfl rfl rfl (by decide +kernel) ⟨Nat.le_of_ble_eq_true rfl, Nat.le_of_ble_eq_true rfl⟩) ⟨cPre_blind, va_recv hK (va_P_r hP) (ci := 6) (q0 := 0) rfl rfl, cPre_at (va_P_r hP) hK hN (va_D_r hD) hS hA hZ⟩ rfl rfl hl.1 rfl (lv_room (Nat.le_of_ble_eq_true rfl)) dL_law_276 ⟨(show 34 + 8 * j + 0 + 1 ≤ 639168 by omega), (show 21318 + 32 * j + 0 + 3 ≤ 7184745 by omega)⟩) hP hD hS hA (fun H locs hP hD hS => ?_)
      have hP : va_P D vwCl (WL_ q cI cZ n d va vb vc ve vth vtu u ++ WN_ q9 cI cJ cZ n d wl r) H := hP
      have hD : va_D (fun q : Nat => s.heap.size ≤ q) (WL_ q cI cZ n d va vb vc ve vth vtu u ++ WN_ q9 cI cJ cZ n d wl r) := hD
      refine lv_icmp_eq (tgt := 669) hx hb dL_law_279 (by decide) (fun _ => ?_) (fun cc => absurd rfl cc)
      exact K669 n va vb vc ve vth vtu wl u r H locs ls _ _ (by omega) (by omega) hJ hP hD hS hl
    by_cases c5 : op = (4 : Int32)
    · refine lv_tableIn (off := 242) (tgt := 284) hx hb dL_law_42 (by rw [c5]; decide) (by rw [c5]; decide) (by rw [c5]; rfl) (by decide) ?_
      obtain ⟨a, u2, t2, e5, e6, hJ⟩ := j_faces hJ (xs (nI (1 + 5 * j) + (1 : Int32)).toNatClampNeg)
      refine lv_aload_n hx hb dL_law_284 rfl (lv_at hl 2 rfl) ?_
      refine lv_aload_n hx hb dL_law_285 rfl (lv_at hl 1 rfl) ?_
      refine lv_iload_n hx hb dL_law_286 rfl (lv_at hl 0 rfl) ?_
      refine lv_iconst (v := (1 : Int32)) hx hb dL_law_287 (by decide) ?_
      refine lv_iadd hx hb dL_law_288 ?_
      refine va_sld hx hb hX hbl hbA hS (hin 1 (by decide)) dL_law_289 ?_
      refine k_iX (va_runV (As := [.int (xs (nI (1 + 5 * j) + (1 : Int32)).toNatClampNeg)]) (rest := []) ⟨hx, hb, hml, hown, hts⟩ (kX5_faces l D q cI cJ cZ tP H.size (nI d) (nI n) u.1 u.2.1 u.2.2.1 va vb vc ve vth u.2.2.2.1 u.2.2.2.2.1 u.2.2.2.2.2.1 u.2.2.2.2.2.2.1 u.2.2.2.2.2.2.2.1 u.2.2.2.2.2.2.2.2.1 u.2.2.2.2.2.2.2.2.2.1 u.2.2.2.2.2.2.2.2.2.2.1 u.2.2.2.2.2.2.2.2.2.2.2.1 u.2.2.2.2.2.2.2.2.2.2.2.2.1 u.2.2.2.2.2.2.2.2.2.2.2.2.2.1 vtu u.2.2.2.2.2.2.2.2.2.2.2.2.2.2.1 u.2.2.2.2.2.2.2.2.2.2.2.2.2.2.2.1 u.2.2.2.2.2.2.2.2.2.2.2.2.2.2.2.2.1 u.2.2.2.2.2.2.2.2.2.2.2.2.2.2.2.2.2.1 u.2.2.2.2.2.2.2.2.2.2.2.2.2.2.2.2.2.2.1 u.2.2.2.2.2.2.2.2.2.2.2.2.2.2.2.2.2.2.2.1 u.2.2.2.2.2.2.2.2.2.2.2.2.2.2.2.2.2.2.2.2.1 u.2.2.2.2.2.2.2.2.2.2.2.2.2.2.2.2.2.2.2.2.2.1 u.2.2.2.2.2.2.2.2.2.2.2.2.2.2.2.2.2.2.2.2.2.2.1 u.2.2.2.2.2.2.2.2.2.2.2.2.2.2.2.2.2.2.2.2.2.2.2.1 u.2.2.2.2.2.2.2.2.2.2.2.2.2.2.2.2.2.2.2.2.2.2.2.2.1 u.2.2.2.2.2.2.2.2.2.2.2.2.2.2.2.2.2.2.2.2.2.2.2.2.2 (xs (nI (1 + 5 * j) + (1 : Int32)).toNatClampNeg) (a, u2) e5) (cwV 1 hts gL_law_X5_faces rfl rfl rfl (by decide +kernel) ⟨Nat.le_of_ble_eq_true rfl, Nat.le_of_ble_eq_true rfl⟩) ⟨cPre_blind, va_recv hK (va_P_l hP) (ci := 5) (q0 := 0) rfl rfl, cPre_at (va_P_l hP) hK hN (va_D_l hD) hS hA hZ⟩ rfl rfl hl.1 rfl (lv_room (Nat.le_of_ble_eq_true rfl)) dL_law_290 ⟨(show 34 + 8 * j + 0 ≤ 639168 by omega), (show 21318 + 32 * j + 0 ≤ 7184745 by omega)⟩) hP hD hS hA (fun H locs hP hD hS => ?_)
      have hP : va_P D vwCl (WL_ q cI cZ n d va vb vc ve vth vtu u2 ++ WN_ q9 cI cJ cZ n d wl r) H := hP
      have hD : va_D (fun q : Nat => s.heap.size ≤ q) (WL_ q cI cZ n d va vb vc ve vth vtu u2 ++ WN_ q9 cI cJ cZ n d wl r) := hD
      refine lv_aload_n hx hb dL_law_293 rfl (lv_at hl 3 rfl) ?_
      refine lv_aload_n hx hb dL_law_294 rfl (lv_at hl 1 rfl) ?_
      refine lv_iload_n hx hb dL_law_295 rfl (lv_at hl 0 rfl) ?_
      refine lv_iconst (v := (1 : Int32)) hx hb dL_law_296 (by decide) ?_
      refine lv_iadd hx hb dL_law_297 ?_
      refine va_sld hx hb hX hbl hbA hS (hin 1 (by decide)) dL_law_298 ?_
      refine k_iY (va_runV (As := [.int (xs (nI (1 + 5 * j) + (1 : Int32)).toNatClampNeg)]) (rest := [.int a]) ⟨hx, hb, hml, hown, hts⟩ (kX6_faces l D q9 cI cJ cZ tP H.size (nI d) (nI n) r.1 r.2.1 r.2.2.1 wl r.2.2.2.1 r.2.2.2.2.1 r.2.2.2.2.2.1 r.2.2.2.2.2.2.1 r.2.2.2.2.2.2.2.1 r.2.2.2.2.2.2.2.2 (xs (nI (1 + 5 * j) + (1 : Int32)).toNatClampNeg) (a, t2) e6) (cwV 1 hts gL_law_X6_faces rfl rfl rfl (by decide +kernel) ⟨Nat.le_of_ble_eq_true rfl, Nat.le_of_ble_eq_true rfl⟩) ⟨cPre_blind, va_recv hK (va_P_r hP) (ci := 6) (q0 := 0) rfl rfl, cPre_at (va_P_r hP) hK hN (va_D_r hD) hS hA hZ⟩ rfl rfl hl.1 rfl (lv_room (Nat.le_of_ble_eq_true rfl)) dL_law_299 ⟨(show 34 + 8 * j + 0 + 0 ≤ 639168 by omega), (show 21318 + 32 * j + 0 + 0 ≤ 7184745 by omega)⟩) hP hD hS hA (fun H locs hP hD hS => ?_)
      have hP : va_P D vwCl (WL_ q cI cZ n d va vb vc ve vth vtu u2 ++ WN_ q9 cI cJ cZ n d wl t2) H := hP
      have hD : va_D (fun q : Nat => s.heap.size ≤ q) (WL_ q cI cZ n d va vb vc ve vth vtu u2 ++ WN_ q9 cI cJ cZ n d wl t2) := hD
      refine lv_icmp_eq (tgt := 669) hx hb dL_law_302 (by decide) (fun _ => ?_) (fun cc => absurd rfl cc)
      exact K669 n va vb vc ve vth vtu wl u2 t2 H locs ls _ _ (by omega) (by omega) hJ hP hD hS hl
    by_cases c6 : op = (5 : Int32)
    · refine lv_tableIn (off := 265) (tgt := 307) hx hb dL_law_42 (by rw [c6]; decide) (by rw [c6]; decide) (by rw [c6]; rfl) (by decide) ?_
      obtain ⟨a, u2, t2, e5, e6, hJ⟩ := j_face hJ (xs (nI (1 + 5 * j) + (1 : Int32)).toNatClampNeg) (xs (nI (1 + 5 * j) + (2 : Int32)).toNatClampNeg)
      refine lv_aload_n hx hb dL_law_307 rfl (lv_at hl 2 rfl) ?_
      refine lv_aload_n hx hb dL_law_308 rfl (lv_at hl 1 rfl) ?_
      refine lv_iload_n hx hb dL_law_309 rfl (lv_at hl 0 rfl) ?_
      refine lv_iconst (v := (1 : Int32)) hx hb dL_law_310 (by decide) ?_
      refine lv_iadd hx hb dL_law_311 ?_
      refine va_sld hx hb hX hbl hbA hS (hin 1 (by decide)) dL_law_312 ?_
      refine lv_aload_n hx hb dL_law_313 rfl (lv_at hl 1 rfl) ?_
      refine lv_iload_n hx hb dL_law_314 rfl (lv_at hl 0 rfl) ?_
      refine lv_iconst (v := (2 : Int32)) hx hb dL_law_315 (by decide) ?_
      refine lv_iadd hx hb dL_law_316 ?_
      refine va_sld hx hb hX hbl hbA hS (hin 2 (by decide)) dL_law_317 ?_
      refine k_iX (va_runV (As := [.int (xs (nI (1 + 5 * j) + (1 : Int32)).toNatClampNeg), .int (xs (nI (1 + 5 * j) + (2 : Int32)).toNatClampNeg)]) (rest := []) ⟨hx, hb, hml, hown, hts⟩ (kX5_face l D q cI cJ cZ tP H.size (nI d) (nI n) u.1 u.2.1 u.2.2.1 va vb vc ve vth u.2.2.2.1 u.2.2.2.2.1 u.2.2.2.2.2.1 u.2.2.2.2.2.2.1 u.2.2.2.2.2.2.2.1 u.2.2.2.2.2.2.2.2.1 u.2.2.2.2.2.2.2.2.2.1 u.2.2.2.2.2.2.2.2.2.2.1 u.2.2.2.2.2.2.2.2.2.2.2.1 u.2.2.2.2.2.2.2.2.2.2.2.2.1 u.2.2.2.2.2.2.2.2.2.2.2.2.2.1 vtu u.2.2.2.2.2.2.2.2.2.2.2.2.2.2.1 u.2.2.2.2.2.2.2.2.2.2.2.2.2.2.2.1 u.2.2.2.2.2.2.2.2.2.2.2.2.2.2.2.2.1 u.2.2.2.2.2.2.2.2.2.2.2.2.2.2.2.2.2.1 u.2.2.2.2.2.2.2.2.2.2.2.2.2.2.2.2.2.2.1 u.2.2.2.2.2.2.2.2.2.2.2.2.2.2.2.2.2.2.2.1 u.2.2.2.2.2.2.2.2.2.2.2.2.2.2.2.2.2.2.2.2.1 u.2.2.2.2.2.2.2.2.2.2.2.2.2.2.2.2.2.2.2.2.2.1 u.2.2.2.2.2.2.2.2.2.2.2.2.2.2.2.2.2.2.2.2.2.2.1 u.2.2.2.2.2.2.2.2.2.2.2.2.2.2.2.2.2.2.2.2.2.2.2.1 u.2.2.2.2.2.2.2.2.2.2.2.2.2.2.2.2.2.2.2.2.2.2.2.2.1 u.2.2.2.2.2.2.2.2.2.2.2.2.2.2.2.2.2.2.2.2.2.2.2.2.2 (xs (nI (1 + 5 * j) + (1 : Int32)).toNatClampNeg) (xs (nI (1 + 5 * j) + (2 : Int32)).toNatClampNeg) (a, u2) e5) (cwV 2 hts gL_law_X5_face rfl rfl rfl (by decide +kernel) ⟨Nat.le_of_ble_eq_true rfl, Nat.le_of_ble_eq_true rfl⟩) ⟨cPre_blind, va_recv hK (va_P_l hP) (ci := 5) (q0 := 0) rfl rfl, cPre_at (va_P_l hP) hK hN (va_D_l hD) hS hA hZ⟩ rfl rfl hl.1 rfl (lv_room (Nat.le_of_ble_eq_true rfl)) dL_law_318 ⟨(show 34 + 8 * j + 0 ≤ 639168 by omega), (show 21318 + 32 * j + 0 ≤ 7184745 by omega)⟩) hP hD hS hA (fun H locs hP hD hS => ?_)
      have hP : va_P D vwCl (WL_ q cI cZ n d va vb vc ve vth vtu u2 ++ WN_ q9 cI cJ cZ n d wl r) H := hP
      have hD : va_D (fun q : Nat => s.heap.size ≤ q) (WL_ q cI cZ n d va vb vc ve vth vtu u2 ++ WN_ q9 cI cJ cZ n d wl r) := hD
      refine lv_aload_n hx hb dL_law_321 rfl (lv_at hl 3 rfl) ?_
      refine lv_aload_n hx hb dL_law_322 rfl (lv_at hl 1 rfl) ?_
      refine lv_iload_n hx hb dL_law_323 rfl (lv_at hl 0 rfl) ?_
      refine lv_iconst (v := (1 : Int32)) hx hb dL_law_324 (by decide) ?_
      refine lv_iadd hx hb dL_law_325 ?_
      refine va_sld hx hb hX hbl hbA hS (hin 1 (by decide)) dL_law_326 ?_
      refine lv_aload_n hx hb dL_law_327 rfl (lv_at hl 1 rfl) ?_
      refine lv_iload_n hx hb dL_law_328 rfl (lv_at hl 0 rfl) ?_
      refine lv_iconst (v := (2 : Int32)) hx hb dL_law_329 (by decide) ?_
      refine lv_iadd hx hb dL_law_330 ?_
      refine va_sld hx hb hX hbl hbA hS (hin 2 (by decide)) dL_law_331 ?_
      refine k_iY (va_runV (As := [.int (xs (nI (1 + 5 * j) + (1 : Int32)).toNatClampNeg), .int (xs (nI (1 + 5 * j) + (2 : Int32)).toNatClampNeg)]) (rest := [.int a]) ⟨hx, hb, hml, hown, hts⟩ (kX6_face l D q9 cI cJ cZ tP H.size (nI d) (nI n) r.1 r.2.1 r.2.2.1 wl r.2.2.2.1 r.2.2.2.2.1 r.2.2.2.2.2.1 r.2.2.2.2.2.2.1 r.2.2.2.2.2.2.2.1 r.2.2.2.2.2.2.2.2 (xs (nI (1 + 5 * j) + (1 : Int32)).toNatClampNeg) (xs (nI (1 + 5 * j) + (2 : Int32)).toNatClampNeg) (a, t2) e6) (cwV 2 hts gL_law_X6_face rfl rfl rfl (by decide +kernel) ⟨Nat.le_of_ble_eq_true rfl, Nat.le_of_ble_eq_true rfl⟩) ⟨cPre_blind, va_recv hK (va_P_r hP) (ci := 6) (q0 := 0) rfl rfl, cPre_at (va_P_r hP) hK hN (va_D_r hD) hS hA hZ⟩ rfl rfl hl.1 rfl (lv_room (Nat.le_of_ble_eq_true rfl)) dL_law_332 ⟨(show 34 + 8 * j + 0 + 0 ≤ 639168 by omega), (show 21318 + 32 * j + 0 + 0 ≤ 7184745 by omega)⟩) hP hD hS hA (fun H locs hP hD hS => ?_)
      have hP : va_P D vwCl (WL_ q cI cZ n d va vb vc ve vth vtu u2 ++ WN_ q9 cI cJ cZ n d wl t2) H := hP
      have hD : va_D (fun q : Nat => s.heap.size ≤ q) (WL_ q cI cZ n d va vb vc ve vth vtu u2 ++ WN_ q9 cI cJ cZ n d wl t2) := hD
      refine lv_icmp_eq (tgt := 669) hx hb dL_law_335 (by decide) (fun _ => ?_) (fun cc => absurd rfl cc)
      exact K669 n va vb vc ve vth vtu wl u2 t2 H locs ls _ _ (by omega) (by omega) hJ hP hD hS hl
    by_cases c7 : op = (6 : Int32)
    · refine lv_tableIn (off := 298) (tgt := 340) hx hb dL_law_42 (by rw [c7]; decide) (by rw [c7]; decide) (by rw [c7]; rfl) (by decide) ?_
      obtain ⟨a, u2, t2, e5, e6, hJ⟩ := j_width hJ (xs (nI (1 + 5 * j) + (1 : Int32)).toNatClampNeg)
      refine lv_aload_n hx hb dL_law_340 rfl (lv_at hl 2 rfl) ?_
      refine lv_aload_n hx hb dL_law_341 rfl (lv_at hl 1 rfl) ?_
      refine lv_iload_n hx hb dL_law_342 rfl (lv_at hl 0 rfl) ?_
      refine lv_iconst (v := (1 : Int32)) hx hb dL_law_343 (by decide) ?_
      refine lv_iadd hx hb dL_law_344 ?_
      refine va_sld hx hb hX hbl hbA hS (hin 1 (by decide)) dL_law_345 ?_
      refine k_iX (va_runV (As := [.int (xs (nI (1 + 5 * j) + (1 : Int32)).toNatClampNeg)]) (rest := []) ⟨hx, hb, hml, hown, hts⟩ (kX5_width l D q cI cJ cZ tP H.size (nI d) (nI n) u.1 u.2.1 u.2.2.1 va vb vc ve vth u.2.2.2.1 u.2.2.2.2.1 u.2.2.2.2.2.1 u.2.2.2.2.2.2.1 u.2.2.2.2.2.2.2.1 u.2.2.2.2.2.2.2.2.1 u.2.2.2.2.2.2.2.2.2.1 u.2.2.2.2.2.2.2.2.2.2.1 u.2.2.2.2.2.2.2.2.2.2.2.1 u.2.2.2.2.2.2.2.2.2.2.2.2.1 u.2.2.2.2.2.2.2.2.2.2.2.2.2.1 vtu u.2.2.2.2.2.2.2.2.2.2.2.2.2.2.1 u.2.2.2.2.2.2.2.2.2.2.2.2.2.2.2.1 u.2.2.2.2.2.2.2.2.2.2.2.2.2.2.2.2.1 u.2.2.2.2.2.2.2.2.2.2.2.2.2.2.2.2.2.1 u.2.2.2.2.2.2.2.2.2.2.2.2.2.2.2.2.2.2.1 u.2.2.2.2.2.2.2.2.2.2.2.2.2.2.2.2.2.2.2.1 u.2.2.2.2.2.2.2.2.2.2.2.2.2.2.2.2.2.2.2.2.1 u.2.2.2.2.2.2.2.2.2.2.2.2.2.2.2.2.2.2.2.2.2.1 u.2.2.2.2.2.2.2.2.2.2.2.2.2.2.2.2.2.2.2.2.2.2.1 u.2.2.2.2.2.2.2.2.2.2.2.2.2.2.2.2.2.2.2.2.2.2.2.1 u.2.2.2.2.2.2.2.2.2.2.2.2.2.2.2.2.2.2.2.2.2.2.2.2.1 u.2.2.2.2.2.2.2.2.2.2.2.2.2.2.2.2.2.2.2.2.2.2.2.2.2 (xs (nI (1 + 5 * j) + (1 : Int32)).toNatClampNeg) (a, u2) e5) (cwV 1 hts gL_law_X5_width rfl rfl rfl (by decide +kernel) ⟨Nat.le_of_ble_eq_true rfl, Nat.le_of_ble_eq_true rfl⟩) ⟨cPre_blind, va_recv hK (va_P_l hP) (ci := 5) (q0 := 0) rfl rfl, cPre_at (va_P_l hP) hK hN (va_D_l hD) hS hA hZ⟩ rfl rfl hl.1 rfl (lv_room (Nat.le_of_ble_eq_true rfl)) dL_law_346 ⟨(show 34 + 8 * j + 0 ≤ 639168 by omega), (show 21318 + 32 * j + 0 ≤ 7184745 by omega)⟩) hP hD hS hA (fun H locs hP hD hS => ?_)
      have hP : va_P D vwCl (WL_ q cI cZ n d va vb vc ve vth vtu u2 ++ WN_ q9 cI cJ cZ n d wl r) H := hP
      have hD : va_D (fun q : Nat => s.heap.size ≤ q) (WL_ q cI cZ n d va vb vc ve vth vtu u2 ++ WN_ q9 cI cJ cZ n d wl r) := hD
      refine lv_aload_n hx hb dL_law_349 rfl (lv_at hl 3 rfl) ?_
      refine lv_aload_n hx hb dL_law_350 rfl (lv_at hl 1 rfl) ?_
      refine lv_iload_n hx hb dL_law_351 rfl (lv_at hl 0 rfl) ?_
      refine lv_iconst (v := (1 : Int32)) hx hb dL_law_352 (by decide) ?_
      refine lv_iadd hx hb dL_law_353 ?_
      refine va_sld hx hb hX hbl hbA hS (hin 1 (by decide)) dL_law_354 ?_
      refine k_iY (va_runV (As := [.int (xs (nI (1 + 5 * j) + (1 : Int32)).toNatClampNeg)]) (rest := [.int a]) ⟨hx, hb, hml, hown, hts⟩ (kX6_width l D q9 cI cJ cZ tP H.size (nI d) (nI n) r.1 r.2.1 r.2.2.1 wl r.2.2.2.1 r.2.2.2.2.1 r.2.2.2.2.2.1 r.2.2.2.2.2.2.1 r.2.2.2.2.2.2.2.1 r.2.2.2.2.2.2.2.2 (xs (nI (1 + 5 * j) + (1 : Int32)).toNatClampNeg) (a, t2) e6) (cwV 1 hts gL_law_X6_width rfl rfl rfl (by decide +kernel) ⟨Nat.le_of_ble_eq_true rfl, Nat.le_of_ble_eq_true rfl⟩) ⟨cPre_blind, va_recv hK (va_P_r hP) (ci := 6) (q0 := 0) rfl rfl, cPre_at (va_P_r hP) hK hN (va_D_r hD) hS hA hZ⟩ rfl rfl hl.1 rfl (lv_room (Nat.le_of_ble_eq_true rfl)) dL_law_355 ⟨(show 34 + 8 * j + 0 + 0 ≤ 639168 by omega), (show 21318 + 32 * j + 0 + 0 ≤ 7184745 by omega)⟩) hP hD hS hA (fun H locs hP hD hS => ?_)
      have hP : va_P D vwCl (WL_ q cI cZ n d va vb vc ve vth vtu u2 ++ WN_ q9 cI cJ cZ n d wl t2) H := hP
      have hD : va_D (fun q : Nat => s.heap.size ≤ q) (WL_ q cI cZ n d va vb vc ve vth vtu u2 ++ WN_ q9 cI cJ cZ n d wl t2) := hD
      refine lv_icmp_eq (tgt := 669) hx hb dL_law_358 (by decide) (fun _ => ?_) (fun cc => absurd rfl cc)
      exact K669 n va vb vc ve vth vtu wl u2 t2 H locs ls _ _ (by omega) (by omega) hJ hP hD hS hl
    by_cases c8 : op = (7 : Int32)
    · refine lv_tableIn (off := 321) (tgt := 363) hx hb dL_law_42 (by rw [c8]; decide) (by rw [c8]; decide) (by rw [c8]; rfl) (by decide) ?_
      obtain ⟨a, u2, t2, e5, e6, hJ⟩ := j_bounded hJ (xs (nI (1 + 5 * j) + (1 : Int32)).toNatClampNeg)
      refine lv_aload_n hx hb dL_law_363 rfl (lv_at hl 2 rfl) ?_
      refine lv_aload_n hx hb dL_law_364 rfl (lv_at hl 1 rfl) ?_
      refine lv_iload_n hx hb dL_law_365 rfl (lv_at hl 0 rfl) ?_
      refine lv_iconst (v := (1 : Int32)) hx hb dL_law_366 (by decide) ?_
      refine lv_iadd hx hb dL_law_367 ?_
      refine va_sld hx hb hX hbl hbA hS (hin 1 (by decide)) dL_law_368 ?_
      refine k_iX (va_runV (As := [.int (xs (nI (1 + 5 * j) + (1 : Int32)).toNatClampNeg)]) (rest := []) ⟨hx, hb, hml, hown, hts⟩ (kX5_bounded l D q cI cJ cZ tP H.size (nI d) (nI n) u.1 u.2.1 u.2.2.1 va vb vc ve vth u.2.2.2.1 u.2.2.2.2.1 u.2.2.2.2.2.1 u.2.2.2.2.2.2.1 u.2.2.2.2.2.2.2.1 u.2.2.2.2.2.2.2.2.1 u.2.2.2.2.2.2.2.2.2.1 u.2.2.2.2.2.2.2.2.2.2.1 u.2.2.2.2.2.2.2.2.2.2.2.1 u.2.2.2.2.2.2.2.2.2.2.2.2.1 u.2.2.2.2.2.2.2.2.2.2.2.2.2.1 vtu u.2.2.2.2.2.2.2.2.2.2.2.2.2.2.1 u.2.2.2.2.2.2.2.2.2.2.2.2.2.2.2.1 u.2.2.2.2.2.2.2.2.2.2.2.2.2.2.2.2.1 u.2.2.2.2.2.2.2.2.2.2.2.2.2.2.2.2.2.1 u.2.2.2.2.2.2.2.2.2.2.2.2.2.2.2.2.2.2.1 u.2.2.2.2.2.2.2.2.2.2.2.2.2.2.2.2.2.2.2.1 u.2.2.2.2.2.2.2.2.2.2.2.2.2.2.2.2.2.2.2.2.1 u.2.2.2.2.2.2.2.2.2.2.2.2.2.2.2.2.2.2.2.2.2.1 u.2.2.2.2.2.2.2.2.2.2.2.2.2.2.2.2.2.2.2.2.2.2.1 u.2.2.2.2.2.2.2.2.2.2.2.2.2.2.2.2.2.2.2.2.2.2.2.1 u.2.2.2.2.2.2.2.2.2.2.2.2.2.2.2.2.2.2.2.2.2.2.2.2.1 u.2.2.2.2.2.2.2.2.2.2.2.2.2.2.2.2.2.2.2.2.2.2.2.2.2 (xs (nI (1 + 5 * j) + (1 : Int32)).toNatClampNeg) (a, u2) e5) (cwV 1 hts gL_law_X5_bounded rfl rfl rfl (by decide +kernel) ⟨Nat.le_of_ble_eq_true rfl, Nat.le_of_ble_eq_true rfl⟩) ⟨cPre_blind, va_recv hK (va_P_l hP) (ci := 5) (q0 := 0) rfl rfl, cPre_at (va_P_l hP) hK hN (va_D_l hD) hS hA hZ⟩ rfl rfl hl.1 rfl (lv_room (Nat.le_of_ble_eq_true rfl)) dL_law_369 ⟨(show 34 + 8 * j + 0 ≤ 639168 by omega), (show 21318 + 32 * j + 0 ≤ 7184745 by omega)⟩) hP hD hS hA (fun H locs hP hD hS => ?_)
      have hP : va_P D vwCl (WL_ q cI cZ n d va vb vc ve vth vtu u2 ++ WN_ q9 cI cJ cZ n d wl r) H := hP
      have hD : va_D (fun q : Nat => s.heap.size ≤ q) (WL_ q cI cZ n d va vb vc ve vth vtu u2 ++ WN_ q9 cI cJ cZ n d wl r) := hD
      refine lv_aload_n hx hb dL_law_372 rfl (lv_at hl 3 rfl) ?_
      refine lv_aload_n hx hb dL_law_373 rfl (lv_at hl 1 rfl) ?_
      refine lv_iload_n hx hb dL_law_374 rfl (lv_at hl 0 rfl) ?_
      refine lv_iconst (v := (1 : Int32)) hx hb dL_law_375 (by decide) ?_
      refine lv_iadd hx hb dL_law_376 ?_
      refine va_sld hx hb hX hbl hbA hS (hin 1 (by decide)) dL_law_377 ?_
      refine k_iY (va_runV (As := [.int (xs (nI (1 + 5 * j) + (1 : Int32)).toNatClampNeg)]) (rest := [.int a]) ⟨hx, hb, hml, hown, hts⟩ (kX6_bounded l D q9 cI cJ cZ tP H.size (nI d) (nI n) r.1 r.2.1 r.2.2.1 wl r.2.2.2.1 r.2.2.2.2.1 r.2.2.2.2.2.1 r.2.2.2.2.2.2.1 r.2.2.2.2.2.2.2.1 r.2.2.2.2.2.2.2.2 (xs (nI (1 + 5 * j) + (1 : Int32)).toNatClampNeg) (a, t2) e6) (cwV 1 hts gL_law_X6_bounded rfl rfl rfl (by decide +kernel) ⟨Nat.le_of_ble_eq_true rfl, Nat.le_of_ble_eq_true rfl⟩) ⟨cPre_blind, va_recv hK (va_P_r hP) (ci := 6) (q0 := 0) rfl rfl, cPre_at (va_P_r hP) hK hN (va_D_r hD) hS hA hZ⟩ rfl rfl hl.1 rfl (lv_room (Nat.le_of_ble_eq_true rfl)) dL_law_378 ⟨(show 34 + 8 * j + 0 + 0 ≤ 639168 by omega), (show 21318 + 32 * j + 0 + 0 ≤ 7184745 by omega)⟩) hP hD hS hA (fun H locs hP hD hS => ?_)
      have hP : va_P D vwCl (WL_ q cI cZ n d va vb vc ve vth vtu u2 ++ WN_ q9 cI cJ cZ n d wl t2) H := hP
      have hD : va_D (fun q : Nat => s.heap.size ≤ q) (WL_ q cI cZ n d va vb vc ve vth vtu u2 ++ WN_ q9 cI cJ cZ n d wl t2) := hD
      refine lv_icmp_eq (tgt := 669) hx hb dL_law_381 (by decide) (fun _ => ?_) (fun cc => absurd rfl cc)
      exact K669 n va vb vc ve vth vtu wl u2 t2 H locs ls _ _ (by omega) (by omega) hJ hP hD hS hl
    by_cases c9 : op = (8 : Int32)
    · refine lv_tableIn (off := 344) (tgt := 386) hx hb dL_law_42 (by rw [c9]; decide) (by rw [c9]; decide) (by rw [c9]; rfl) (by decide) ?_
      obtain ⟨a, u2, t2, e5, e6, hJ⟩ := j_boundedRooms hJ 
      refine lv_aload_n hx hb dL_law_386 rfl (lv_at hl 2 rfl) ?_
      refine k_iX (va_runV (As := []) (rest := []) ⟨hx, hb, hml, hown, hts⟩ (kX5_boundedRooms l D q cI cJ cZ tP H.size (nI d) (nI n) u.1 u.2.1 u.2.2.1 va vb vc ve vth u.2.2.2.1 u.2.2.2.2.1 u.2.2.2.2.2.1 u.2.2.2.2.2.2.1 u.2.2.2.2.2.2.2.1 u.2.2.2.2.2.2.2.2.1 u.2.2.2.2.2.2.2.2.2.1 u.2.2.2.2.2.2.2.2.2.2.1 u.2.2.2.2.2.2.2.2.2.2.2.1 u.2.2.2.2.2.2.2.2.2.2.2.2.1 u.2.2.2.2.2.2.2.2.2.2.2.2.2.1 vtu u.2.2.2.2.2.2.2.2.2.2.2.2.2.2.1 u.2.2.2.2.2.2.2.2.2.2.2.2.2.2.2.1 u.2.2.2.2.2.2.2.2.2.2.2.2.2.2.2.2.1 u.2.2.2.2.2.2.2.2.2.2.2.2.2.2.2.2.2.1 u.2.2.2.2.2.2.2.2.2.2.2.2.2.2.2.2.2.2.1 u.2.2.2.2.2.2.2.2.2.2.2.2.2.2.2.2.2.2.2.1 u.2.2.2.2.2.2.2.2.2.2.2.2.2.2.2.2.2.2.2.2.1 u.2.2.2.2.2.2.2.2.2.2.2.2.2.2.2.2.2.2.2.2.2.1 u.2.2.2.2.2.2.2.2.2.2.2.2.2.2.2.2.2.2.2.2.2.2.1 u.2.2.2.2.2.2.2.2.2.2.2.2.2.2.2.2.2.2.2.2.2.2.2.1 u.2.2.2.2.2.2.2.2.2.2.2.2.2.2.2.2.2.2.2.2.2.2.2.2.1 u.2.2.2.2.2.2.2.2.2.2.2.2.2.2.2.2.2.2.2.2.2.2.2.2.2  (a, u2) e5) (cwV 0 hts gL_law_X5_boundedRooms rfl rfl rfl (by decide +kernel) ⟨Nat.le_of_ble_eq_true rfl, Nat.le_of_ble_eq_true rfl⟩) ⟨cPre_blind, va_recv hK (va_P_l hP) (ci := 5) (q0 := 0) rfl rfl, cPre_at (va_P_l hP) hK hN (va_D_l hD) hS hA hZ⟩ rfl rfl hl.1 rfl (lv_room (Nat.le_of_ble_eq_true rfl)) dL_law_387 ⟨(show 34 + 8 * j + 0 ≤ 639168 by omega), (show 21318 + 32 * j + 0 ≤ 7184745 by omega)⟩) hP hD hS hA (fun H locs hP hD hS => ?_)
      have hP : va_P D vwCl (WL_ q cI cZ n d va vb vc ve vth vtu u2 ++ WN_ q9 cI cJ cZ n d wl r) H := hP
      have hD : va_D (fun q : Nat => s.heap.size ≤ q) (WL_ q cI cZ n d va vb vc ve vth vtu u2 ++ WN_ q9 cI cJ cZ n d wl r) := hD
      refine lv_aload_n hx hb dL_law_390 rfl (lv_at hl 3 rfl) ?_
      refine k_iY (va_runV (As := []) (rest := [.int a]) ⟨hx, hb, hml, hown, hts⟩ (kX6_boundedRooms l D q9 cI cJ cZ tP H.size (nI d) (nI n) r.1 r.2.1 r.2.2.1 wl r.2.2.2.1 r.2.2.2.2.1 r.2.2.2.2.2.1 r.2.2.2.2.2.2.1 r.2.2.2.2.2.2.2.1 r.2.2.2.2.2.2.2.2  (a, t2) e6) (cwV 0 hts gL_law_X6_boundedRooms rfl rfl rfl (by decide +kernel) ⟨Nat.le_of_ble_eq_true rfl, Nat.le_of_ble_eq_true rfl⟩) ⟨cPre_blind, va_recv hK (va_P_r hP) (ci := 6) (q0 := 0) rfl rfl, cPre_at (va_P_r hP) hK hN (va_D_r hD) hS hA hZ⟩ rfl rfl hl.1 rfl (lv_room (Nat.le_of_ble_eq_true rfl)) dL_law_391 ⟨(show 34 + 8 * j + 0 + 0 ≤ 639168 by omega), (show 21318 + 32 * j + 0 + 0 ≤ 7184745 by omega)⟩) hP hD hS hA (fun H locs hP hD hS => ?_)
      have hP : va_P D vwCl (WL_ q cI cZ n d va vb vc ve vth vtu u2 ++ WN_ q9 cI cJ cZ n d wl t2) H := hP
      have hD : va_D (fun q : Nat => s.heap.size ≤ q) (WL_ q cI cZ n d va vb vc ve vth vtu u2 ++ WN_ q9 cI cJ cZ n d wl t2) := hD
      refine lv_icmp_eq (tgt := 669) hx hb dL_law_394 (by decide) (fun _ => ?_) (fun cc => absurd rfl cc)
      exact K669 n va vb vc ve vth vtu wl u2 t2 H locs ls _ _ (by omega) (by omega) hJ hP hD hS hl
    by_cases c10 : op = (9 : Int32)
    · refine lv_tableIn (off := 357) (tgt := 399) hx hb dL_law_42 (by rw [c10]; decide) (by rw [c10]; decide) (by rw [c10]; rfl) (by decide) ?_
      obtain ⟨a, u2, t2, e5, e6, hJ⟩ := j_poly hJ (xs (nI (1 + 5 * j) + (1 : Int32)).toNatClampNeg)
      refine lv_aload_n hx hb dL_law_399 rfl (lv_at hl 2 rfl) ?_
      refine lv_aload_n hx hb dL_law_400 rfl (lv_at hl 1 rfl) ?_
      refine lv_iload_n hx hb dL_law_401 rfl (lv_at hl 0 rfl) ?_
      refine lv_iconst (v := (1 : Int32)) hx hb dL_law_402 (by decide) ?_
      refine lv_iadd hx hb dL_law_403 ?_
      refine va_sld hx hb hX hbl hbA hS (hin 1 (by decide)) dL_law_404 ?_
      refine k_iX (va_runV (As := [.int (xs (nI (1 + 5 * j) + (1 : Int32)).toNatClampNeg)]) (rest := []) ⟨hx, hb, hml, hown, hts⟩ (kX5_poly l D q cI cJ cZ tP H.size (nI d) (nI n) u.1 u.2.1 u.2.2.1 va vb vc ve vth u.2.2.2.1 u.2.2.2.2.1 u.2.2.2.2.2.1 u.2.2.2.2.2.2.1 u.2.2.2.2.2.2.2.1 u.2.2.2.2.2.2.2.2.1 u.2.2.2.2.2.2.2.2.2.1 u.2.2.2.2.2.2.2.2.2.2.1 u.2.2.2.2.2.2.2.2.2.2.2.1 u.2.2.2.2.2.2.2.2.2.2.2.2.1 u.2.2.2.2.2.2.2.2.2.2.2.2.2.1 vtu u.2.2.2.2.2.2.2.2.2.2.2.2.2.2.1 u.2.2.2.2.2.2.2.2.2.2.2.2.2.2.2.1 u.2.2.2.2.2.2.2.2.2.2.2.2.2.2.2.2.1 u.2.2.2.2.2.2.2.2.2.2.2.2.2.2.2.2.2.1 u.2.2.2.2.2.2.2.2.2.2.2.2.2.2.2.2.2.2.1 u.2.2.2.2.2.2.2.2.2.2.2.2.2.2.2.2.2.2.2.1 u.2.2.2.2.2.2.2.2.2.2.2.2.2.2.2.2.2.2.2.2.1 u.2.2.2.2.2.2.2.2.2.2.2.2.2.2.2.2.2.2.2.2.2.1 u.2.2.2.2.2.2.2.2.2.2.2.2.2.2.2.2.2.2.2.2.2.2.1 u.2.2.2.2.2.2.2.2.2.2.2.2.2.2.2.2.2.2.2.2.2.2.2.1 u.2.2.2.2.2.2.2.2.2.2.2.2.2.2.2.2.2.2.2.2.2.2.2.2.1 u.2.2.2.2.2.2.2.2.2.2.2.2.2.2.2.2.2.2.2.2.2.2.2.2.2 (xs (nI (1 + 5 * j) + (1 : Int32)).toNatClampNeg) (a, u2) e5) (cwV 1 hts gL_law_X5_poly rfl rfl rfl (by decide +kernel) ⟨Nat.le_of_ble_eq_true rfl, Nat.le_of_ble_eq_true rfl⟩) ⟨cPre_blind, va_recv hK (va_P_l hP) (ci := 5) (q0 := 0) rfl rfl, cPre_at (va_P_l hP) hK hN (va_D_l hD) hS hA hZ⟩ rfl rfl hl.1 rfl (lv_room (Nat.le_of_ble_eq_true rfl)) dL_law_405 ⟨(show 34 + 8 * j + 0 ≤ 639168 by omega), (show 21318 + 32 * j + 0 ≤ 7184745 by omega)⟩) hP hD hS hA (fun H locs hP hD hS => ?_)
      have hP : va_P D vwCl (WL_ q cI cZ n d va vb vc ve vth vtu u2 ++ WN_ q9 cI cJ cZ n d wl r) H := hP
      have hD : va_D (fun q : Nat => s.heap.size ≤ q) (WL_ q cI cZ n d va vb vc ve vth vtu u2 ++ WN_ q9 cI cJ cZ n d wl r) := hD
      refine lv_aload_n hx hb dL_law_408 rfl (lv_at hl 3 rfl) ?_
      refine lv_aload_n hx hb dL_law_409 rfl (lv_at hl 1 rfl) ?_
      refine lv_iload_n hx hb dL_law_410 rfl (lv_at hl 0 rfl) ?_
      refine lv_iconst (v := (1 : Int32)) hx hb dL_law_411 (by decide) ?_
      refine lv_iadd hx hb dL_law_412 ?_
      refine va_sld hx hb hX hbl hbA hS (hin 1 (by decide)) dL_law_413 ?_
      refine k_iY (va_runV (As := [.int (xs (nI (1 + 5 * j) + (1 : Int32)).toNatClampNeg)]) (rest := [.int a]) ⟨hx, hb, hml, hown, hts⟩ (kX6_poly l D q9 cI cJ cZ tP H.size (nI d) (nI n) r.1 r.2.1 r.2.2.1 wl r.2.2.2.1 r.2.2.2.2.1 r.2.2.2.2.2.1 r.2.2.2.2.2.2.1 r.2.2.2.2.2.2.2.1 r.2.2.2.2.2.2.2.2 (xs (nI (1 + 5 * j) + (1 : Int32)).toNatClampNeg) (a, t2) e6) (cwV 1 hts gL_law_X6_poly rfl rfl rfl (by decide +kernel) ⟨Nat.le_of_ble_eq_true rfl, Nat.le_of_ble_eq_true rfl⟩) ⟨cPre_blind, va_recv hK (va_P_r hP) (ci := 6) (q0 := 0) rfl rfl, cPre_at (va_P_r hP) hK hN (va_D_r hD) hS hA hZ⟩ rfl rfl hl.1 rfl (lv_room (Nat.le_of_ble_eq_true rfl)) dL_law_414 ⟨(show 34 + 8 * j + 0 + 0 ≤ 639168 by omega), (show 21318 + 32 * j + 0 + 0 ≤ 7184745 by omega)⟩) hP hD hS hA (fun H locs hP hD hS => ?_)
      have hP : va_P D vwCl (WL_ q cI cZ n d va vb vc ve vth vtu u2 ++ WN_ q9 cI cJ cZ n d wl (sT_ r t2)) H := hP
      have hD : va_D (fun q : Nat => s.heap.size ≤ q) (WL_ q cI cZ n d va vb vc ve vth vtu u2 ++ WN_ q9 cI cJ cZ n d wl (sT_ r t2)) := hD
      refine lv_icmp_eq (tgt := 669) hx hb dL_law_417 (by decide) (fun _ => ?_) (fun cc => absurd rfl cc)
      exact K669 n va vb vc ve vth vtu wl u2 (sT_ r t2) H locs ls _ _ (by omega) (by omega) hJ hP hD hS hl
    by_cases c11 : op = (10 : Int32)
    · refine lv_tableIn (off := 380) (tgt := 422) hx hb dL_law_42 (by rw [c11]; decide) (by rw [c11]; decide) (by rw [c11]; rfl) (by decide) ?_
      obtain ⟨a, u2, t2, e5, e6, hJ⟩ := j_without hJ (xs (nI (1 + 5 * j) + (1 : Int32)).toNatClampNeg) (xs (nI (1 + 5 * j) + (2 : Int32)).toNatClampNeg)
      refine lv_aload_n hx hb dL_law_422 rfl (lv_at hl 2 rfl) ?_
      refine lv_aload_n hx hb dL_law_423 rfl (lv_at hl 1 rfl) ?_
      refine lv_iload_n hx hb dL_law_424 rfl (lv_at hl 0 rfl) ?_
      refine lv_iconst (v := (1 : Int32)) hx hb dL_law_425 (by decide) ?_
      refine lv_iadd hx hb dL_law_426 ?_
      refine va_sld hx hb hX hbl hbA hS (hin 1 (by decide)) dL_law_427 ?_
      refine lv_aload_n hx hb dL_law_428 rfl (lv_at hl 1 rfl) ?_
      refine lv_iload_n hx hb dL_law_429 rfl (lv_at hl 0 rfl) ?_
      refine lv_iconst (v := (2 : Int32)) hx hb dL_law_430 (by decide) ?_
      refine lv_iadd hx hb dL_law_431 ?_
      refine va_sld hx hb hX hbl hbA hS (hin 2 (by decide)) dL_law_432 ?_
      refine k_iX (va_runV (As := [.int (xs (nI (1 + 5 * j) + (1 : Int32)).toNatClampNeg), .int (xs (nI (1 + 5 * j) + (2 : Int32)).toNatClampNeg)]) (rest := []) ⟨hx, hb, hml, hown, hts⟩ (kX5_without l D q cI cJ cZ tP H.size (nI d) (nI n) u.1 u.2.1 u.2.2.1 va vb vc ve vth u.2.2.2.1 u.2.2.2.2.1 u.2.2.2.2.2.1 u.2.2.2.2.2.2.1 u.2.2.2.2.2.2.2.1 u.2.2.2.2.2.2.2.2.1 u.2.2.2.2.2.2.2.2.2.1 u.2.2.2.2.2.2.2.2.2.2.1 u.2.2.2.2.2.2.2.2.2.2.2.1 u.2.2.2.2.2.2.2.2.2.2.2.2.1 u.2.2.2.2.2.2.2.2.2.2.2.2.2.1 vtu u.2.2.2.2.2.2.2.2.2.2.2.2.2.2.1 u.2.2.2.2.2.2.2.2.2.2.2.2.2.2.2.1 u.2.2.2.2.2.2.2.2.2.2.2.2.2.2.2.2.1 u.2.2.2.2.2.2.2.2.2.2.2.2.2.2.2.2.2.1 u.2.2.2.2.2.2.2.2.2.2.2.2.2.2.2.2.2.2.1 u.2.2.2.2.2.2.2.2.2.2.2.2.2.2.2.2.2.2.2.1 u.2.2.2.2.2.2.2.2.2.2.2.2.2.2.2.2.2.2.2.2.1 u.2.2.2.2.2.2.2.2.2.2.2.2.2.2.2.2.2.2.2.2.2.1 u.2.2.2.2.2.2.2.2.2.2.2.2.2.2.2.2.2.2.2.2.2.2.1 u.2.2.2.2.2.2.2.2.2.2.2.2.2.2.2.2.2.2.2.2.2.2.2.1 u.2.2.2.2.2.2.2.2.2.2.2.2.2.2.2.2.2.2.2.2.2.2.2.2.1 u.2.2.2.2.2.2.2.2.2.2.2.2.2.2.2.2.2.2.2.2.2.2.2.2.2 (xs (nI (1 + 5 * j) + (1 : Int32)).toNatClampNeg) (xs (nI (1 + 5 * j) + (2 : Int32)).toNatClampNeg) (a, u2) e5) (cwV 2 hts gL_law_X5_without rfl rfl rfl (by decide +kernel) ⟨Nat.le_of_ble_eq_true rfl, Nat.le_of_ble_eq_true rfl⟩) ⟨cPre_blind, va_recv hK (va_P_l hP) (ci := 5) (q0 := 0) rfl rfl, cPre_at (va_P_l hP) hK hN (va_D_l hD) hS hA hZ⟩ rfl rfl hl.1 rfl (lv_room (Nat.le_of_ble_eq_true rfl)) dL_law_433 ⟨(show 34 + 8 * j + 0 ≤ 639168 by omega), (show 21318 + 32 * j + 0 ≤ 7184745 by omega)⟩) hP hD hS hA (fun H locs hP hD hS => ?_)
      have hP : va_P D vwCl (WL_ q cI cZ n d va vb vc ve vth vtu u2 ++ WN_ q9 cI cJ cZ n d wl r) H := hP
      have hD : va_D (fun q : Nat => s.heap.size ≤ q) (WL_ q cI cZ n d va vb vc ve vth vtu u2 ++ WN_ q9 cI cJ cZ n d wl r) := hD
      refine lv_aload_n hx hb dL_law_436 rfl (lv_at hl 3 rfl) ?_
      refine lv_aload_n hx hb dL_law_437 rfl (lv_at hl 1 rfl) ?_
      refine lv_iload_n hx hb dL_law_438 rfl (lv_at hl 0 rfl) ?_
      refine lv_iconst (v := (1 : Int32)) hx hb dL_law_439 (by decide) ?_
      refine lv_iadd hx hb dL_law_440 ?_
      refine va_sld hx hb hX hbl hbA hS (hin 1 (by decide)) dL_law_441 ?_
      refine lv_aload_n hx hb dL_law_442 rfl (lv_at hl 1 rfl) ?_
      refine lv_iload_n hx hb dL_law_443 rfl (lv_at hl 0 rfl) ?_
      refine lv_iconst (v := (2 : Int32)) hx hb dL_law_444 (by decide) ?_
      refine lv_iadd hx hb dL_law_445 ?_
      refine va_sld hx hb hX hbl hbA hS (hin 2 (by decide)) dL_law_446 ?_
      refine k_iY (va_runV (As := [.int (xs (nI (1 + 5 * j) + (1 : Int32)).toNatClampNeg), .int (xs (nI (1 + 5 * j) + (2 : Int32)).toNatClampNeg)]) (rest := [.int a]) ⟨hx, hb, hml, hown, hts⟩ (kX6_without l D q9 cI cJ cZ tP H.size (nI d) (nI n) r.1 r.2.1 r.2.2.1 wl r.2.2.2.1 r.2.2.2.2.1 r.2.2.2.2.2.1 r.2.2.2.2.2.2.1 r.2.2.2.2.2.2.2.1 r.2.2.2.2.2.2.2.2 (xs (nI (1 + 5 * j) + (1 : Int32)).toNatClampNeg) (xs (nI (1 + 5 * j) + (2 : Int32)).toNatClampNeg) (a, t2) e6) (cwV 2 hts gL_law_X6_without rfl rfl rfl (by decide +kernel) ⟨Nat.le_of_ble_eq_true rfl, Nat.le_of_ble_eq_true rfl⟩) ⟨cPre_blind, va_recv hK (va_P_r hP) (ci := 6) (q0 := 0) rfl rfl, cPre_at (va_P_r hP) hK hN (va_D_r hD) hS hA hZ⟩ rfl rfl hl.1 rfl (lv_room (Nat.le_of_ble_eq_true rfl)) dL_law_447 ⟨(show 34 + 8 * j + 0 + 0 ≤ 639168 by omega), (show 21318 + 32 * j + 0 + 0 ≤ 7184745 by omega)⟩) hP hD hS hA (fun H locs hP hD hS => ?_)
      have hP : va_P D vwCl (WL_ q cI cZ n d va vb vc ve vth vtu u2 ++ WN_ q9 cI cJ cZ n d wl (sT_ r t2)) H := hP
      have hD : va_D (fun q : Nat => s.heap.size ≤ q) (WL_ q cI cZ n d va vb vc ve vth vtu u2 ++ WN_ q9 cI cJ cZ n d wl (sT_ r t2)) := hD
      refine lv_icmp_eq (tgt := 669) hx hb dL_law_450 (by decide) (fun _ => ?_) (fun cc => absurd rfl cc)
      exact K669 n va vb vc ve vth vtu wl u2 (sT_ r t2) H locs ls _ _ (by omega) (by omega) hJ hP hD hS hl
    by_cases c12 : op = (11 : Int32)
    · refine lv_tableIn (off := 413) (tgt := 455) hx hb dL_law_42 (by rw [c12]; decide) (by rw [c12]; decide) (by rw [c12]; rfl) (by decide) ?_
      obtain ⟨a, u2, t2, e5, e6, hJ⟩ := j_on hJ (xs (nI (1 + 5 * j) + (1 : Int32)).toNatClampNeg) (xs (nI (1 + 5 * j) + (2 : Int32)).toNatClampNeg)
      refine lv_aload_n hx hb dL_law_455 rfl (lv_at hl 2 rfl) ?_
      refine lv_aload_n hx hb dL_law_456 rfl (lv_at hl 1 rfl) ?_
      refine lv_iload_n hx hb dL_law_457 rfl (lv_at hl 0 rfl) ?_
      refine lv_iconst (v := (1 : Int32)) hx hb dL_law_458 (by decide) ?_
      refine lv_iadd hx hb dL_law_459 ?_
      refine va_sld hx hb hX hbl hbA hS (hin 1 (by decide)) dL_law_460 ?_
      refine lv_aload_n hx hb dL_law_461 rfl (lv_at hl 1 rfl) ?_
      refine lv_iload_n hx hb dL_law_462 rfl (lv_at hl 0 rfl) ?_
      refine lv_iconst (v := (2 : Int32)) hx hb dL_law_463 (by decide) ?_
      refine lv_iadd hx hb dL_law_464 ?_
      refine va_sld hx hb hX hbl hbA hS (hin 2 (by decide)) dL_law_465 ?_
      refine k_iX (va_runV (As := [.int (xs (nI (1 + 5 * j) + (1 : Int32)).toNatClampNeg), .int (xs (nI (1 + 5 * j) + (2 : Int32)).toNatClampNeg)]) (rest := []) ⟨hx, hb, hml, hown, hts⟩ (kX5_on l D q cI cJ cZ tP H.size (nI d) (nI n) u.1 u.2.1 u.2.2.1 va vb vc ve vth u.2.2.2.1 u.2.2.2.2.1 u.2.2.2.2.2.1 u.2.2.2.2.2.2.1 u.2.2.2.2.2.2.2.1 u.2.2.2.2.2.2.2.2.1 u.2.2.2.2.2.2.2.2.2.1 u.2.2.2.2.2.2.2.2.2.2.1 u.2.2.2.2.2.2.2.2.2.2.2.1 u.2.2.2.2.2.2.2.2.2.2.2.2.1 u.2.2.2.2.2.2.2.2.2.2.2.2.2.1 vtu u.2.2.2.2.2.2.2.2.2.2.2.2.2.2.1 u.2.2.2.2.2.2.2.2.2.2.2.2.2.2.2.1 u.2.2.2.2.2.2.2.2.2.2.2.2.2.2.2.2.1 u.2.2.2.2.2.2.2.2.2.2.2.2.2.2.2.2.2.1 u.2.2.2.2.2.2.2.2.2.2.2.2.2.2.2.2.2.2.1 u.2.2.2.2.2.2.2.2.2.2.2.2.2.2.2.2.2.2.2.1 u.2.2.2.2.2.2.2.2.2.2.2.2.2.2.2.2.2.2.2.2.1 u.2.2.2.2.2.2.2.2.2.2.2.2.2.2.2.2.2.2.2.2.2.1 u.2.2.2.2.2.2.2.2.2.2.2.2.2.2.2.2.2.2.2.2.2.2.1 u.2.2.2.2.2.2.2.2.2.2.2.2.2.2.2.2.2.2.2.2.2.2.2.1 u.2.2.2.2.2.2.2.2.2.2.2.2.2.2.2.2.2.2.2.2.2.2.2.2.1 u.2.2.2.2.2.2.2.2.2.2.2.2.2.2.2.2.2.2.2.2.2.2.2.2.2 (xs (nI (1 + 5 * j) + (1 : Int32)).toNatClampNeg) (xs (nI (1 + 5 * j) + (2 : Int32)).toNatClampNeg) (a, u2) e5) (cwV 2 hts gL_law_X5_on rfl rfl rfl (by decide +kernel) ⟨Nat.le_of_ble_eq_true rfl, Nat.le_of_ble_eq_true rfl⟩) ⟨cPre_blind, va_recv hK (va_P_l hP) (ci := 5) (q0 := 0) rfl rfl, cPre_at (va_P_l hP) hK hN (va_D_l hD) hS hA hZ⟩ rfl rfl hl.1 rfl (lv_room (Nat.le_of_ble_eq_true rfl)) dL_law_466 ⟨(show 34 + 8 * j + 0 ≤ 639168 by omega), (show 21318 + 32 * j + 0 ≤ 7184745 by omega)⟩) hP hD hS hA (fun H locs hP hD hS => ?_)
      have hP : va_P D vwCl (WL_ q cI cZ n d va vb vc ve vth vtu u2 ++ WN_ q9 cI cJ cZ n d wl r) H := hP
      have hD : va_D (fun q : Nat => s.heap.size ≤ q) (WL_ q cI cZ n d va vb vc ve vth vtu u2 ++ WN_ q9 cI cJ cZ n d wl r) := hD
      refine lv_aload_n hx hb dL_law_469 rfl (lv_at hl 3 rfl) ?_
      refine lv_aload_n hx hb dL_law_470 rfl (lv_at hl 1 rfl) ?_
      refine lv_iload_n hx hb dL_law_471 rfl (lv_at hl 0 rfl) ?_
      refine lv_iconst (v := (1 : Int32)) hx hb dL_law_472 (by decide) ?_
      refine lv_iadd hx hb dL_law_473 ?_
      refine va_sld hx hb hX hbl hbA hS (hin 1 (by decide)) dL_law_474 ?_
      refine lv_aload_n hx hb dL_law_475 rfl (lv_at hl 1 rfl) ?_
      refine lv_iload_n hx hb dL_law_476 rfl (lv_at hl 0 rfl) ?_
      refine lv_iconst (v := (2 : Int32)) hx hb dL_law_477 (by decide) ?_
      refine lv_iadd hx hb dL_law_478 ?_
      refine va_sld hx hb hX hbl hbA hS (hin 2 (by decide)) dL_law_479 ?_
      refine k_iY (va_runV (As := [.int (xs (nI (1 + 5 * j) + (1 : Int32)).toNatClampNeg), .int (xs (nI (1 + 5 * j) + (2 : Int32)).toNatClampNeg)]) (rest := [.int a]) ⟨hx, hb, hml, hown, hts⟩ (kX6_on l D q9 cI cJ cZ tP H.size (nI d) (nI n) r.1 r.2.1 r.2.2.1 wl r.2.2.2.1 r.2.2.2.2.1 r.2.2.2.2.2.1 r.2.2.2.2.2.2.1 r.2.2.2.2.2.2.2.1 r.2.2.2.2.2.2.2.2 (xs (nI (1 + 5 * j) + (1 : Int32)).toNatClampNeg) (xs (nI (1 + 5 * j) + (2 : Int32)).toNatClampNeg) (a, t2) e6) (cwV 2 hts gL_law_X6_on rfl rfl rfl (by decide +kernel) ⟨Nat.le_of_ble_eq_true rfl, Nat.le_of_ble_eq_true rfl⟩) ⟨cPre_blind, va_recv hK (va_P_r hP) (ci := 6) (q0 := 0) rfl rfl, cPre_at (va_P_r hP) hK hN (va_D_r hD) hS hA hZ⟩ rfl rfl hl.1 rfl (lv_room (Nat.le_of_ble_eq_true rfl)) dL_law_480 ⟨(show 34 + 8 * j + 0 + 0 ≤ 639168 by omega), (show 21318 + 32 * j + 0 + 0 ≤ 7184745 by omega)⟩) hP hD hS hA (fun H locs hP hD hS => ?_)
      have hP : va_P D vwCl (WL_ q cI cZ n d va vb vc ve vth vtu u2 ++ WN_ q9 cI cJ cZ n d wl (sT_ r t2)) H := hP
      have hD : va_D (fun q : Nat => s.heap.size ≤ q) (WL_ q cI cZ n d va vb vc ve vth vtu u2 ++ WN_ q9 cI cJ cZ n d wl (sT_ r t2)) := hD
      refine lv_icmp_eq (tgt := 669) hx hb dL_law_483 (by decide) (fun _ => ?_) (fun cc => absurd rfl cc)
      exact K669 n va vb vc ve vth vtu wl u2 (sT_ r t2) H locs ls _ _ (by omega) (by omega) hJ hP hD hS hl
    by_cases c13 : op = (12 : Int32)
    · refine lv_tableIn (off := 446) (tgt := 488) hx hb dL_law_42 (by rw [c13]; decide) (by rw [c13]; decide) (by rw [c13]; rfl) (by decide) ?_
      obtain ⟨a, u2, t2, e5, e6, hJ⟩ := j_walls hJ (xs (nI (1 + 5 * j) + (1 : Int32)).toNatClampNeg)
      refine lv_aload_n hx hb dL_law_488 rfl (lv_at hl 2 rfl) ?_
      refine lv_aload_n hx hb dL_law_489 rfl (lv_at hl 1 rfl) ?_
      refine lv_iload_n hx hb dL_law_490 rfl (lv_at hl 0 rfl) ?_
      refine lv_iconst (v := (1 : Int32)) hx hb dL_law_491 (by decide) ?_
      refine lv_iadd hx hb dL_law_492 ?_
      refine va_sld hx hb hX hbl hbA hS (hin 1 (by decide)) dL_law_493 ?_
      refine k_iX (va_runV (As := [.int (xs (nI (1 + 5 * j) + (1 : Int32)).toNatClampNeg)]) (rest := []) ⟨hx, hb, hml, hown, hts⟩ (kX5_walls l D q cI cJ cZ tP H.size (nI d) (nI n) u.1 u.2.1 u.2.2.1 va vb vc ve vth u.2.2.2.1 u.2.2.2.2.1 u.2.2.2.2.2.1 u.2.2.2.2.2.2.1 u.2.2.2.2.2.2.2.1 u.2.2.2.2.2.2.2.2.1 u.2.2.2.2.2.2.2.2.2.1 u.2.2.2.2.2.2.2.2.2.2.1 u.2.2.2.2.2.2.2.2.2.2.2.1 u.2.2.2.2.2.2.2.2.2.2.2.2.1 u.2.2.2.2.2.2.2.2.2.2.2.2.2.1 vtu u.2.2.2.2.2.2.2.2.2.2.2.2.2.2.1 u.2.2.2.2.2.2.2.2.2.2.2.2.2.2.2.1 u.2.2.2.2.2.2.2.2.2.2.2.2.2.2.2.2.1 u.2.2.2.2.2.2.2.2.2.2.2.2.2.2.2.2.2.1 u.2.2.2.2.2.2.2.2.2.2.2.2.2.2.2.2.2.2.1 u.2.2.2.2.2.2.2.2.2.2.2.2.2.2.2.2.2.2.2.1 u.2.2.2.2.2.2.2.2.2.2.2.2.2.2.2.2.2.2.2.2.1 u.2.2.2.2.2.2.2.2.2.2.2.2.2.2.2.2.2.2.2.2.2.1 u.2.2.2.2.2.2.2.2.2.2.2.2.2.2.2.2.2.2.2.2.2.2.1 u.2.2.2.2.2.2.2.2.2.2.2.2.2.2.2.2.2.2.2.2.2.2.2.1 u.2.2.2.2.2.2.2.2.2.2.2.2.2.2.2.2.2.2.2.2.2.2.2.2.1 u.2.2.2.2.2.2.2.2.2.2.2.2.2.2.2.2.2.2.2.2.2.2.2.2.2 (xs (nI (1 + 5 * j) + (1 : Int32)).toNatClampNeg) (a, u2) e5) (cwV 1 hts gL_law_X5_walls rfl rfl rfl (by decide +kernel) ⟨Nat.le_of_ble_eq_true rfl, Nat.le_of_ble_eq_true rfl⟩) ⟨cPre_blind, va_recv hK (va_P_l hP) (ci := 5) (q0 := 0) rfl rfl, cPre_at (va_P_l hP) hK hN (va_D_l hD) hS hA hZ⟩ rfl rfl hl.1 rfl (lv_room (Nat.le_of_ble_eq_true rfl)) dL_law_494 ⟨(show 34 + 8 * j + 0 ≤ 639168 by omega), (show 21318 + 32 * j + 0 ≤ 7184745 by omega)⟩) hP hD hS hA (fun H locs hP hD hS => ?_)
      have hP : va_P D vwCl (WL_ q cI cZ n d va vb vc ve vth vtu u2 ++ WN_ q9 cI cJ cZ n d wl r) H := hP
      have hD : va_D (fun q : Nat => s.heap.size ≤ q) (WL_ q cI cZ n d va vb vc ve vth vtu u2 ++ WN_ q9 cI cJ cZ n d wl r) := hD
      refine lv_aload_n hx hb dL_law_497 rfl (lv_at hl 3 rfl) ?_
      refine lv_aload_n hx hb dL_law_498 rfl (lv_at hl 1 rfl) ?_
      refine lv_iload_n hx hb dL_law_499 rfl (lv_at hl 0 rfl) ?_
      refine lv_iconst (v := (1 : Int32)) hx hb dL_law_500 (by decide) ?_
      refine lv_iadd hx hb dL_law_501 ?_
      refine va_sld hx hb hX hbl hbA hS (hin 1 (by decide)) dL_law_502 ?_
      refine k_iY (va_runV (As := [.int (xs (nI (1 + 5 * j) + (1 : Int32)).toNatClampNeg)]) (rest := [.int a]) ⟨hx, hb, hml, hown, hts⟩ (kX6_walls l D q9 cI cJ cZ tP H.size (nI d) (nI n) r.1 r.2.1 r.2.2.1 wl r.2.2.2.1 r.2.2.2.2.1 r.2.2.2.2.2.1 r.2.2.2.2.2.2.1 r.2.2.2.2.2.2.2.1 r.2.2.2.2.2.2.2.2 (xs (nI (1 + 5 * j) + (1 : Int32)).toNatClampNeg) (a, t2) e6) (cwV 1 hts gL_law_X6_walls rfl rfl rfl (by decide +kernel) ⟨Nat.le_of_ble_eq_true rfl, Nat.le_of_ble_eq_true rfl⟩) ⟨cPre_blind, va_recv hK (va_P_r hP) (ci := 6) (q0 := 0) rfl rfl, cPre_at (va_P_r hP) hK hN (va_D_r hD) hS hA hZ⟩ rfl rfl hl.1 rfl (lv_room (Nat.le_of_ble_eq_true rfl)) dL_law_503 ⟨(show 34 + 8 * j + 0 + 0 ≤ 639168 by omega), (show 21318 + 32 * j + 0 + 0 ≤ 7184745 by omega)⟩) hP hD hS hA (fun H locs hP hD hS => ?_)
      have hP : va_P D vwCl (WL_ q cI cZ n d va vb vc ve vth vtu u2 ++ WN_ q9 cI cJ cZ n d wl (s9_ t2 r.2.2.2.2.2.2.2.2)) H := hP
      have hD : va_D (fun q : Nat => s.heap.size ≤ q) (WL_ q cI cZ n d va vb vc ve vth vtu u2 ++ WN_ q9 cI cJ cZ n d wl (s9_ t2 r.2.2.2.2.2.2.2.2)) := hD
      refine lv_icmp_eq (tgt := 669) hx hb dL_law_506 (by decide) (fun _ => ?_) (fun cc => absurd rfl cc)
      exact K669 n va vb vc ve vth vtu wl u2 (s9_ t2 r.2.2.2.2.2.2.2.2) H locs ls _ _ (by omega) (by omega) hJ hP hD hS hl
    by_cases c14 : op = (13 : Int32)
    · refine lv_tableIn (off := 469) (tgt := 511) hx hb dL_law_42 (by rw [c14]; decide) (by rw [c14]; decide) (by rw [c14]; rfl) (by decide) ?_
      obtain ⟨a, u2, t2, e5, e6, hJ⟩ := j_beside hJ (xs (nI (1 + 5 * j) + (1 : Int32)).toNatClampNeg) (xs (nI (1 + 5 * j) + (2 : Int32)).toNatClampNeg)
      refine lv_aload_n hx hb dL_law_511 rfl (lv_at hl 2 rfl) ?_
      refine lv_aload_n hx hb dL_law_512 rfl (lv_at hl 1 rfl) ?_
      refine lv_iload_n hx hb dL_law_513 rfl (lv_at hl 0 rfl) ?_
      refine lv_iconst (v := (1 : Int32)) hx hb dL_law_514 (by decide) ?_
      refine lv_iadd hx hb dL_law_515 ?_
      refine va_sld hx hb hX hbl hbA hS (hin 1 (by decide)) dL_law_516 ?_
      refine lv_aload_n hx hb dL_law_517 rfl (lv_at hl 1 rfl) ?_
      refine lv_iload_n hx hb dL_law_518 rfl (lv_at hl 0 rfl) ?_
      refine lv_iconst (v := (2 : Int32)) hx hb dL_law_519 (by decide) ?_
      refine lv_iadd hx hb dL_law_520 ?_
      refine va_sld hx hb hX hbl hbA hS (hin 2 (by decide)) dL_law_521 ?_
      refine k_iX (va_runV (As := [.int (xs (nI (1 + 5 * j) + (1 : Int32)).toNatClampNeg), .int (xs (nI (1 + 5 * j) + (2 : Int32)).toNatClampNeg)]) (rest := []) ⟨hx, hb, hml, hown, hts⟩ (kX5_beside l D q cI cJ cZ tP H.size (nI d) (nI n) u.1 u.2.1 u.2.2.1 va vb vc ve vth u.2.2.2.1 u.2.2.2.2.1 u.2.2.2.2.2.1 u.2.2.2.2.2.2.1 u.2.2.2.2.2.2.2.1 u.2.2.2.2.2.2.2.2.1 u.2.2.2.2.2.2.2.2.2.1 u.2.2.2.2.2.2.2.2.2.2.1 u.2.2.2.2.2.2.2.2.2.2.2.1 u.2.2.2.2.2.2.2.2.2.2.2.2.1 u.2.2.2.2.2.2.2.2.2.2.2.2.2.1 vtu u.2.2.2.2.2.2.2.2.2.2.2.2.2.2.1 u.2.2.2.2.2.2.2.2.2.2.2.2.2.2.2.1 u.2.2.2.2.2.2.2.2.2.2.2.2.2.2.2.2.1 u.2.2.2.2.2.2.2.2.2.2.2.2.2.2.2.2.2.1 u.2.2.2.2.2.2.2.2.2.2.2.2.2.2.2.2.2.2.1 u.2.2.2.2.2.2.2.2.2.2.2.2.2.2.2.2.2.2.2.1 u.2.2.2.2.2.2.2.2.2.2.2.2.2.2.2.2.2.2.2.2.1 u.2.2.2.2.2.2.2.2.2.2.2.2.2.2.2.2.2.2.2.2.2.1 u.2.2.2.2.2.2.2.2.2.2.2.2.2.2.2.2.2.2.2.2.2.2.1 u.2.2.2.2.2.2.2.2.2.2.2.2.2.2.2.2.2.2.2.2.2.2.2.1 u.2.2.2.2.2.2.2.2.2.2.2.2.2.2.2.2.2.2.2.2.2.2.2.2.1 u.2.2.2.2.2.2.2.2.2.2.2.2.2.2.2.2.2.2.2.2.2.2.2.2.2 (xs (nI (1 + 5 * j) + (1 : Int32)).toNatClampNeg) (xs (nI (1 + 5 * j) + (2 : Int32)).toNatClampNeg) (a, u2) e5) (cwV 2 hts gL_law_X5_beside rfl rfl rfl (by decide +kernel) ⟨Nat.le_of_ble_eq_true rfl, Nat.le_of_ble_eq_true rfl⟩) ⟨cPre_blind, va_recv hK (va_P_l hP) (ci := 5) (q0 := 0) rfl rfl, cPre_at (va_P_l hP) hK hN (va_D_l hD) hS hA hZ⟩ rfl rfl hl.1 rfl (lv_room (Nat.le_of_ble_eq_true rfl)) dL_law_522 ⟨(show 34 + 8 * j + 0 ≤ 639168 by omega), (show 21318 + 32 * j + 0 ≤ 7184745 by omega)⟩) hP hD hS hA (fun H locs hP hD hS => ?_)
      have hP : va_P D vwCl (WL_ q cI cZ n d va vb vc ve vth vtu u2 ++ WN_ q9 cI cJ cZ n d wl r) H := hP
      have hD : va_D (fun q : Nat => s.heap.size ≤ q) (WL_ q cI cZ n d va vb vc ve vth vtu u2 ++ WN_ q9 cI cJ cZ n d wl r) := hD
      refine lv_aload_n hx hb dL_law_525 rfl (lv_at hl 3 rfl) ?_
      refine lv_aload_n hx hb dL_law_526 rfl (lv_at hl 1 rfl) ?_
      refine lv_iload_n hx hb dL_law_527 rfl (lv_at hl 0 rfl) ?_
      refine lv_iconst (v := (1 : Int32)) hx hb dL_law_528 (by decide) ?_
      refine lv_iadd hx hb dL_law_529 ?_
      refine va_sld hx hb hX hbl hbA hS (hin 1 (by decide)) dL_law_530 ?_
      refine lv_aload_n hx hb dL_law_531 rfl (lv_at hl 1 rfl) ?_
      refine lv_iload_n hx hb dL_law_532 rfl (lv_at hl 0 rfl) ?_
      refine lv_iconst (v := (2 : Int32)) hx hb dL_law_533 (by decide) ?_
      refine lv_iadd hx hb dL_law_534 ?_
      refine va_sld hx hb hX hbl hbA hS (hin 2 (by decide)) dL_law_535 ?_
      refine k_iY (va_runV (As := [.int (xs (nI (1 + 5 * j) + (1 : Int32)).toNatClampNeg), .int (xs (nI (1 + 5 * j) + (2 : Int32)).toNatClampNeg)]) (rest := [.int a]) ⟨hx, hb, hml, hown, hts⟩ (kX6_beside l D q9 cI cJ cZ tP H.size (nI d) (nI n) r.1 r.2.1 r.2.2.1 wl r.2.2.2.1 r.2.2.2.2.1 r.2.2.2.2.2.1 r.2.2.2.2.2.2.1 r.2.2.2.2.2.2.2.1 r.2.2.2.2.2.2.2.2 (xs (nI (1 + 5 * j) + (1 : Int32)).toNatClampNeg) (xs (nI (1 + 5 * j) + (2 : Int32)).toNatClampNeg) (a, t2) e6) (cwV 2 hts gL_law_X6_beside rfl rfl rfl (by decide +kernel) ⟨Nat.le_of_ble_eq_true rfl, Nat.le_of_ble_eq_true rfl⟩) ⟨cPre_blind, va_recv hK (va_P_r hP) (ci := 6) (q0 := 0) rfl rfl, cPre_at (va_P_r hP) hK hN (va_D_r hD) hS hA hZ⟩ rfl rfl hl.1 rfl (lv_room (Nat.le_of_ble_eq_true rfl)) dL_law_536 ⟨(show 34 + 8 * j + 0 + 0 ≤ 639168 by omega), (show 21318 + 32 * j + 0 + 0 ≤ 7184745 by omega)⟩) hP hD hS hA (fun H locs hP hD hS => ?_)
      have hP : va_P D vwCl (WL_ q cI cZ n d va vb vc ve vth vtu u2 ++ WN_ q9 cI cJ cZ n d wl (s9_ t2 r.2.2.2.2.2.2.2.2)) H := hP
      have hD : va_D (fun q : Nat => s.heap.size ≤ q) (WL_ q cI cZ n d va vb vc ve vth vtu u2 ++ WN_ q9 cI cJ cZ n d wl (s9_ t2 r.2.2.2.2.2.2.2.2)) := hD
      refine lv_icmp_eq (tgt := 669) hx hb dL_law_539 (by decide) (fun _ => ?_) (fun cc => absurd rfl cc)
      exact K669 n va vb vc ve vth vtu wl u2 (s9_ t2 r.2.2.2.2.2.2.2.2) H locs ls _ _ (by omega) (by omega) hJ hP hD hS hl
    by_cases c15 : op = (14 : Int32)
    · refine lv_tableIn (off := 502) (tgt := 544) hx hb dL_law_42 (by rw [c15]; decide) (by rw [c15]; decide) (by rw [c15]; rfl) (by decide) ?_
      obtain ⟨a, u2, t2, e5, e6, hJ⟩ := j_way hJ (xs (nI (1 + 5 * j) + (1 : Int32)).toNatClampNeg) (xs (nI (1 + 5 * j) + (2 : Int32)).toNatClampNeg)
      refine lv_aload_n hx hb dL_law_544 rfl (lv_at hl 2 rfl) ?_
      refine lv_aload_n hx hb dL_law_545 rfl (lv_at hl 1 rfl) ?_
      refine lv_iload_n hx hb dL_law_546 rfl (lv_at hl 0 rfl) ?_
      refine lv_iconst (v := (1 : Int32)) hx hb dL_law_547 (by decide) ?_
      refine lv_iadd hx hb dL_law_548 ?_
      refine va_sld hx hb hX hbl hbA hS (hin 1 (by decide)) dL_law_549 ?_
      refine lv_aload_n hx hb dL_law_550 rfl (lv_at hl 1 rfl) ?_
      refine lv_iload_n hx hb dL_law_551 rfl (lv_at hl 0 rfl) ?_
      refine lv_iconst (v := (2 : Int32)) hx hb dL_law_552 (by decide) ?_
      refine lv_iadd hx hb dL_law_553 ?_
      refine va_sld hx hb hX hbl hbA hS (hin 2 (by decide)) dL_law_554 ?_
      refine k_iX (va_runV (As := [.int (xs (nI (1 + 5 * j) + (1 : Int32)).toNatClampNeg), .int (xs (nI (1 + 5 * j) + (2 : Int32)).toNatClampNeg)]) (rest := []) ⟨hx, hb, hml, hown, hts⟩ (kX5_way l D q cI cJ cZ tP H.size (nI d) (nI n) u.1 u.2.1 u.2.2.1 va vb vc ve vth u.2.2.2.1 u.2.2.2.2.1 u.2.2.2.2.2.1 u.2.2.2.2.2.2.1 u.2.2.2.2.2.2.2.1 u.2.2.2.2.2.2.2.2.1 u.2.2.2.2.2.2.2.2.2.1 u.2.2.2.2.2.2.2.2.2.2.1 u.2.2.2.2.2.2.2.2.2.2.2.1 u.2.2.2.2.2.2.2.2.2.2.2.2.1 u.2.2.2.2.2.2.2.2.2.2.2.2.2.1 vtu u.2.2.2.2.2.2.2.2.2.2.2.2.2.2.1 u.2.2.2.2.2.2.2.2.2.2.2.2.2.2.2.1 u.2.2.2.2.2.2.2.2.2.2.2.2.2.2.2.2.1 u.2.2.2.2.2.2.2.2.2.2.2.2.2.2.2.2.2.1 u.2.2.2.2.2.2.2.2.2.2.2.2.2.2.2.2.2.2.1 u.2.2.2.2.2.2.2.2.2.2.2.2.2.2.2.2.2.2.2.1 u.2.2.2.2.2.2.2.2.2.2.2.2.2.2.2.2.2.2.2.2.1 u.2.2.2.2.2.2.2.2.2.2.2.2.2.2.2.2.2.2.2.2.2.1 u.2.2.2.2.2.2.2.2.2.2.2.2.2.2.2.2.2.2.2.2.2.2.1 u.2.2.2.2.2.2.2.2.2.2.2.2.2.2.2.2.2.2.2.2.2.2.2.1 u.2.2.2.2.2.2.2.2.2.2.2.2.2.2.2.2.2.2.2.2.2.2.2.2.1 u.2.2.2.2.2.2.2.2.2.2.2.2.2.2.2.2.2.2.2.2.2.2.2.2.2 (xs (nI (1 + 5 * j) + (1 : Int32)).toNatClampNeg) (xs (nI (1 + 5 * j) + (2 : Int32)).toNatClampNeg) (a, u2) e5) (cwV 2 hts gL_law_X5_way rfl rfl rfl (by decide +kernel) ⟨Nat.le_of_ble_eq_true rfl, Nat.le_of_ble_eq_true rfl⟩) ⟨cPre_blind, va_recv hK (va_P_l hP) (ci := 5) (q0 := 0) rfl rfl, cPre_at (va_P_l hP) hK hN (va_D_l hD) hS hA hZ⟩ rfl rfl hl.1 rfl (lv_room (Nat.le_of_ble_eq_true rfl)) dL_law_555 ⟨(show 34 + 8 * j + 0 ≤ 639168 by omega), (show 21318 + 32 * j + 0 ≤ 7184745 by omega)⟩) hP hD hS hA (fun H locs hP hD hS => ?_)
      have hP : va_P D vwCl (WL_ q cI cZ n d va vb vc ve vth vtu u2 ++ WN_ q9 cI cJ cZ n d wl r) H := hP
      have hD : va_D (fun q : Nat => s.heap.size ≤ q) (WL_ q cI cZ n d va vb vc ve vth vtu u2 ++ WN_ q9 cI cJ cZ n d wl r) := hD
      refine lv_aload_n hx hb dL_law_558 rfl (lv_at hl 3 rfl) ?_
      refine lv_aload_n hx hb dL_law_559 rfl (lv_at hl 1 rfl) ?_
      refine lv_iload_n hx hb dL_law_560 rfl (lv_at hl 0 rfl) ?_
      refine lv_iconst (v := (1 : Int32)) hx hb dL_law_561 (by decide) ?_
      refine lv_iadd hx hb dL_law_562 ?_
      refine va_sld hx hb hX hbl hbA hS (hin 1 (by decide)) dL_law_563 ?_
      refine lv_aload_n hx hb dL_law_564 rfl (lv_at hl 1 rfl) ?_
      refine lv_iload_n hx hb dL_law_565 rfl (lv_at hl 0 rfl) ?_
      refine lv_iconst (v := (2 : Int32)) hx hb dL_law_566 (by decide) ?_
      refine lv_iadd hx hb dL_law_567 ?_
      refine va_sld hx hb hX hbl hbA hS (hin 2 (by decide)) dL_law_568 ?_
      refine k_iY (va_runV (As := [.int (xs (nI (1 + 5 * j) + (1 : Int32)).toNatClampNeg), .int (xs (nI (1 + 5 * j) + (2 : Int32)).toNatClampNeg)]) (rest := [.int a]) ⟨hx, hb, hml, hown, hts⟩ (kX6_way l D q9 cI cJ cZ tP H.size (nI d) (nI n) r.1 r.2.1 r.2.2.1 wl r.2.2.2.1 r.2.2.2.2.1 r.2.2.2.2.2.1 r.2.2.2.2.2.2.1 r.2.2.2.2.2.2.2.1 r.2.2.2.2.2.2.2.2 (xs (nI (1 + 5 * j) + (1 : Int32)).toNatClampNeg) (xs (nI (1 + 5 * j) + (2 : Int32)).toNatClampNeg) (a, t2) e6) (cwV 2 hts gL_law_X6_way rfl rfl rfl (by decide +kernel) ⟨Nat.le_of_ble_eq_true rfl, Nat.le_of_ble_eq_true rfl⟩) ⟨cPre_blind, va_recv hK (va_P_r hP) (ci := 6) (q0 := 0) rfl rfl, cPre_at (va_P_r hP) hK hN (va_D_r hD) hS hA hZ⟩ rfl rfl hl.1 rfl (lv_room (Nat.le_of_ble_eq_true rfl)) dL_law_569 ⟨(show 34 + 8 * j + 0 + 0 ≤ 639168 by omega), (show 21318 + 32 * j + 0 + 0 ≤ 7184745 by omega)⟩) hP hD hS hA (fun H locs hP hD hS => ?_)
      have hP : va_P D vwCl (WL_ q cI cZ n d va vb vc ve vth vtu u2 ++ WN_ q9 cI cJ cZ n d wl (s9_ t2 r.2.2.2.2.2.2.2.2)) H := hP
      have hD : va_D (fun q : Nat => s.heap.size ≤ q) (WL_ q cI cZ n d va vb vc ve vth vtu u2 ++ WN_ q9 cI cJ cZ n d wl (s9_ t2 r.2.2.2.2.2.2.2.2)) := hD
      refine lv_icmp_eq (tgt := 669) hx hb dL_law_572 (by decide) (fun _ => ?_) (fun cc => absurd rfl cc)
      exact K669 n va vb vc ve vth vtu wl u2 (s9_ t2 r.2.2.2.2.2.2.2.2) H locs ls _ _ (by omega) (by omega) hJ hP hD hS hl
    by_cases c16 : op = (15 : Int32)
    · refine lv_tableIn (off := 535) (tgt := 577) hx hb dL_law_42 (by rw [c16]; decide) (by rw [c16]; decide) (by rw [c16]; rfl) (by decide) ?_
      obtain ⟨a, u2, t2, e5, e6, hJ⟩ := j_step hJ (xs (nI (1 + 5 * j) + (1 : Int32)).toNatClampNeg) (xs (nI (1 + 5 * j) + (2 : Int32)).toNatClampNeg)
      refine lv_aload_n hx hb dL_law_577 rfl (lv_at hl 2 rfl) ?_
      refine lv_aload_n hx hb dL_law_578 rfl (lv_at hl 1 rfl) ?_
      refine lv_iload_n hx hb dL_law_579 rfl (lv_at hl 0 rfl) ?_
      refine lv_iconst (v := (1 : Int32)) hx hb dL_law_580 (by decide) ?_
      refine lv_iadd hx hb dL_law_581 ?_
      refine va_sld hx hb hX hbl hbA hS (hin 1 (by decide)) dL_law_582 ?_
      refine lv_aload_n hx hb dL_law_583 rfl (lv_at hl 1 rfl) ?_
      refine lv_iload_n hx hb dL_law_584 rfl (lv_at hl 0 rfl) ?_
      refine lv_iconst (v := (2 : Int32)) hx hb dL_law_585 (by decide) ?_
      refine lv_iadd hx hb dL_law_586 ?_
      refine va_sld hx hb hX hbl hbA hS (hin 2 (by decide)) dL_law_587 ?_
      refine k_iX (va_runV (As := [.int (xs (nI (1 + 5 * j) + (1 : Int32)).toNatClampNeg), .int (xs (nI (1 + 5 * j) + (2 : Int32)).toNatClampNeg)]) (rest := []) ⟨hx, hb, hml, hown, hts⟩ (kX5_step l D q cI cJ cZ tP H.size (nI d) (nI n) u.1 u.2.1 u.2.2.1 va vb vc ve vth u.2.2.2.1 u.2.2.2.2.1 u.2.2.2.2.2.1 u.2.2.2.2.2.2.1 u.2.2.2.2.2.2.2.1 u.2.2.2.2.2.2.2.2.1 u.2.2.2.2.2.2.2.2.2.1 u.2.2.2.2.2.2.2.2.2.2.1 u.2.2.2.2.2.2.2.2.2.2.2.1 u.2.2.2.2.2.2.2.2.2.2.2.2.1 u.2.2.2.2.2.2.2.2.2.2.2.2.2.1 vtu u.2.2.2.2.2.2.2.2.2.2.2.2.2.2.1 u.2.2.2.2.2.2.2.2.2.2.2.2.2.2.2.1 u.2.2.2.2.2.2.2.2.2.2.2.2.2.2.2.2.1 u.2.2.2.2.2.2.2.2.2.2.2.2.2.2.2.2.2.1 u.2.2.2.2.2.2.2.2.2.2.2.2.2.2.2.2.2.2.1 u.2.2.2.2.2.2.2.2.2.2.2.2.2.2.2.2.2.2.2.1 u.2.2.2.2.2.2.2.2.2.2.2.2.2.2.2.2.2.2.2.2.1 u.2.2.2.2.2.2.2.2.2.2.2.2.2.2.2.2.2.2.2.2.2.1 u.2.2.2.2.2.2.2.2.2.2.2.2.2.2.2.2.2.2.2.2.2.2.1 u.2.2.2.2.2.2.2.2.2.2.2.2.2.2.2.2.2.2.2.2.2.2.2.1 u.2.2.2.2.2.2.2.2.2.2.2.2.2.2.2.2.2.2.2.2.2.2.2.2.1 u.2.2.2.2.2.2.2.2.2.2.2.2.2.2.2.2.2.2.2.2.2.2.2.2.2 (xs (nI (1 + 5 * j) + (1 : Int32)).toNatClampNeg) (xs (nI (1 + 5 * j) + (2 : Int32)).toNatClampNeg) (a, u2) e5) (cwV 2 hts gL_law_X5_step rfl rfl rfl (by decide +kernel) ⟨Nat.le_of_ble_eq_true rfl, Nat.le_of_ble_eq_true rfl⟩) ⟨cPre_blind, va_recv hK (va_P_l hP) (ci := 5) (q0 := 0) rfl rfl, cPre_at (va_P_l hP) hK hN (va_D_l hD) hS hA hZ⟩ rfl rfl hl.1 rfl (lv_room (Nat.le_of_ble_eq_true rfl)) dL_law_588 ⟨(show 34 + 8 * j + 0 ≤ 639168 by omega), (show 21318 + 32 * j + 0 ≤ 7184745 by omega)⟩) hP hD hS hA (fun H locs hP hD hS => ?_)
      have hP : va_P D vwCl (WL_ q cI cZ n d va vb vc ve vth vtu u2 ++ WN_ q9 cI cJ cZ n d wl r) H := hP
      have hD : va_D (fun q : Nat => s.heap.size ≤ q) (WL_ q cI cZ n d va vb vc ve vth vtu u2 ++ WN_ q9 cI cJ cZ n d wl r) := hD
      refine lv_aload_n hx hb dL_law_591 rfl (lv_at hl 3 rfl) ?_
      refine lv_aload_n hx hb dL_law_592 rfl (lv_at hl 1 rfl) ?_
      refine lv_iload_n hx hb dL_law_593 rfl (lv_at hl 0 rfl) ?_
      refine lv_iconst (v := (1 : Int32)) hx hb dL_law_594 (by decide) ?_
      refine lv_iadd hx hb dL_law_595 ?_
      refine va_sld hx hb hX hbl hbA hS (hin 1 (by decide)) dL_law_596 ?_
      refine lv_aload_n hx hb dL_law_597 rfl (lv_at hl 1 rfl) ?_
      refine lv_iload_n hx hb dL_law_598 rfl (lv_at hl 0 rfl) ?_
      refine lv_iconst (v := (2 : Int32)) hx hb dL_law_599 (by decide) ?_
      refine lv_iadd hx hb dL_law_600 ?_
      refine va_sld hx hb hX hbl hbA hS (hin 2 (by decide)) dL_law_601 ?_
      refine k_iY (va_runV (As := [.int (xs (nI (1 + 5 * j) + (1 : Int32)).toNatClampNeg), .int (xs (nI (1 + 5 * j) + (2 : Int32)).toNatClampNeg)]) (rest := [.int a]) ⟨hx, hb, hml, hown, hts⟩ (kX6_step l D q9 cI cJ cZ tP H.size (nI d) (nI n) r.1 r.2.1 r.2.2.1 wl r.2.2.2.1 r.2.2.2.2.1 r.2.2.2.2.2.1 r.2.2.2.2.2.2.1 r.2.2.2.2.2.2.2.1 r.2.2.2.2.2.2.2.2 (xs (nI (1 + 5 * j) + (1 : Int32)).toNatClampNeg) (xs (nI (1 + 5 * j) + (2 : Int32)).toNatClampNeg) (a, t2) e6) (cwV 2 hts gL_law_X6_step rfl rfl rfl (by decide +kernel) ⟨Nat.le_of_ble_eq_true rfl, Nat.le_of_ble_eq_true rfl⟩) ⟨cPre_blind, va_recv hK (va_P_r hP) (ci := 6) (q0 := 0) rfl rfl, cPre_at (va_P_r hP) hK hN (va_D_r hD) hS hA hZ⟩ rfl rfl hl.1 rfl (lv_room (Nat.le_of_ble_eq_true rfl)) dL_law_602 ⟨(show 34 + 8 * j + 0 + 0 ≤ 639168 by omega), (show 21318 + 32 * j + 0 + 0 ≤ 7184745 by omega)⟩) hP hD hS hA (fun H locs hP hD hS => ?_)
      have hP : va_P D vwCl (WL_ q cI cZ n d va vb vc ve vth vtu u2 ++ WN_ q9 cI cJ cZ n d wl (s9_ t2 r.2.2.2.2.2.2.2.2)) H := hP
      have hD : va_D (fun q : Nat => s.heap.size ≤ q) (WL_ q cI cZ n d va vb vc ve vth vtu u2 ++ WN_ q9 cI cJ cZ n d wl (s9_ t2 r.2.2.2.2.2.2.2.2)) := hD
      refine lv_icmp_eq (tgt := 669) hx hb dL_law_605 (by decide) (fun _ => ?_) (fun cc => absurd rfl cc)
      exact K669 n va vb vc ve vth vtu wl u2 (s9_ t2 r.2.2.2.2.2.2.2.2) H locs ls _ _ (by omega) (by omega) hJ hP hD hS hl
    by_cases c17 : op = (16 : Int32)
    · refine lv_tableIn (off := 568) (tgt := 610) hx hb dL_law_42 (by rw [c17]; decide) (by rw [c17]; decide) (by rw [c17]; rfl) (by decide) ?_
      obtain ⟨a, t2, e5, e6, hJ⟩ := j_far hJ
      refine lv_aload_n hx hb dL_law_610 rfl (lv_at hl 2 rfl) ?_
      refine k_iX (va_runV (As := []) (rest := []) ⟨hx, hb, hml, hown, hts⟩ (kX5_far l D q cI cJ cZ tP H.size (nI d) (nI n) u.1 u.2.1 u.2.2.1 va vb vc ve vth u.2.2.2.1 u.2.2.2.2.1 u.2.2.2.2.2.1 u.2.2.2.2.2.2.1 u.2.2.2.2.2.2.2.1 u.2.2.2.2.2.2.2.2.1 u.2.2.2.2.2.2.2.2.2.1 u.2.2.2.2.2.2.2.2.2.2.1 u.2.2.2.2.2.2.2.2.2.2.2.1 u.2.2.2.2.2.2.2.2.2.2.2.2.1 u.2.2.2.2.2.2.2.2.2.2.2.2.2.1 vtu u.2.2.2.2.2.2.2.2.2.2.2.2.2.2.1 u.2.2.2.2.2.2.2.2.2.2.2.2.2.2.2.1 u.2.2.2.2.2.2.2.2.2.2.2.2.2.2.2.2.1 u.2.2.2.2.2.2.2.2.2.2.2.2.2.2.2.2.2.1 u.2.2.2.2.2.2.2.2.2.2.2.2.2.2.2.2.2.2.1 u.2.2.2.2.2.2.2.2.2.2.2.2.2.2.2.2.2.2.2.1 u.2.2.2.2.2.2.2.2.2.2.2.2.2.2.2.2.2.2.2.2.1 u.2.2.2.2.2.2.2.2.2.2.2.2.2.2.2.2.2.2.2.2.2.1 u.2.2.2.2.2.2.2.2.2.2.2.2.2.2.2.2.2.2.2.2.2.2.1 u.2.2.2.2.2.2.2.2.2.2.2.2.2.2.2.2.2.2.2.2.2.2.2.1 u.2.2.2.2.2.2.2.2.2.2.2.2.2.2.2.2.2.2.2.2.2.2.2.2.1 u.2.2.2.2.2.2.2.2.2.2.2.2.2.2.2.2.2.2.2.2.2.2.2.2.2  a e5) (cwV 0 hts gL_law_X5_far rfl rfl rfl (by decide +kernel) ⟨Nat.le_of_ble_eq_true rfl, Nat.le_of_ble_eq_true rfl⟩) ⟨cPre_blind, va_recv hK (va_P_l hP) (ci := 5) (q0 := 0) rfl rfl, cPre_at (va_P_l hP) hK hN (va_D_l hD) hS hA hZ⟩ rfl rfl hl.1 rfl (lv_room (Nat.le_of_ble_eq_true rfl)) dL_law_611 ⟨(show 34 + 8 * j + 0 ≤ 639168 by omega), (show 21318 + 32 * j + 0 ≤ 7184745 by omega)⟩) hP hD hS hA (fun H locs hP hD hS => ?_)
      have hP : va_P D vwCl (WL_ q cI cZ n d va vb vc ve vth vtu u ++ WN_ q9 cI cJ cZ n d wl r) H := hP
      have hD : va_D (fun q : Nat => s.heap.size ≤ q) (WL_ q cI cZ n d va vb vc ve vth vtu u ++ WN_ q9 cI cJ cZ n d wl r) := hD
      refine lv_aload_n hx hb dL_law_614 rfl (lv_at hl 3 rfl) ?_
      refine k_iY (va_runV (As := []) (rest := [.int a]) ⟨hx, hb, hml, hown, hts⟩ (kX6_far l D q9 cI cJ cZ tP H.size (nI d) (nI n) r.1 r.2.1 r.2.2.1 wl r.2.2.2.1 r.2.2.2.2.1 r.2.2.2.2.2.1 r.2.2.2.2.2.2.1 r.2.2.2.2.2.2.2.1 r.2.2.2.2.2.2.2.2  (a, t2) e6) (cwV 0 hts gL_law_X6_far rfl rfl rfl (by decide +kernel) ⟨Nat.le_of_ble_eq_true rfl, Nat.le_of_ble_eq_true rfl⟩) ⟨cPre_blind, va_recv hK (va_P_r hP) (ci := 6) (q0 := 0) rfl rfl, cPre_at (va_P_r hP) hK hN (va_D_r hD) hS hA hZ⟩ rfl rfl hl.1 rfl (lv_room (Nat.le_of_ble_eq_true rfl)) dL_law_615 ⟨(show 34 + 8 * j + 0 + 0 ≤ 639168 by omega), (show 21318 + 32 * j + 0 + 0 ≤ 7184745 by omega)⟩) hP hD hS hA (fun H locs hP hD hS => ?_)
      have hP : va_P D vwCl (WL_ q cI cZ n d va vb vc ve vth vtu u ++ WN_ q9 cI cJ cZ n d wl (s9_ t2 r.2.2.2.2.2.2.2.2)) H := hP
      have hD : va_D (fun q : Nat => s.heap.size ≤ q) (WL_ q cI cZ n d va vb vc ve vth vtu u ++ WN_ q9 cI cJ cZ n d wl (s9_ t2 r.2.2.2.2.2.2.2.2)) := hD
      refine lv_icmp_eq (tgt := 669) hx hb dL_law_618 (by decide) (fun _ => ?_) (fun cc => absurd rfl cc)
      exact K669 n va vb vc ve vth vtu wl u (s9_ t2 r.2.2.2.2.2.2.2.2) H locs ls _ _ (by omega) (by omega) hJ hP hD hS hl
    by_cases c18 : op = (17 : Int32)
    · refine lv_tableIn (off := 581) (tgt := 623) hx hb dL_law_42 (by rw [c18]; decide) (by rw [c18]; decide) (by rw [c18]; rfl) (by decide) ?_
      obtain ⟨a, tu2, e5, e6⟩ := j_left hJ vtu (xs (nI (1 + 5 * j) + (1 : Int32)).toNatClampNeg)
      refine lv_aload_n hx hb dL_law_623 rfl (lv_at hl 2 rfl) ?_
      refine lv_aload_n hx hb dL_law_624 rfl (lv_at hl 1 rfl) ?_
      refine lv_iload_n hx hb dL_law_625 rfl (lv_at hl 0 rfl) ?_
      refine lv_iconst (v := (1 : Int32)) hx hb dL_law_626 (by decide) ?_
      refine lv_iadd hx hb dL_law_627 ?_
      refine va_sld hx hb hX hbl hbA hS (hin 1 (by decide)) dL_law_628 ?_
      refine k_iX (va_runV (As := [.int (xs (nI (1 + 5 * j) + (1 : Int32)).toNatClampNeg)]) (rest := []) ⟨hx, hb, hml, hown, hts⟩ (kX5_left l D q cI cJ cZ tP H.size (nI d) (nI n) u.1 u.2.1 u.2.2.1 va vb vc ve vth u.2.2.2.1 u.2.2.2.2.1 u.2.2.2.2.2.1 u.2.2.2.2.2.2.1 u.2.2.2.2.2.2.2.1 u.2.2.2.2.2.2.2.2.1 u.2.2.2.2.2.2.2.2.2.1 u.2.2.2.2.2.2.2.2.2.2.1 u.2.2.2.2.2.2.2.2.2.2.2.1 u.2.2.2.2.2.2.2.2.2.2.2.2.1 u.2.2.2.2.2.2.2.2.2.2.2.2.2.1 vtu u.2.2.2.2.2.2.2.2.2.2.2.2.2.2.1 u.2.2.2.2.2.2.2.2.2.2.2.2.2.2.2.1 u.2.2.2.2.2.2.2.2.2.2.2.2.2.2.2.2.1 u.2.2.2.2.2.2.2.2.2.2.2.2.2.2.2.2.2.1 u.2.2.2.2.2.2.2.2.2.2.2.2.2.2.2.2.2.2.1 u.2.2.2.2.2.2.2.2.2.2.2.2.2.2.2.2.2.2.2.1 u.2.2.2.2.2.2.2.2.2.2.2.2.2.2.2.2.2.2.2.2.1 u.2.2.2.2.2.2.2.2.2.2.2.2.2.2.2.2.2.2.2.2.2.1 u.2.2.2.2.2.2.2.2.2.2.2.2.2.2.2.2.2.2.2.2.2.2.1 u.2.2.2.2.2.2.2.2.2.2.2.2.2.2.2.2.2.2.2.2.2.2.2.1 u.2.2.2.2.2.2.2.2.2.2.2.2.2.2.2.2.2.2.2.2.2.2.2.2.1 u.2.2.2.2.2.2.2.2.2.2.2.2.2.2.2.2.2.2.2.2.2.2.2.2.2 (xs (nI (1 + 5 * j) + (1 : Int32)).toNatClampNeg) (a, tu2) e5) (cwV 1 hts gL_law_X5_left rfl rfl rfl (by decide +kernel) ⟨Nat.le_of_ble_eq_true rfl, Nat.le_of_ble_eq_true rfl⟩) ⟨cPre_blind, va_recv hK (va_P_l hP) (ci := 5) (q0 := 0) rfl rfl, cPre_at (va_P_l hP) hK hN (va_D_l hD) hS hA hZ⟩ rfl rfl hl.1 rfl (lv_room (Nat.le_of_ble_eq_true rfl)) dL_law_629 ⟨(show 34 + 8 * j + 0 ≤ 639168 by omega), (show 21318 + 32 * j + 0 ≤ 7184745 by omega)⟩) hP hD hS hA (fun H locs hP hD hS => ?_)
      have hP : va_P D vwCl (WL_ q cI cZ n d va vb vc ve vth tu2 u ++ WN_ q9 cI cJ cZ n d wl r) H := hP
      have hD : va_D (fun q : Nat => s.heap.size ≤ q) (WL_ q cI cZ n d va vb vc ve vth tu2 u ++ WN_ q9 cI cJ cZ n d wl r) := hD
      refine lv_aload_n hx hb dL_law_632 rfl (lv_at hl 3 rfl) ?_
      refine lv_aload_n hx hb dL_law_633 rfl (lv_at hl 1 rfl) ?_
      refine lv_iload_n hx hb dL_law_634 rfl (lv_at hl 0 rfl) ?_
      refine lv_iconst (v := (1 : Int32)) hx hb dL_law_635 (by decide) ?_
      refine lv_iadd hx hb dL_law_636 ?_
      refine va_sld hx hb hX hbl hbA hS (hin 1 (by decide)) dL_law_637 ?_
      refine k_iY (va_runV (As := [.int (xs (nI (1 + 5 * j) + (1 : Int32)).toNatClampNeg)]) (rest := [.int a]) ⟨hx, hb, hml, hown, hts⟩ (kX6_left l D q9 cI cJ cZ tP H.size (nI d) (nI n) r.1 r.2.1 r.2.2.1 wl r.2.2.2.1 r.2.2.2.2.1 r.2.2.2.2.2.1 r.2.2.2.2.2.2.1 r.2.2.2.2.2.2.2.1 r.2.2.2.2.2.2.2.2 (xs (nI (1 + 5 * j) + (1 : Int32)).toNatClampNeg) a e6) (cwV 1 hts gL_law_X6_left rfl rfl rfl (by decide +kernel) ⟨Nat.le_of_ble_eq_true rfl, Nat.le_of_ble_eq_true rfl⟩) ⟨cPre_blind, va_recv hK (va_P_r hP) (ci := 6) (q0 := 0) rfl rfl, cPre_at (va_P_r hP) hK hN (va_D_r hD) hS hA hZ⟩ rfl rfl hl.1 rfl (lv_room (Nat.le_of_ble_eq_true rfl)) dL_law_638 ⟨(show 34 + 8 * j + 0 + 0 ≤ 639168 by omega), (show 21318 + 32 * j + 0 + 0 ≤ 7184745 by omega)⟩) hP hD hS hA (fun H locs hP hD hS => ?_)
      have hP : va_P D vwCl (WL_ q cI cZ n d va vb vc ve vth tu2 u ++ WN_ q9 cI cJ cZ n d wl r) H := hP
      have hD : va_D (fun q : Nat => s.heap.size ≤ q) (WL_ q cI cZ n d va vb vc ve vth tu2 u ++ WN_ q9 cI cJ cZ n d wl r) := hD
      refine lv_icmp_eq (tgt := 669) hx hb dL_law_641 (by decide) (fun _ => ?_) (fun cc => absurd rfl cc)
      exact K669 n va vb vc ve vth tu2 wl u r H locs ls _ _ (by omega) (by omega) hJ hP hD hS hl
    by_cases c19 : op = (18 : Int32)
    · refine lv_tableIn (off := 604) (tgt := 646) hx hb dL_law_42 (by rw [c19]; decide) (by rw [c19]; decide) (by rw [c19]; rfl) (by decide) ?_
      obtain ⟨a, u2, t2, e5, e6, hJ⟩ := j_count hJ (xs (nI (1 + 5 * j) + (1 : Int32)).toNatClampNeg)
      refine lv_aload_n hx hb dL_law_646 rfl (lv_at hl 2 rfl) ?_
      refine lv_aload_n hx hb dL_law_647 rfl (lv_at hl 1 rfl) ?_
      refine lv_iload_n hx hb dL_law_648 rfl (lv_at hl 0 rfl) ?_
      refine lv_iconst (v := (1 : Int32)) hx hb dL_law_649 (by decide) ?_
      refine lv_iadd hx hb dL_law_650 ?_
      refine va_sld hx hb hX hbl hbA hS (hin 1 (by decide)) dL_law_651 ?_
      refine k_iX (va_runV (As := [.int (xs (nI (1 + 5 * j) + (1 : Int32)).toNatClampNeg)]) (rest := []) ⟨hx, hb, hml, hown, hts⟩ (kX5_count l D q cI cJ cZ tP H.size (nI d) (nI n) u.1 u.2.1 u.2.2.1 va vb vc ve vth u.2.2.2.1 u.2.2.2.2.1 u.2.2.2.2.2.1 u.2.2.2.2.2.2.1 u.2.2.2.2.2.2.2.1 u.2.2.2.2.2.2.2.2.1 u.2.2.2.2.2.2.2.2.2.1 u.2.2.2.2.2.2.2.2.2.2.1 u.2.2.2.2.2.2.2.2.2.2.2.1 u.2.2.2.2.2.2.2.2.2.2.2.2.1 u.2.2.2.2.2.2.2.2.2.2.2.2.2.1 vtu u.2.2.2.2.2.2.2.2.2.2.2.2.2.2.1 u.2.2.2.2.2.2.2.2.2.2.2.2.2.2.2.1 u.2.2.2.2.2.2.2.2.2.2.2.2.2.2.2.2.1 u.2.2.2.2.2.2.2.2.2.2.2.2.2.2.2.2.2.1 u.2.2.2.2.2.2.2.2.2.2.2.2.2.2.2.2.2.2.1 u.2.2.2.2.2.2.2.2.2.2.2.2.2.2.2.2.2.2.2.1 u.2.2.2.2.2.2.2.2.2.2.2.2.2.2.2.2.2.2.2.2.1 u.2.2.2.2.2.2.2.2.2.2.2.2.2.2.2.2.2.2.2.2.2.1 u.2.2.2.2.2.2.2.2.2.2.2.2.2.2.2.2.2.2.2.2.2.2.1 u.2.2.2.2.2.2.2.2.2.2.2.2.2.2.2.2.2.2.2.2.2.2.2.1 u.2.2.2.2.2.2.2.2.2.2.2.2.2.2.2.2.2.2.2.2.2.2.2.2.1 u.2.2.2.2.2.2.2.2.2.2.2.2.2.2.2.2.2.2.2.2.2.2.2.2.2 (xs (nI (1 + 5 * j) + (1 : Int32)).toNatClampNeg) (a, u2) e5) (cwV 1 hts gL_law_X5_count rfl rfl rfl (by decide +kernel) ⟨Nat.le_of_ble_eq_true rfl, Nat.le_of_ble_eq_true rfl⟩) ⟨cPre_blind, va_recv hK (va_P_l hP) (ci := 5) (q0 := 0) rfl rfl, cPre_at (va_P_l hP) hK hN (va_D_l hD) hS hA hZ⟩ rfl rfl hl.1 rfl (lv_room (Nat.le_of_ble_eq_true rfl)) dL_law_652 ⟨(show 34 + 8 * j + 0 ≤ 639168 by omega), (show 21318 + 32 * j + 0 ≤ 7184745 by omega)⟩) hP hD hS hA (fun H locs hP hD hS => ?_)
      have hP : va_P D vwCl (WL_ q cI cZ n d va vb vc ve vth vtu u2 ++ WN_ q9 cI cJ cZ n d wl r) H := hP
      have hD : va_D (fun q : Nat => s.heap.size ≤ q) (WL_ q cI cZ n d va vb vc ve vth vtu u2 ++ WN_ q9 cI cJ cZ n d wl r) := hD
      refine lv_aload_n hx hb dL_law_655 rfl (lv_at hl 3 rfl) ?_
      refine lv_aload_n hx hb dL_law_656 rfl (lv_at hl 1 rfl) ?_
      refine lv_iload_n hx hb dL_law_657 rfl (lv_at hl 0 rfl) ?_
      refine lv_iconst (v := (1 : Int32)) hx hb dL_law_658 (by decide) ?_
      refine lv_iadd hx hb dL_law_659 ?_
      refine va_sld hx hb hX hbl hbA hS (hin 1 (by decide)) dL_law_660 ?_
      refine k_iY (va_runV (As := [.int (xs (nI (1 + 5 * j) + (1 : Int32)).toNatClampNeg)]) (rest := [.int a]) ⟨hx, hb, hml, hown, hts⟩ (kX6_count l D q9 cI cJ cZ tP H.size (nI d) (nI n) r.1 r.2.1 r.2.2.1 wl r.2.2.2.1 r.2.2.2.2.1 r.2.2.2.2.2.1 r.2.2.2.2.2.2.1 r.2.2.2.2.2.2.2.1 r.2.2.2.2.2.2.2.2 (xs (nI (1 + 5 * j) + (1 : Int32)).toNatClampNeg) (a, t2) e6) (cwV 1 hts gL_law_X6_count rfl rfl rfl (by decide +kernel) ⟨Nat.le_of_ble_eq_true rfl, Nat.le_of_ble_eq_true rfl⟩) ⟨cPre_blind, va_recv hK (va_P_r hP) (ci := 6) (q0 := 0) rfl rfl, cPre_at (va_P_r hP) hK hN (va_D_r hD) hS hA hZ⟩ rfl rfl hl.1 rfl (lv_room (Nat.le_of_ble_eq_true rfl)) dL_law_661 ⟨(show 34 + 8 * j + 0 + 0 ≤ 639168 by omega), (show 21318 + 32 * j + 0 + 0 ≤ 7184745 by omega)⟩) hP hD hS hA (fun H locs hP hD hS => ?_)
      have hP : va_P D vwCl (WL_ q cI cZ n d va vb vc ve vth vtu u2 ++ WN_ q9 cI cJ cZ n d wl t2) H := hP
      have hD : va_D (fun q : Nat => s.heap.size ≤ q) (WL_ q cI cZ n d va vb vc ve vth vtu u2 ++ WN_ q9 cI cJ cZ n d wl t2) := hD
      refine lv_icmp_eq (tgt := 669) hx hb dL_law_664 (by decide) (fun _ => ?_) (fun cc => absurd rfl cc)
      exact K669 n va vb vc ve vth vtu wl u2 t2 H locs ls _ _ (by omega) (by omega) hJ hP hD hS hl
    refine lv_tableOut (tgt := 669) hx hb dL_law_42 (sw_out19 c1 c2 c3 c4 c5 c6 c7 c8 c9 c10 c11 c12 c13 c14 c15 c16 c17 c18 c19) (by decide) ?_
    exact K669 n va vb vc ve vth vtu wl u r H locs ls _ _ (by omega) (by omega) hJ hP hD hS hl
