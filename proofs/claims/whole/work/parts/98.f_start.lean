/-! the law from its entry -/
theorem arr_cls {args : Array Value} {s : State} {ty : FieldType} (h : (Cond.arrayClass ty).before args s = true) : ∃ cA, ArrOfT s cA ty ∧ s.vm.findClass ("[" ++ ty.toString) = some cA := by
  obtain ⟨c, k, comp, h1, h2, h3⟩ := Cond.arrayClass_spec h
  exact ⟨c, fun n z => ⟨fun k h => (by cases h), k, h2, comp, h3⟩, h1⟩
theorem sp_start {s : State} {b : Nat} (hts : ∀ w ∈ lw_tbl, w.before #[Value.ref b] s = true) (hgv : (Jvm.Cond.and given_1 narrow_1).before #[Value.ref b] s = true) : ∃ tP, SP_ tP (fun q : Nat => s.heap.size ≤ q) s s.heap := by
  have hs := flat_of_before _ hgv
  have hA : ∀ a : Nat, a < s.heap.size → ¬ (fun q : Nat => s.heap.size ≤ q) a := fun a h => Nat.not_le.mpr h
  have hel : ∀ j : Nat, j < 8 → (Term.elem (.static "SpaceWalls" "POWERS" "[I") (.int (Int32.ofNat j))).eval #[Value.ref b] s none [] s = some (.int (pw_ j)) := by
    intro j hj
    rcases (show j = 0 ∨ j = 1 ∨ j = 2 ∨ j = 3 ∨ j = 4 ∨ j = 5 ∨ j = 6 ∨ j = 7 by omega) with rfl | rfl | rfl | rfl | rfl | rfl | rfl | rfl
    · exact va_eqt (hs (.eq (.elem (.static "SpaceWalls" "POWERS" "[I") (.int (Int32.ofNat 0))) (.int (pw_ 0))) (by decide +kernel))
    · exact va_eqt (hs (.eq (.elem (.static "SpaceWalls" "POWERS" "[I") (.int (Int32.ofNat 1))) (.int (pw_ 1))) (by decide +kernel))
    · exact va_eqt (hs (.eq (.elem (.static "SpaceWalls" "POWERS" "[I") (.int (Int32.ofNat 2))) (.int (pw_ 2))) (by decide +kernel))
    · exact va_eqt (hs (.eq (.elem (.static "SpaceWalls" "POWERS" "[I") (.int (Int32.ofNat 3))) (.int (pw_ 3))) (by decide +kernel))
    · exact va_eqt (hs (.eq (.elem (.static "SpaceWalls" "POWERS" "[I") (.int (Int32.ofNat 4))) (.int (pw_ 4))) (by decide +kernel))
    · exact va_eqt (hs (.eq (.elem (.static "SpaceWalls" "POWERS" "[I") (.int (Int32.ofNat 5))) (.int (pw_ 5))) (by decide +kernel))
    · exact va_eqt (hs (.eq (.elem (.static "SpaceWalls" "POWERS" "[I") (.int (Int32.ofNat 6))) (.int (pw_ 6))) (by decide +kernel))
    · exact va_eqt (hs (.eq (.elem (.static "SpaceWalls" "POWERS" "[I") (.int (Int32.ofNat 7))) (.int (pw_ 7))) (by decide +kernel))
  obtain ⟨t, h1, h2⟩ := va_Tof (tm := .static "SpaceWalls" "POWERS" "[I") (ty := .int) (N := 8) (f := fun j => .int (pw_ j)) (A := fun q : Nat => s.heap.size ≤ q) (by decide) (hs (.arrayOf (.static "SpaceWalls" "POWERS" "[I") .int) (by decide +kernel)) (va_eqt (hs (.eq (.length (.static "SpaceWalls" "POWERS" "[I")) (.int (Int32.ofNat 8))) (by decide +kernel))) hel hA
  exact ⟨t, va_Zref (hts _ (wlin_S _ (List.Mem.head _))) (hts _ (wlin_S _ (List.Mem.tail _ (List.Mem.head _)))) h1 hA, h2⟩
theorem nw_start {s : State} {b : Nat} (hts : ∀ w ∈ lw_tbl, w.before #[Value.ref b] s = true) : NW_ s :=
  ⟨fun q hq => va_Nw.of rfl (hts _ (wlin_F _ (List.mem_map.mpr ⟨q, hq, rfl⟩))), fun q hq => va_Nw.of rfl (hts _ (wlin_M _ (List.mem_map.mpr ⟨q, hq, rfl⟩)))⟩
def cv_ (L : Nat) (xs : Nat → Int32) : Int32 := if Int32.ofNat L ≤ (0 : Int32) then 0 else xs (0 : Int32).toNatClampNeg
theorem kL_cell (l : Launch) (b L sz : Nat) (xs : Nat → Int32) (hL : L < 2 ^ 31) : Met l yL_cell wsL_cell ({ frames := 0, cells := 0, slots := 0, locals := 0 }) (va_Pc [.ref b, .int (0 : Int32)] (fun U => U.heap.size = sz ∧ va_X b L xs U U.heap ∧ b < sz)) (va_Qi (fun r (_ : Unit) => r = cv_ L xs) (fun _ _ => True) (fun q => sz ≤ q)) 0 0 (fun q => sz ≤ q) := by
  refine Met.ofW (cc := cL_cell) (maxL := 2) (ret := (some .int)) (by decide) rfl ?_
  intro p e s m args below meth c s₁ B hml hv
  obtain ⟨rfl, hsz, hX, hbl⟩ := hv
  have hx := B.exec
  have hb := B.bytes
  have hr := B.returns
  have hlocks := B.notSynchronized
  subst hsz
  have hS : va_S (fun q : Nat => s.heap.size ≤ q) s.heap s.heap [] := va_S.rf
  have hbA : ¬ (fun q : Nat => s.heap.size ≤ q) b := Nat.not_le.mpr hbl
  have hl := lv_entry ([.ref b, .int (0 : Int32)]) (n := 2) (Nat.le_of_ble_eq_true rfl)
  rw [lg_entry_eq]
  generalize (lg_sl ([.ref b, .int (0 : Int32)]) ++ List.replicate (2 - (lg_sl ([.ref b, .int (0 : Int32)])).length) Slot.unset).toArray = ls at hl ⊢
  have hl : lv_has ls 2 [(0, .ref b), (1, .int (0 : Int32))] := hl
  refine lv_iload_n hx hb dL_cell_0 rfl (lv_at hl 1 rfl) ?_
  refine lv_aload_n hx hb dL_cell_1 rfl (lv_at hl 0 rfl) ?_
  refine va_slen hx hb hX hbl hbA hS dL_cell_2 ?_
  refine lv_icmp_ge (tgt := 12) hx hb dL_cell_3 (by decide) (fun c1 => ?_) (fun c1 => ?_)
  · refine lv_iconst (v := (0 : Int32)) hx hb dL_cell_12 (by decide) ?_
    exact W.iret (v := (0 : Int32)) hx hb hr (fun t ht hW => ⟨⟨(0 : Int32), (), rfl, (by unfold cv_; rw [if_pos c1]), trivial⟩, hS.F ht⟩) hS.2.2 dL_cell_13
  · refine lv_aload_n hx hb dL_cell_6 rfl (lv_at hl 0 rfl) ?_
    refine lv_iload_n hx hb dL_cell_7 rfl (lv_at hl 1 rfl) ?_
    have hin : vp_in (0 : Int32) L := by
      rcases Nat.eq_zero_or_pos L with h | h
      · subst h; exact absurd (by decide) c1
      · exact vp_in_nI (n := 0) h hL
    refine va_sld hx hb hX hbl hbA hS hin dL_cell_8 ?_
    refine lv_goto (tgt := 13) hx hb dL_cell_9 (by decide) ?_
    exact W.iret (v := xs (0 : Int32).toNatClampNeg) hx hb hr (fun t ht hW => ⟨⟨_, (), rfl, (by unfold cv_; rw [if_neg c1]), trivial⟩, hS.F ht⟩) hS.2.2 dL_cell_13
section KN
variable {p : Program} {l : Launch} {e : Env} {R : Room} {s : State} {m : MethodId} {args : Array Value} {below : List Frame} {meth : Method} {c : Code} {H : Heap} {locs : List Loc} {cells slots : Nat} {Q : State → Prop} {pc : Nat} {ls : Array Slot} {st0 rest : List Value} {a : Array Value} {D : va_G} {A : Nat → Prop} {H0 : Heap} {w x ws : va_W}
theorem k_nX {mc ms : Nat} {w' : (Nat → Nat) → va_W} (hr : va_Run p l e R s m args below meth c H locs cells slots mc ms (F0 m pc ls st0) rest (cQn D (va_A w H.size) w' a) (va_A w H.size)) (hP : va_P D vwCl (x ++ w) H) (hD : va_D A (x ++ w)) (hS : va_S A H0 H locs) (hA : ∀ q, H0.size ≤ q → A q)
    (kk : ∀ (q : Nat → Nat) (H1 : Heap) (locs1 : List Loc), va_P D vwCl (x ++ w' q) H1 → va_D A (x ++ w' q) → va_S A H0 H1 locs1 → W p l e R s m args below meth c H1 locs1 (cells + mc) (slots + ms) Q (F0 m (pc + 3) ls rest)) : W p l e R s m args below meth c H locs cells slots Q (F0 m pc ls st0) := by
  have hP' := va_P_sw hP
  have hD' := va_D_sw hD
  have hF := va_A_sub (va_D_l hD') hS hA
  refine va_callv hr hS (fun q _ h => hF q h) hF (fun u t H1 locs1 ht hvm hw hB hz hk hS1 => ?_)
  subst ht
  have hx1 : va_P D vwCl x t.heap := (va_P_r hP').kept (fun k q hq => hk q.1 (va_P_r hP' k q hq).lt (va_A_not hP' hD' hq))
  refine kk u _ _ (hx1.app hB.1) (va_D_sw (va_D.app (hB.2.weaken (fun _ _ _ h => hF _ h)) (va_D_r hD') (fun i j p q h1 h2 h3 => ?_))) hS1
  exact va_A_not hP' hD' h2 (by rw [← h3]; exact hB.2.2 i p h1)
/-- the script's cell is asked for: nothing is written -/
theorem k_cell {L : Nat} {xs : Nat → Int32} (hr : va_Run p l e R s m args below meth c H locs cells slots 0 0 (F0 m pc ls st0) rest (va_Qi (fun r (_ : Unit) => r = cv_ L xs) (fun _ _ => True) (fun q => H.size ≤ q) a) (fun q => H.size ≤ q)) (hP : va_P D vwCl ws H) (hS : va_S A H0 H locs) (hA : ∀ q, H0.size ≤ q → A q)
    (kk : ∀ (H1 : Heap) (locs1 : List Loc), va_P D vwCl ws H1 → va_S A H0 H1 locs1 → W p l e R s m args below meth c H1 locs1 cells slots Q (F0 m (pc + 3) ls (.int (cv_ L xs) :: rest))) : W p l e R s m args below meth c H locs cells slots Q (F0 m pc ls st0) := by
  refine va_calli hr hS (fun q _ h => hA q (Nat.le_trans hS.1 h)) (fun q h => hA q (Nat.le_trans hS.1 h)) (fun r u t H1 locs1 ht hvm hw hB hz hk hS1 => ?_)
  subst hw
  exact kk _ _ (hP.kept (fun k x hx => hk x.1 (hP k x hx).lt (Nat.not_le.mpr (hP k x hx).lt))) hS1
theorem va_D_addr {ws' : va_W} (h : va_D A ws) (e : ws.map Prod.fst = ws'.map Prod.fst) : va_D A ws' := by
  have key : ∀ (i : Nat) (p : Nat × va_E), ws'[i]? = some p → ∃ p', ws[i]? = some p' ∧ p'.1 = p.1 := by
    intro i p hp
    have h1 : (ws'.map Prod.fst)[i]? = some p.1 := by rw [List.getElem?_map, hp]; rfl
    rw [← e, List.getElem?_map] at h1
    cases hq : ws[i]? with
    | none => rw [hq] at h1; cases h1
    | some p' => rw [hq] at h1; exact ⟨p', rfl, Option.some.inj h1⟩
  refine ⟨fun i j p q h1 h2 h3 => ?_, fun k q hq => ?_⟩
  · obtain ⟨p', a1, b1⟩ := key i p h1
    obtain ⟨q', a2, b2⟩ := key j q h2
    exact h.1 i j p' q' a1 a2 (by rw [b1, b2, h3])
  · obtain ⟨q', a1, b1⟩ := key k q hq
    rw [← b1]; exact h.2 k q' a1
end KN
theorem arrV_ext (cI : ClassId) {N : Nat} {f g : Nat → Value} (h : ∀ j, j < N → f j = g j) : arrV cI N f = arrV cI N g := by
  unfold arrV
  have : (Array.ofFn fun j : Fin N => f ↑j) = Array.ofFn fun j : Fin N => g ↑j := by
    congr 1
    funext j
    exact h j.1 j.2
  rw [this]
theorem wl_zero {j : Nat} (h : j < 32) : wl0_ j = 0 := by
  unfold wl0_
  rw [if_neg (by omega), if_neg (by omega), if_neg (by omega)]
theorem wl_cell (cI : ClassId) : vp_cell cI (32, .inl (fun _ => 0)) = vp_cell cI (32, .inl wl0_) :=
  arrV_ext cI (N := 32) (f := fun _ => Value.int 0) (g := fun j => Value.int (wl0_ j)) (fun j hj => by
    show Value.int 0 = Value.int (wl0_ j)
    rw [wl_zero hj])
theorem wl_P {D : va_G} {H : Heap} {q : Nat → Nat} {cI cJ cZ : ClassId} {a b c d e : Int32} {f1 f2 f3 : Nat → Int32} {g1 g2 g3 : Nat → Int64} (h : va_P D vwCl (WM_ q cI cJ cZ a b c d e (fun _ => 0) f1 f2 f3 g1 g2 g3) H) : va_P D vwCl (WM_ q cI cJ cZ a b c d e wl0_ f1 f2 f3 g1 g2 g3) H := by
  have h0 := h.sub (ws' := [(q 0, .inr (6, [.int a, .int b, .ref (q 1), .ref (q 2), .int c, .ref (q 3), .ref (q 4), .int d, .ref (q 5), .ref (q 6), .int e, .ref (q 7)]))]) [0] rfl
  have h1 := h.sub (ws' := [(q 1, .inl (cI, 32, .inl (fun _ => 0)))]) [1] rfl
  have h2 := h.sub (ws' := [(q 2, .inl (cZ, 6561, .inl f1)), (q 3, .inl (cJ, 4400, .inr (.inl g1))), (q 4, .inl (cZ, 1100, .inl f2)), (q 5, .inl (cJ, 4400, .inr (.inl g2))), (q 6, .inl (cZ, 1100, .inl f3)), (q 7, .inl (cJ, 32, .inr (.inl g3)))]) [2, 3, 4, 5, 6, 7] rfl
  have h3 : va_P D vwCl [(q 1, .inl (cI, 32, .inl wl0_))] H := by
    have h4 : H[q 1]? = some (vp_cell cI (32, .inl (fun _ => 0))) := h1 0 _ rfl
    rw [wl_cell] at h4
    intro k p hk
    have hz : k < 1 := (List.getElem?_eq_some_iff.mp hk).1
    obtain rfl : k = 0 := by omega
    cases hk
    exact h4
  exact (h0.app h3).app h2
