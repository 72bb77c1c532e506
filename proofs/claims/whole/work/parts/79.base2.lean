/-! methods that make arrays: a world beside the callee's, cells that come -/
section KX
variable {p : Program} {l : Launch} {e : Env} {R : Room} {s : State} {m : MethodId} {args : Array Value} {below : List Frame} {meth : Method} {c : Code} {H : Heap} {locs : List Loc} {cells slots : Nat} {Q : State → Prop} {pc : Nat} {ls : Array Slot} {st0 rest : List Value} {a : Array Value} {D : va_G} {A : Nat → Prop} {H0 : Heap} {w w' x ws : va_W}
theorem app_l {k : Nat} {q : Nat × va_E} (h : w[k]? = some q) : (w ++ x)[k]? = some q := by
  have hk : k < w.length := (List.getElem?_eq_some_iff.mp h).1
  rw [List.getElem?_append_left hk]; exact h
theorem app_r {k : Nat} {q : Nat × va_E} (h : x[k]? = some q) : (w ++ x)[w.length + k]? = some q := by
  rw [List.getElem?_append_right (Nat.le_add_right _ _), Nat.add_sub_cancel_left]; exact h
theorem va_P_l (h : va_P D vwCl (w ++ x) H) : va_P D vwCl w H := fun k q hk => h k q (app_l hk)
theorem va_P_r (h : va_P D vwCl (w ++ x) H) : va_P D vwCl x H := fun k q hk => h _ q (app_r hk)
theorem va_D_l (h : va_D A (w ++ x)) : va_D A w := ⟨fun i j p q h1 h2 h3 => h.1 i j p q (app_l h1) (app_l h2) h3, fun k q hk => h.2 k q (app_l hk)⟩
theorem va_D_r (h : va_D A (w ++ x)) : va_D A x := ⟨fun i j p q h1 h2 h3 => by
  have := h.1 _ _ p q (app_r h1) (app_r h2) h3
  omega, fun k q hk => h.2 _ q (app_r hk)⟩
theorem va_A_not (hP : va_P D vwCl (w ++ x) H) (hD : va_D A (w ++ x)) {k : Nat} {q : Nat × va_E} (hk : x[k]? = some q) : ¬ va_A w H.size q.1 := by
  intro h
  rcases h with ⟨i, e, hi⟩ | h
  · have h1 := hD.1 i (w.length + k) (q.1, e) q (app_l hi) (app_r hk) rfl
    have h2 : i < w.length := (List.getElem?_eq_some_iff.mp hi).1
    omega
  · exact absurd (va_P_r hP k q hk).lt (Nat.not_lt.mpr h)
theorem k_iX {mc ms : Nat} {r0 : Int32} (hr : va_Run p l e R s m args below meth c H locs cells slots mc ms (F0 m pc ls st0) rest (cQi D (va_A w H.size) w' r0 a) (va_A w H.size)) (hP : va_P D vwCl (w ++ x) H) (hD : va_D A (w ++ x)) (hS : va_S A H0 H locs) (hA : ∀ q, H0.size ≤ q → A q)
    (kk : ∀ (H1 : Heap) (locs1 : List Loc), va_P D vwCl (w' ++ x) H1 → va_D A (w' ++ x) → va_S A H0 H1 locs1 → W p l e R s m args below meth c H1 locs1 (cells + mc) (slots + ms) Q (F0 m (pc + 3) ls (.int r0 :: rest))) : W p l e R s m args below meth c H locs cells slots Q (F0 m pc ls st0) := by
  have hF := va_A_sub (va_D_l hD) hS hA
  refine va_calli hr hS (fun q _ h => hF q h) hF (fun r u t H1 locs1 ht hvm hw hB hz hk hS1 => ?_)
  subst hw; subst ht
  have hx1 : va_P D vwCl x t.heap := (va_P_r hP).kept (fun k q hq => hk q.1 (va_P_r hP k q hq).lt (va_A_not hP hD hq))
  refine kk _ _ (hB.1.app hx1) (va_D.app (hB.2.weaken (fun _ _ _ h => hF _ h)) (va_D_r hD) (fun i j p q h1 h2 h3 => ?_)) hS1
  exact va_A_not hP hD h2 (by rw [← h3]; exact hB.2.2 i p h1)
theorem k_newI {cc : ByteArray} {cI cJ cZ : ClassId} (hexec : p.tables.exec = Jvm.exec) (hb : c.code = cc) (harr : (Cond.arrayClass .int).before args s = true) (hK : va_K D vwCl (ty_ cI cJ cZ) s) (hP : va_P D vwCl ws H) (hD : va_D A ws) (hS : va_S A H0 H locs) (hA : ∀ q, H0.size ≤ q → A q)
    {n : Int32} {N : Nat} (hn : ¬ n < 0) (hN : n.toNatClampNeg = N) (hbytes : N * componentBytes .int ≤ 536870912) (hcells : cells + 1 ≤ R.cells) (hslots : slots + N ≤ R.slots) (hdg : decode cc pc = .ok (.newarray .int, 2))
    (kk : ∀ (q : Nat) (H1 : Heap), va_P D vwCl (ws ++ [(q, .inl (cI, N, .inl (fun _ => 0)))]) H1 → va_D A (ws ++ [(q, .inl (cI, N, .inl (fun _ => 0)))]) → va_S A H0 H1 locs →
      W p l e R s m args below meth c H1 locs (cells + 1) (slots + N) Q (F0 m (pc + 2) ls (.ref q :: rest))) : W p l e R s m args below meth c H locs cells slots Q (F0 m pc ls (.int n :: rest)) := by
  refine va_newa (atype := .int) (ty := .int) (a0 := (N, .inl (fun _ => 0))) hexec hb harr rfl hK hP hD hS hA (fun _ => rfl) hn hN hbytes hcells hslots hdg (fun q cA H1 hK1 hP1 hD1 hS1 => ?_)
  have h1 : s.vm.findClass ("[" ++ FieldType.int.toString) = some cA := (hK1.2 3 (cA, .int) rfl).2
  have h2 : s.vm.findClass ("[" ++ FieldType.int.toString) = some cI := (hK.2 0 (cI, .int) rfl).2
  have h3 : cA = cI := Option.some.inj (h1.symm.trans h2)
  subst h3
  exact kk q H1 hP1 hD1 hS1
theorem k_newJ {cc : ByteArray} {cI cJ cZ : ClassId} (hexec : p.tables.exec = Jvm.exec) (hb : c.code = cc) (harr : (Cond.arrayClass .long).before args s = true) (hK : va_K D vwCl (ty_ cI cJ cZ) s) (hP : va_P D vwCl ws H) (hD : va_D A ws) (hS : va_S A H0 H locs) (hA : ∀ q, H0.size ≤ q → A q)
    {n : Int32} {N : Nat} (hn : ¬ n < 0) (hN : n.toNatClampNeg = N) (hbytes : N * componentBytes .long ≤ 536870912) (hcells : cells + 1 ≤ R.cells) (hslots : slots + N ≤ R.slots) (hdg : decode cc pc = .ok (.newarray .long, 2))
    (kk : ∀ (q : Nat) (H1 : Heap), va_P D vwCl (ws ++ [(q, .inl (cJ, N, .inr (.inl (fun _ => 0))))]) H1 → va_D A (ws ++ [(q, .inl (cJ, N, .inr (.inl (fun _ => 0))))]) → va_S A H0 H1 locs →
      W p l e R s m args below meth c H1 locs (cells + 1) (slots + N) Q (F0 m (pc + 2) ls (.ref q :: rest))) : W p l e R s m args below meth c H locs cells slots Q (F0 m pc ls (.int n :: rest)) := by
  refine va_newa (atype := .long) (ty := .long) (a0 := (N, .inr (.inl (fun _ => 0)))) hexec hb harr rfl hK hP hD hS hA (fun _ => rfl) hn hN hbytes hcells hslots hdg (fun q cA H1 hK1 hP1 hD1 hS1 => ?_)
  have h1 : s.vm.findClass ("[" ++ FieldType.long.toString) = some cA := (hK1.2 3 (cA, .long) rfl).2
  have h2 : s.vm.findClass ("[" ++ FieldType.long.toString) = some cJ := (hK.2 1 (cJ, .long) rfl).2
  have h3 : cA = cJ := Option.some.inj (h1.symm.trans h2)
  subst h3
  exact kk q H1 hP1 hD1 hS1
theorem k_newZ {cc : ByteArray} {cI cJ cZ : ClassId} (hexec : p.tables.exec = Jvm.exec) (hb : c.code = cc) (harr : (Cond.arrayClass .boolean).before args s = true) (hK : va_K D vwCl (ty_ cI cJ cZ) s) (hP : va_P D vwCl ws H) (hD : va_D A ws) (hS : va_S A H0 H locs) (hA : ∀ q, H0.size ≤ q → A q)
    {n : Int32} {N : Nat} (hn : ¬ n < 0) (hN : n.toNatClampNeg = N) (hbytes : N * componentBytes .boolean ≤ 536870912) (hcells : cells + 1 ≤ R.cells) (hslots : slots + N ≤ R.slots) (hdg : decode cc pc = .ok (.newarray .boolean, 2))
    (kk : ∀ (q : Nat) (H1 : Heap), va_P D vwCl (ws ++ [(q, .inl (cZ, N, .inl (fun _ => 0)))]) H1 → va_D A (ws ++ [(q, .inl (cZ, N, .inl (fun _ => 0)))]) → va_S A H0 H1 locs →
      W p l e R s m args below meth c H1 locs (cells + 1) (slots + N) Q (F0 m (pc + 2) ls (.ref q :: rest))) : W p l e R s m args below meth c H locs cells slots Q (F0 m pc ls (.int n :: rest)) := by
  refine va_newa (atype := .boolean) (ty := .boolean) (a0 := (N, .inl (fun _ => 0))) hexec hb harr rfl hK hP hD hS hA (fun _ => rfl) hn hN hbytes hcells hslots hdg (fun q cA H1 hK1 hP1 hD1 hS1 => ?_)
  have h1 : s.vm.findClass ("[" ++ FieldType.boolean.toString) = some cA := (hK1.2 3 (cA, .boolean) rfl).2
  have h2 : s.vm.findClass ("[" ++ FieldType.boolean.toString) = some cZ := (hK.2 2 (cZ, .boolean) rfl).2
  have h3 : cA = cZ := Option.some.inj (h1.symm.trans h2)
  subst h3
  exact kk q H1 hP1 hD1 hS1
/-- a loop whose rounds make cells: how many, its state tells -/
theorem W_lpA {σ ρ : Type} {body : σ → Option (σ ⊕ ρ)} {P : σ → Heap → List Loc → Array Slot → Prop} {g : σ → Array Slot → JFrame} {r : ρ} (ce sl : σ → Nat)
    (step : ∀ (st : σ) (y : σ ⊕ ρ) (H : Heap) (locs : List Loc) (ls : Array Slot), body st = some y → P st H locs ls →
      (∀ (st' : σ) (H' : Heap) (locs' : List Loc) (ls' : Array Slot), y = .inl st' → P st' H' locs' ls' → W p l e R s m args below meth c H' locs' (ce st') (sl st') Q (g st' ls')) →
      (∀ r' : ρ, y = .inr r' → r' = r) → W p l e R s m args below meth c H locs (ce st) (sl st) Q (g st ls)) :
    ∀ (n : Nat) (st : σ) (H : Heap) (locs : List Loc) (ls : Array Slot), lp_ body n st = some r → P st H locs ls → W p l e R s m args below meth c H locs (ce st) (sl st) Q (g st ls) := by
  intro n
  induction n with
  | zero => intro st H locs ls h; exact (lp_zero h).elim
  | succ n ih =>
    intro st H locs ls h hP
    obtain ⟨y, h1, h2⟩ := lp_some h
    refine step st y H locs ls h1 hP ?_ ?_
    · intro st' H' locs' ls' hx hP'
      subst hx
      exact ih st' H' locs' ls' h2 hP'
    · intro r' hx
      subst hx
      exact h2
end KX
