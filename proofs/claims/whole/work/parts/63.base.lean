/-! the words of nest mates, the static row, the worlds, the calls -/
def nest_F : List (String × Nat × String × String × String) := [
  ("SpaceWalls", 118, "SpaceWalls$Heaps", "rank", "[I"), ("SpaceWalls", 160, "SpaceWalls$Cut", "found", "I"), ("SpaceWalls", 56, "SpaceWalls$Planes", "size", "I"),
  ("SpaceWalls", 78, "SpaceWalls$Planes", "a", "[I"), ("SpaceWalls", 82, "SpaceWalls$Planes", "b", "[I"), ("SpaceWalls", 85, "SpaceWalls$Planes", "c", "[I"),
  ("SpaceWalls", 88, "SpaceWalls$Planes", "e", "[I"), ("SpaceWalls", 91, "SpaceWalls$Planes", "numbers", "I"),
  ("SpaceWalls$Arrow", 13, "SpaceWalls$Planes", "b", "[I"), ("SpaceWalls$Arrow", 16, "SpaceWalls$Planes", "c", "[I"), ("SpaceWalls$Arrow", 7, "SpaceWalls$Planes", "a", "[I"),
  ("SpaceWalls$Cut", 113, "SpaceWalls$Arrow", "x", "I"), ("SpaceWalls$Cut", 116, "SpaceWalls$Arrow", "y", "I"), ("SpaceWalls$Cut", 119, "SpaceWalls$Arrow", "z", "I"),
  ("SpaceWalls$Cut", 136, "SpaceWalls$Planes", "e", "[I"), ("SpaceWalls$Cut", 149, "SpaceWalls$Heaps", "common", "[Z"), ("SpaceWalls$Cut", 153, "SpaceWalls$Heaps", "rank", "[I"),
  ("SpaceWalls$Cut", 156, "SpaceWalls$Planes", "numbers", "I"), ("SpaceWalls$Cut", 89, "SpaceWalls$Planes", "size", "I"),
  ("SpaceWalls$Heaps", 39, "SpaceWalls$Planes", "size", "I"), ("SpaceWalls$Heaps", 53, "SpaceWalls$Planes", "a", "[I"), ("SpaceWalls$Heaps", 56, "SpaceWalls$Planes", "b", "[I"),
  ("SpaceWalls$Heaps", 59, "SpaceWalls$Planes", "c", "[I"), ("SpaceWalls$Heaps", 74, "SpaceWalls$Arrow", "x", "I"), ("SpaceWalls$Heaps", 77, "SpaceWalls$Arrow", "y", "I"),
  ("SpaceWalls$Heaps", 80, "SpaceWalls$Arrow", "z", "I"), ("SpaceWalls$Heaps", 83, "SpaceWalls$Planes", "numbers", "I"), ("SpaceWalls$Planes", 34, "SpaceWalls", "POWERS", "[I"),
  ("SpaceWalls$PrimeCounter", 19, "SpaceWalls$Planes", "size", "I"), ("SpaceWalls$PrimeCounter", 25, "SpaceWalls$Planes", "a", "[I"), ("SpaceWalls$PrimeCounter", 37, "SpaceWalls$Planes", "numbers", "I"),
  ("SpaceWalls$PrimeCounter", 50, "SpaceWalls$Planes", "e", "[I"), ("SpaceWalls$PrimeCounter", 53, "SpaceWalls$Planes", "b", "[I"), ("SpaceWalls$PrimeCounter", 56, "SpaceWalls$Planes", "c", "[I")]
def nest_M : List (String × Nat × MethodName) := [
  ("SpaceWalls$Cut", 126, yX5_onMask), ("SpaceWalls$Cut", 129, yX5_aboveMask), ("SpaceWalls$Cut", 159, yX5_maskOf), ("SpaceWalls$Cut", 166, yX5_across), ("SpaceWalls$Cut", 32, yX0_init),
  ("SpaceWalls$Heaps", 30, yX0_init), ("SpaceWalls$Planes", 51, yX5_onMask), ("SpaceWalls$Planes", 55, yX5_aboveMask)]
abbrev nF_ (q : String × Nat × String × String × String) : Cond := .fieldLinkNest q.1 q.2.1 q.2.2.1 q.2.2.2.1 q.2.2.2.2 "SpaceWalls"
abbrev nM_ (q : String × Nat × MethodName) : Cond := .methodLinkNest q.1 q.2.1 q.2.2 "SpaceWalls"
def NW_ (U : State) : Prop := (∀ q ∈ nest_F, va_Nw (nF_ q) U) ∧ ∀ q ∈ nest_M, va_Nw (nM_ q) U
theorem NW_warm {s U : State} (hW : s.WarmedH U.vm) (h : NW_ s) : NW_ U := ⟨fun q hq => va_Nw.warmF hW (h.1 q hq), fun q hq => va_Nw.warmM hW (h.2 q hq)⟩
theorem NW_same {s U : State} (hv : s.vm = U.vm) (h : NW_ s) : NW_ U := ⟨fun q hq => va_Nw.same rfl hv (h.1 q hq), fun q hq => va_Nw.same rfl hv (h.2 q hq)⟩
theorem NW_f {U : State} (h : NW_ U) (k : Nat) {q : String × Nat × String × String × String} (hq : nest_F[k]? = some q) {A : Array Value} : (nF_ q).before A U = true := va_Nw.use rfl (h.1 q (List.mem_of_getElem? hq))
theorem NW_m {U : State} (h : NW_ U) (k : Nat) {q : String × Nat × MethodName} (hq : nest_M[k]? = some q) : va_Nw (nM_ q) U := h.2 q (List.mem_of_getElem? hq)

/-- the static row POWERS: it lies outside of A -/
def SP_ (tP : Nat) (A : Nat → Prop) (U : State) (H : Heap) : Prop := va_Z "SpaceWalls" "POWERS" "[I" (.ref tP) A U H ∧ va_T .int tP 8 (fun j => .int (pw_ j)) A U H
theorem SP_kept {tP : Nat} {A : Nat → Prop} {U : State} {H0 H : Heap} {locs : List Loc} (h : SP_ tP A U H0) (hS : va_S A H0 H locs) : SP_ tP A U H := ⟨h.1.kept hS.2.1, h.2.kept hS.2.1⟩
theorem SP_narrow {tP : Nat} {A B : Nat → Prop} {U : State} {H : Heap} (h : SP_ tP A U H) (hAB : ∀ q, B q → A q) : SP_ tP B U H := ⟨h.1.narrow hAB, h.2.narrow hAB⟩
theorem SP_moved {tP : Nat} {A : Nat → Prop} {u U : State} {H : Heap} (hvm : u.vm.Alike U.vm) (h : SP_ tP A u H) : SP_ tP A U H := ⟨h.1.moved hvm, h.2.moved hvm⟩

abbrev ty_ (cI cJ cZ : ClassId) : List (ClassId × FieldType) := [(cI, .int), (cJ, .long), (cZ, .boolean)]
/-- how every contract of a method begins: the world ws, the tables -/
def cPre (D : va_G) (cI cJ cZ : ClassId) (tP : Nat) (ws : va_W) (sz : Nat) (av : List Value) : Array Value → State → Prop := va_Pc av (fun U => U.heap.size = sz ∧ va_P D vwCl ws U.heap ∧ va_K D vwCl (ty_ cI cJ cZ) U ∧ NW_ U ∧ va_D (fun _ => True) ws ∧ SP_ tP (va_A ws sz) U U.heap)
/-- how it ends -/
def cQi (D : va_G) (A : Nat → Prop) (ws' : va_W) (r0 : Int32) : Array Value → State → Outcome → State → Prop := va_Qi (fun r (_ : Unit) => r = r0) (fun _ t => va_P D vwCl ws' t.heap ∧ va_D A ws') A
def cQl (D : va_G) (A : Nat → Prop) (ws' : va_W) (r0 : Int64) : Array Value → State → Outcome → State → Prop := va_Ql (fun r (_ : Unit) => r = r0) (fun _ t => va_P D vwCl ws' t.heap ∧ va_D A ws') A
def cQv (D : va_G) (A : Nat → Prop) (ws' : va_W) : Array Value → State → Outcome → State → Prop := va_Qv (fun (_ : Unit) => True) (fun _ t => va_P D vwCl ws' t.heap ∧ va_D A ws') A
def cQr (D : va_G) (A : Nat → Prop) (ws' : va_W) (a0 : Nat) : Array Value → State → Outcome → State → Prop := va_Qr (fun (_ : Unit) => True) (fun _ a t => a = a0 ∧ va_P D vwCl ws' t.heap ∧ va_D A ws') A
theorem cPre_blind {D : va_G} {cI cJ cZ : ClassId} {tP : Nat} {ws : va_W} {sz : Nat} {av : List Value} : FrameBlind (cPre D cI cJ cZ tP ws sz av) := by
  intro a U g mk q
  obtain ⟨q0, q1, qP, qK, qN, qD, qZ⟩ := q
  exact ⟨q0, q1, qP, va_K.moved (u := U) (U := U.calling g mk a) (Vm.Alike.refl U.vm) qK, NW_same (s := U) (U := U.calling g mk a) rfl qN, qD, SP_moved (u := U) (U := U.calling g mk a) (Vm.Alike.refl U.vm) qZ⟩
theorem va_A_sub {A : Nat → Prop} {ws : va_W} {H0 H : Heap} {locs : List Loc} (hD : va_D A ws) (hS : va_S A H0 H locs) (hA : ∀ q, H0.size ≤ q → A q) : ∀ q, va_A ws H.size q → A q := by
  intro q h
  rcases h with ⟨k, e, hk⟩ | h
  · exact hD.2 k (q, e) hk
  · exact hA q (Nat.le_trans hS.1 h)
theorem cPre_at {D : va_G} {cI cJ cZ : ClassId} {tP : Nat} {ws : va_W} {av : List Value} {A : Nat → Prop} {s : State} {H : Heap} {locs : List Loc} (hP : va_P D vwCl ws H) (hK : va_K D vwCl (ty_ cI cJ cZ) s) (hN : NW_ s) (hD : va_D A ws) (hS : va_S A s.heap H locs) (hA : ∀ q, s.heap.size ≤ q → A q) (hZ : SP_ tP A s s.heap) :
    ∀ U : State, U.heap = H → s.WarmedH U.vm → cPre D cI cJ cZ tP ws H.size av av.toArray U := by
  intro U hU hW
  refine ⟨rfl, by rw [hU], by rw [hU]; exact hP, va_K.moved hW.alike hK, NW_warm hW hN, hD.weaken (fun _ _ _ _ => trivial), ?_⟩
  rw [hU]
  exact SP_moved hW.alike (SP_narrow (SP_kept hZ hS) (va_A_sub hD hS hA))
/-- the same, of a method that needs no world -/
theorem cPre_at0 {D : va_G} {cI cJ cZ : ClassId} {tP : Nat} {av : List Value} {A : Nat → Prop} {s : State} {H : Heap} {locs : List Loc} (hK : va_K D vwCl (ty_ cI cJ cZ) s) (hN : NW_ s) (hS : va_S A s.heap H locs) (hA : ∀ q, s.heap.size ≤ q → A q) (hZ : SP_ tP A s s.heap) :
    ∀ U : State, U.heap = H → s.WarmedH U.vm → cPre D cI cJ cZ tP [] H.size av av.toArray U :=
  cPre_at (A := A) (fun k q h => by simp at h) hK hN ⟨fun i j p q h => by simp at h, fun k q h => by simp at h⟩ hS hA hZ

section KC
variable {p : Program} {l : Launch} {e : Env} {R : Room} {s : State} {m : MethodId} {args : Array Value} {below : List Frame} {meth : Method} {c : Code} {H : Heap} {locs : List Loc} {cells slots : Nat} {Q : State → Prop} {pc : Nat} {ls : Array Slot} {st0 rest : List Value} {a : Array Value} {D : va_G} {A : Nat → Prop} {H0 : Heap} {ws ws' : va_W}
theorem k_i {r0 : Int32} (hr : va_Run p l e R s m args below meth c H locs cells slots 0 0 (F0 m pc ls st0) rest (cQi D (va_A ws H.size) ws' r0 a) (va_A ws H.size)) (hD : va_D A ws) (hS : va_S A H0 H locs) (hA : ∀ q, H0.size ≤ q → A q)
    (kk : ∀ (H1 : Heap) (locs1 : List Loc), va_P D vwCl ws' H1 → va_D A ws' → va_S A H0 H1 locs1 → W p l e R s m args below meth c H1 locs1 cells slots Q (F0 m (pc + 3) ls (.int r0 :: rest))) : W p l e R s m args below meth c H locs cells slots Q (F0 m pc ls st0) := by
  have hF := va_A_sub hD hS hA
  refine va_calli hr hS (fun q _ h => hF q h) hF (fun r u t H1 locs1 ht hvm hw hB hz hk hS1 => ?_)
  subst hw; subst ht
  exact kk _ _ hB.1 (hB.2.weaken (fun _ _ _ h => hF _ h)) hS1
theorem k_l {r0 : Int64} (hr : va_Run p l e R s m args below meth c H locs cells slots 0 0 (F0 m pc ls st0) rest (cQl D (va_A ws H.size) ws' r0 a) (va_A ws H.size)) (hD : va_D A ws) (hS : va_S A H0 H locs) (hA : ∀ q, H0.size ≤ q → A q)
    (kk : ∀ (H1 : Heap) (locs1 : List Loc), va_P D vwCl ws' H1 → va_D A ws' → va_S A H0 H1 locs1 → W p l e R s m args below meth c H1 locs1 cells slots Q (F0 m (pc + 3) ls (.long r0 :: rest))) : W p l e R s m args below meth c H locs cells slots Q (F0 m pc ls st0) := by
  have hF := va_A_sub hD hS hA
  refine va_calll hr hS (fun q _ h => hF q h) hF (fun r u t H1 locs1 ht hvm hw hB hz hk hS1 => ?_)
  subst hw; subst ht
  exact kk _ _ hB.1 (hB.2.weaken (fun _ _ _ h => hF _ h)) hS1
theorem k_v (hr : va_Run p l e R s m args below meth c H locs cells slots 0 0 (F0 m pc ls st0) rest (cQv D (va_A ws H.size) ws' a) (va_A ws H.size)) (hD : va_D A ws) (hS : va_S A H0 H locs) (hA : ∀ q, H0.size ≤ q → A q)
    (kk : ∀ (H1 : Heap) (locs1 : List Loc), va_P D vwCl ws' H1 → va_D A ws' → va_S A H0 H1 locs1 → W p l e R s m args below meth c H1 locs1 cells slots Q (F0 m (pc + 3) ls rest)) : W p l e R s m args below meth c H locs cells slots Q (F0 m pc ls st0) := by
  have hF := va_A_sub hD hS hA
  refine va_callv hr hS (fun q _ h => hF q h) hF (fun u t H1 locs1 ht hvm hw hB hz hk hS1 => ?_)
  subst ht
  exact kk _ _ hB.1 (hB.2.weaken (fun _ _ _ h => hF _ h)) hS1
theorem k_r {a0 : Nat} (hr : va_Run p l e R s m args below meth c H locs cells slots 0 0 (F0 m pc ls st0) rest (cQr D (va_A ws H.size) ws' a0 a) (va_A ws H.size)) (hD : va_D A ws) (hS : va_S A H0 H locs) (hA : ∀ q, H0.size ≤ q → A q)
    (kk : ∀ (H1 : Heap) (locs1 : List Loc), va_P D vwCl ws' H1 → va_D A ws' → va_S A H0 H1 locs1 → W p l e R s m args below meth c H1 locs1 cells slots Q (F0 m (pc + 3) ls (.ref a0 :: rest))) : W p l e R s m args below meth c H locs cells slots Q (F0 m pc ls st0) := by
  have hF := va_A_sub hD hS hA
  refine va_callr hr hS (fun q _ h => hF q h) hF (fun u ra t H1 locs1 ht hvm hw hB hz hk hS1 => ?_)
  obtain ⟨h1, h2, h3⟩ := hB
  subst h1; subst ht
  exact kk _ _ h2 (h3.weaken (fun _ _ _ h => hF _ h)) hS1
theorem va_P_kept0 {H1 : Heap} (hP : va_P D vwCl ws H) (hk : ∀ q : Nat, q < H.size → ¬ va_A [] H.size q → H1[q]? = H[q]?) : va_P D vwCl ws H1 :=
  hP.kept (fun k q hq => hk q.1 (hP k q hq).lt (fun h => by
    rcases h with ⟨i, e, hi⟩ | h
    · simp at hi
    · exact absurd (hP k q hq).lt (Nat.not_lt.mpr h)))
theorem va_A0_sub {A : Nat → Prop} {H0 H : Heap} {locs : List Loc} (hS : va_S A H0 H locs) (hA : ∀ q, H0.size ≤ q → A q) : ∀ q, va_A [] H.size q → A q := by
  intro q h
  rcases h with ⟨k, e, hk⟩ | h
  · simp at hk
  · exact hA q (Nat.le_trans hS.1 h)
theorem k_i0 {r0 : Int32} (hr : va_Run p l e R s m args below meth c H locs cells slots 0 0 (F0 m pc ls st0) rest (cQi D (va_A [] H.size) [] r0 a) (va_A [] H.size)) (hP : va_P D vwCl ws H) (hS : va_S A H0 H locs) (hA : ∀ q, H0.size ≤ q → A q)
    (kk : ∀ (H1 : Heap) (locs1 : List Loc), va_P D vwCl ws H1 → va_S A H0 H1 locs1 → W p l e R s m args below meth c H1 locs1 cells slots Q (F0 m (pc + 3) ls (.int r0 :: rest))) : W p l e R s m args below meth c H locs cells slots Q (F0 m pc ls st0) := by
  have hF := va_A0_sub hS hA
  refine va_calli hr hS (fun q _ h => hF q h) hF (fun r u t H1 locs1 ht hvm hw hB hz hk hS1 => ?_)
  subst hw; subst ht
  exact kk _ _ (va_P_kept0 hP hk) hS1
theorem k_l0 {r0 : Int64} (hr : va_Run p l e R s m args below meth c H locs cells slots 0 0 (F0 m pc ls st0) rest (cQl D (va_A [] H.size) [] r0 a) (va_A [] H.size)) (hP : va_P D vwCl ws H) (hS : va_S A H0 H locs) (hA : ∀ q, H0.size ≤ q → A q)
    (kk : ∀ (H1 : Heap) (locs1 : List Loc), va_P D vwCl ws H1 → va_S A H0 H1 locs1 → W p l e R s m args below meth c H1 locs1 cells slots Q (F0 m (pc + 3) ls (.long r0 :: rest))) : W p l e R s m args below meth c H locs cells slots Q (F0 m pc ls st0) := by
  have hF := va_A0_sub hS hA
  refine va_calll hr hS (fun q _ h => hF q h) hF (fun r u t H1 locs1 ht hvm hw hB hz hk hS1 => ?_)
  subst hw; subst ht
  exact kk _ _ (va_P_kept0 hP hk) hS1
/-- a place where ways meet -/
theorem W_join {cells slots : Nat} {P : Heap → List Loc → Array Slot → Prop} {g : Array Slot → JFrame} {g0 : JFrame}
    (rest : ∀ (H : Heap) (locs : List Loc) (ls : Array Slot), P H locs ls → W p l e R s m args below meth c H locs cells slots Q (g ls))
    (main : (∀ (H : Heap) (locs : List Loc) (ls : Array Slot), P H locs ls → W p l e R s m args below meth c H locs cells slots Q (g ls)) → W p l e R s m args below meth c H locs cells slots Q g0) : W p l e R s m args below meth c H locs cells slots Q g0 := main rest
theorem W_leave {cells slots : Nat} {X : Type} {P : X → Heap → List Loc → Array Slot → Prop} {g : Array Slot → JFrame} {g0 : JFrame}
    (rest : ∀ (y : X) (H : Heap) (locs : List Loc) (ls : Array Slot), P y H locs ls → W p l e R s m args below meth c H locs cells slots Q (g ls))
    (main : (∀ (y : X) (H : Heap) (locs : List Loc) (ls : Array Slot), P y H locs ls → W p l e R s m args below meth c H locs cells slots Q (g ls)) → W p l e R s m args below meth c H locs cells slots Q g0) : W p l e R s m args below meth c H locs cells slots Q g0 := main rest
/-- a loop of the machine beside the loop of the function -/
theorem W_lp {cells slots : Nat} {σ ρ : Type} {body : σ → Option (σ ⊕ ρ)} {P : σ → Heap → List Loc → Array Slot → Prop} {g : σ → Array Slot → JFrame} {r : ρ}
    (step : ∀ (st : σ) (x : σ ⊕ ρ) (H : Heap) (locs : List Loc) (ls : Array Slot), body st = some x → P st H locs ls →
      (∀ (st' : σ) (H' : Heap) (locs' : List Loc) (ls' : Array Slot), x = .inl st' → P st' H' locs' ls' → W p l e R s m args below meth c H' locs' cells slots Q (g st' ls')) →
      (∀ r' : ρ, x = .inr r' → r' = r) → W p l e R s m args below meth c H locs cells slots Q (g st ls)) :
    ∀ (n : Nat) (st : σ) (H : Heap) (locs : List Loc) (ls : Array Slot), lp_ body n st = some r → P st H locs ls → W p l e R s m args below meth c H locs cells slots Q (g st ls) := by
  intro n
  induction n with
  | zero => intro st H locs ls h; exact (lp_zero h).elim
  | succ n ih =>
    intro st H locs ls h hP
    obtain ⟨x, h1, h2⟩ := lp_some h
    refine step st x H locs ls h1 hP ?_ ?_
    · intro st' H' locs' ls' hx hP'
      subst hx
      exact ih st' H' locs' ls' h2 hP'
    · intro r' hx
      subst hx
      exact h2
end KC
theorem se_inl {α β γ : Type} {f : α → γ} {g : β → γ} {x : α} {r : γ} (h : Sum.elim f g (.inl x) = r) : f x = r := h
theorem se_inr {α β γ : Type} {f : α → γ} {g : β → γ} {x : β} {r : γ} (h : Sum.elim f g (.inr x) = r) : g x = r := h
theorem sw_ne {x : Int32} {n : Int32} {k : Int} (hn : n.toInt = k) (h : ¬ x = n) : x.toInt ≠ k := fun e => h (Int32.toInt_inj.mp (e.trans hn.symm))
theorem sw_out4 {x : Int32} (h0 : ¬ x = 0) (h1 : ¬ x = 1) (h2 : ¬ x = 2) (h3 : ¬ x = 3) : x.toInt < 0 ∨ 3 < x.toInt := by
  have a0 := sw_ne (k := 0) rfl h0
  have a1 := sw_ne (k := 1) rfl h1
  have a2 := sw_ne (k := 2) rfl h2
  have a3 := sw_ne (k := 3) rfl h3
  omega
theorem sw_out5 {x : Int32} (h0 : ¬ x = 0) (h1 : ¬ x = 1) (h2 : ¬ x = 2) (h3 : ¬ x = 3) (h4 : ¬ x = 4) : x.toInt < 0 ∨ 4 < x.toInt := by
  have a0 := sw_ne (k := 0) rfl h0
  have a1 := sw_ne (k := 1) rfl h1
  have a2 := sw_ne (k := 2) rfl h2
  have a3 := sw_ne (k := 3) rfl h3
  have a4 := sw_ne (k := 4) rfl h4
  omega
/-- the class's world -/
def WC_ (q : Nat → Nat) (cI cZ : ClassId) (numbers size fresh found lines : Int32) (a b c e thr rank com kx ky kz marks reached rows widths la lb turned : Nat → Int32) (x0 y0 z0 x1 y1 z1 x2 y2 z2 x3 y3 z3 : Int32) : va_W := [
  (q 0, .inr (5, [.ref (q 1), .ref (q 7), .ref (q 14), .ref (q 24), .int fresh])),
  (q 1, .inr (3, [.int numbers, .ref (q 2), .ref (q 3), .ref (q 4), .ref (q 5), .ref (q 6), .int size])),
  (q 2, .inl (cI, 11, .inl a)), (q 3, .inl (cI, 11, .inl b)), (q 4, .inl (cI, 11, .inl c)), (q 5, .inl (cI, 11, .inl e)), (q 6, .inl (cI, 256, .inl thr)),
  (q 7, .inr (2, [.ref (q 1), .ref (q 8), .ref (q 9), .ref (q 10), .ref (q 11), .ref (q 12), .ref (q 13)])),
  (q 8, .inl (cI, 256, .inl rank)), (q 9, .inl (cZ, 256, .inl com)), (q 10, .inl (cI, 256, .inl kx)), (q 11, .inl (cI, 256, .inl ky)), (q 12, .inl (cI, 256, .inl kz)),
  (q 13, .inr (0, [.int x0, .int y0, .int z0])),
  (q 14, .inr (1, [.ref (q 1), .ref (q 7), .ref (q 15), .ref (q 16), .ref (q 17), .ref (q 18), .ref (q 19), .ref (q 20), .ref (q 21), .ref (q 22), .ref (q 23), .int found, .int lines])),
  (q 15, .inl (cI, 206, .inl marks)), (q 16, .inl (cI, 577, .inl reached)), (q 17, .inl (cI, 577, .inl rows)), (q 18, .inl (cI, 577, .inl widths)), (q 19, .inl (cI, 55, .inl la)), (q 20, .inl (cI, 55, .inl lb)),
  (q 21, .inr (0, [.int x1, .int y1, .int z1])), (q 22, .inr (0, [.int x2, .int y2, .int z2])), (q 23, .inr (0, [.int x3, .int y3, .int z3])),
  (q 24, .inr (4, [.ref (q 1), .ref (q 25)])), (q 25, .inl (cI, 8, .inl turned))]
/-- the reference's world -/
def WM_ (q : Nat → Nat) (cI cJ cZ : ClassId) (wide many old sm nm : Int32) (wl isf even nev : Nat → Int32) (sums nxt tab : Nat → Int64) : va_W := [
  (q 0, .inr (6, [.int wide, .int many, .ref (q 1), .ref (q 2), .int old, .ref (q 3), .ref (q 4), .int sm, .ref (q 5), .ref (q 6), .int nm, .ref (q 7)])),
  (q 1, .inl (cI, 32, .inl wl)), (q 2, .inl (cZ, 6561, .inl isf)), (q 3, .inl (cJ, 4400, .inr (.inl sums))), (q 4, .inl (cZ, 1100, .inl even)),
  (q 5, .inl (cJ, 4400, .inr (.inl nxt))), (q 6, .inl (cZ, 1100, .inl nev)), (q 7, .inl (cJ, 32, .inr (.inl tab)))]
