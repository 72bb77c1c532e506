/-! the words of nest mates, the static row, the worlds, the calls -/
abbrev in_R (i : Int32) (n : Nat) : Prop := ¬ (i < 0 ∨ n ≤ i.toNatClampNeg)
def ck_ {α : Type} (c : Prop) [Decidable c] (k : Option α) : Option α := if c then k else none
theorem ck_some {α : Type} {c : Prop} [Decidable c] {k : Option α} {r : α} (h : ck_ c k = some r) : c ∧ k = some r := by
  unfold ck_ at h
  by_cases hc : c
  · rw [if_pos hc] at h; exact ⟨hc, h⟩
  · rw [if_neg hc] at h; cases h
theorem bd_some {α β : Type} {o : Option α} {k : α → Option β} {b : β} (h : o.bind k = some b) : ∃ a, o = some a ∧ k a = some b := by
  cases o with
  | none => cases h
  | some a => exact ⟨a, rfl, h⟩
def nm_ {α β : Type} (e : α) (k : α → β) : β := k e
theorem nm_some {α β : Type} {e x : α} {k : α → β} {r : β} (ex : x = e) (h : nm_ e k = r) : k x = r := by subst ex; exact h
/-- a loop: its body goes on with a new state (inl) or leaves (inr) -/
def lp_ {σ ρ : Type} (body : σ → Option (σ ⊕ ρ)) : Nat → σ → Option ρ
  | 0, _ => none
  | n + 1, s => (body s).bind (fun x => match x with
    | .inl s' => lp_ body n s'
    | .inr r => some r)
def lp_next {σ ρ : Type} (body : σ → Option (σ ⊕ ρ)) (n : Nat) (r : ρ) (x : σ ⊕ ρ) : Prop := match x with
  | .inl s' => lp_ body n s' = some r
  | .inr r' => r' = r
theorem lp_some {σ ρ : Type} {body : σ → Option (σ ⊕ ρ)} {n : Nat} {s : σ} {r : ρ} (h : lp_ body (n + 1) s = some r) : ∃ x, body s = some x ∧ lp_next body n r x := by
  obtain ⟨x, h1, h2⟩ := bd_some (show (body s).bind _ = some r from h)
  refine ⟨x, h1, ?_⟩
  cases x with
  | inl s' => exact h2
  | inr r' => exact Option.some.inj h2
theorem lp_zero {σ ρ : Type} {body : σ → Option (σ ⊕ ρ)} {s : σ} {r : ρ} (h : lp_ body 0 s = some r) : False := by cases h
/-- rounds enough for every loop of the program -/
def fu_ : Nat := 1000000000

/-- the static row of powers -/
def pw_ (j : Nat) : Int32 := nI (3 ^ j)
