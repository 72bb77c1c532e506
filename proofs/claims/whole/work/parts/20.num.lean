/-! numbers of the machine, and loops of the functions -/
theorem lp_all {σ ρ : Type} {body : σ → Option (σ ⊕ ρ)} (I : Nat → σ → Prop) (Q : ρ → Prop) (N : Nat)
    (hstep : ∀ k s, k < N → I k s → (∃ s', body s = some (.inl s') ∧ I (k + 1) s') ∨ ∃ r, body s = some (.inr r) ∧ Q r)
    (hend : ∀ s, I N s → ∃ r, body s = some (.inr r) ∧ Q r) : ∀ (n k : Nat) (s : σ), k ≤ N → N - k < n → I k s → ∃ r, lp_ body n s = some r ∧ Q r := by
  intro n
  induction n with
  | zero => intro k s _ h; omega
  | succ n ih =>
    intro k s hk hn hI
    have leave : (∃ r, body s = some (.inr r) ∧ Q r) → ∃ r, lp_ body (n + 1) s = some r ∧ Q r := by
      rintro ⟨r, h1, h2⟩
      refine ⟨r, ?_, h2⟩
      show (body s).bind _ = some r
      rw [h1]; rfl
    rcases Nat.lt_or_ge k N with hlt | hge
    · rcases hstep k s hlt hI with ⟨s', h1, h2⟩ | h
      · obtain ⟨r, h3, h4⟩ := ih (k + 1) s' hlt (by omega) h2
        refine ⟨r, ?_, h4⟩
        show (body s).bind _ = some r
        rw [h1]; exact h3
      · exact leave h
    · have : k = N := by omega
      subst this
      exact leave (hend s hI)
theorem lp_for {σ ρ : Type} {body : σ → Option (σ ⊕ ρ)} (I : Nat → σ → Prop) (Q : ρ → Prop) (N : Nat) (hN : N < 1000000000) {s : σ} (h0 : I 0 s)
    (hstep : ∀ k s, k < N → I k s → (∃ s', body s = some (.inl s') ∧ I (k + 1) s') ∨ ∃ r, body s = some (.inr r) ∧ Q r)
    (hend : ∀ s, I N s → ∃ r, body s = some (.inr r) ∧ Q r) : ∃ r, lp_ body fu_ s = some r ∧ Q r :=
  lp_all I Q N hstep hend fu_ 0 s (Nat.zero_le _) (by unfold fu_; omega) h0
/-- a loop whose states are known one by one -/
theorem lp_seq {σ ρ : Type} {body : σ → Option (σ ⊕ ρ)} (st : Nat → σ) (N : Nat) (hN : N < 1000000000) {r : ρ}
    (hstep : ∀ k, k < N → body (st k) = some (.inl (st (k + 1)))) (hend : body (st N) = some (.inr r)) : lp_ body fu_ (st 0) = some r := by
  obtain ⟨r', h1, h2⟩ := lp_for (body := body) (fun k s => s = st k) (fun x => x = r) N hN (s := st 0) rfl
    (fun k s hk hs => Or.inl ⟨st (k + 1), by rw [hs]; exact hstep k hk, rfl⟩) (fun s hs => ⟨r, by rw [hs]; exact hend, rfl⟩)
  rw [h1, h2]
theorem ck_yes {α : Type} {c : Prop} [Decidable c] {k : Option α} (h : c) : ck_ c k = k := by unfold ck_; exact if_pos h
theorem in_R_nI {k n : Nat} (h : k < n) (hn : n < 2 ^ 31) : in_R (nI k) n := vp_in_nI h hn
theorem bind_yes {α β : Type} {o : Option α} {a : α} {k : α → Option β} (h : o = some a) : o.bind k = k a := by rw [h]; rfl
def sm_ (z : Int) : Prop := -2147483648 ≤ z ∧ z < 2147483648
def iI_ (z : Int) : Int32 := Int32.ofInt z
theorem iI_toInt {z : Int} (h : sm_ z) : (iI_ z).toInt = z := Int32.toInt_ofInt_of_le h.1 h.2
theorem iI_of (x : Int32) : iI_ x.toInt = x := Int32.ofInt_toInt x
theorem iI_add (a b : Int) : iI_ a + iI_ b = iI_ (a + b) := (Int32.ofInt_add a b).symm
theorem iI_sub (a b : Int) : iI_ a - iI_ b = iI_ (a - b) := (Int32.ofInt_sub a b).symm
theorem iI_mul (a b : Int) : iI_ a * iI_ b = iI_ (a * b) := (Int32.ofInt_mul a b).symm
theorem iI_neg (a : Int) : - iI_ a = iI_ (- a) := (Int32.ofInt_neg a).symm
theorem iI_nat (n : Nat) : iI_ (n : Int) = nI n := Int32.ofInt_eq_ofNat
theorem iI_lt {a b : Int} (ha : sm_ a) (hb : sm_ b) : iI_ a < iI_ b ↔ a < b := by rw [Int32.lt_iff_toInt_lt, iI_toInt ha, iI_toInt hb]
theorem iI_le {a b : Int} (ha : sm_ a) (hb : sm_ b) : iI_ a ≤ iI_ b ↔ a ≤ b := by rw [Int32.le_iff_toInt_le, iI_toInt ha, iI_toInt hb]
theorem iI_eq {a b : Int} (ha : sm_ a) (hb : sm_ b) : iI_ a = iI_ b ↔ a = b := ⟨fun h => by rw [← iI_toInt ha, ← iI_toInt hb, h], fun h => by rw [h]⟩
theorem iI_0 : (0 : Int32) = iI_ 0 := rfl
theorem iI_1 : (1 : Int32) = iI_ 1 := rfl
def sl_ (z : Int) : Prop := -9223372036854775808 ≤ z ∧ z < 9223372036854775808
def iL_ (z : Int) : Int64 := Int64.ofInt z
theorem iL_toInt {z : Int} (h : sl_ z) : (iL_ z).toInt = z := Int64.toInt_ofInt_of_le h.1 h.2
theorem iL_add (a b : Int) : iL_ a + iL_ b = iL_ (a + b) := (Int64.ofInt_add a b).symm
theorem iL_sub (a b : Int) : iL_ a - iL_ b = iL_ (a - b) := (Int64.ofInt_sub a b).symm
theorem iL_mul (a b : Int) : iL_ a * iL_ b = iL_ (a * b) := (Int64.ofInt_mul a b).symm
theorem iL_neg (a : Int) : - iL_ a = iL_ (- a) := (Int64.ofInt_neg a).symm
theorem iL_lt {a b : Int} (ha : sl_ a) (hb : sl_ b) : iL_ a < iL_ b ↔ a < b := by rw [Int64.lt_iff_toInt_lt, iL_toInt ha, iL_toInt hb]
theorem iL_le {a b : Int} (ha : sl_ a) (hb : sl_ b) : iL_ a ≤ iL_ b ↔ a ≤ b := by rw [Int64.le_iff_toInt_le, iL_toInt ha, iL_toInt hb]
theorem iL_eq {a b : Int} (ha : sl_ a) (hb : sl_ b) : iL_ a = iL_ b ↔ a = b := ⟨fun h => by rw [← iL_toInt ha, ← iL_toInt hb, h], fun h => by rw [h]⟩
theorem iI_toL {a : Int} (ha : sm_ a) : (iI_ a).toInt64 = iL_ a := by
  apply Int64.toInt_inj.mp
  rw [iL_toInt ⟨by have := ha.1; omega, by have := ha.2; omega⟩, Int32.toInt_toInt64, iI_toInt ha]
