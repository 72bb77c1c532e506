/-! rows of signs and masks out of functions -/
def rn_ (s : Nat → Nat) : Nat → Nat
  | 0 => 0
  | n + 1 => rn_ s n + s n * 3 ^ n
theorem rn_lt {s : Nat → Nat} : ∀ {n : Nat}, (∀ k, k < n → s k ≤ 2) → rn_ s n < 3 ^ n := by
  intro n
  induction n with
  | zero => intro _; simp [rn_]
  | succ n ih =>
    intro h
    have h1 := ih (fun k hk => h k (by omega))
    have h2 := h n (by omega)
    have h3 : s n * 3 ^ n ≤ 2 * 3 ^ n := Nat.mul_le_mul_right _ h2
    simp only [rn_]
    rw [Nat.pow_succ]
    omega
theorem rn_cg {s t : Nat → Nat} : ∀ {n : Nat}, (∀ k, k < n → s k = t k) → rn_ s n = rn_ t n := by
  intro n
  induction n with
  | zero => intro _; rfl
  | succ n ih =>
    intro h
    simp only [rn_]
    rw [ih (fun k hk => h k (by omega)), h n (by omega)]
theorem dg_add (r t : Nat) {k n : Nat} (h : k < n) : dg_ (r + t * 3 ^ n) k = dg_ r k := by
  obtain ⟨j, rfl⟩ : ∃ j, n = k + 1 + j := ⟨n - (k + 1), by omega⟩
  unfold dg_
  have e : r + t * 3 ^ (k + 1 + j) = r + (3 * (t * 3 ^ j)) * 3 ^ k := by
    rw [Nat.pow_add, Nat.pow_succ]
    congr 1
    grind
  rw [e, Nat.add_mul_div_right _ _ (Nat.pow_pos (by decide)), Nat.add_mul_mod_self_left]
theorem dg_top {r t n : Nat} (hr : r < 3 ^ n) (ht : t ≤ 2) : dg_ (r + t * 3 ^ n) n = t := by
  unfold dg_
  rw [Nat.add_mul_div_right _ _ (Nat.pow_pos (by decide)), Nat.div_eq_of_lt hr, Nat.zero_add]
  omega
theorem dg_high {r n k : Nat} (hr : r < 3 ^ n) (h : n ≤ k) : dg_ r k = 0 := by
  unfold dg_
  rw [Nat.div_eq_of_lt (Nat.lt_of_lt_of_le hr (Nat.pow_le_pow_right (by decide) h))]
theorem dg_le (r k : Nat) : dg_ r k ≤ 2 := by
  have := Nat.mod_lt (r / 3 ^ k) (show 0 < 3 by decide)
  unfold dg_
  omega
theorem dg_rn {s : Nat → Nat} : ∀ {n : Nat}, (∀ k, k < n → s k ≤ 2) → ∀ k, k < n → dg_ (rn_ s n) k = s k := by
  intro n
  induction n with
  | zero => intro _ k hk; omega
  | succ n ih =>
    intro h k hk
    simp only [rn_]
    rcases (show k < n ∨ k = n by omega) with q | rfl
    · rw [dg_add _ _ q]; exact ih (fun k hk => h k (by omega)) k q
    · exact dg_top (rn_lt (fun j hj => h j (by omega))) (h k (by omega))
theorem rn_mod (r : Nat) : ∀ n, rn_ (dg_ r) n = r % 3 ^ n := by
  intro n
  induction n with
  | zero => simp [rn_, Nat.mod_one]
  | succ n ih =>
    simp only [rn_]
    rw [ih, Nat.mod_pow_succ, Nat.mul_comm (3 ^ n)]
    rfl
theorem rn_dg {r n : Nat} (h : r < 3 ^ n) : rn_ (dg_ r) n = r := by rw [rn_mod, Nat.mod_eq_of_lt h]
theorem dg_ext {r r' n : Nat} (h : r < 3 ^ n) (h' : r' < 3 ^ n) (hd : ∀ k, k < n → dg_ r k = dg_ r' k) : r = r' := by
  rw [← rn_dg h, ← rn_dg h', rn_cg hd]
theorem rn_mix (f g : Nat → Nat) : ∀ n, rn_ (fun k => f k + 2 * g k) n = rn_ f n + 2 * rn_ g n := by
  intro n
  induction n with
  | zero => rfl
  | succ n ih => simp only [rn_]; rw [ih]; grind
theorem rn_pad {f : Nat → Nat} {n : Nat} : ∀ j, (∀ k, n ≤ k → f k = 0) → rn_ f (n + j) = rn_ f n := by
  intro j h
  induction j with
  | zero => rfl
  | succ j ih =>
    show rn_ f (n + j) + f (n + j) * 3 ^ (n + j) = _
    rw [h (n + j) (by omega), ih]; simp
theorem rn_pad' {f : Nat → Nat} {n m : Nat} (hm : n ≤ m) (h : ∀ k, n ≤ k → f k = 0) : rn_ f m = rn_ f n := by
  have := rn_pad (f := f) (n := n) (m - n) h
  rwa [show n + (m - n) = m by omega] at this
/-- a mask out of a function -/
def bn_ (b : Nat → Bool) : Nat → Nat
  | 0 => 0
  | n + 1 => bn_ b n + if b n = true then 2 ^ n else 0
theorem bn_lt (b : Nat → Bool) : ∀ n, bn_ b n < 2 ^ n := by
  intro n
  induction n with
  | zero => simp [bn_]
  | succ n ih =>
    simp only [bn_]
    rw [Nat.pow_succ]
    split <;> omega
theorem bn_lt8 (b : Nat → Bool) {n : Nat} (h : n ≤ 8) : bn_ b n < 256 := Nat.lt_of_lt_of_le (bn_lt b n) (Nat.pow_le_pow_right (n := 2) (j := 8) (by decide) h)
theorem bn_cg {a b : Nat → Bool} : ∀ {n : Nat}, (∀ k, k < n → a k = b k) → bn_ a n = bn_ b n := by
  intro n
  induction n with
  | zero => intro _; rfl
  | succ n ih =>
    intro h
    simp only [bn_]
    rw [ih (fun k hk => h k (by omega)), h n (by omega)]
theorem bn_bit (b : Nat → Bool) : ∀ n k, (bn_ b n).testBit k = (decide (k < n) && b k) := by
  intro n
  induction n with
  | zero => intro k; simp [bn_]
  | succ n ih =>
    intro k
    simp only [bn_]
    by_cases hb : b n = true
    · rw [if_pos hb, ← or_add (bn_lt b n), Nat.testBit_or, ih k, Nat.testBit_two_pow]
      rcases (show k < n ∨ k = n ∨ n < k by omega) with q | rfl | q
      · have : ¬ n = k := by omega
        simp [q, this, show k < n + 1 by omega]
      · simp [hb]
      · have h1 : ¬ k < n := by omega
        have h2 : ¬ k < n + 1 := by omega
        have h3 : ¬ n = k := by omega
        simp [h1, h2, h3]
    · rw [if_neg hb, Nat.add_zero, ih k]
      have hb' : b n = false := by simpa using hb
      rcases (show k < n ∨ k = n ∨ n < k by omega) with q | rfl | q
      · simp [q, show k < n + 1 by omega]
      · simp [hb']
      · have h1 : ¬ k < n := by omega
        have h2 : ¬ k < n + 1 := by omega
        simp [h1, h2]
theorem lt_bit {h n k : Nat} (hh : h < 2 ^ n) (hk : h.testBit k = true) : k < n := by
  refine Classical.byContradiction fun q => ?_
  rw [Nat.testBit_lt_two_pow (Nat.lt_of_lt_of_le hh (Nat.pow_le_pow_right (by decide) (by omega)))] at hk
  cases hk
theorem bn_of {h n : Nat} (hh : h < 2 ^ n) : bn_ (fun k => h.testBit k) n = h := by
  apply Nat.eq_of_testBit_eq
  intro k
  rw [bn_bit]
  by_cases q : k < n
  · simp [q]
  · have : h.testBit k = false := by
      cases e : h.testBit k with
      | false => rfl
      | true => exact absurd (lt_bit hh e) q
    simp [this]
theorem mk_bn (r s : Nat) : ∀ n, mk_ n r s = bn_ (fun k => decide (dg_ r k = s)) n := by
  intro n
  induction n with
  | zero => rfl
  | succ n ih =>
    simp only [mk_, bn_, ih]
    by_cases h : dg_ r n = s <;> simp [h]
theorem bn_pad {b : Nat → Bool} {n m : Nat} (hm : n ≤ m) (h : ∀ k, n ≤ k → b k = false) : bn_ b m = bn_ b n := by
  apply Nat.eq_of_testBit_eq
  intro k
  rw [bn_bit, bn_bit]
  rcases (show k < n ∨ n ≤ k by omega) with q | q
  · simp [q, show k < m by omega]
  · simp [h k q]
theorem mk_dig {r n s : Nat} (hn : n ≤ 8) (hr : r < 3 ^ n) (hs : 0 < s) : mk_ 8 r s = bn_ (fun k => decide (dg_ r k = s)) n := by
  rw [mk_bn]
  refine bn_pad hn (fun k hk => ?_)
  rw [dg_high hr hk]
  simp; omega
theorem bn_zero {b : Nat → Bool} {n : Nat} : bn_ b n = 0 ↔ ∀ k, k < n → b k = false := by
  constructor
  · intro h k hk
    have := bn_bit b n k
    rw [h, Nat.zero_testBit] at this
    simp [hk] at this
    exact this
  · intro h
    apply Nat.eq_of_testBit_eq
    intro k
    rw [bn_bit, Nat.zero_testBit]
    by_cases q : k < n
    · simp [h k q]
    · simp [q]
theorem bn_all (n : Nat) : bn_ (fun _ => true) n = 2 ^ n - 1 := by
  apply Nat.eq_of_testBit_eq
  intro k
  rw [bn_bit, Nat.testBit_two_pow_sub_one]
  simp
theorem bn_eq {a b : Nat → Bool} {n : Nat} : bn_ a n = bn_ b n ↔ ∀ k, k < n → a k = b k := by
  constructor
  · intro h k hk
    have h1 := bn_bit a n k
    have h2 := bn_bit b n k
    rw [h, h2] at h1
    simp [hk] at h1
    exact h1.symm
  · exact bn_cg
theorem bn_and (a b : Nat → Bool) (n : Nat) : bn_ a n &&& bn_ b n = bn_ (fun k => a k && b k) n := by
  apply Nat.eq_of_testBit_eq
  intro k
  rw [Nat.testBit_and, bn_bit, bn_bit, bn_bit]
  cases decide (k < n) <;> simp
theorem bn_or (a b : Nat → Bool) (n : Nat) : bn_ a n ||| bn_ b n = bn_ (fun k => a k || b k) n := by
  apply Nat.eq_of_testBit_eq
  intro k
  rw [Nat.testBit_or, bn_bit, bn_bit, bn_bit]
  cases decide (k < n) <;> simp
theorem bn_xor (a b : Nat → Bool) (n : Nat) : bn_ a n ^^^ bn_ b n = bn_ (fun k => a k ^^ b k) n := by
  apply Nat.eq_of_testBit_eq
  intro k
  rw [Nat.testBit_xor, bn_bit, bn_bit, bn_bit]
  cases decide (k < n) <;> simp
/-- one mask without another -/
theorem nI_andn (a b : Nat) : nI a &&& (nI b ^^^ (-1 : Int32)) = nI (a ^^^ (a &&& b)) := by
  rw [← nI_xor, ← nI_and]
  apply b_ext
  intro i hi
  rw [b_and, b_xor, b_xor, b_and, b_m1 i hi]
  cases bt (nI a) i <;> cases bt (nI b) i <;> rfl
theorem bn_andn (a b : Nat → Bool) (n : Nat) : nI (bn_ a n) &&& (nI (bn_ b n) ^^^ (-1 : Int32)) = nI (bn_ (fun k => a k && !b k) n) := by
  rw [nI_andn, bn_and, bn_xor]
  congr 1
  refine bn_cg (fun k _ => ?_)
  cases a k <;> cases b k <;> rfl
theorem nI_all {n : Nat} (h : n ≤ 8) : ((1 : Int32) <<< (nI n &&& 31)) - (1 : Int32) = nI (2 ^ n - 1) := by
  rw [sh_1 n (by omega), show (1 : Int32) = nI 1 from rfl, pk_sub (Nat.pow_pos (by decide))]
/-- signs, packed: the walls that the place is on, and 256 times those that it is above -/
def sp_ (s : Nat → Nat) (n : Nat) : Nat := bn_ (fun k => decide (s k = 1)) n + 256 * bn_ (fun k => decide (s k = 2)) n
theorem sp_lt {s : Nat → Nat} {n : Nat} (h : n ≤ 8) : sp_ s n < 65536 := by
  have h1 := bn_lt8 (fun k => decide (s k = 1)) h
  have h2 := bn_lt8 (fun k => decide (s k = 2)) h
  unfold sp_
  omega
theorem f_onMask {s : Nat → Nat} {n : Nat} (h : n ≤ 8) : fX5_onMask (nI (sp_ s n)) = some (nI (bn_ (fun k => decide (s k = 1)) n)) := by
  unfold fX5_onMask
  have h1 := bn_lt8 (fun k => decide (s k = 1)) h
  rw [pk_andN (m := 255) (Nat.lt_trans (sp_lt h) (by decide)) 8 (by decide)]
  unfold sp_
  rw [show (2 : Nat) ^ 8 = 256 from rfl, Nat.add_mul_mod_self_left, Nat.mod_eq_of_lt h1]
theorem f_aboveMask {s : Nat → Nat} {n : Nat} (h : n ≤ 8) : fX5_aboveMask (nI (sp_ s n)) = some (nI (bn_ (fun k => decide (s k = 2)) n)) := by
  unfold fX5_aboveMask
  have h1 := bn_lt8 (fun k => decide (s k = 1)) h
  have h2 := bn_lt8 (fun k => decide (s k = 2)) h
  have h3 := sp_lt (s := s) h
  rw [pk_shrN (Nat.lt_trans h3 (by decide)) ((8 : Int32) &&& 31) 8 (by decide), pk_andN (m := 255) (Nat.lt_of_le_of_lt (Nat.div_le_self _ _) (Nat.lt_trans h3 (by decide))) 8 (by decide)]
  unfold sp_
  rw [show (2 : Nat) ^ 8 = 256 from rfl, Nat.add_mul_div_left _ _ (by decide), Nat.div_eq_of_lt h1, Nat.zero_add, Nat.mod_eq_of_lt h2]
/-- the sum of the powers of three at a heap's walls -/
def th_ (h : Nat) : Nat := rn_ (fun k => if h.testBit k = true then 1 else 0) 8
theorem th_lt (h : Nat) : th_ h < 6561 := rn_lt (n := 8) (fun k _ => by split <;> omega)
def TH_ (vth : Nat → Int32) : Prop := ∀ h, h < 256 → vth h = nI (th_ h)
theorem sp_row {s : Nat → Nat} {n : Nat} (h : n ≤ 8) (hs : ∀ k, k < n → s k ≤ 2) : th_ (bn_ (fun k => decide (s k = 1)) n) + 2 * th_ (bn_ (fun k => decide (s k = 2)) n) = rn_ s n := by
  unfold th_
  rw [← rn_mix]
  rw [rn_pad' (n := n) h (fun k hk => by
    have q : ¬ k < n := by omega
    simp [bn_bit, q])]
  refine rn_cg (fun k hk => ?_)
  have := hs k hk
  simp only [bn_bit]
  rcases (show s k = 0 ∨ s k = 1 ∨ s k = 2 by omega) with q | q | q <;> simp [hk, q]
theorem f_rowOf {vth : Nat → Int32} (hT : TH_ vth) {s : Nat → Nat} {n : Nat} (h : n ≤ 8) (hs : ∀ k, k < n → s k ≤ 2) : fX3_rowOf vth (nI (sp_ s n)) = some (nI (rn_ s n)) := by
  have h1 := bn_lt8 (fun k => decide (s k = 1)) h
  have h2 := bn_lt8 (fun k => decide (s k = 2)) h
  unfold fX3_rowOf
  rw [bind_yes (f_onMask h), ck_yes (in_R_nI h1 (by decide)), bind_yes (f_aboveMask h), ck_yes (in_R_nI h2 (by decide)), nI_clamp (Nat.lt_trans h1 (by decide)), nI_clamp (Nat.lt_trans h2 (by decide)), hT _ h1, hT _ h2, show (2 : Int32) = nI 2 from rfl, pk_mul, nI_add, sp_row h hs]
theorem rn_6561 {s : Nat → Nat} {n : Nat} (h : n ≤ 8) (hs : ∀ k, k < n → s k ≤ 2) : rn_ s n < 6561 := Nat.lt_of_lt_of_le (rn_lt hs) (Nat.pow_le_pow_right (n := 3) (j := 8) (by decide) h)
theorem p3_6561 {n : Nat} (h : n ≤ 8) : 3 ^ n ≤ 6561 := Nat.pow_le_pow_right (n := 3) (j := 8) (by decide) h
