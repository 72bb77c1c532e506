/-! masks and rows of signs -/
theorem sh_1 : ∀ k : Nat, k < 31 → (1 : Int32) <<< (nI k &&& 31) = nI (2 ^ k) := by
  have h : ∀ k : Fin 31, (1 : Int32) <<< (nI k.val &&& 31) = nI (2 ^ k.val) := by decide +kernel
  exact fun k hk => h ⟨k, hk⟩
theorem nI_bv (n : Nat) : (nI n).toBitVec = BitVec.ofNat 32 n := rfl
theorem nI_or (a b : Nat) : nI a ||| nI b = nI (a ||| b) := by
  apply Int32.toBitVec_inj.mp
  rw [Int32.toBitVec_or, nI_bv, nI_bv, nI_bv]
  exact BitVec.ofNat_or.symm
theorem nI_and (a b : Nat) : nI a &&& nI b = nI (a &&& b) := by
  apply Int32.toBitVec_inj.mp
  rw [Int32.toBitVec_and, nI_bv, nI_bv, nI_bv]
  exact BitVec.ofNat_and.symm
theorem nI_xor (a b : Nat) : nI a ^^^ nI b = nI (a ^^^ b) := by
  apply Int32.toBitVec_inj.mp
  rw [Int32.toBitVec_xor, nI_bv, nI_bv, nI_bv]
  exact BitVec.ofNat_xor.symm
theorem or_add {a k : Nat} (h : a < 2 ^ k) : a ||| 2 ^ k = a + 2 ^ k := by
  rw [Nat.or_comm, Nat.add_comm]
  have := Nat.two_pow_add_eq_or_of_lt (i := k) h 1
  rw [Nat.mul_one] at this
  exact this.symm
/-- the sign of a row at a wall -/
def dg_ (r k : Nat) : Nat := r / 3 ^ k % 3
/-- the walls at which a row has a sign -/
def mk_ : Nat → Nat → Nat → Nat
  | 0, _, _ => 0
  | n + 1, r, s => mk_ n r s + if dg_ r n = s then 2 ^ n else 0
theorem mk_lt (n r s : Nat) : mk_ n r s < 2 ^ n := by
  induction n with
  | zero => simp [mk_]
  | succ n ih =>
    simp only [mk_]
    rw [Nat.pow_succ]
    split <;> omega
theorem f_maskOf {r s : Nat} (hr : r < 2 ^ 31) (hs : s < 3) : fX5_maskOf (nI r) (nI s) = some (nI (mk_ 8 r s)) := by
  have hd : ∀ k, r / 3 ^ k < 2 ^ 31 := fun k => Nat.lt_of_le_of_lt (Nat.div_le_self _ _) hr
  unfold fX5_maskOf
  refine bind_yes (a := (nI 8, nI (r / 3 ^ 8), nI (mk_ 8 r s))) ?_
  have := lp_seq (body := fun (st : (Int32 × Int32 × Int32)) => fX5_maskOf_L7 (nI s) st.1 st.2.1 st.2.2) (fun k => (nI k, nI (r / 3 ^ k), nI (mk_ k r s))) 8 (by decide) (r := (nI 8, nI (r / 3 ^ 8), nI (mk_ 8 r s))) ?_ ?_
  · rw [Nat.pow_zero, Nat.div_one] at this
    exact this
  · intro k hk
    show fX5_maskOf_L7 (nI s) (nI k) (nI (r / 3 ^ k)) (nI (mk_ k r s)) = _
    unfold fX5_maskOf_L7
    rw [if_neg (show ¬ (8 : Int32) ≤ nI k from nI_ge hk (by decide))]
    have e3 : (3 : Int32) = nI 3 := rfl
    have h1 : nI (r / 3 ^ k) - nI (r / 3 ^ k) / (3 : Int32) * (3 : Int32) = nI (dg_ r k) := by rw [e3, pk_rem (hd k) (by decide) (by decide)]; rfl
    have h2 : nI (r / 3 ^ k) / (3 : Int32) = nI (r / 3 ^ (k + 1)) := by rw [e3, pk_div (hd k) (by decide) (by decide), Nat.div_div_eq_div_mul, Nat.pow_succ]
    have h3 : nI k + (1 : Int32) = nI (k + 1) := nI_1 k
    rw [h1, h2, h3]
    have hdl : dg_ r k < 2 ^ 31 := Nat.lt_trans (Nat.mod_lt _ (by decide)) (by decide)
    by_cases hc : dg_ r k = s
    · rw [if_pos (by rw [hc])]
      have : nI (mk_ k r s) ||| ((1 : Int32) <<< (nI k &&& 31)) = nI (mk_ (k + 1) r s) := by
        rw [sh_1 k (by omega), nI_or, or_add (mk_lt k r s)]
        simp only [mk_, if_pos hc]
      rw [this]
    · rw [if_neg (fun h => hc ((nI_eq hdl (by omega)).mp h))]
      have : mk_ (k + 1) r s = mk_ k r s := by simp only [mk_, if_neg hc]; rfl
      rw [this]
  · show fX5_maskOf_L7 (nI s) (nI 8) (nI (r / 3 ^ 8)) (nI (mk_ 8 r s)) = _
    unfold fX5_maskOf_L7
    rw [if_pos (show (8 : Int32) ≤ nI 8 by decide)]
theorem f_parting {r r' : Nat} (hr : r < 2 ^ 31) (hr' : r' < 2 ^ 31) : fX5_parting (nI r) (nI r') = some (nI (mk_ 8 r 2 ^^^ mk_ 8 r' 2)) := by
  unfold fX5_parting
  rw [show (2 : Int32) = nI 2 from rfl, bind_yes (f_maskOf hr (by decide)), bind_yes (f_maskOf hr' (by decide)), nI_xor]
theorem f_power {k : Nat} (hk : k ≤ 19) : fX6_power (nI k) = some (nI (3 ^ k)) := by
  unfold fX6_power
  refine bind_yes (a := (nI k, nI (3 ^ k))) ?_
  refine lp_seq (body := fun (st : (Int32 × Int32)) => fX6_power_L4 (nI k) st.1 st.2) (fun i => (nI i, nI (3 ^ i))) k (by omega) (r := (nI k, nI (3 ^ k))) ?_ ?_
  · intro i hi
    show fX6_power_L4 (nI k) (nI i) (nI (3 ^ i)) = _
    unfold fX6_power_L4
    rw [if_neg (nI_ge hi (by omega)), nI_1, show (3 : Int32) = nI 3 from rfl, pk_mul, Nat.pow_succ]
  · show fX6_power_L4 (nI k) (nI k) (nI (3 ^ k)) = _
    unfold fX6_power_L4
    rw [if_pos (nI_le (Nat.le_refl k) (by omega))]
theorem nI_z {n : Nat} (h0 : 0 < n) (h : n < 2 ^ 31) : ¬ nI n = 0 := nI_ne0 h0 h
theorem f_sign {r k : Nat} (hr : r < 2 ^ 31) (hk : k ≤ 19) : fX6_sign (nI r) (nI k) = some (nI (dg_ r k)) := by
  have h3 : 3 ^ k < 2 ^ 31 := Nat.lt_of_le_of_lt (Nat.pow_le_pow_right (by decide) hk) (by decide)
  have h4 : 0 < 3 ^ k := Nat.pow_pos (by decide)
  unfold fX6_sign
  rw [bind_yes (f_power hk), ck_yes (nI_z h4 h3), pk_div hr h4 h3, show (3 : Int32) = nI 3 from rfl, pk_rem (Nat.lt_of_le_of_lt (Nat.div_le_self _ _) hr) (by decide) (by decide)]
  rfl
