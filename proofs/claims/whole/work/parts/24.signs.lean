/-! signs, arrows: the class's planes as whole numbers -/
def ab_ (z : Int) (B : Nat) : Prop := z.natAbs ≤ B
theorem ab_mul {x y : Int} {A B : Nat} (h : ab_ x A) (h' : ab_ y B) : ab_ (x * y) (A * B) := by
  unfold ab_ at *
  rw [Int.natAbs_mul]
  exact Nat.mul_le_mul h h'
theorem ab_add {x y : Int} {A B : Nat} (h : ab_ x A) (h' : ab_ y B) : ab_ (x + y) (A + B) := by unfold ab_ at *; omega
theorem ab_sub {x y : Int} {A B : Nat} (h : ab_ x A) (h' : ab_ y B) : ab_ (x - y) (A + B) := by unfold ab_ at *; omega
theorem ab_neg {x : Int} {A : Nat} (h : ab_ x A) : ab_ (- x) A := by unfold ab_ at *; omega
theorem ab_mono {x : Int} {A B : Nat} (h : ab_ x A) (hAB : A ≤ B) : ab_ x B := Nat.le_trans h hAB
theorem ab_sm {x : Int} {A : Nat} (h : ab_ x A) (hA : A < 2147483648) : sm_ x := by unfold ab_ at h; unfold sm_; omega
theorem ab_sl {x : Int} {A : Nat} (h : ab_ x A) (hA : A < 9223372036854775808) : sl_ x := by unfold ab_ at h; unfold sl_; omega
/-- a wall's numbers are small -/
def bw_ (w : Wl_) : Prop := ab_ w.1 9 ∧ ab_ w.2.1 9 ∧ ab_ w.2.2.1 9 ∧ ab_ w.2.2.2 99
/-- the plane at a place of the class's rows -/
def gC_ (va vb vc ve : Nat → Int32) (k : Nat) : Wl_ := ((va k).toInt, (vb k).toInt, (vc k).toInt, (ve k).toInt)
theorem gC_a (va vb vc ve : Nat → Int32) (k : Nat) : va k = iI_ (gC_ va vb vc ve k).1 := (iI_of _).symm
theorem gC_b (va vb vc ve : Nat → Int32) (k : Nat) : vb k = iI_ (gC_ va vb vc ve k).2.1 := (iI_of _).symm
theorem gC_c (va vb vc ve : Nat → Int32) (k : Nat) : vc k = iI_ (gC_ va vb vc ve k).2.2.1 := (iI_of _).symm
theorem gC_e (va vb vc ve : Nat → Int32) (k : Nat) : ve k = iI_ (gC_ va vb vc ve k).2.2.2 := (iI_of _).symm
def sz_ (z : Int) : Nat := if z = 0 then 1 else if z ≤ 0 then 0 else 2
theorem sz_le (z : Int) : sz_ z ≤ 2 := by unfold sz_; split <;> (try split) <;> omega
theorem sg_int (z : Int) : sg_ (z : Rat) = sz_ z := by
  unfold sz_
  by_cases h0 : z = 0
  · rw [if_pos h0]; exact sg_zero (rI_zero.mpr h0)
  · rw [if_neg h0]
    by_cases h1 : z ≤ 0
    · rw [if_pos h1]; exact sg_neg (rI_neg.mpr (by omega))
    · rw [if_neg h1]; exact sg_pos (rI_pos.mpr (by omega))
/-- how far x, y, z is above a wall, t times -/
def ov_ (w : Wl_) (x y z t : Int) : Int := w.1 * x + w.2.1 * y + w.2.2.1 * z - w.2.2.2 * t
theorem ov_dr (w : Wl_) (x y z : Int) : ((ov_ w x y z 0 : Int) : Rat) = dr_ w ((x : Rat), (y : Rat), (z : Rat)) := by
  simp only [ov_, dr_, Rat.intCast_add, Rat.intCast_sub, Rat.intCast_mul]; grind
theorem sp_or (s : Nat → Nat) {k : Nat} (hk : k ≤ 8) : sp_ s k = 2 ^ 8 * bn_ (fun j => decide (s j = 2)) k ||| bn_ (fun j => decide (s j = 1)) k := by
  rw [← Nat.two_pow_add_eq_or_of_lt (bn_lt8 _ hk)]
  unfold sp_
  omega
theorem sp_on {s : Nat → Nat} {k : Nat} (hk : k < 8) (h : s k = 1) : sp_ s k ||| 2 ^ k = sp_ s (k + 1) := by
  rw [sp_or s (by omega), sp_or s (by omega), Nat.or_assoc, or_add (bn_lt _ k)]
  simp only [bn_, h]
  simp
theorem sp_ab {s : Nat → Nat} {k : Nat} (hk : k < 8) (h : s k = 2) : sp_ s k ||| 2 ^ (k + 8) = sp_ s (k + 1) := by
  rw [sp_or s (by omega), sp_or s (by omega), Nat.or_comm, ← Nat.or_assoc]
  simp only [bn_, h]
  simp only [decide_true, if_true, show decide (2 = 1) = false from rfl]
  have e : 2 ^ (k + 8) ||| 2 ^ 8 * bn_ (fun j => decide (s j = 2)) k = 2 ^ 8 * (bn_ (fun j => decide (s j = 2)) k + 2 ^ k) := by
    rw [← or_add (bn_lt _ k), Nat.mul_comm (2 ^ 8), Nat.mul_comm (2 ^ 8), ← Nat.shiftLeft_eq, ← Nat.shiftLeft_eq, Nat.shiftLeft_or_distrib, Nat.or_comm, Nat.shiftLeft_eq (2 ^ k), ← Nat.pow_add]
  rw [e]
  simp
theorem sp_no {s : Nat → Nat} {k : Nat} (h : s k = 0) : sp_ s (k + 1) = sp_ s k := by
  unfold sp_
  simp [bn_, h]
theorem f_signs {va vb vc ve : Nat → Int32} {n : Nat} (hn : n ≤ 8) {x y z t : Int} (hb : ∀ k, k < n → sm_ (ov_ (gC_ va vb vc ve k) x y z t)) :
    fX3_signs (nI n) va vb vc ve (iI_ x) (iI_ y) (iI_ z) (iI_ t) = some (nI (sp_ (fun k => sz_ (ov_ (gC_ va vb vc ve k) x y z t)) n)) := by
  generalize hs : (fun k => sz_ (ov_ (gC_ va vb vc ve k) x y z t)) = s
  have hsk : ∀ k, s k = sz_ (ov_ (gC_ va vb vc ve k) x y z t) := fun k => by rw [← hs]
  unfold fX3_signs
  refine bind_yes (a := (nI n, nI (sp_ s n))) ?_
  refine lp_seq (body := fun (st : (Int32 × Int32)) => fX3_signs_L6 (nI n) va (iI_ x) vb (iI_ y) vc (iI_ z) ve (iI_ t) st.1 st.2) (fun k => (nI k, nI (sp_ s k))) n (by omega) (r := (nI n, nI (sp_ s n))) ?_ ?_
  · intro k hk
    show fX3_signs_L6 (nI n) va (iI_ x) vb (iI_ y) vc (iI_ z) ve (iI_ t) (nI k) (nI (sp_ s k)) = _
    unfold fX3_signs_L6
    have hR : in_R (nI k) 11 := in_R_nI (by omega) (by decide)
    rw [if_neg (nI_ge hk (by omega)), ck_yes hR, ck_yes hR, ck_yes hR, ck_yes hR, nI_clamp (by omega)]
    rw [gC_a va vb vc ve k, gC_b va vb vc ve k, gC_c va vb vc ve k, gC_e va vb vc ve k, iI_mul, iI_mul, iI_mul, iI_mul, iI_add, iI_add, iI_sub]
    show nm_ (iI_ (ov_ (gC_ va vb vc ve k) x y z t)) _ = _
    unfold nm_
    have h0 := hb k hk
    have hz : sm_ 0 := by unfold sm_; omega
    have e1 : (iI_ (ov_ (gC_ va vb vc ve k) x y z t) = 0) ↔ ov_ (gC_ va vb vc ve k) x y z t = 0 := iI_eq h0 hz
    have e2 : (iI_ (ov_ (gC_ va vb vc ve k) x y z t) ≤ 0) ↔ ov_ (gC_ va vb vc ve k) x y z t ≤ 0 := iI_le h0 hz
    have hq := hsk k
    unfold sz_ at hq
    by_cases c0 : ov_ (gC_ va vb vc ve k) x y z t = 0
    · rw [if_pos c0] at hq
      simp only [e1.mpr c0, if_true]
      rw [sh_1 k (by omega), nI_or, sp_on (by omega) hq, nI_1]
    · rw [if_neg c0] at hq
      simp only [e1, if_neg c0]
      by_cases c1 : ov_ (gC_ va vb vc ve k) x y z t ≤ 0
      · rw [if_pos c1] at hq
        simp only [e2, if_pos c1]
        rw [nI_1, sp_no hq]
      · rw [if_neg c1] at hq
        simp only [e2, if_neg c1]
        rw [show nI k + (8 : Int32) = nI (k + 8) from nI_add k 8, sh_1 (k + 8) (by omega), nI_or, sp_ab (by omega) hq, nI_1]
  · show fX3_signs_L6 (nI n) va (iI_ x) vb (iI_ y) vc (iI_ z) ve (iI_ t) (nI n) (nI (sp_ s n)) = _
    unfold fX3_signs_L6
    rw [if_pos (nI_le (Nat.le_refl n) (by omega))]
/-- the way along two planes, in whole numbers -/
def ci_ (x y : Wl_) : Int × Int × Int := (x.2.1 * y.2.2.1 - x.2.2.1 * y.2.1, x.2.2.1 * y.1 - x.1 * y.2.2.1, x.1 * y.2.1 - x.2.1 * y.1)
theorem cx_ci (x y : Wl_) : cx_ x y = (((ci_ x y).1 : Rat), ((ci_ x y).2.1 : Rat), ((ci_ x y).2.2 : Rat)) := by
  simp only [cx_, ci_, Rat.intCast_sub, Rat.intCast_mul]
theorem ci_0 (x y : Wl_) : cx_ x y = o3_ ↔ (ci_ x y).1 = 0 ∧ (ci_ x y).2.1 = 0 ∧ (ci_ x y).2.2 = 0 := by
  rw [cx_ci]
  simp only [o3_, Prod.mk.injEq, rI_zero]
/-- how fast a way leads up over a plane -/
def cl_ (w : Wl_) (v : Int × Int × Int) : Int := w.1 * v.1 + w.2.1 * v.2.1 + w.2.2.1 * v.2.2
theorem cl_dr (w : Wl_) (v : Int × Int × Int) : ((cl_ w v : Int) : Rat) = dr_ w ((v.1 : Rat), (v.2.1 : Rat), (v.2.2 : Rat)) := by
  simp only [cl_, dr_, Rat.intCast_add, Rat.intCast_mul]
theorem cl_cx (w x y : Wl_) : ((cl_ w (ci_ x y) : Int) : Rat) = dr_ w (cx_ x y) := by rw [cl_dr, ← cx_ci]
theorem ab_ci {x y : Wl_} (hx : bw_ x) (hy : bw_ y) : ab_ (ci_ x y).1 162 ∧ ab_ (ci_ x y).2.1 162 ∧ ab_ (ci_ x y).2.2 162 := by
  obtain ⟨a1, a2, a3, -⟩ := hx
  obtain ⟨b1, b2, b3, -⟩ := hy
  exact ⟨ab_sub (ab_mul a2 b3) (ab_mul a3 b2), ab_sub (ab_mul a3 b1) (ab_mul a1 b3), ab_sub (ab_mul a1 b2) (ab_mul a2 b1)⟩
theorem ab_cl {w : Wl_} {v : Int × Int × Int} {B : Nat} (hw : bw_ w) (h1 : ab_ v.1 B) (h2 : ab_ v.2.1 B) (h3 : ab_ v.2.2 B) : ab_ (cl_ w v) (27 * B) := by
  obtain ⟨a1, a2, a3, -⟩ := hw
  exact ab_mono (ab_add (ab_add (ab_mul a1 h1) (ab_mul a2 h2)) (ab_mul a3 h3)) (by omega)
theorem f_cross {va vb vc : Nat → Int32} (ve : Nat → Int32) {j : Nat} (hj : j < 11) (x y z : Int) :
    fX0_crossWith va vb vc (iI_ x) (iI_ y) (iI_ z) (nI j) = some (iI_ (y * (gC_ va vb vc ve j).2.2.1 - z * (gC_ va vb vc ve j).2.1), iI_ (z * (gC_ va vb vc ve j).1 - x * (gC_ va vb vc ve j).2.2.1), iI_ (x * (gC_ va vb vc ve j).2.1 - y * (gC_ va vb vc ve j).1)) := by
  have hR : in_R (nI j) 11 := in_R_nI hj (by decide)
  unfold fX0_crossWith
  rw [ck_yes hR, ck_yes hR, ck_yes hR, nI_clamp (by omega)]
  unfold fX0_set
  show some _ = some _
  rw [gC_a va vb vc ve j, gC_b va vb vc ve j, gC_c va vb vc ve j]
  simp only [iI_mul, iI_sub]
theorem f_along {va vb vc : Nat → Int32} (ve : Nat → Int32) {i j : Nat} (hi : i < 11) (hj : j < 11) :
    fX0_alongBoth va vb vc (nI i) (nI j) = some (iI_ (ci_ (gC_ va vb vc ve i) (gC_ va vb vc ve j)).1, iI_ (ci_ (gC_ va vb vc ve i) (gC_ va vb vc ve j)).2.1, iI_ (ci_ (gC_ va vb vc ve i) (gC_ va vb vc ve j)).2.2) := by
  have hR : in_R (nI i) 11 := in_R_nI hi (by decide)
  unfold fX0_alongBoth
  rw [ck_yes hR, ck_yes hR, ck_yes hR, nI_clamp (by omega)]
  unfold fX0_set
  show (fX0_crossWith va vb vc (va i) (vb i) (vc i) (nI j)).bind _ = _
  rw [gC_a va vb vc ve i, gC_b va vb vc ve i, gC_c va vb vc ve i, bind_yes (f_cross ve hj _ _ _)]
  rfl
theorem f_climb {va vb vc : Nat → Int32} (ve : Nat → Int32) {j : Nat} (hj : j < 11) (x y z : Int) :
    fX0_climb va vb vc (iI_ x) (iI_ y) (iI_ z) (nI j) = some (iI_ (cl_ (gC_ va vb vc ve j) (x, y, z))) := by
  have hR : in_R (nI j) 11 := in_R_nI hj (by decide)
  unfold fX0_climb
  rw [ck_yes hR, ck_yes hR, ck_yes hR, nI_clamp (by omega), gC_a va vb vc ve j, gC_b va vb vc ve j, gC_c va vb vc ve j, iI_mul, iI_mul, iI_mul, iI_add, iI_add]
  rfl
theorem f_nothing {x y z : Int} (hx : sm_ x) (hy : sm_ y) (hz : sm_ z) : fX0_isNothing (iI_ x) (iI_ y) (iI_ z) = some (if x = 0 ∧ y = 0 ∧ z = 0 then 1 else 0) := by
  have h0 : sm_ 0 := by unfold sm_; omega
  have e1 : (iI_ x = 0) ↔ x = 0 := iI_eq hx h0
  have e2 : (iI_ y = 0) ↔ y = 0 := iI_eq hy h0
  have e3 : (iI_ z = 0) ↔ z = 0 := iI_eq hz h0
  unfold fX0_isNothing
  simp only [e1, e2, e3]
  by_cases c1 : x = 0 <;> by_cases c2 : y = 0 <;> by_cases c3 : z = 0 <;> simp [c1, c2, c3]
/-- the planes that cross: walls, and the three axis planes behind them -/
def ix_ (n i : Nat) : Nat := if i < n then i else 8 + (i - n)
theorem f_indexOf {n i : Nat} (hn : n ≤ 8) (hi : i < n + 3) : fX3_indexOf (nI n) (nI i) = some (nI (ix_ n i)) := by
  unfold fX3_indexOf ix_
  by_cases h : i < n
  · rw [if_neg (nI_ge h (by omega)), if_pos h]
  · rw [if_pos (nI_le (show n ≤ i by omega) (by omega)), if_neg h, show (8 : Int32) + nI i = nI (8 + i) from nI_add 8 i, pk_sub (show n ≤ 8 + i by omega), show (10 : Int32) = nI 10 from rfl, if_neg (nI_nlt (show 8 + i - n ≤ 10 by omega) (by omega)), show 8 + i - n = 8 + (i - n) by omega]
theorem ix_lt {n i : Nat} (hn : n ≤ 8) (hi : i < n + 3) : ix_ n i < 11 := by unfold ix_; split <;> omega
