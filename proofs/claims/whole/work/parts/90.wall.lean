/-! a wall is put up, a wall is taken away -/
def w4_ (p q r s : Int32) : Wl_ := (p.toInt, q.toInt, r.toInt, s.toInt)
def pl_ (d : Nat) (w : Wl_) : Prop := bw_ w ∧ (d < 2 → w.2.1 = 0) ∧ (d < 3 → w.2.2.1 = 0) ∧ ¬ (w.1 = 0 ∧ w.2.1 = 0 ∧ w.2.2.1 = 0)
def wa_ (G : Nat → Wl_) (n d : Nat) (w : Wl_) : Prop := n < 8 ∧ pl_ d w ∧ ¬ ∃ k, k < n ∧ s4_ (G k) w
def ga_ (G : Nat → Wl_) (n : Nat) (w : Wl_) (k : Nat) : Wl_ := if k = n then w else G k
def gd_ (G : Nat → Wl_) (i n : Nat) (k : Nat) : Wl_ := if i ≤ k ∧ k + 1 < n then G (k + 1) else G k
theorem yn_no {x : Int32} {P Q : Prop} (h : yn_ x P) (e : P ↔ Q) : yn_ x Q := by
  rcases h with ⟨a, b⟩ | ⟨a, b⟩
  · exact Or.inl ⟨a, e.mp b⟩
  · exact Or.inr ⟨a, fun q => b (e.mpr q)⟩
theorem f_within (p : Int32) (B : Nat) (hB : B < 1000) : ∃ x, fX3_isWithin p (nI B) = some x ∧ yn_ x (ab_ p.toInt B) := by
  unfold fX3_isWithin
  have e : - nI B = iI_ (- (B : Int)) := by rw [← iI_nat, iI_neg]
  have l1 : p < - nI B ↔ p.toInt < - (B : Int) := by rw [e, Int32.lt_iff_toInt_lt, iI_toInt ⟨by omega, by omega⟩]
  have l2 : nI B < p ↔ (B : Int) < p.toInt := by rw [← iI_nat, Int32.lt_iff_toInt_lt, iI_toInt ⟨by omega, by omega⟩]
  by_cases h1 : p < - nI B
  · rw [if_pos h1]; exact ⟨0, rfl, Or.inr ⟨rfl, fun q => by have := l1.mp h1; unfold ab_ at q; omega⟩⟩
  rw [if_neg h1]
  by_cases h2 : nI B < p
  · rw [if_pos h2]; exact ⟨0, rfl, Or.inr ⟨rfl, fun q => by have := l2.mp h2; unfold ab_ at q; omega⟩⟩
  rw [if_neg h2]
  refine ⟨1, rfl, Or.inl ⟨rfl, ?_⟩⟩
  have h1' : ¬ p.toInt < - (B : Int) := fun q => h1 (l1.mpr q)
  have h2' : ¬ (B : Int) < p.toInt := fun q => h2 (l2.mpr q)
  unfold ab_; omega
theorem z_iff (p : Int32) : p = 0 ↔ p.toInt = 0 := ⟨fun h => by rw [h]; rfl, fun h => Int32.toInt_inj.mp h⟩
theorem f_isPlane {d : Nat} (h1 : 1 ≤ d) (h3 : d ≤ 3) (p q r s : Int32) : ∃ x, fX3_isPlane (nI d) p q r s = some x ∧ yn_ x (pl_ d (w4_ p q r s)) := by
  unfold fX3_isPlane
  obtain ⟨x1, e1, y1⟩ := f_within p 9 (by decide)
  obtain ⟨x2, e2, y2⟩ := f_within q 9 (by decide)
  obtain ⟨x3, e3, y3⟩ := f_within r 9 (by decide)
  obtain ⟨x4, e4, y4⟩ := f_within s 99 (by decide)
  have no : ∀ {P : Prop}, ¬ P → ∃ x, (some 0 : Option Int32) = some x ∧ yn_ x P := fun h => ⟨0, rfl, Or.inr ⟨rfl, h⟩⟩
  rw [show (9 : Int32) = nI 9 from rfl, show (99 : Int32) = nI 99 from rfl, bind_yes e1]
  rcases y1 with ⟨rfl, y1⟩ | ⟨rfl, y1⟩
  case inr => rw [if_pos rfl]; exact no fun h => y1 h.1.1
  rw [if_neg (by decide), bind_yes e2]
  rcases y2 with ⟨rfl, y2⟩ | ⟨rfl, y2⟩
  case inr => rw [if_pos rfl]; exact no fun h => y2 h.1.2.1
  rw [if_neg (by decide), bind_yes e3]
  rcases y3 with ⟨rfl, y3⟩ | ⟨rfl, y3⟩
  case inr => rw [if_pos rfl]; exact no fun h => y3 h.1.2.2.1
  rw [if_neg (by decide), bind_yes e4]
  rcases y4 with ⟨rfl, y4⟩ | ⟨rfl, y4⟩
  case inr => rw [if_pos rfl]; exact no fun h => y4 h.1.2.2.2
  rw [if_neg (by decide)]
  have hb : bw_ (w4_ p q r s) := ⟨y1, y2, y3, y4⟩
  have last : ((d < 2 → q = 0) ∧ (d < 3 → r = 0)) → ∃ x, (if p = 0 then (if q = 0 then (if r = 0 then some (0 : Int32) else some (1 : Int32)) else some (1 : Int32)) else some (1 : Int32)) = some x ∧ yn_ x (pl_ d (w4_ p q r s)) := by
    intro ⟨g1, g2⟩
    have yes : ¬ (p = 0 ∧ q = 0 ∧ r = 0) → ∃ x, (some 1 : Option Int32) = some x ∧ yn_ x (pl_ d (w4_ p q r s)) := fun h => ⟨1, rfl, Or.inl ⟨rfl, hb, fun l => (z_iff _).mp (g1 l), fun l => (z_iff _).mp (g2 l), fun ⟨a, b, c⟩ => h ⟨(z_iff _).mpr a, (z_iff _).mpr b, (z_iff _).mpr c⟩⟩⟩
    by_cases a : p = 0
    · rw [if_pos a]
      by_cases b : q = 0
      · rw [if_pos b]
        by_cases c : r = 0
        · rw [if_pos c]; exact no fun h => h.2.2.2 ⟨(z_iff _).mp a, (z_iff _).mp b, (z_iff _).mp c⟩
        · rw [if_neg c]; exact yes fun h => c h.2.2
      · rw [if_neg b]; exact yes fun h => b h.2.1
    · rw [if_neg a]; exact yes fun h => a h.1
  have third : (d < 2 → q = 0) → ∃ x, (if (3 : Int32) ≤ nI d then (if p = 0 then (if q = 0 then (if r = 0 then some (0 : Int32) else some (1 : Int32)) else some (1 : Int32)) else some (1 : Int32)) else (if r = 0 then (if p = 0 then (if q = 0 then (if r = 0 then some (0 : Int32) else some (1 : Int32)) else some (1 : Int32)) else some (1 : Int32)) else some (0 : Int32))) = some x ∧ yn_ x (pl_ d (w4_ p q r s)) := by
    intro g1
    by_cases l : 3 ≤ d
    · rw [if_pos (show (3 : Int32) ≤ nI d from nI_le (a := 3) l (by omega))]; exact last ⟨g1, fun _ => by omega⟩
    · rw [if_neg (show ¬ (3 : Int32) ≤ nI d from nI_ge (b := 3) (by omega) (by decide))]
      by_cases c : r = 0
      · rw [if_pos c]; exact last ⟨g1, fun _ => c⟩
      · rw [if_neg c]; exact no fun h => c ((z_iff _).mpr (h.2.2.1 (by omega)))
  by_cases l : 2 ≤ d
  · rw [if_pos (show (2 : Int32) ≤ nI d from nI_le (a := 2) l (by omega))]; exact third fun _ => by omega
  · rw [if_neg (show ¬ (2 : Int32) ≤ nI d from nI_ge (b := 2) (by omega) (by decide))]
    by_cases c : q = 0
    · rw [if_pos c]; exact third fun _ => c
    · rw [if_neg c]; exact no fun h => c ((z_iff _).mpr (h.2.1 (by omega)))
theorem mul_eq_iff {a b c e : Int32} {A B : Nat} (ha : ab_ a.toInt A) (hb : ab_ b.toInt B) (hc : ab_ c.toInt B) (he : ab_ e.toInt A) (hAB : A * B < 2147483648) : a * b = c * e ↔ a.toInt * b.toInt = c.toInt * e.toInt := by
  have m1 : a * b = iI_ (a.toInt * b.toInt) := by rw [← iI_mul, iI_of, iI_of]
  have m2 : c * e = iI_ (c.toInt * e.toInt) := by rw [← iI_mul, iI_of, iI_of]
  have s1 : sm_ (a.toInt * b.toInt) := ab_sm (ab_mul ha hb) hAB
  have s2 : sm_ (c.toInt * e.toInt) := ab_sm (ab_mul hc he) (by rw [Nat.mul_comm]; exact hAB)
  rw [m1, m2, iI_eq s1 s2]
theorem s4_sy {x y : Wl_} (h : s4_ x y) : s4_ y x := by
  obtain ⟨q1, q2, q3, q4, q5, q6⟩ := h
  exact ⟨(by rw [Int.mul_comm, ← q1, Int.mul_comm]), (by rw [Int.mul_comm, ← q2, Int.mul_comm]), (by rw [Int.mul_comm, ← q3, Int.mul_comm]), (by rw [Int.mul_comm, ← q4, Int.mul_comm]), (by rw [Int.mul_comm, ← q5, Int.mul_comm]), (by rw [Int.mul_comm, ← q6, Int.mul_comm])⟩
theorem nv_iff (w : Wl_) : nv_ w ≠ o3_ ↔ ¬ (w.1 = 0 ∧ w.2.1 = 0 ∧ w.2.2.1 = 0) := by
  unfold nv_ o3_
  constructor
  · rintro h ⟨a, b, c⟩
    apply h; rw [a, b, c]; rfl
  · intro h q
    apply h
    injection q with q1 q2
    injection q2 with q2 q3
    exact ⟨by exact_mod_cast q1, by exact_mod_cast q2, by exact_mod_cast q3⟩
section WA
variable {va vb vc ve wl : Nat → Int32} {n d : Nat}
theorem f_isThere (hn : n ≤ 8) (hb : ∀ k, k < n → bw_ (gC_ va vb vc ve k)) {p q r s : Int32} (hw : bw_ (w4_ p q r s)) :
    ∃ x, fX3_isThere (nI n) va vb vc ve p q r s = some x ∧ yn_ x (∃ k, k < n ∧ s4_ (gC_ va vb vc ve k) (w4_ p q r s)) := by
  unfold fX3_isThere
  have hlp := lp_for (body := fun (st : Int32) => fX3_isThere_L3 (nI n) va q vb p r vc s ve st) (s := (0 : Int32))
    (fun k st => st = nI k ∧ ∀ j, j < k → ¬ s4_ (gC_ va vb vc ve j) (w4_ p q r s))
    (fun res => (∃ v, res = .inl v ∧ ∀ j, j < n → ¬ s4_ (gC_ va vb vc ve j) (w4_ p q r s)) ∨ (res = .inr 1 ∧ ∃ k, k < n ∧ s4_ (gC_ va vb vc ve k) (w4_ p q r s))) n (by omega) ⟨rfl, fun j h => by omega⟩ ?_ ?_
  · obtain ⟨res, e, h⟩ := hlp
    rw [bind_yes e]
    rcases h with ⟨v, rfl, h⟩ | ⟨rfl, h⟩
    · exact ⟨0, rfl, Or.inr ⟨rfl, fun ⟨k, hk, q⟩ => h k hk q⟩⟩
    · exact ⟨1, rfl, Or.inl ⟨rfl, h⟩⟩
  · rintro k _ hk ⟨rfl, hI⟩
    unfold fX3_isThere_L3
    have hR : in_R (nI k) 11 := in_R_nI (by omega) (by decide)
    rw [if_neg (nI_ge hk (by omega))]
    simp only [ck_yes hR, nI_clamp (show k < 2 ^ 31 by omega), nI_1]
    obtain ⟨b1, b2, b3, b4⟩ := hb k hk
    obtain ⟨w1, w2, w3, w4⟩ := hw
    have on : ¬ s4_ (gC_ va vb vc ve k) (w4_ p q r s) → (∃ s', (some (.inl (nI (k + 1))) : Option (Int32 ⊕ (Int32 ⊕ Int32))) = some (.inl s') ∧ s' = nI (k + 1) ∧ ∀ j, j < k + 1 → ¬ s4_ (gC_ va vb vc ve j) (w4_ p q r s)) ∨ (∃ res, (some (.inl (nI (k + 1))) : Option (Int32 ⊕ (Int32 ⊕ Int32))) = some (.inr res) ∧ ((∃ v, res = .inl v ∧ ∀ j, j < n → ¬ s4_ (gC_ va vb vc ve j) (w4_ p q r s)) ∨ (res = .inr 1 ∧ ∃ k, k < n ∧ s4_ (gC_ va vb vc ve k) (w4_ p q r s)))) := fun h =>
      Or.inl ⟨_, rfl, rfl, fun j hj => by
        rcases Nat.lt_or_ge j k with l | l
        · exact hI j l
        · have : j = k := by omega
          subst this; exact h⟩
    have c1 := mul_eq_iff (a := va k) (b := q) (c := vb k) (e := p) b1 w2 b2 w1 (by decide)
    have c2 := mul_eq_iff (a := va k) (b := r) (c := vc k) (e := p) b1 w3 b3 w1 (by decide)
    have c3 := mul_eq_iff (a := vb k) (b := r) (c := vc k) (e := q) b2 w3 b3 w2 (by decide)
    have c4 := mul_eq_iff (a := va k) (b := s) (c := ve k) (e := p) b1 w4 b4 w1 (by decide)
    have c5 := mul_eq_iff (a := vb k) (b := s) (c := ve k) (e := q) b2 w4 b4 w2 (by decide)
    have c6 := mul_eq_iff (a := vc k) (b := s) (c := ve k) (e := r) b3 w4 b4 w3 (by decide)
    by_cases g1 : va k * q = vb k * p
    case neg => rw [if_neg g1]; exact on fun h => g1 (c1.mpr h.1)
    rw [if_pos g1]
    by_cases g2 : va k * r = vc k * p
    case neg => rw [if_neg g2]; exact on fun h => g2 (c2.mpr h.2.1)
    rw [if_pos g2]
    by_cases g3 : vb k * r = vc k * q
    case neg => rw [if_neg g3]; exact on fun h => g3 (c3.mpr h.2.2.1)
    rw [if_pos g3]
    by_cases g4 : va k * s = ve k * p
    case neg => rw [if_neg g4]; exact on fun h => g4 (c4.mpr h.2.2.2.1)
    rw [if_pos g4]
    by_cases g5 : vb k * s = ve k * q
    case neg => rw [if_neg g5]; exact on fun h => g5 (c5.mpr h.2.2.2.2.1)
    rw [if_pos g5]
    by_cases g6 : vc k * s = ve k * r
    case neg => rw [if_neg g6]; exact on fun h => g6 (c6.mpr h.2.2.2.2.2)
    rw [if_pos g6]
    exact Or.inr ⟨_, rfl, Or.inr ⟨rfl, k, hk, c1.mp g1, c2.mp g2, c3.mp g3, c4.mp g4, c5.mp g5, c6.mp g6⟩⟩
  · rintro _ ⟨rfl, hI⟩
    unfold fX3_isThere_L3
    rw [if_pos (Int32.le_refl _)]
    exact ⟨_, rfl, Or.inl ⟨_, rfl, hI⟩⟩
theorem gC_upd (p q r s : Int32) : gC_ (upd va n p) (upd vb n q) (upd vc n r) (upd ve n s) = ga_ (gC_ va vb vc ve) n (w4_ p q r s) := by
  funext k
  unfold gC_ ga_ upd w4_
  by_cases h : k = n
  · simp only [if_pos h]
  · simp only [if_neg h]
theorem c_wall (hn : n ≤ 8) (h1 : 1 ≤ d) (h3 : d ≤ 3) (hb : ∀ k, k < n → bw_ (gC_ va vb vc ve k)) (vfr p q r s : Int32) :
    (wa_ (gC_ va vb vc ve) n d (w4_ p q r s) ∧ fX5_wall (nI d) (nI n) vfr va vb vc ve p q r s = some (nI n, nI (n + 1), 0, upd va n p, upd vb n q, upd vc n r, upd ve n s)) ∨
    (¬ wa_ (gC_ va vb vc ve) n d (w4_ p q r s) ∧ fX5_wall (nI d) (nI n) vfr va vb vc ve p q r s = some (-1, nI n, vfr, va, vb, vc, ve)) := by
  unfold fX5_wall
  rcases Nat.lt_or_ge n 8 with l | l
  case inr => rw [if_pos (show (8 : Int32) ≤ nI n from nI_le (a := 8) l (by omega))]; exact Or.inr ⟨fun h => by have := h.1; omega, rfl⟩
  rw [if_neg (show ¬ (8 : Int32) ≤ nI n from nI_ge (b := 8) l (by decide))]
  obtain ⟨x, e, y⟩ := f_isPlane h1 h3 p q r s
  rw [bind_yes e]
  rcases y with ⟨rfl, y⟩ | ⟨rfl, y⟩
  case inr => rw [if_pos rfl]; exact Or.inr ⟨fun h => y h.2.1, rfl⟩
  rw [if_neg (by decide)]
  obtain ⟨x, e, z⟩ := f_isThere hn hb y.1
  rw [bind_yes e]
  rcases z with ⟨rfl, z⟩ | ⟨rfl, z⟩
  · rw [if_neg (by decide)]; exact Or.inr ⟨fun h => h.2.2 z, rfl⟩
  rw [if_pos rfl]
  refine Or.inl ⟨⟨l, y, z⟩, ?_⟩
  unfold fX3_append
  have hR : in_R (nI n) 11 := in_R_nI (by omega) (by decide)
  rw [if_pos (show nI n < (8 : Int32) from nI_lt (b := 8) l (by decide))]
  simp only [ck_yes hR, nI_clamp (show n < 2 ^ 31 by omega), nI_1, Option.bind_some]
  rw [show nI (n + 1) - 1 = nI n by rw [← nI_1, Int32.add_sub_cancel]]
theorem ga_PI {G : Nat → Wl_} {w : Wl_} (hP : PI_ G n) (hw : wa_ G n d w) : PI_ (ga_ G n w) (n + 1) := by
  obtain ⟨a, b, c, ⟨x1, x2, x3⟩, f⟩ := hP
  obtain ⟨l, y, z⟩ := hw
  have e0 : ga_ G n w n = w := if_pos rfl
  have e1 : ∀ k, k ≠ n → ga_ G n w k = G k := fun k h => if_neg h
  refine ⟨by omega, ?_, ?_, ⟨(by rw [e1 8 (by omega)]; exact x1), (by rw [e1 9 (by omega)]; exact x2), (by rw [e1 10 (by omega)]; exact x3)⟩, ?_⟩
  · intro k hk
    by_cases h : k = n
    · rw [h, e0]; exact y.1
    · rw [e1 k h]; exact b k (by omega)
  · intro k hk
    by_cases h : k = n
    · rw [h, e0]
      exact (nv_iff w).mpr y.2.2.2
    · rw [e1 k h]; exact c k (by omega)
  · intro i j hi hj hij
    by_cases h : i = n
    · rw [h, e0, e1 j (by omega)]
      intro q
      apply z
      refine ⟨j, by omega, ?_⟩
      exact s4_sy q
    · by_cases h' : j = n
      · rw [h', e0, e1 i h]; intro q; exact z ⟨i, by omega, q⟩
      · rw [e1 i h, e1 j h']; exact f i j (by omega) (by omega) hij
theorem ga_MI {G : Nat → Wl_} {w : Wl_} (hM : MI_ G n d) (hw : wa_ G n d w) : MI_ (ga_ G n w) (n + 1) d := by
  obtain ⟨a, d1, d3, b, c, g, f⟩ := hM
  obtain ⟨l, y, z⟩ := hw
  have e0 : ga_ G n w n = w := if_pos rfl
  have e1 : ∀ k, k ≠ n → ga_ G n w k = G k := fun k h => if_neg h
  refine ⟨by omega, d1, d3, ?_, ?_, ?_, ?_⟩
  · intro k hk
    by_cases h : k = n
    · rw [h, e0]; exact y.1
    · rw [e1 k h]; exact b k (by omega)
  · intro k hk
    by_cases h : k = n
    · rw [h, e0]; exact (nv_iff w).mpr y.2.2.2
    · rw [e1 k h]; exact c k (by omega)
  · intro k hk j hj hd
    by_cases h : k = n
    · rw [h, e0]
      have : j = 1 ∨ j = 2 := by omega
      rcases this with rfl | rfl
      · exact y.2.1 (by omega)
      · exact y.2.2.1 (by omega)
    · rw [e1 k h]; exact g k (by omega) j hj hd
  · intro i j hi hj hij
    by_cases h : i = n
    · rw [h, e0, e1 j (by omega)]
      intro q
      exact z ⟨j, by omega, s4_sy q⟩
    · by_cases h' : j = n
      · rw [h', e0, e1 i h]; intro q; exact z ⟨i, by omega, q⟩
      · rw [e1 i h, e1 j h']; exact f i j (by omega) (by omega) hij
/-! a wall is taken away -/
def sh_ (f : Nat → Int32) (i m : Nat) (j : Nat) : Int32 := if i ≤ j ∧ j < i + m then f (j + 1) else f j
def sq_ (f : Nat → Int32) (i m : Nat) (j : Nat) : Int32 := if i ≤ j ∧ j < i + m then f (j + 4) else f j
theorem sh_0 (f : Nat → Int32) (i : Nat) : sh_ f i 0 = f := by funext j; unfold sh_; rw [if_neg (by omega)]
theorem sq_0 (f : Nat → Int32) (i : Nat) : sq_ f i 0 = f := by funext j; unfold sq_; rw [if_neg (by omega)]
theorem sh_s (f : Nat → Int32) (i m : Nat) : upd (sh_ f i m) (i + m) (sh_ f i m (i + m + 1)) = sh_ f i (m + 1) := by
  funext j; unfold upd sh_
  by_cases h : j = i + m
  · rw [if_pos h, if_neg (by omega), if_pos (by omega), h]
  · rw [if_neg h]
    by_cases h' : i ≤ j ∧ j < i + m
    · rw [if_pos h', if_pos (by omega)]
    · rw [if_neg h', if_neg (by omega)]
theorem sq_s (f : Nat → Int32) (i m : Nat) : upd (sq_ f i m) (i + m) (sq_ f i m (i + m + 4)) = sq_ f i (m + 1) := by
  funext j; unfold upd sq_
  by_cases h : j = i + m
  · rw [if_pos h, if_neg (by omega), if_pos (by omega), h]
  · rw [if_neg h]
    by_cases h' : i ≤ j ∧ j < i + m
    · rw [if_pos h', if_pos (by omega)]
    · rw [if_neg h', if_neg (by omega)]
theorem gC_sh {i : Nat} (hi : i < n) : gC_ (sh_ va i (n - 1 - i)) (sh_ vb i (n - 1 - i)) (sh_ vc i (n - 1 - i)) (sh_ ve i (n - 1 - i)) = gd_ (gC_ va vb vc ve) i n := by
  funext k
  unfold gC_ gd_ sh_
  by_cases h : i ≤ k ∧ k + 1 < n
  · simp only [if_pos h, if_pos (show i ≤ k ∧ k < i + (n - 1 - i) by omega)]
  · simp only [if_neg h, if_neg (show ¬ (i ≤ k ∧ k < i + (n - 1 - i)) by omega)]
theorem gM_sq {i : Nat} (hi : i < n) : gM_ (sq_ wl (4 * i) (4 * (n - 1 - i))) = gd_ (gM_ wl) i n := by
  funext k
  unfold gM_ gd_ sq_
  by_cases h : i ≤ k ∧ k + 1 < n
  · simp only [if_pos h, if_pos (show 4 * i ≤ 4 * k ∧ 4 * k < 4 * i + 4 * (n - 1 - i) by omega), if_pos (show 4 * i ≤ 4 * k + 1 ∧ 4 * k + 1 < 4 * i + 4 * (n - 1 - i) by omega), if_pos (show 4 * i ≤ 4 * k + 2 ∧ 4 * k + 2 < 4 * i + 4 * (n - 1 - i) by omega), if_pos (show 4 * i ≤ 4 * k + 3 ∧ 4 * k + 3 < 4 * i + 4 * (n - 1 - i) by omega)]
    rw [show 4 * (k + 1) = 4 * k + 4 by omega, show 4 * k + 4 + 1 = 4 * k + 1 + 4 by omega, show 4 * k + 4 + 2 = 4 * k + 2 + 4 by omega, show 4 * k + 4 + 3 = 4 * k + 3 + 4 by omega]
  · simp only [if_neg h, if_neg (show ¬ (4 * i ≤ 4 * k ∧ 4 * k < 4 * i + 4 * (n - 1 - i)) by omega), if_neg (show ¬ (4 * i ≤ 4 * k + 1 ∧ 4 * k + 1 < 4 * i + 4 * (n - 1 - i)) by omega), if_neg (show ¬ (4 * i ≤ 4 * k + 2 ∧ 4 * k + 2 < 4 * i + 4 * (n - 1 - i)) by omega), if_neg (show ¬ (4 * i ≤ 4 * k + 3 ∧ 4 * k + 3 < 4 * i + 4 * (n - 1 - i)) by omega)]
theorem f_drop (hn : n ≤ 8) {i : Nat} (hi : i < n) : fX3_drop (nI n) va vb vc ve (nI i) = some (nI (n - 1), sh_ va i (n - 1 - i), sh_ vb i (n - 1 - i), sh_ vc i (n - 1 - i), sh_ ve i (n - 1 - i)) := by
  unfold fX3_drop
  obtain ⟨x, e, y⟩ := f_holds (p := nI i) hn
  rw [bind_yes e]
  rcases y with ⟨rfl, y⟩ | ⟨rfl, y⟩
  case inr => exact absurd ⟨i, hi, rfl⟩ y
  rw [if_neg (by decide)]
  have hlp := lp_seq (body := fun (st : (Int32 × (Nat → Int32) × (Nat → Int32) × (Nat → Int32) × (Nat → Int32))) => fX3_drop_L11 (nI n) st.1 st.2.1 st.2.2.1 st.2.2.2.1 st.2.2.2.2) (fun m => (nI (i + m), sh_ va i m, sh_ vb i m, sh_ vc i m, sh_ ve i m)) (n - 1 - i) (by omega) (r := (nI (i + (n - 1 - i)), sh_ va i (n - 1 - i), sh_ vb i (n - 1 - i), sh_ vc i (n - 1 - i), sh_ ve i (n - 1 - i))) ?_ ?_
  · simp only [sh_0, Nat.add_zero] at hlp
    rw [bind_yes hlp]
    rw [show nI n - 1 = nI (n - 1) by rw [show n = n - 1 + 1 by omega, ← nI_1, Int32.add_sub_cancel]; rfl]
  · intro m hm
    show fX3_drop_L11 _ _ _ _ _ _ = _
    unfold fX3_drop_L11
    have hR : in_R (nI (i + m)) 11 := in_R_nI (by omega) (by decide)
    have hS : in_R (nI (i + m + 1)) 11 := in_R_nI (by omega) (by decide)
    rw [nI_1, if_neg (nI_ge (by omega) (by omega))]
    simp only [ck_yes hR, ck_yes hS, nI_clamp (show i + m < 2 ^ 31 by omega), nI_clamp (show i + m + 1 < 2 ^ 31 by omega), sh_s]
    rfl
  · show fX3_drop_L11 _ _ _ _ _ _ = _
    unfold fX3_drop_L11
    rw [nI_1, if_pos (nI_le (by omega) (by omega))]
theorem c_take (hn : n ≤ 8) (vfr p : Int32) :
    (∃ i, i < n ∧ p = nI i ∧ fX5_take (nI n) vfr va vb vc ve p = some (1, nI (n - 1), 0, sh_ va i (n - 1 - i), sh_ vb i (n - 1 - i), sh_ vc i (n - 1 - i), sh_ ve i (n - 1 - i))) ∨
    ((¬ ∃ i, i < n ∧ p = nI i) ∧ fX5_take (nI n) vfr va vb vc ve p = some (0, nI n, vfr, va, vb, vc, ve)) := by
  unfold fX5_take
  obtain ⟨x, e, y⟩ := f_holds (p := p) hn
  rw [bind_yes e]
  rcases y with ⟨rfl, y⟩ | ⟨rfl, y⟩
  · obtain ⟨i, hi, rfl⟩ := y
    refine Or.inl ⟨i, hi, rfl, ?_⟩
    rw [if_neg (by decide), bind_yes (f_drop hn hi)]
  · rw [if_pos rfl]; exact Or.inr ⟨y, rfl⟩
theorem m_take (hn : n ≤ 8) (wod p : Int32) :
    (∃ i, i < n ∧ p = nI i ∧ fX6_take (nI n) wod wl p = some (1, nI (n - 1), 1, sq_ wl (4 * i) (4 * (n - 1 - i)))) ∨
    ((¬ ∃ i, i < n ∧ p = nI i) ∧ fX6_take (nI n) wod wl p = some (0, nI n, wod, wl)) := by
  unfold fX6_take
  obtain ⟨x, e, y⟩ := m_in hn p
  rw [bind_yes e]
  rcases y with ⟨rfl, y⟩ | ⟨rfl, y⟩
  case inr => rw [if_pos rfl]; exact Or.inr ⟨y, rfl⟩
  obtain ⟨i, hi, rfl⟩ := y
  refine Or.inl ⟨i, hi, rfl, ?_⟩
  rw [if_neg (by decide)]
  have hlp := lp_seq (body := fun (st : (Int32 × (Nat → Int32))) => fX6_take_L20 (nI n) st.1 st.2) (fun m => (nI (4 * i + m), sq_ wl (4 * i) m)) (4 * (n - 1 - i)) (by omega) (r := (nI (4 * i + 4 * (n - 1 - i)), sq_ wl (4 * i) (4 * (n - 1 - i)))) ?_ ?_
  · simp only [sq_0, Nat.add_zero] at hlp
    rw [show (4 : Int32) = nI 4 from rfl, pk_mul, bind_yes hlp]
    rw [show nI n - 1 = nI (n - 1) by rw [show n = n - 1 + 1 by omega, ← nI_1, Int32.add_sub_cancel]; rfl]
  · intro m hm
    show fX6_take_L20 _ _ _ = _
    unfold fX6_take_L20
    have hR : in_R (nI (4 * i + m)) 32 := in_R_nI (by omega) (by decide)
    have hS : in_R (nI (4 * i + m + 4)) 32 := in_R_nI (by omega) (by decide)
    rw [show (4 : Int32) = nI 4 from rfl, pk_mul, nI_add, if_neg (nI_ge (by omega) (by omega))]
    simp only [ck_yes hR, ck_yes hS, nI_clamp (show 4 * i + m < 2 ^ 31 by omega), nI_clamp (show 4 * i + m + 4 < 2 ^ 31 by omega), sq_s, nI_1]
    rfl
  · show fX6_take_L20 _ _ _ = _
    unfold fX6_take_L20
    rw [show (4 : Int32) = nI 4 from rfl, pk_mul, nI_add, if_pos (nI_le (by omega) (by omega))]
def sI_ (i n k : Nat) : Nat := if i ≤ k ∧ k + 1 < n then k + 1 else k
theorem gd_sI (G : Nat → Wl_) (i n k : Nat) : gd_ G i n k = G (sI_ i n k) := by
  unfold gd_ sI_; by_cases h : i ≤ k ∧ k + 1 < n
  · rw [if_pos h, if_pos h]
  · rw [if_neg h, if_neg h]
theorem sI_lt {i n k : Nat} (hk : k < n - 1) : sI_ i n k < n := by unfold sI_; split <;> omega
theorem sI_ne {i n k j : Nat} (hk : k < n - 1) (hj : j < n - 1) (h : k ≠ j) : sI_ i n k ≠ sI_ i n j := by
  unfold sI_; split <;> split <;> omega
theorem gd_PI {G : Nat → Wl_} (i : Nat) (hP : PI_ G n) : PI_ (gd_ G i n) (n - 1) := by
  obtain ⟨a, b, c, ⟨x1, x2, x3⟩, f⟩ := hP
  have hx : ∀ k, 8 ≤ k → gd_ G i n k = G k := fun k h => if_neg (by omega)
  refine ⟨by omega, ?_, ?_, ⟨(by rw [hx 8 (by omega)]; exact x1), (by rw [hx 9 (by omega)]; exact x2), (by rw [hx 10 (by omega)]; exact x3)⟩, ?_⟩
  · intro k hk; rw [gd_sI]; exact b _ (sI_lt hk)
  · intro k hk; rw [gd_sI]; exact c _ (sI_lt hk)
  · intro k j hk hj hkj; rw [gd_sI, gd_sI]; exact f _ _ (sI_lt hk) (sI_lt hj) (sI_ne hk hj hkj)
theorem gd_MI {G : Nat → Wl_} (i : Nat) (hM : MI_ G n d) : MI_ (gd_ G i n) (n - 1) d := by
  obtain ⟨a, d1, d3, b, c, g, f⟩ := hM
  refine ⟨by omega, d1, d3, ?_, ?_, ?_, ?_⟩
  · intro k hk; rw [gd_sI]; exact b _ (sI_lt hk)
  · intro k hk; rw [gd_sI]; exact c _ (sI_lt hk)
  · intro k hk; rw [gd_sI]; exact g _ (sI_lt hk)
  · intro k j hk hj hkj; rw [gd_sI, gd_sI]; exact f _ _ (sI_lt hk) (sI_lt hj) (sI_ne hk hj hkj)
theorem ga_eq {G H : Nat → Wl_} {w : Wl_} (h : ∀ k, k < n → G k = H k) : ∀ k, k < n + 1 → ga_ G n w k = ga_ H n w k := by
  intro k hk; unfold ga_
  by_cases e : k = n
  · rw [if_pos e, if_pos e]
  · rw [if_neg e, if_neg e]; exact h k (by omega)
theorem gd_eq {G H : Nat → Wl_} {i : Nat} (h : ∀ k, k < n → G k = H k) : ∀ k, k < n - 1 → gd_ G i n k = gd_ H i n k := by
  intro k hk; rw [gd_sI, gd_sI]; exact h _ (sI_lt hk)
theorem wa_eq {G H : Nat → Wl_} {w : Wl_} (h : ∀ k, k < n → G k = H k) : wa_ G n d w ↔ wa_ H n d w := by
  unfold wa_
  constructor
  · rintro ⟨a, b, c⟩
    exact ⟨a, b, fun ⟨k, hk, q⟩ => c ⟨k, hk, by rw [h k hk]; exact q⟩⟩
  · rintro ⟨a, b, c⟩
    exact ⟨a, b, fun ⟨k, hk, q⟩ => c ⟨k, hk, by rw [← h k hk]; exact q⟩⟩
end WA
