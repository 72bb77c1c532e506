/-! how many bits: the JDK's way -/
theorem by_4 (x m : Nat) (hx : x < 2 ^ 32) : x &&& m = (x % 256 &&& m % 256) + 256 * (x / 256 % 256 &&& m / 256 % 256) + 65536 * (x / 65536 % 256 &&& m / 65536 % 256) + 16777216 * (x / 16777216 &&& m / 16777216) := by
  have step : ∀ a b : Nat, a &&& b = (a % 256 &&& b % 256) + 256 * (a / 256 &&& b / 256) := by
    intro a b
    have h1 := Nat.and_mod_two_pow (a := a) (b := b) (n := 8)
    have h2 := Nat.and_div_two_pow (a := a) (b := b) (n := 8)
    have h3 := Nat.mod_add_div (a &&& b) 256
    simp only [show (2 : Nat) ^ 8 = 256 from rfl] at h1 h2
    rw [h1, h2] at h3
    exact h3.symm
  rw [step x m, step (x / 256) (m / 256), step (x / 256 / 256) (m / 256 / 256)]
  simp only [Nat.div_div_eq_div_mul, show 256 * 256 = 65536 from rfl, show 65536 * 256 = 16777216 from rfl]
  omega
theorem dig_4 {y a b c d : Nat} (h : y = a + 256 * b + 65536 * c + 16777216 * d) (ha : a < 256) (hb : b < 256) (hc : c < 256) : y % 256 = a ∧ y / 256 % 256 = b ∧ y / 65536 % 256 = c ∧ y / 16777216 = d := by omega
theorem ar_x {h0 l0 h1 l1 h2 l2 h3 l3 x : Nat} (a0 : l0 ≤ 4) (a1 : l1 ≤ 4) (a2 : l2 ≤ 4) (a3 : l3 ≤ 4) (b0 : h0 ≤ 4) (b1 : h1 ≤ 4) (b2 : h2 ≤ 4) (b3 : h3 ≤ 4) (hx : x = (16 * h0 + l0) + 256 * (16 * h1 + l1) + 65536 * (16 * h2 + l2) + 16777216 * (16 * h3 + l3)) : x / 16 = h0 + 16 * l1 + 256 * h1 + 4096 * l2 + 65536 * h2 + 1048576 * l3 + 16777216 * h3 := by omega
theorem ar_3 {c0 c1 c2 c3 x : Nat} (hx : x = c0 + 256 * c1 + 65536 * c2 + 16777216 * c3) (k0 : c0 % 16 ≤ 4 ∧ c0 / 16 ≤ 4) (k1 : c1 % 16 ≤ 4 ∧ c1 / 16 ≤ 4) (k2 : c2 % 16 ≤ 4 ∧ c2 / 16 ≤ 4) (k3 : c3 % 16 ≤ 4 ∧ c3 / 16 ≤ 4) :
    (x + x / 16) % 256 = c0 + c0 / 16 + 16 * (c1 % 16) ∧ (x + x / 16) / 256 % 256 = c1 + c1 / 16 + 16 * (c2 % 16) ∧ (x + x / 16) / 65536 % 256 = c2 + c2 / 16 + 16 * (c3 % 16) ∧ (x + x / 16) / 16777216 = c3 + c3 / 16 := by
  have e0 := Nat.div_add_mod c0 16
  have e1 := Nat.div_add_mod c1 16
  have e2 := Nat.div_add_mod c2 16
  have e3 := Nat.div_add_mod c3 16
  generalize c0 / 16 = h0 at *
  generalize c0 % 16 = l0 at *
  generalize c1 / 16 = h1 at *
  generalize c1 % 16 = l1 at *
  generalize c2 / 16 = h2 at *
  generalize c2 % 16 = l2 at *
  generalize c3 / 16 = h3 at *
  generalize c3 % 16 = l3 at *
  rw [← e0, ← e1, ← e2, ← e3] at hx
  rw [ar_x k0.1 k1.1 k2.1 k3.1 k0.2 k1.2 k2.2 k3.2 hx]
  refine dig_4 ?_ (by omega) (by omega) (by omega)
  rw [hx]
  omega
theorem ar_4 {p0 p1 p2 p3 : Nat} (c0 : p0 ≤ 8) (c1 : p1 ≤ 8) (c2 : p2 ≤ 8) (c3 : p3 ≤ 8) :
    (p0 + 256 * p1 + 65536 * p2 + 16777216 * p3 + (p0 + 256 * p1 + 65536 * p2 + 16777216 * p3) / 2 ^ 8 + (p0 + 256 * p1 + 65536 * p2 + 16777216 * p3 + (p0 + 256 * p1 + 65536 * p2 + 16777216 * p3) / 2 ^ 8) / 2 ^ 16) % 2 ^ 6 = p0 + p1 + p2 + p3 := by
  have e1 : (p0 + 256 * p1 + 65536 * p2 + 16777216 * p3) / 2 ^ 8 = p1 + 256 * p2 + 65536 * p3 := by omega
  rw [e1]
  have e2 : (p0 + 256 * p1 + 65536 * p2 + 16777216 * p3 + (p1 + 256 * p2 + 65536 * p3)) / 2 ^ 16 = p2 + 256 * p3 + p3 := by omega
  rw [e2]
  omega
def pf1_ (b : Nat) : Nat := b - (b / 2 &&& 85)
def pf2_ (c : Nat) : Nat := (c &&& 51) + (c / 4 &&& 51)
def pf3_ (e : Nat) : Nat := (e + e / 16) % 16
theorem pt_1 : ∀ b : Fin 256, ∀ t : Fin 2, (b.val / 2 + 128 * t.val) &&& 85 = b.val / 2 &&& 85 := by decide +kernel
theorem pt_1l : ∀ b : Fin 256, (b.val / 2 &&& 85) ≤ b.val ∧ pf1_ b.val < 256 := by decide +kernel
theorem pt_2 : ∀ b : Fin 256, ∀ t : Fin 4, (b.val / 4 + 64 * t.val) &&& 51 = b.val / 4 &&& 51 := by decide +kernel
theorem pt_3 : ∀ b : Fin 256, pf2_ (pf1_ b.val) % 16 ≤ 4 ∧ pf2_ (pf1_ b.val) / 16 ≤ 4 := by decide +kernel
theorem pt_4 : ∀ b : Fin 256, pf3_ (pf2_ (pf1_ b.val)) = fb_ct (fun k => b.val.testBit k) 8 := by decide +kernel
theorem pt_5 : ∀ b : Fin 256, b.val &&& 15 = b.val % 16 := by decide +kernel
theorem bit_at (m i j : Nat) (hj : j < 8) : m.testBit (8 * i + j) = (m / 2 ^ (8 * i) % 256).testBit j := by
  rw [show (256 : Nat) = 2 ^ 8 from rfl, Nat.testBit_mod_two_pow, Nat.testBit_div_two_pow]
  simp [hj, Nat.add_comm]
theorem f_bitCount {m : Nat} (hm : m < 2 ^ 32) : fJ6_bitCount_0f7a4 (nI m) = some (nI (fb_ct (fun k => m.testBit k) 32)) := by
  obtain ⟨b0, h0⟩ : ∃ b, b = m % 256 := ⟨_, rfl⟩
  obtain ⟨b1, h1⟩ : ∃ b, b = m / 256 % 256 := ⟨_, rfl⟩
  obtain ⟨b2, h2⟩ : ∃ b, b = m / 65536 % 256 := ⟨_, rfl⟩
  obtain ⟨b3, h3⟩ : ∃ b, b = m / 16777216 := ⟨_, rfl⟩
  have l0 : b0 < 256 := by omega
  have l1 : b1 < 256 := by omega
  have l2 : b2 < 256 := by omega
  have l3 : b3 < 256 := by omega
  have hmb : m = b0 + 256 * b1 + 65536 * b2 + 16777216 * b3 := by omega
  have hct : fb_ct (fun k => m.testBit k) 32 = fb_ct (fun k => b0.testBit k) 8 + fb_ct (fun k => b1.testBit k) 8 + fb_ct (fun k => b2.testBit k) 8 + fb_ct (fun k => b3.testBit k) 8 := by
    rw [show 32 = 8 + (8 + (8 + 8)) from rfl, fb_ct_split, fb_ct_split, fb_ct_split]
    have e0 : fb_ct (fun k => m.testBit k) 8 = fb_ct (fun k => b0.testBit k) 8 := fb_ct_cong (fun k hk => by have := bit_at m 0 k hk; simp at this; rw [this, h0])
    have e1 : fb_ct (fun k => m.testBit (8 + k)) 8 = fb_ct (fun k => b1.testBit k) 8 := fb_ct_cong (fun k hk => by have := bit_at m 1 k hk; simp at this; rw [this, h1])
    have e2 : fb_ct (fun k => m.testBit (8 + (8 + k))) 8 = fb_ct (fun k => b2.testBit k) 8 := fb_ct_cong (fun k hk => by
      have := bit_at m 2 k hk
      rw [show 8 + (8 + k) = 8 * 2 + k by omega, this, h2])
    have e3 : fb_ct (fun k => m.testBit (8 + (8 + (8 + k)))) 8 = fb_ct (fun k => b3.testBit k) 8 := fb_ct_cong (fun k hk => by
      have := bit_at m 3 k hk
      rw [show 8 + (8 + (8 + k)) = 8 * 3 + k by omega, this, h3, Nat.mod_eq_of_lt (by omega)])
    rw [e0, e1, e2, e3]; omega
  have q0 := pt_1l ⟨b0, l0⟩
  have q1 := pt_1l ⟨b1, l1⟩
  have q2 := pt_1l ⟨b2, l2⟩
  have q3 := pt_1l ⟨b3, l3⟩
  dsimp only at q0 q1 q2 q3
  -- the first step
  have s1 : nI m - (((nI m).toUInt32 >>> ((1 : Int32).toUInt32 &&& Int32.toUInt32 31)).toInt32 &&& (1431655765 : Int32)) = nI (pf1_ b0 + 256 * pf1_ b1 + 65536 * pf1_ b2 + 16777216 * pf1_ b3) := by
    rw [pk_ushrN hm 1 1 (by decide), show (1431655765 : Int32) = nI 1431655765 from rfl, nI_and, by_4 _ _ (by omega)]
    have a0 : m / 2 ^ 1 % 256 = b0 / 2 + 128 * (b1 % 2) := by omega
    have a1 : m / 2 ^ 1 / 256 % 256 = b1 / 2 + 128 * (b2 % 2) := by omega
    have a2 : m / 2 ^ 1 / 65536 % 256 = b2 / 2 + 128 * (b3 % 2) := by omega
    have a3 : m / 2 ^ 1 / 16777216 = b3 / 2 := by omega
    rw [a0, a1, a2, a3]
    have t0 := pt_1 ⟨b0, l0⟩ ⟨b1 % 2, by omega⟩
    have t1 := pt_1 ⟨b1, l1⟩ ⟨b2 % 2, by omega⟩
    have t2 := pt_1 ⟨b2, l2⟩ ⟨b3 % 2, by omega⟩
    dsimp only at t0 t1 t2
    simp only [show 1431655765 % 256 = 85 from rfl, show 1431655765 / 256 % 256 = 85 from rfl, show 1431655765 / 65536 % 256 = 85 from rfl, show 1431655765 / 16777216 = 85 from rfl, t0, t1, t2]
    rw [pk_sub (by omega)]
    unfold pf1_
    congr 1
    omega
  have g0 : pf1_ b0 < 256 := q0.2
  have g1 : pf1_ b1 < 256 := q1.2
  have g2 : pf1_ b2 < 256 := q2.2
  have g3 : pf1_ b3 < 256 := q3.2
  have s2 : ∀ c0 c1 c2 c3 : Nat, c0 < 256 → c1 < 256 → c2 < 256 → c3 < 256 → (nI (c0 + 256 * c1 + 65536 * c2 + 16777216 * c3) &&& (858993459 : Int32)) + (((nI (c0 + 256 * c1 + 65536 * c2 + 16777216 * c3)).toUInt32 >>> ((2 : Int32).toUInt32 &&& Int32.toUInt32 31)).toInt32 &&& (858993459 : Int32)) = nI (pf2_ c0 + 256 * pf2_ c1 + 65536 * pf2_ c2 + 16777216 * pf2_ c3) := by
    intro c0 c1 c2 c3 k0 k1 k2 k3
    obtain ⟨x, hx⟩ : ∃ x, x = c0 + 256 * c1 + 65536 * c2 + 16777216 * c3 := ⟨_, rfl⟩
    rw [← hx, pk_ushrN (by omega) 2 2 (by decide), show (858993459 : Int32) = nI 858993459 from rfl, nI_and, nI_and, by_4 x _ (by omega), by_4 (x / 2 ^ 2) _ (by omega)]
    have a0 : x / 2 ^ 2 % 256 = c0 / 4 + 64 * (c1 % 4) := by omega
    have a1 : x / 2 ^ 2 / 256 % 256 = c1 / 4 + 64 * (c2 % 4) := by omega
    have a2 : x / 2 ^ 2 / 65536 % 256 = c2 / 4 + 64 * (c3 % 4) := by omega
    have a3 : x / 2 ^ 2 / 16777216 = c3 / 4 := by omega
    have d0 : x % 256 = c0 := by omega
    have d1 : x / 256 % 256 = c1 := by omega
    have d2 : x / 65536 % 256 = c2 := by omega
    have d3 : x / 16777216 = c3 := by omega
    rw [a0, a1, a2, a3, d0, d1, d2, d3]
    have t0 := pt_2 ⟨c0, k0⟩ ⟨c1 % 4, by omega⟩
    have t1 := pt_2 ⟨c1, k1⟩ ⟨c2 % 4, by omega⟩
    have t2 := pt_2 ⟨c2, k2⟩ ⟨c3 % 4, by omega⟩
    dsimp only at t0 t1 t2
    simp only [show 858993459 % 256 = 51 from rfl, show 858993459 / 256 % 256 = 51 from rfl, show 858993459 / 65536 % 256 = 51 from rfl, show 858993459 / 16777216 = 51 from rfl, t0, t1, t2]
    rw [nI_add]
    unfold pf2_
    congr 1
    omega
  have s3 : ∀ c0 c1 c2 c3 : Nat, (c0 % 16 ≤ 4 ∧ c0 / 16 ≤ 4) → (c1 % 16 ≤ 4 ∧ c1 / 16 ≤ 4) → (c2 % 16 ≤ 4 ∧ c2 / 16 ≤ 4) → (c3 % 16 ≤ 4 ∧ c3 / 16 ≤ 4) → (nI (c0 + 256 * c1 + 65536 * c2 + 16777216 * c3) + ((nI (c0 + 256 * c1 + 65536 * c2 + 16777216 * c3)).toUInt32 >>> ((4 : Int32).toUInt32 &&& Int32.toUInt32 31)).toInt32) &&& (252645135 : Int32) = nI (pf3_ c0 + 256 * pf3_ c1 + 65536 * pf3_ c2 + 16777216 * pf3_ c3) := by
    intro c0 c1 c2 c3 k0 k1 k2 k3
    obtain ⟨x, hx⟩ : ∃ x, x = c0 + 256 * c1 + 65536 * c2 + 16777216 * c3 := ⟨_, rfl⟩
    rw [← hx, pk_ushrN (by omega) 4 4 (by decide), nI_add, show (252645135 : Int32) = nI 252645135 from rfl, nI_and, by_4 _ _ (by omega)]
    obtain ⟨d0, d1, d2, d3⟩ := ar_3 hx k0 k1 k2 k3
    rw [show (2 : Nat) ^ 4 = 16 from rfl]
    rw [d0, d1, d2, d3]
    have t0 := pt_5 ⟨c0 + c0 / 16 + 16 * (c1 % 16), by omega⟩
    have t1 := pt_5 ⟨c1 + c1 / 16 + 16 * (c2 % 16), by omega⟩
    have t2 := pt_5 ⟨c2 + c2 / 16 + 16 * (c3 % 16), by omega⟩
    have t3 := pt_5 ⟨c3 + c3 / 16, by omega⟩
    dsimp only at t0 t1 t2 t3
    rw [show 252645135 % 256 = 15 from rfl, show 252645135 / 16777216 = 15 from rfl, t0, t1, t2, t3, Nat.add_mul_mod_self_left, Nat.add_mul_mod_self_left, Nat.add_mul_mod_self_left]
    rfl
  have z0 := pt_3 ⟨b0, l0⟩
  have z1 := pt_3 ⟨b1, l1⟩
  have z2 := pt_3 ⟨b2, l2⟩
  have z3 := pt_3 ⟨b3, l3⟩
  have w0 := pt_4 ⟨b0, l0⟩
  have w1 := pt_4 ⟨b1, l1⟩
  have w2 := pt_4 ⟨b2, l2⟩
  have w3 := pt_4 ⟨b3, l3⟩
  dsimp only at z0 z1 z2 z3 w0 w1 w2 w3
  unfold fJ6_bitCount_0f7a4
  dsimp only [nm_]
  rw [s1, s2 _ _ _ _ g0 g1 g2 g3, s3 _ _ _ _ z0 z1 z2 z3, w0, w1, w2, w3]
  have c0 := fb_ct_le (fun k => b0.testBit k) 8
  have c1 := fb_ct_le (fun k => b1.testBit k) 8
  have c2 := fb_ct_le (fun k => b2.testBit k) 8
  have c3 := fb_ct_le (fun k => b3.testBit k) 8
  rw [hct]
  generalize fb_ct (fun k => b0.testBit k) 8 = p0 at *
  generalize fb_ct (fun k => b1.testBit k) 8 = p1 at *
  generalize fb_ct (fun k => b2.testBit k) 8 = p2 at *
  generalize fb_ct (fun k => b3.testBit k) 8 = p3 at *
  clear s1 s2 s3 z0 z1 z2 z3 w0 w1 w2 w3 q0 q1 q2 q3 g0 g1 g2 g3 hmb h0 h1 h2 h3
  rw [pk_ushrN (by omega) 8 8 (by decide), nI_add, pk_ushrN (by omega) 16 16 (by decide), nI_add, pk_andN (m := 63) (by omega) 6 (by decide), ar_4 c0 c1 c2 c3]
