/-! is it the same plane? -/
theorem upd_eq (f : Nat → Int32) (i : Nat) (x : Int32) : upd f i x i = x := if_pos rfl
theorem upd_no (f : Nat → Int32) {i j : Nat} (x : Int32) (h : j ≠ i) : upd f i x j = f j := if_neg h
section SA
variable {wl : Nat → Int32} {n d : Nat}
def t4_ (p q r s : Int32) : Nat → Int32 := upd (upd (upd (upd (fun (_ : Nat) => (0 : Int32)) 0 p) 1 q) 2 r) 3 s
def sQ_ (u t : Nat → Int) (i : Nat) : Prop := ∀ j, j < 4 → u i * t j = u j * t i
theorem sQ_s4 (u t : Nat → Int) : (∀ i, i < 4 → sQ_ u t i) ↔ s4_ (u 0, u 1, u 2, u 3) (t 0, t 1, t 2, t 3) := by
  constructor
  · intro h
    exact ⟨h 0 (by decide) 1 (by decide), h 0 (by decide) 2 (by decide), h 1 (by decide) 2 (by decide), h 0 (by decide) 3 (by decide), h 1 (by decide) 3 (by decide), h 2 (by decide) 3 (by decide)⟩
  · rintro ⟨h1, h2, h3, h4, h5, h6⟩ i hi j hj
    dsimp only at h1 h2 h3 h4 h5 h6
    have hi' : i = 0 ∨ i = 1 ∨ i = 2 ∨ i = 3 := by omega
    have hj' : j = 0 ∨ j = 1 ∨ j = 2 ∨ j = 3 := by omega
    rcases hi' with rfl | rfl | rfl | rfl <;> rcases hj' with rfl | rfl | rfl | rfl <;> first | rfl | assumption | (symm; assumption)
theorem f_same35 {k i : Nat} (hk : k < 8) (hi : i < 4) {t : Nat → Int32} (hw : bw_ (gM_ wl k)) (ht : ∀ j, j < 4 → ab_ (t j).toInt 99) :
    ∃ res, lp_ (fun (st : Int32) => fX6_isSame_L35 wl (nI k) (nI i) t st) fu_ (0 : Int32) = some res ∧ ((∃ v, res = .inl v ∧ sQ_ (fun j => (wl (4 * k + j)).toInt) (fun j => (t j).toInt) i) ∨ (res = .inr 0 ∧ ¬ sQ_ (fun j => (wl (4 * k + j)).toInt) (fun j => (t j).toInt) i)) := by
  have hu : ∀ j, j < 4 → ab_ (wl (4 * k + j)).toInt 99 := by
    obtain ⟨b1, b2, b3, b4⟩ := hw
    intro j hj
    have hj' : j = 0 ∨ j = 1 ∨ j = 2 ∨ j = 3 := by omega
    rcases hj' with rfl | rfl | rfl | rfl
    · exact ab_mono b1 (by decide)
    · exact ab_mono b2 (by decide)
    · exact ab_mono b3 (by decide)
    · exact b4
  have hlp := lp_for (body := fun (st : Int32) => fX6_isSame_L35 wl (nI k) (nI i) t st) (s := (0 : Int32))
    (fun m st => st = nI m ∧ ∀ j, j < m → (wl (4 * k + i)).toInt * (t j).toInt = (wl (4 * k + j)).toInt * (t i).toInt)
    (fun res => (∃ v, res = .inl v ∧ sQ_ (fun j => (wl (4 * k + j)).toInt) (fun j => (t j).toInt) i) ∨ (res = .inr 0 ∧ ¬ sQ_ (fun j => (wl (4 * k + j)).toInt) (fun j => (t j).toInt) i)) 4 (by decide) ⟨rfl, fun j h => by omega⟩ ?_ ?_
  · exact hlp
  · rintro m _ hm ⟨rfl, hI⟩
    unfold fX6_isSame_L35
    rw [if_neg (show ¬ (4 : Int32) ≤ nI m from nI_ge (b := 4) hm (by decide)), bind_yes (f_at wl (by omega)), ck_yes (in_R_nI hm (by decide)), bind_yes (f_at wl (by omega)), ck_yes (in_R_nI hi (by decide)), nI_clamp (by omega), nI_clamp (by omega), nI_1]
    have c := mul_eq_iff (hu i hi) (ht m hm) (hu m hm) (ht i hi) (by decide)
    by_cases g : wl (4 * k + i) * t m = wl (4 * k + m) * t i
    · rw [if_pos g]
      refine Or.inl ⟨_, rfl, rfl, fun j hj => ?_⟩
      rcases Nat.lt_or_ge j m with l | l
      · exact hI j l
      · have : j = m := by omega
        subst this; exact c.mp g
    · rw [if_neg g]
      exact Or.inr ⟨_, rfl, Or.inr ⟨rfl, fun q => g (c.mpr (q m hm))⟩⟩
  · rintro _ ⟨rfl, hI⟩
    unfold fX6_isSame_L35
    rw [if_pos (show (4 : Int32) ≤ nI 4 by decide)]
    exact ⟨_, rfl, Or.inl ⟨_, rfl, hI⟩⟩
theorem m_isSame {k : Nat} (hk : k < 8) (hw : bw_ (gM_ wl k)) {p q r s : Int32} (hp : bw_ (w4_ p q r s)) :
    ∃ x, fX6_isSame wl (nI k) p q r s = some x ∧ yn_ x (s4_ (gM_ wl k) (w4_ p q r s)) := by
  unfold fX6_isSame
  rw [ck_yes (by decide), ck_yes (by decide), ck_yes (by decide), ck_yes (by decide)]
  dsimp only [nm_]
  have et : upd (upd (upd (upd (fun (_ : Nat) => (0 : Int32)) (0 : Int32).toNatClampNeg p) (1 : Int32).toNatClampNeg q) (2 : Int32).toNatClampNeg r) (3 : Int32).toNatClampNeg s = t4_ p q r s := rfl
  rw [et]
  have ht : ∀ j, j < 4 → ab_ (t4_ p q r s j).toInt 99 := by
    obtain ⟨b1, b2, b3, b4⟩ := hp
    intro j hj
    have hj' : j = 0 ∨ j = 1 ∨ j = 2 ∨ j = 3 := by omega
    rcases hj' with rfl | rfl | rfl | rfl
    · exact ab_mono b1 (by decide)
    · exact ab_mono b2 (by decide)
    · exact ab_mono b3 (by decide)
    · exact b4
  have hs := sQ_s4 (fun j => (wl (4 * k + j)).toInt) (fun j => (t4_ p q r s j).toInt)
  have hlp := lp_for (body := fun (st : Int32) => fX6_isSame_L26 wl (nI k) (t4_ p q r s) st) (s := (0 : Int32))
    (fun m st => st = nI m ∧ ∀ j, j < m → sQ_ (fun j => (wl (4 * k + j)).toInt) (fun j => (t4_ p q r s j).toInt) j)
    (fun res => (∃ v, res = .inl v ∧ s4_ (gM_ wl k) (w4_ p q r s)) ∨ (res = .inr 0 ∧ ¬ s4_ (gM_ wl k) (w4_ p q r s))) 4 (by decide) ⟨rfl, fun j h => by omega⟩ ?_ ?_
  · obtain ⟨res, e, h⟩ := hlp
    rw [bind_yes e]
    rcases h with ⟨v, rfl, h⟩ | ⟨rfl, h⟩
    · exact ⟨1, rfl, Or.inl ⟨rfl, h⟩⟩
    · exact ⟨0, rfl, Or.inr ⟨rfl, h⟩⟩
  · rintro m _ hm ⟨rfl, hI⟩
    unfold fX6_isSame_L26
    rw [if_neg (show ¬ (4 : Int32) ≤ nI m from nI_ge (b := 4) hm (by decide))]
    obtain ⟨res, e, h⟩ := f_same35 hk hm hw ht
    rw [bind_yes e]
    rcases h with ⟨v, rfl, h⟩ | ⟨rfl, h⟩
    · refine Or.inl ⟨nI (m + 1), (by rw [← nI_1]; rfl), rfl, fun j hj => ?_⟩
      rcases Nat.lt_or_ge j m with l | l
      · exact hI j l
      · have : j = m := by omega
        subst this; exact h
    · exact Or.inr ⟨_, rfl, Or.inr ⟨rfl, fun q => h (hs.mpr q m hm)⟩⟩
  · rintro _ ⟨rfl, hI⟩
    unfold fX6_isSame_L26
    rw [if_pos (show (4 : Int32) ≤ nI 4 by decide)]
    exact ⟨_, rfl, Or.inl ⟨_, rfl, hs.mp hI⟩⟩
end SA
