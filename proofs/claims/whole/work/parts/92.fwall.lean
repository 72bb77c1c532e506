/-! the reference puts up a wall -/
def fX6_wall_L97 (wmn : Int32) (wwl : (Nat → Int32)) (p1 : Int32) (p2 : Int32) (p3 : Int32) (p4 : Int32) (wod : Int32) (v17 : Int32) : Option (Int32 ⊕ (Int32 ⊕ (Int32 × Int32 × Int32 × (Nat → Int32)))) :=
  ck_ (in_R v17 9) ((if wmn ≤ v17 then some (.inr (.inl v17)) else ck_ (in_R v17 8) ((fX6_isSame wwl v17 p1 p2 p3 p4).bind fun (u32 : Int32) => (if u32 = 0 then some (.inl (v17 + (1 : Int32))) else some (.inr (.inr ((-1 : Int32), wmn, wod, wwl)))))))
def fX6_wall_T (wmn : Int32) (wod : Int32) (wwl : (Nat → Int32)) (p1 : Int32) (p2 : Int32) (p3 : Int32) (p4 : Int32) : Option (Int32 × Int32 × Int32 × (Nat → Int32)) :=
  (if wmn = (8 : Int32) then some ((-1 : Int32), wmn, wod, wwl) else (lp_ (fun (st : Int32) => fX6_wall_L97 wmn wwl p1 p2 p3 p4 wod st) fu_ (0 : Int32)).bind fun (u18 : (Int32 ⊕ (Int32 × Int32 × Int32 × (Nat → Int32)))) => Sum.elim (fun (x22 : Int32) => ck_ (in_R ((4 : Int32) * wmn) 32) (ck_ (in_R (((4 : Int32) * wmn) + (1 : Int32)) 32) (ck_ (in_R (((4 : Int32) * wmn) + (2 : Int32)) 32) (ck_ (in_R (((4 : Int32) * wmn) + (3 : Int32)) 32) (some (((wmn + (1 : Int32)) - (1 : Int32)), (wmn + (1 : Int32)), (1 : Int32), (upd (upd (upd (upd wwl ((4 : Int32) * wmn).toNatClampNeg p1) (((4 : Int32) * wmn) + (1 : Int32)).toNatClampNeg p2) (((4 : Int32) * wmn) + (2 : Int32)).toNatClampNeg p3) (((4 : Int32) * wmn) + (3 : Int32)).toNatClampNeg p4))))))) (fun y => some y) u18)
def fX6_wall_S (wwd : Int32) (wmn : Int32) (wod : Int32) (wwl : (Nat → Int32)) (p1 : Int32) (p2 : Int32) (p3 : Int32) (p4 : Int32) : Option (Int32 × Int32 × Int32 × (Nat → Int32)) :=
  (if (2 : Int32) ≤ wwd then fX6_wall_T wmn wod wwl p1 p2 p3 p4 else (if p2 = 0 then fX6_wall_T wmn wod wwl p1 p2 p3 p4 else some ((-1 : Int32), wmn, wod, wwl)))
def fX6_wall_R (wwd : Int32) (wmn : Int32) (wod : Int32) (wwl : (Nat → Int32)) (p1 : Int32) (p2 : Int32) (p3 : Int32) (p4 : Int32) : Option (Int32 × Int32 × Int32 × (Nat → Int32)) :=
  (if (3 : Int32) ≤ wwd then fX6_wall_S wwd wmn wod wwl p1 p2 p3 p4 else (if p3 = 0 then fX6_wall_S wwd wmn wod wwl p1 p2 p3 p4 else some ((-1 : Int32), wmn, wod, wwl)))
def fX6_wall (wwd : Int32) (wmn : Int32) (wod : Int32) (wwl : (Nat → Int32)) (p1 : Int32) (p2 : Int32) (p3 : Int32) (p4 : Int32) : Option (Int32 × Int32 × Int32 × (Nat → Int32)) :=
  (fX6_in p1 (-9 : Int32) (9 : Int32)).bind fun (u1 : Int32) => (if u1 = 0 then some ((-1 : Int32), wmn, wod, wwl) else (fX6_in p2 (-9 : Int32) (9 : Int32)).bind fun (u4 : Int32) => (if u4 = 0 then some ((-1 : Int32), wmn, wod, wwl) else (fX6_in p3 (-9 : Int32) (9 : Int32)).bind fun (u7 : Int32) => (if u7 = 0 then some ((-1 : Int32), wmn, wod, wwl) else (fX6_in p4 (-99 : Int32) (99 : Int32)).bind fun (u10 : Int32) => (if u10 = 0 then some ((-1 : Int32), wmn, wod, wwl) else (if p1 = 0 then (if p2 = 0 then (if p3 = 0 then some ((-1 : Int32), wmn, wod, wwl) else fX6_wall_R wwd wmn wod wwl p1 p2 p3 p4) else fX6_wall_R wwd wmn wod wwl p1 p2 p3 p4) else fX6_wall_R wwd wmn wod wwl p1 p2 p3 p4)))))
theorem m_within (p : Int32) (B : Nat) (hB : B < 1000) : ∃ x, fX6_in p (- nI B) (nI B) = some x ∧ yn_ x (ab_ p.toInt B) := f_within p B hB
section MW
variable {wl : Nat → Int32} {n d : Nat}
theorem gM_upd (p q r s : Int32) : gM_ (upd (upd (upd (upd wl (4 * n) p) (4 * n + 1) q) (4 * n + 2) r) (4 * n + 3) s) = ga_ (gM_ wl) n (w4_ p q r s) := by
  funext k
  unfold gM_ ga_ w4_
  by_cases h : k = n
  · subst h
    simp only [if_true, upd_eq, upd_no _ _ (show 4 * k ≠ 4 * k + 1 by omega), upd_no _ _ (show 4 * k ≠ 4 * k + 2 by omega), upd_no _ _ (show 4 * k ≠ 4 * k + 3 by omega), upd_no _ _ (show 4 * k + 1 ≠ 4 * k + 2 by omega), upd_no _ _ (show 4 * k + 1 ≠ 4 * k + 3 by omega), upd_no _ _ (show 4 * k + 2 ≠ 4 * k + 3 by omega)]
  · rw [if_neg h]
    simp only [upd_no _ _ (show 4 * k ≠ 4 * n by omega), upd_no _ _ (show 4 * k ≠ 4 * n + 1 by omega), upd_no _ _ (show 4 * k ≠ 4 * n + 2 by omega), upd_no _ _ (show 4 * k ≠ 4 * n + 3 by omega),
      upd_no _ _ (show 4 * k + 1 ≠ 4 * n by omega), upd_no _ _ (show 4 * k + 1 ≠ 4 * n + 1 by omega), upd_no _ _ (show 4 * k + 1 ≠ 4 * n + 2 by omega), upd_no _ _ (show 4 * k + 1 ≠ 4 * n + 3 by omega),
      upd_no _ _ (show 4 * k + 2 ≠ 4 * n by omega), upd_no _ _ (show 4 * k + 2 ≠ 4 * n + 1 by omega), upd_no _ _ (show 4 * k + 2 ≠ 4 * n + 2 by omega), upd_no _ _ (show 4 * k + 2 ≠ 4 * n + 3 by omega),
      upd_no _ _ (show 4 * k + 3 ≠ 4 * n by omega), upd_no _ _ (show 4 * k + 3 ≠ 4 * n + 1 by omega), upd_no _ _ (show 4 * k + 3 ≠ 4 * n + 2 by omega), upd_no _ _ (show 4 * k + 3 ≠ 4 * n + 3 by omega)]
theorem m_wallT (hn : n ≤ 8) (hb : ∀ k, k < n → bw_ (gM_ wl k)) (wod : Int32) {p q r s : Int32} (hp : pl_ d (w4_ p q r s)) :
    (wa_ (gM_ wl) n d (w4_ p q r s) ∧ fX6_wall_T (nI n) wod wl p q r s = some (nI n, nI (n + 1), 1, upd (upd (upd (upd wl (4 * n) p) (4 * n + 1) q) (4 * n + 2) r) (4 * n + 3) s)) ∨
    (¬ wa_ (gM_ wl) n d (w4_ p q r s) ∧ fX6_wall_T (nI n) wod wl p q r s = some (-1, nI n, wod, wl)) := by
  unfold fX6_wall_T
  rcases Nat.lt_or_ge n 8 with l | l
  case inr =>
    have : n = 8 := by omega
    subst this
    rw [if_pos (show nI 8 = (8 : Int32) from rfl)]; exact Or.inr ⟨fun h => by have := h.1; omega, rfl⟩
  rw [if_neg (show ¬ nI n = (8 : Int32) from fun q => by
    have h : (nI n).toNatClampNeg = (nI 8).toNatClampNeg := congrArg Int32.toNatClampNeg q
    rw [nI_clamp (by omega), nI_clamp (by omega)] at h; omega)]
  have hlp := lp_for (body := fun (st : Int32) => fX6_wall_L97 (nI n) wl p q r s wod st) (s := (0 : Int32))
    (fun k st => st = nI k ∧ ∀ j, j < k → ¬ s4_ (gM_ wl j) (w4_ p q r s))
    (fun res => (∃ v, res = .inl v ∧ ∀ j, j < n → ¬ s4_ (gM_ wl j) (w4_ p q r s)) ∨ (res = .inr (-1, nI n, wod, wl) ∧ ∃ k, k < n ∧ s4_ (gM_ wl k) (w4_ p q r s))) n (by omega) ⟨rfl, fun j h => by omega⟩ ?_ ?_
  · obtain ⟨res, e, h⟩ := hlp
    rw [bind_yes e]
    rcases h with ⟨v, rfl, h⟩ | ⟨rfl, h⟩
    · refine Or.inl ⟨⟨l, hp, fun ⟨k, hk, q⟩ => h k hk q⟩, ?_⟩
      rw [Sum.elim_inl, show (4 : Int32) = nI 4 from rfl, pk_mul, show (1 : Int32) = nI 1 from rfl, show (2 : Int32) = nI 2 from rfl, show (3 : Int32) = nI 3 from rfl, nI_add, nI_add, nI_add, nI_add]
      rw [ck_yes (in_R_nI (show 4 * n < 32 by omega) (by decide)), ck_yes (in_R_nI (show 4 * n + 1 < 32 by omega) (by decide)), ck_yes (in_R_nI (show 4 * n + 2 < 32 by omega) (by decide)), ck_yes (in_R_nI (show 4 * n + 3 < 32 by omega) (by decide)), nI_clamp (by omega), nI_clamp (by omega), nI_clamp (by omega), nI_clamp (by omega)]
      rw [show nI (n + 1) - nI 1 = nI n by rw [← nI_add, Int32.add_sub_cancel]]
    · exact Or.inr ⟨fun hw => hw.2.2 h, rfl⟩
  · rintro k _ hk ⟨rfl, hI⟩
    unfold fX6_wall_L97
    rw [ck_yes (in_R_nI (show k < 9 by omega) (by decide)), if_neg (nI_ge hk (by omega)), ck_yes (in_R_nI (show k < 8 by omega) (by decide))]
    obtain ⟨x, e, y⟩ := m_isSame (show k < 8 by omega) (hb k hk) hp.1
    rw [bind_yes e]
    rcases y with ⟨rfl, y⟩ | ⟨rfl, y⟩
    · rw [if_neg (by decide)]
      exact Or.inr ⟨_, rfl, Or.inr ⟨rfl, k, hk, y⟩⟩
    · rw [if_pos rfl, nI_1]
      refine Or.inl ⟨_, rfl, rfl, fun j hj => ?_⟩
      rcases Nat.lt_or_ge j k with l | l
      · exact hI j l
      · have : j = k := by omega
        subst this; exact y
  · rintro _ ⟨rfl, hI⟩
    unfold fX6_wall_L97
    rw [ck_yes (in_R_nI (show n < 9 by omega) (by decide)), if_pos (Int32.le_refl _)]
    exact ⟨_, rfl, Or.inl ⟨_, rfl, hI⟩⟩
theorem m_wall (hn : n ≤ 8) (h1 : 1 ≤ d) (h3 : d ≤ 3) (hb : ∀ k, k < n → bw_ (gM_ wl k)) (wod p q r s : Int32) :
    (wa_ (gM_ wl) n d (w4_ p q r s) ∧ fX6_wall (nI d) (nI n) wod wl p q r s = some (nI n, nI (n + 1), 1, upd (upd (upd (upd wl (4 * n) p) (4 * n + 1) q) (4 * n + 2) r) (4 * n + 3) s)) ∨
    (¬ wa_ (gM_ wl) n d (w4_ p q r s) ∧ fX6_wall (nI d) (nI n) wod wl p q r s = some (-1, nI n, wod, wl)) := by
  unfold fX6_wall
  have e9 : (-9 : Int32) = - nI 9 := by decide
  have e99 : (-99 : Int32) = - nI 99 := by decide
  obtain ⟨x1, e1, y1⟩ := m_within p 9 (by decide)
  obtain ⟨x2, e2, y2⟩ := m_within q 9 (by decide)
  obtain ⟨x3, e3, y3⟩ := m_within r 9 (by decide)
  obtain ⟨x4, e4, y4⟩ := m_within s 99 (by decide)
  rw [e9, e99, show (9 : Int32) = nI 9 from rfl, show (99 : Int32) = nI 99 from rfl, bind_yes e1]
  have no : ∀ {Z : Prop}, ¬ pl_ d (w4_ p q r s) → (wa_ (gM_ wl) n d (w4_ p q r s) ∧ Z) ∨ (¬ wa_ (gM_ wl) n d (w4_ p q r s) ∧ some ((-1 : Int32), nI n, wod, wl) = some (-1, nI n, wod, wl)) := fun h => Or.inr ⟨fun w => h w.2.1, rfl⟩
  rcases y1 with ⟨rfl, y1⟩ | ⟨rfl, y1⟩
  case inr => rw [if_pos rfl]; exact no fun h => y1 h.1.1
  rw [if_neg (by decide), bind_yes e2]
  rcases y2 with ⟨rfl, y2⟩ | ⟨rfl, y2⟩
  case inr => rw [if_pos rfl]; exact no fun h => y2 h.1.2.1
  rw [if_neg (by decide), bind_yes e3]
  rcases y3 with ⟨rfl, y3⟩ | ⟨rfl, y3⟩
  case inr => rw [if_pos rfl]; exact no fun h => y3 h.1.2.2.1
  rw [if_neg (by decide), bind_yes e4]
  rcases y4 with ⟨rfl, y4⟩ | ⟨rfl, y4⟩
  case inr => rw [if_pos rfl]; exact no fun h => y4 h.1.2.2.2
  rw [if_neg (by decide)]
  have hw : bw_ (w4_ p q r s) := ⟨y1, y2, y3, y4⟩
  have main : ¬ (p = 0 ∧ q = 0 ∧ r = 0) → (wa_ (gM_ wl) n d (w4_ p q r s) ∧ fX6_wall_R (nI d) (nI n) wod wl p q r s = some (nI n, nI (n + 1), 1, upd (upd (upd (upd wl (4 * n) p) (4 * n + 1) q) (4 * n + 2) r) (4 * n + 3) s)) ∨
    (¬ wa_ (gM_ wl) n d (w4_ p q r s) ∧ fX6_wall_R (nI d) (nI n) wod wl p q r s = some (-1, nI n, wod, wl)) := by
    intro hz
    have hz' : ¬ ((w4_ p q r s).1 = 0 ∧ (w4_ p q r s).2.1 = 0 ∧ (w4_ p q r s).2.2.1 = 0) := fun ⟨a, b, c⟩ => hz ⟨(z_iff _).mpr a, (z_iff _).mpr b, (z_iff _).mpr c⟩
    have sec : (d < 3 → r = 0) → (wa_ (gM_ wl) n d (w4_ p q r s) ∧ fX6_wall_S (nI d) (nI n) wod wl p q r s = some (nI n, nI (n + 1), 1, upd (upd (upd (upd wl (4 * n) p) (4 * n + 1) q) (4 * n + 2) r) (4 * n + 3) s)) ∨
      (¬ wa_ (gM_ wl) n d (w4_ p q r s) ∧ fX6_wall_S (nI d) (nI n) wod wl p q r s = some (-1, nI n, wod, wl)) := by
      intro g2
      unfold fX6_wall_S
      have thd : (d < 2 → q = 0) → pl_ d (w4_ p q r s) := fun g1 => ⟨hw, fun l => (z_iff _).mp (g1 l), fun l => (z_iff _).mp (g2 l), hz'⟩
      by_cases l : 2 ≤ d
      · rw [if_pos (show (2 : Int32) ≤ nI d from nI_le (a := 2) l (by omega))]; exact m_wallT hn hb wod (thd fun _ => by omega)
      · rw [if_neg (show ¬ (2 : Int32) ≤ nI d from nI_ge (b := 2) (by omega) (by decide))]
        by_cases c : q = 0
        · rw [if_pos c]; exact m_wallT hn hb wod (thd fun _ => c)
        · rw [if_neg c]; exact no fun h => c ((z_iff _).mpr (h.2.1 (by omega)))
    unfold fX6_wall_R
    by_cases l : 3 ≤ d
    · rw [if_pos (show (3 : Int32) ≤ nI d from nI_le (a := 3) l (by omega))]; exact sec fun _ => by omega
    · rw [if_neg (show ¬ (3 : Int32) ≤ nI d from nI_ge (b := 3) (by omega) (by decide))]
      by_cases c : r = 0
      · rw [if_pos c]; exact sec fun _ => c
      · rw [if_neg c]; exact no fun h => c ((z_iff _).mpr (h.2.2.1 (by omega)))
  by_cases a : p = 0
  · rw [if_pos a]
    by_cases b : q = 0
    · rw [if_pos b]
      by_cases c : r = 0
      · rw [if_pos c]; exact no fun h => h.2.2.2 ⟨(z_iff _).mp a, (z_iff _).mp b, (z_iff _).mp c⟩
      · rw [if_neg c]; exact main fun h => c h.2.2
    · rw [if_neg b]; exact main fun h => b h.2.1
  · rw [if_neg a]; exact main fun h => a h.1
end MW
