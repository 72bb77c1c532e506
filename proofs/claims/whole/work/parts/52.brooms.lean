/-! how many rooms are bounded: both sides -/
section BZ
variable {wl : Nat → Int32} {n d : Nat}
theorem m_bounded (hI : MI_ (gM_ wl) n d) {s : MT_} (hs : mI_ (gM_ wl) n s) (p : Int32) : ∃ x, ∃ s' : MT_, fX6_bounded (nI d) (nI n) s.1 s.2.1 s.2.2.1 wl s.2.2.2.1 s.2.2.2.2.1 s.2.2.2.2.2.1 s.2.2.2.2.2.2.1 s.2.2.2.2.2.2.2.1 s.2.2.2.2.2.2.2.2 p = some (x, s') ∧ yn_ x (BdI_ (gM_ wl) n d p) ∧ mI_ (gM_ wl) n s' := by
  have hI0 := hI
  obtain ⟨hn, hd1, hd3, hb, hnv, hz, _⟩ := hI
  have h3 := p3_6561 hn
  have h2p : 0 < 2 ^ n := Nat.pow_pos (by decide)
  unfold fX6_bounded
  obtain ⟨x, t, e, hy, ht⟩ := m_room hI0 (s := (s.1, s.2.1, s.2.2.1, s.2.2.2.1, s.2.2.2.2.1, s.2.2.2.2.2.1, s.2.2.2.2.2.2.1, s.2.2.2.2.2.2.2.1)) hs p
  dsimp only at e
  rw [bind_yes e]
  dsimp only
  have back : ∀ (ta : Nat → Int64), mI_ (gM_ wl) n (t.1, t.2.1, t.2.2.1, t.2.2.2.1, t.2.2.2.2.1, t.2.2.2.2.2.1, t.2.2.2.2.2.2.1, t.2.2.2.2.2.2.2, ta) := fun _ => ht
  rcases hy with ⟨rfl, r, rfl, hR⟩ | ⟨rfl, hR⟩
  · have hr := Fa_lt hR.1
    have hone : ∀ r', nI r = nI r' → Ro_ (gM_ wl) n r' → r = r' := fun r' e h => (nI_eq (by omega) (by have := Fa_lt h.1; omega)).mp e
    rw [if_neg (by decide)]
    obtain ⟨ta, e2⟩ := m_rank3 hn hb hnv (h := 2 ^ n - 1) (by omega) s.2.2.2.2.2.2.2.2
    have hrd := rk_d hI0 (h := 2 ^ n - 1) (by omega)
    rw [nI_all hn, bind_yes e2]
    dsimp only
    by_cases q : rk_ (hS_ (gM_ wl) (2 ^ n - 1)) = d
    · rw [if_pos (nI_le (show d ≤ rk_ (hS_ (gM_ wl) (2 ^ n - 1)) by omega) (by omega))]
      have hT := Tr_op (r := r) hI0 q
      have yes : Tr_ (gM_ wl) n d r → yn_ 0 (BdI_ (gM_ wl) n d (nI r)) := by
        intro w
        refine Or.inr ⟨rfl, ?_⟩
        rintro ⟨r', e', hB⟩
        rw [hone r' e' hB.1] at w hT
        exact hB.2.2 (hT.mp w)
      have no : ¬ Tr_ (gM_ wl) n d r → yn_ 1 (BdI_ (gM_ wl) n d (nI r)) := fun w => Or.inl ⟨rfl, r, rfl, hR, q, fun z => w (hT.mpr z)⟩
      by_cases d1 : d = 1
      · rw [if_pos (by rw [d1]; rfl)]
        have a1 : ab_ 1 162 := by unfold ab_; decide
        have a0 : ab_ 0 162 := by unfold ab_; decide
        obtain ⟨b, e3, hb3⟩ := m_either hn hb (show r < 2 ^ 31 by omega) hR.2 a1 a0 a0
        have e3' : fX6_leadsEither (nI n) wl (nI r) (1 : Int32) (0 : Int32) (0 : Int32) = some b := e3
        rw [bind_yes e3']
        have hTd : Tr_ (gM_ wl) n d r ↔ Cn_ (gM_ wl) n r (((1 : Int) : Rat), ((0 : Int) : Rat), ((0 : Int) : Rat)) ∨ Cn_ (gM_ wl) n r (mu_ (-1) (((1 : Int) : Rat), ((0 : Int) : Rat), ((0 : Int) : Rat))) := by
          unfold Tr_
          rw [if_pos d1]
          exact Iff.rfl
        rcases hb3 with ⟨rfl, w⟩ | ⟨rfl, w⟩
        · rw [if_neg (by decide)]
          exact ⟨_, _, rfl, yes (hTd.mpr w.2), back ta⟩
        · rw [if_pos rfl]
          exact ⟨_, _, rfl, no (fun z => w ⟨fun c => absurd c.1 (by decide), hTd.mp z⟩), back ta⟩
      · rw [if_neg (show ¬ nI d = (1 : Int32) from fun z => d1 ((nI_eq (b := 1) (by omega) (by decide)).mp z))]
        have hlp := lp_for (body := fun (st : Int32) => fX6_bounded_L57 (nI n) (nI d) wl (nI r) (1, t) (nI (rk_ (hS_ (gM_ wl) (2 ^ n - 1))), ta) st)
          (fun k st => st = nI k ∧ ∀ j, j < k → ¬ (if d = 2 then (Cn_ (gM_ wl) n r ((((- (gM_ wl j).2.1 : Int) : Rat)), ((gM_ wl j).1 : Rat), 0) ∨ Cn_ (gM_ wl) n r (mu_ (-1) ((((- (gM_ wl j).2.1 : Int) : Rat)), ((gM_ wl j).1 : Rat), 0))) else ∃ o, o < j ∧ cx_ (gM_ wl j) (gM_ wl o) ≠ o3_ ∧ (Cn_ (gM_ wl) n r (cx_ (gM_ wl j) (gM_ wl o)) ∨ Cn_ (gM_ wl) n r (mu_ (-1) (cx_ (gM_ wl j) (gM_ wl o))))))
          (fun u => ∃ x, ∃ s' : MT_, Sum.elim (fun (x13 : Int32) => some ((1 : Int32), t.1, t.2.1, t.2.2.1, t.2.2.2.1, t.2.2.2.2.1, t.2.2.2.2.2.1, t.2.2.2.2.2.2.1, t.2.2.2.2.2.2.2, ta)) (fun y => some y) u = some (x, s') ∧ yn_ x (BdI_ (gM_ wl) n d (nI r)) ∧ mI_ (gM_ wl) n s') n (by omega) (s := (0 : Int32)) ⟨rfl, fun j hj => absurd hj (Nat.not_lt_zero j)⟩ ?_ ?_
        · obtain ⟨u, g1, x, s', g2, g3, g4⟩ := hlp
          refine ⟨x, s', ?_, g3, g4⟩
          rw [bind_yes g1]; exact g2
        · rintro k st hk ⟨rfl, h2⟩
          unfold fX6_bounded_L57
          rw [if_neg (nI_ge hk (by omega))]
          by_cases d2 : d = 2
          · have c1 : fX6_at wl (nI k) (1 : Int32) = some (wl (4 * k + 1)) := f_at wl (c := 1) (by omega)
            have c0 : fX6_at wl (nI k) (0 : Int32) = some (wl (4 * k)) := f_at wl (c := 0) (by omega)
            obtain ⟨b1, b2, b3, b4⟩ := hb k hk
            obtain ⟨b, e3, hb3⟩ := m_either hn hb (show r < 2 ^ 31 by omega) hR.2 (ab_mono (ab_neg b2) (by decide)) (ab_mono b1 (by decide)) (show ab_ 0 162 by unfold ab_; decide)
            have e4 : fX6_leadsEither (nI n) wl (nI r) (- wl (4 * k + 1)) (wl (4 * k)) (0 : Int32) = some b := by
              rw [← e3, ← iI_neg]
              unfold gM_
              dsimp only
              rw [iI_of, iI_of]; rfl
            rw [if_pos (by rw [d2]; rfl), bind_yes c1, bind_yes c0, bind_yes e4]
            have hne : ¬ (- (gM_ wl k).2.1 = 0 ∧ (gM_ wl k).1 = 0 ∧ (0 : Int) = 0) := by
              rintro ⟨q1, q2, _⟩
              have z2 := hz k hk 2 (by decide) (by omega)
              simp only [cf_] at z2
              simp at z2
              exact nv_int (hnv k hk) ⟨q2, by omega, z2⟩
            rcases hb3 with ⟨rfl, w⟩ | ⟨rfl, w⟩
            · right
              rw [if_neg (by decide)]
              refine ⟨_, rfl, _, _, rfl, yes ?_, back ta⟩
              unfold Tr_
              rw [if_neg d1, if_pos d2]
              exact ⟨k, hk, w.2⟩
            · left
              rw [if_pos rfl]
              refine ⟨_, rfl, nI_1 k, fun j hj => ?_⟩
              rcases (show j < k ∨ j = k by omega) with c | rfl
              · exact h2 j c
              · rw [if_pos d2]
                exact fun z => w ⟨hne, z⟩
          · rw [if_neg (show ¬ nI d = (2 : Int32) from fun z => d2 ((nI_eq (b := 2) (by omega) (by decide)).mp z))]
            obtain ⟨u, e3, hu⟩ := m_pairs hI0 (show r < 2 ^ 31 by omega) hR.2 hk (1, t) (nI (rk_ (hS_ (gM_ wl) (2 ^ n - 1))), ta)
            rw [bind_yes e3]
            rcases hu with ⟨⟨j, rfl⟩, w⟩ | ⟨rfl, o, ho, w⟩
            · left
              refine ⟨_, rfl, nI_1 k, fun j hj => ?_⟩
              rcases (show j < k ∨ j = k by omega) with c | rfl
              · exact h2 j c
              · rw [if_neg d2]
                rintro ⟨o, ho, z⟩
                exact w o ho z
            · right
              refine ⟨_, rfl, _, _, rfl, yes ?_, back ta⟩
              unfold Tr_
              rw [if_neg d1, if_neg d2]
              exact ⟨k, o, hk, ho, w⟩
        · rintro st ⟨rfl, h2⟩
          unfold fX6_bounded_L57
          rw [if_pos (nI_le (Nat.le_refl n) (by omega))]
          refine ⟨_, rfl, _, _, rfl, no ?_, back ta⟩
          unfold Tr_
          rw [if_neg d1]
          by_cases d2 : d = 2
          · rw [if_pos d2]
            rintro ⟨k, hk, w⟩
            have := h2 k hk
            rw [if_pos d2] at this
            exact this w
          · rw [if_neg d2]
            rintro ⟨k, o, hk, ho, w⟩
            have := h2 k hk
            rw [if_neg d2] at this
            exact this ⟨o, ho, w⟩
    · rw [if_neg (nI_ge (show rk_ (hS_ (gM_ wl) (2 ^ n - 1)) < d by omega) (by omega))]
      refine ⟨_, _, rfl, Or.inr ⟨rfl, ?_⟩, back ta⟩
      rintro ⟨r', e', hB⟩
      exact q hB.2.1
  · rw [if_pos rfl]
    refine ⟨_, _, rfl, Or.inr ⟨rfl, ?_⟩, back s.2.2.2.2.2.2.2.2⟩
    rintro ⟨r', e', hB⟩
    exact hR ⟨r', e', hB.1⟩
noncomputable def vR_ (G : Nat → Wl_) (n d : Nat) : Int32 := nI (fb_sm (fun r => iN_ (BdR_ G n d r)) (3 ^ n))
theorem m_boundedRooms (hI : MI_ (gM_ wl) n d) {s : MT_} (hs : mI_ (gM_ wl) n s) : ∃ s' : MT_, fX6_boundedRooms (nI d) (nI n) s.1 s.2.1 s.2.2.1 wl s.2.2.2.1 s.2.2.2.2.1 s.2.2.2.2.2.1 s.2.2.2.2.2.2.1 s.2.2.2.2.2.2.2.1 s.2.2.2.2.2.2.2.2 = some (vR_ (gM_ wl) n d, s') ∧ mI_ (gM_ wl) n s' := by
  have hn := hI.1
  have h3 := p3_6561 hn
  unfold fX6_boundedRooms vR_
  have hlp := lp_for (body := fun (st : (Int32 × Int32 × MT_)) => fX6_boundedRooms_L4 (nI n) (nI d) wl st.1 st.2.1 st.2.2.1 st.2.2.2.1 st.2.2.2.2.1 st.2.2.2.2.2.1 st.2.2.2.2.2.2.1 st.2.2.2.2.2.2.2.1 st.2.2.2.2.2.2.2.2.1 st.2.2.2.2.2.2.2.2.2.1 st.2.2.2.2.2.2.2.2.2.2)
    (fun r st => st.1 = nI r ∧ st.2.1 = nI (fb_sm (fun r => iN_ (BdR_ (gM_ wl) n d r)) r) ∧ mI_ (gM_ wl) n st.2.2)
    (fun st => st.2.1 = nI (fb_sm (fun r => iN_ (BdR_ (gM_ wl) n d r)) (3 ^ n)) ∧ mI_ (gM_ wl) n st.2.2) (3 ^ n) (by omega) (s := ((0 : Int32), (0 : Int32), s)) ⟨rfl, rfl, hs⟩ ?_ ?_
  · obtain ⟨⟨i, y, s'⟩, e1, e2, e3⟩ := hlp
    dsimp only at e2 e3
    subst e2
    refine ⟨s', ?_, e3⟩
    rw [bind_yes e1]
  · rintro r ⟨i, y, t⟩ hr ⟨e1, e2, e3⟩
    dsimp only at e1 e2 e3 ⊢
    subst e1 e2
    left
    unfold fX6_boundedRooms_L4
    obtain ⟨x, t1, e4, hy, ht⟩ := m_room hI (s := (t.1, t.2.1, t.2.2.1, t.2.2.2.1, t.2.2.2.2.1, t.2.2.2.2.2.1, t.2.2.2.2.2.2.1, t.2.2.2.2.2.2.2.1)) e3 (nI r)
    dsimp only at e4
    rw [bind_yes (f_power (by omega)), if_neg (nI_ge hr (by omega)), bind_yes e4]
    dsimp only
    have hy' := yn_cg hy (RoI_nI hn (by omega))
    rcases hy' with ⟨rfl, q⟩ | ⟨rfl, q⟩
    · rw [if_neg (by decide)]
      obtain ⟨x2, t2, e5, hy5, ht5⟩ := m_bounded hI (s := (t1.1, t1.2.1, t1.2.2.1, t1.2.2.2.1, t1.2.2.2.2.1, t1.2.2.2.2.2.1, t1.2.2.2.2.2.2.1, t1.2.2.2.2.2.2.2, t.2.2.2.2.2.2.2.2)) ht (nI r)
      dsimp only at e5
      rw [bind_yes e5]
      dsimp only
      have hB : BdI_ (gM_ wl) n d (nI r) ↔ BdR_ (gM_ wl) n d r := by
        constructor
        · rintro ⟨r', e', hB⟩
          have := Fa_lt hB.1.1
          rw [(nI_eq (by omega) (by omega)).mp e']; exact hB
        · intro h; exact ⟨r, rfl, h⟩
      have hy6 := yn_cg hy5 hB
      rcases hy6 with ⟨rfl, w⟩ | ⟨rfl, w⟩
      · rw [if_neg (by decide)]
        exact ⟨_, rfl, nI_1 r, by rw [fb_sm_succ, iN_1 w]; exact nI_1 _, ht5⟩
      · rw [if_pos rfl]
        exact ⟨_, rfl, nI_1 r, by rw [fb_sm_succ, iN_0 w]; exact nI_add _ 0, ht5⟩
    · rw [if_pos rfl]
      exact ⟨_, rfl, nI_1 r, by rw [fb_sm_succ, iN_0 (fun z => q z.1)]; exact nI_add _ 0, ht⟩
  · rintro ⟨i, y, t⟩ ⟨e1, e2, e3⟩
    dsimp only at e1 e2 e3 ⊢
    subst e1 e2
    unfold fX6_boundedRooms_L4
    rw [bind_yes (f_power (by omega)), if_pos (nI_le (Nat.le_refl _) (by omega))]
    exact ⟨_, rfl, rfl, e3⟩
end BZ
/-! Zaslavsky's count, out of the class's sum -/
theorem si_3 (f : Nat → Int) (m : Nat) : fb_si f (m * 3) = fb_si f m + fb_si (fun r => f (r + 1 * m)) m + fb_si (fun r => f (r + 2 * m)) m := by
  rw [show m * 3 = m + (m + m) by omega, fb_si_split, fb_si_split]
  have e1 : fb_si (fun k => f (m + k)) m = fb_si (fun r => f (r + 1 * m)) m := fb_si_cong (fun k _ => by rw [Nat.one_mul, Nat.add_comm])
  have e2 : fb_si (fun k => f (m + (m + k))) m = fb_si (fun r => f (r + 2 * m)) m := fb_si_cong (fun k _ => by congr 1; omega)
  rw [e1, e2]
  omega
theorem si_z (N : Nat) : fb_si (fun _ => (0 : Int)) N = 0 := by
  induction N with
  | zero => rfl
  | succ N ih => rw [fb_si_succ, ih]; rfl
def sr_ (G : Nat → Wl_) (r : Nat) : Nat → List (Wl_ × Bool) → List (Wl_ × Bool)
  | 0, L => L
  | m + 1, L => sr_ G r m ((G m, decide (dg_ r m = 2)) :: L)
theorem sr_mem {G : Nat → Wl_} {r : Nat} : ∀ {m : Nat} {L : List (Wl_ × Bool)} {x : Wl_ × Bool}, x ∈ sr_ G r m L ↔ (∃ k, k < m ∧ x = (G k, decide (dg_ r k = 2))) ∨ x ∈ L := by
  intro m
  induction m with
  | zero =>
    intro L x
    constructor
    · intro h; exact Or.inr h
    · rintro (⟨k, hk, _⟩ | h)
      · omega
      · exact h
  | succ m ih =>
    intro L x
    show x ∈ sr_ G r m ((G m, decide (dg_ r m = 2)) :: L) ↔ _
    rw [ih, List.mem_cons]
    constructor
    · rintro (⟨k, hk, h⟩ | h | h)
      · exact Or.inl ⟨k, by omega, h⟩
      · exact Or.inl ⟨m, by omega, h⟩
      · exact Or.inr h
    · rintro (⟨k, hk, h⟩ | h)
      · rcases (show k < m ∨ k = m by omega) with q | rfl
        · exact Or.inl ⟨k, q, h⟩
        · exact Or.inr (Or.inl h)
      · exact Or.inr (Or.inr h)
theorem sr_add (G : Nat → Wl_) (r t : Nat) {n : Nat} : ∀ {m : Nat} (L : List (Wl_ × Bool)), m ≤ n → sr_ G (r + t * 3 ^ n) m L = sr_ G r m L := by
  intro m
  induction m with
  | zero => intro L _; rfl
  | succ m ih =>
    intro L h
    show sr_ G (r + t * 3 ^ n) m _ = sr_ G r m _
    rw [dg_add _ _ (show m < n by omega)]
    exact ih _ (by omega)
theorem cn_sum (B : List Wl_) (G : Nat → Wl_) : ∀ (m : Nat) (L : List (Wl_ × Bool)), fb_si (fun r => in_ ((∀ k, k < m → dg_ r k ≠ 1) ∧ Bd_ B (sr_ G r m L))) (3 ^ m) = cn_ B (wl_ G m) L := by
  intro m
  induction m with
  | zero =>
    intro L
    show 0 + in_ _ = in_ (Bd_ B L)
    rw [Int.zero_add]
    exact in_cg ⟨fun h => h.2, fun h => ⟨fun k hk => by omega, h⟩⟩
  | succ m ih =>
    intro L
    show _ = cn_ B (G m :: wl_ G m) L
    simp only [cn_]
    rw [← ih, ← ih, Nat.pow_succ, si_3]
    have step : ∀ (t : Nat) (b : Bool), t ≤ 2 → t ≠ 1 → decide (t = 2) = b → ∀ r, r < 3 ^ m → in_ ((∀ k, k < m + 1 → dg_ (r + t * 3 ^ m) k ≠ 1) ∧ Bd_ B (sr_ G (r + t * 3 ^ m) (m + 1) L)) = in_ ((∀ k, k < m → dg_ r k ≠ 1) ∧ Bd_ B (sr_ G r m ((G m, b) :: L))) := by
      intro t b ht ht1 hb r hr
      have e : sr_ G (r + t * 3 ^ m) (m + 1) L = sr_ G r m ((G m, b) :: L) := by
        show sr_ G (r + t * 3 ^ m) m ((G m, decide (dg_ (r + t * 3 ^ m) m = 2)) :: L) = _
        rw [dg_top hr ht, hb, sr_add G r t _ (Nat.le_refl m)]
      rw [e]
      refine in_cg (and_congr_left (fun _ => ?_))
      constructor
      · intro h k hk
        rw [← dg_add r t hk]; exact h k (by omega)
      · intro h k hk
        rcases (show k < m ∨ k = m by omega) with q | rfl
        · rw [dg_add r t q]; exact h k q
        · rw [dg_top hr ht]; exact ht1
    have e0 : fb_si (fun r => in_ ((∀ k, k < m + 1 → dg_ r k ≠ 1) ∧ Bd_ B (sr_ G r (m + 1) L))) (3 ^ m) = fb_si (fun r => in_ ((∀ k, k < m → dg_ r k ≠ 1) ∧ Bd_ B (sr_ G r m ((G m, false) :: L)))) (3 ^ m) :=
      fb_si_cong (fun r hr => by have := step 0 false (by omega) (by omega) rfl r hr; rw [Nat.zero_mul, Nat.add_zero] at this; exact this)
    have e1 : fb_si (fun r => in_ ((∀ k, k < m + 1 → dg_ (r + 1 * 3 ^ m) k ≠ 1) ∧ Bd_ B (sr_ G (r + 1 * 3 ^ m) (m + 1) L))) (3 ^ m) = 0 := by
      rw [fb_si_cong (g := fun _ => 0) (fun r hr => in_0 (fun h => h.1 m (by omega) (dg_top hr (by omega)))), si_z]
    have e2 : fb_si (fun r => in_ ((∀ k, k < m + 1 → dg_ (r + 2 * 3 ^ m) k ≠ 1) ∧ Bd_ B (sr_ G (r + 2 * 3 ^ m) (m + 1) L))) (3 ^ m) = fb_si (fun r => in_ ((∀ k, k < m → dg_ r k ≠ 1) ∧ Bd_ B (sr_ G r m ((G m, true) :: L)))) (3 ^ m) :=
      fb_si_cong (fun r hr => step 2 true (by omega) (by omega) rfl r hr)
    rw [e0, e1, e2]
    omega
def sgm_ (m h : Nat) : Int := if fb_ct (fun k => h.testBit k) m % 2 = 0 then 1 else -1
theorem sS_sum (G : Nat → Wl_) : ∀ (m : Nat) (B : List Wl_), fb_si (fun h => in_ (∃ p, oB_ B p ∧ ∀ k, k < m → h.testBit k = true → ev_ (G k) p = 0) * sgm_ m h) (2 ^ m) = sS_ (wl_ G m) B := by
  intro m
  induction m with
  | zero =>
    intro B
    show 0 + in_ _ * 1 = in_ (∃ p, oB_ B p)
    rw [Int.zero_add, Int.mul_one]
    exact in_cg ⟨fun ⟨p, h, _⟩ => ⟨p, h⟩, fun ⟨p, h⟩ => ⟨p, h, fun k hk => by omega⟩⟩
  | succ m ih =>
    intro B
    show _ = sS_ (G m :: wl_ G m) B
    simp only [sS_]
    rw [← ih, ← ih, Nat.pow_succ, si_2]
    have e0 : fb_si (fun h => in_ (∃ p, oB_ B p ∧ ∀ k, k < m + 1 → h.testBit k = true → ev_ (G k) p = 0) * sgm_ (m + 1) h) (2 ^ m) = fb_si (fun h => in_ (∃ p, oB_ B p ∧ ∀ k, k < m → h.testBit k = true → ev_ (G k) p = 0) * sgm_ m h) (2 ^ m) := by
      refine fb_si_cong (fun h hh => ?_)
      have hbit : h.testBit m = false := Nat.testBit_lt_two_pow hh
      have hs : sgm_ (m + 1) h = sgm_ m h := by unfold sgm_; rw [fb_ct_succ, hbit]; simp
      rw [hs]
      congr 1
      refine in_cg ⟨fun ⟨p, h1, h2⟩ => ⟨p, h1, fun k hk => h2 k (by omega)⟩, fun ⟨p, h1, h2⟩ => ⟨p, h1, fun k hk hb => ?_⟩⟩
      rcases (show k < m ∨ k = m by omega) with q | rfl
      · exact h2 k q hb
      · rw [hbit] at hb; cases hb
    have e1 : fb_si (fun h => in_ (∃ p, oB_ B p ∧ ∀ k, k < m + 1 → (h + 2 ^ m).testBit k = true → ev_ (G k) p = 0) * sgm_ (m + 1) (h + 2 ^ m)) (2 ^ m) = - fb_si (fun h => in_ (∃ p, oB_ (G m :: B) p ∧ ∀ k, k < m → h.testBit k = true → ev_ (G k) p = 0) * sgm_ m h) (2 ^ m) := by
      rw [show (- fb_si (fun h => in_ (∃ p, oB_ (G m :: B) p ∧ ∀ k, k < m → h.testBit k = true → ev_ (G k) p = 0) * sgm_ m h) (2 ^ m)) = fb_si (fun h => (-1) * (in_ (∃ p, oB_ (G m :: B) p ∧ ∀ k, k < m → h.testBit k = true → ev_ (G k) p = 0) * sgm_ m h)) (2 ^ m) by rw [fb_si_mul]; omega]
      refine fb_si_cong (fun h hh => ?_)
      have hlow : ∀ k, k < m → (h + 2 ^ m).testBit k = h.testBit k := fun k hk => by
        rw [bit_more hh]
        have : ¬ k = m := by omega
        simp [this]
      have htop : (h + 2 ^ m).testBit m = true := by rw [bit_more hh]; simp
      have hs : sgm_ (m + 1) (h + 2 ^ m) = - sgm_ m h := by
        unfold sgm_
        rw [fb_ct_succ, htop, fb_ct_cong (q := fun k => h.testBit k) hlow]
        simp only [if_true]
        by_cases q : fb_ct (fun k => h.testBit k) m % 2 = 0
        · rw [if_pos q, if_neg (by omega)]
        · rw [if_neg q, if_pos (by omega)]; rfl
      have hc : in_ (∃ p, oB_ B p ∧ ∀ k, k < m + 1 → (h + 2 ^ m).testBit k = true → ev_ (G k) p = 0) = in_ (∃ p, oB_ (G m :: B) p ∧ ∀ k, k < m → h.testBit k = true → ev_ (G k) p = 0) := by
        refine in_cg ⟨?_, ?_⟩
        · rintro ⟨p, h1, h2⟩
          exact ⟨p, oB_cons.mpr ⟨h2 m (by omega) htop, h1⟩, fun k hk hb => h2 k (by omega) (by rw [hlow k hk]; exact hb)⟩
        · rintro ⟨p, h1, h2⟩
          obtain ⟨h3, h4⟩ := oB_cons.mp h1
          refine ⟨p, h4, fun k hk hb => ?_⟩
          rcases (show k < m ∨ k = m by omega) with q | rfl
          · exact h2 k q (by rw [← hlow k q]; exact hb)
          · exact h3
      rw [hs, hc]
      generalize in_ (∃ p, oB_ (G m :: B) p ∧ ∀ k, k < m → h.testBit k = true → ev_ (G k) p = 0) = a
      generalize sgm_ m h = b
      grind
    rw [e0, e1]
    omega
