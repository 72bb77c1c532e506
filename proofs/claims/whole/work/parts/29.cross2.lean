/-! all pairs and triples of planes -/
def pc_ (M : Nat) : Nat → Nat
  | 0 => 0
  | i + 1 => pc_ M i + (M - (i + 1))
theorem pc_55 : ∀ M : Fin 12, ∀ i : Fin 12, pc_ M.val (i.val + 1) ≤ 55 := by decide +kernel
section C2
variable {va vb vc ve vth : Nat → Int32} {n : Nat}
theorem f_L96 (hn : n ≤ 8) (hT : TH_ vth) (hP : ∀ i, i < n + 3 → bw_ (gC_ va vb vc ve (ix_ n i))) {M i j : Nat} (hM : M ≤ n + 3) (hij : i < j) (hj : j < M)
    {fo : Nat} {cm mk re : Nat → Int32} (h : CS_ (gC_ va vb vc ve) n fo cm mk re) (q1 q2 q3 q4 q5 q6 : Int32) :
    ∃ r, lp_ (fun (st : (Int32 × Int32 × (Nat → Int32) × (Nat → Int32) × (Nat → Int32) × Int32 × Int32 × Int32 × Int32 × Int32 × Int32)) => fX1_crossPlanes_L96 (nI M) (nI n) (nI i) (nI j) va vb vc ve vth (iI_ (ci_ (gC_ va vb vc ve (ix_ n i)) (gC_ va vb vc ve (ix_ n j))).1, iI_ (ci_ (gC_ va vb vc ve (ix_ n i)) (gC_ va vb vc ve (ix_ n j))).2.1, iI_ (ci_ (gC_ va vb vc ve (ix_ n i)) (gC_ va vb vc ve (ix_ n j))).2.2) st.1 st.2.1 st.2.2.1 st.2.2.2.1 st.2.2.2.2.1 st.2.2.2.2.2.1 st.2.2.2.2.2.2.1 st.2.2.2.2.2.2.2.1 st.2.2.2.2.2.2.2.2.1 st.2.2.2.2.2.2.2.2.2.1 st.2.2.2.2.2.2.2.2.2.2) fu_ (nI (j + 1), nI fo, cm, mk, re, q1, q2, q3, q4, q5, q6) = some r ∧
      ∃ fo', r.2.1 = nI fo' ∧ CS_ (gC_ va vb vc ve) n fo' r.2.2.1 r.2.2.2.1 r.2.2.2.2.1 ∧ MO_ fo mk re fo' r.2.2.2.1 r.2.2.2.2.1 ∧
        ∀ k, j < k → k < M → dt_ (gC_ va vb vc ve (ix_ n i)) (gC_ va vb vc ve (ix_ n j)) (gC_ va vb vc ve (ix_ n k)) ≠ 0 → mkd_ r.2.2.2.1 (rp_ (gC_ va vb vc ve) n (cor_ (gC_ va vb vc ve (ix_ n i)) (gC_ va vb vc ve (ix_ n j)) (gC_ va vb vc ve (ix_ n k)))) = true := by
  have hb : ∀ k, k < n → bw_ (gC_ va vb vc ve k) := fun k hk => by
    have := hP k (by omega)
    rwa [ix_, if_pos hk] at this
  refine lp_for (fun (κ : Nat) st => st.1 = nI (j + 1 + κ) ∧ ∃ fo', st.2.1 = nI fo' ∧ CS_ (gC_ va vb vc ve) n fo' st.2.2.1 st.2.2.2.1 st.2.2.2.2.1 ∧ MO_ fo mk re fo' st.2.2.2.1 st.2.2.2.2.1 ∧
        ∀ k, j < k → k < j + 1 + κ → dt_ (gC_ va vb vc ve (ix_ n i)) (gC_ va vb vc ve (ix_ n j)) (gC_ va vb vc ve (ix_ n k)) ≠ 0 → mkd_ st.2.2.2.1 (rp_ (gC_ va vb vc ve) n (cor_ (gC_ va vb vc ve (ix_ n i)) (gC_ va vb vc ve (ix_ n j)) (gC_ va vb vc ve (ix_ n k)))) = true) _ (M - (j + 1)) (by omega) ?_ ?_ ?_
  · exact ⟨rfl, fo, rfl, h, MO_refl _ _ _, fun k h1 h2 => by omega⟩
  · rintro κ ⟨k', f', cm', mk', re', b1, b2, b3, b4, b5, b6⟩ hκ ⟨e1, fo', e2, hC, hMo, hA⟩
    dsimp only at e1 e2 hC hMo hA ⊢
    subst e1 e2
    left
    unfold fX1_crossPlanes_L96
    rw [if_neg (nI_ge (show j + 1 + κ < M by omega) (by omega)), bind_yes (f_indexOf hn (show i < n + 3 by omega)), bind_yes (f_indexOf hn (show j < n + 3 by omega)), bind_yes (f_indexOf hn (show j + 1 + κ < n + 3 by omega))]
    obtain ⟨fo2, cm2, mk2, re2, a1, a2, a3, a4, a5, a6, e, hC2, hM2, hA2⟩ := f_noteCorner hn hT hb (ix_lt hn (show i < n + 3 by omega)) (ix_lt hn (show j < n + 3 by omega)) (ix_lt hn (show j + 1 + κ < n + 3 by omega)) (hP i (by omega)) (hP j (by omega)) (hP (j + 1 + κ) (by omega)) hC b1 b2 b3 b4 b5 b6
    rw [bind_yes e]
    refine ⟨_, rfl, nI_1 _, fo2, rfl, hC2, MO_trans hMo hM2, fun k h1 h2 hd => ?_⟩
    rcases (show k < j + 1 + κ ∨ k = j + 1 + κ by omega) with q | rfl
    · exact hM2.1 _ (hA k h1 q hd)
    · exact hA2 hd
  · rintro ⟨k', f', cm', mk', re', b1, b2, b3, b4, b5, b6⟩ ⟨e1, fo', e2, hC, hMo, hA⟩
    dsimp only at e1 e2 hC hMo hA ⊢
    subst e1 e2
    unfold fX1_crossPlanes_L96
    rw [if_pos (nI_le (show M ≤ j + 1 + (M - (j + 1)) by omega) (by omega))]
    exact ⟨_, rfl, fo', rfl, hC, hMo, fun k h1 h2 => hA k h1 (by omega)⟩
/-- the lines that are noted: each is along two of the planes, and not along all walls -/
def LI_ (G : Nat → Wl_) (n M li : Nat) (la lb : Nat → Int32) : Prop :=
  ∀ l, l < li → ∃ i j, i < M ∧ j < M ∧ cx_ (G (ix_ n i)) (G (ix_ n j)) ≠ o3_ ∧ (∃ k, k < n ∧ dr_ (G k) (cx_ (G (ix_ n i)) (G (ix_ n j))) ≠ 0) ∧ la l = nI (lm_ G n (cx_ (G (ix_ n i)) (G (ix_ n j))) 2) ∧ lb l = nI (lm_ G n (cx_ (G (ix_ n i)) (G (ix_ n j))) 0)
def CP_ (G : Nat → Wl_) (n M i j fo li : Nat) (cm mk re la lb : Nat → Int32) : Prop :=
  CS_ G n fo cm mk re ∧ LI_ G n M li la lb ∧ li ≤ pc_ M i + (j - (i + 1)) ∧
  (∀ i' j', i' < j' → j' < M → (i' < i ∨ i' = i ∧ j' < j) →
    (cx_ (G (ix_ n i')) (G (ix_ n j')) ≠ o3_ → (∃ k, k < n ∧ dr_ (G k) (cx_ (G (ix_ n i')) (G (ix_ n j'))) ≠ 0) → ∃ l, l < li ∧ la l = nI (lm_ G n (cx_ (G (ix_ n i')) (G (ix_ n j'))) 2) ∧ lb l = nI (lm_ G n (cx_ (G (ix_ n i')) (G (ix_ n j'))) 0)) ∧
    ∀ k, j' < k → k < M → dt_ (G (ix_ n i')) (G (ix_ n j')) (G (ix_ n k)) ≠ 0 → mkd_ mk (rp_ G n (cor_ (G (ix_ n i')) (G (ix_ n j')) (G (ix_ n k)))) = true)
theorem f_L42 (hn : n ≤ 8) (hT : TH_ vth) (hP : ∀ i, i < n + 3 → bw_ (gC_ va vb vc ve (ix_ n i))) {M i j fo li : Nat} (hM : M ≤ n + 3) (hij : i < j) (hj : j < M)
    {cm mk re la lb : Nat → Int32} (h : CP_ (gC_ va vb vc ve) n M i j fo li cm mk re la lb) (k1x k1y k1z q1 q2 q3 q4 q5 q6 : Int32) :
    ∃ fo' li' cm' mk' re' la' lb' a1 a2 a3 a4 a5 a6 a7 a8 a9, fX1_crossPlanes_L42 (nI M) (nI n) (nI i) va vb vc ve vth (nI j) (nI fo) (nI li) cm mk re la lb k1x k1y k1z q1 q2 q3 q4 q5 q6 = some (.inl (nI (j + 1), nI fo', nI li', cm', mk', re', la', lb', a1, a2, a3, a4, a5, a6, a7, a8, a9)) ∧ CP_ (gC_ va vb vc ve) n M i (j + 1) fo' li' cm' mk' re' la' lb' := by
  have hb : ∀ k, k < n → bw_ (gC_ va vb vc ve k) := fun k hk => by
    have := hP k (by omega)
    rwa [ix_, if_pos hk] at this
  obtain ⟨hC, hL, hli, hA⟩ := h
  have h55 : li < 55 := by
    have := pc_55 ⟨M, by omega⟩ ⟨i, by omega⟩
    simp only [pc_] at this
    omega
  have bi := hP i (by omega)
  have bj := hP j (by omega)
  have hab := ab_ci bi bj
  unfold fX1_crossPlanes_L42
  rw [if_neg (nI_ge hj (by omega)), bind_yes (f_indexOf hn (show i < n + 3 by omega)), bind_yes (f_indexOf hn (show j < n + 3 by omega)), bind_yes (f_along ve (ix_lt hn (show i < n + 3 by omega)) (ix_lt hn (show j < n + 3 by omega)))]
  rw [bind_yes (f_nothing (ab_sm hab.1 (by decide)) (ab_sm hab.2.1 (by decide)) (ab_sm hab.2.2 (by decide)))]
  by_cases hc : cx_ (gC_ va vb vc ve (ix_ n i)) (gC_ va vb vc ve (ix_ n j)) = o3_
  · have h0 := (ci_0 _ _).mp hc
    rw [if_pos (show _ ∧ _ ∧ _ from h0), if_neg (show ¬ (1 : Int32) = 0 by decide), nI_1]
    refine ⟨fo, li, cm, mk, re, la, lb, _, _, _, _, _, _, _, _, _, rfl, hC, hL, by omega, ?_⟩
    intro i' j' h1 h2 h3
    rcases (show (i' < i ∨ i' = i ∧ j' < j) ∨ i' = i ∧ j' = j by omega) with q | ⟨rfl, rfl⟩
    · exact hA i' j' h1 h2 q
    · refine ⟨fun q => absurd hc q, fun k _ _ hd => absurd (dt_0 hc _) hd⟩
  · have h0 : ¬ _ := fun q => hc ((ci_0 _ _).mpr q)
    rw [if_neg (show ¬ (_ ∧ _ ∧ _) from h0), if_pos rfl]
    obtain ⟨r, e, fo', ef, hC', hMo, hA'⟩ := f_L96 hn hT hP hM hij hj hC q1 q2 q3 q4 q5 q6
    rcases f_noteLine hn hb bi bj h55 la lb with ⟨hw, el⟩ | ⟨hw, el⟩
    · rw [bind_yes el]
      simp only [nI_1]
      rw [bind_yes e]
      rw [ef]
      refine ⟨fo', li + 1, _, _, _, _, _, _, _, _, _, _, _, _, _, _, rfl, hC', ?_, by omega, ?_⟩
      · intro l hl
        rcases (show l < li ∨ l = li by omega) with q | rfl
        · obtain ⟨i1, j1, g1, g2, g3, g4, g5, g6⟩ := hL l q
          exact ⟨i1, j1, g1, g2, g3, g4, by rw [pk_un (by omega)]; exact g5, by rw [pk_un (by omega)]; exact g6⟩
        · exact ⟨i, j, by omega, hj, hc, hw, by rw [pk_us], by rw [pk_us]⟩
      · intro i' j' h1 h2 h3
        rcases (show (i' < i ∨ i' = i ∧ j' < j) ∨ i' = i ∧ j' = j by omega) with q | ⟨rfl, rfl⟩
        · obtain ⟨g1, g2⟩ := hA i' j' h1 h2 q
          refine ⟨fun c1 c2 => ?_, fun k c1 c2 c3 => hMo.1 _ (g2 k c1 c2 c3)⟩
          obtain ⟨l, hl, l1, l2⟩ := g1 c1 c2
          exact ⟨l, by omega, by rw [pk_un (by omega)]; exact l1, by rw [pk_un (by omega)]; exact l2⟩
        · exact ⟨fun _ _ => ⟨li, by omega, by rw [pk_us], by rw [pk_us]⟩, hA'⟩
    · rw [bind_yes el]
      simp only [nI_1]
      rw [bind_yes e]
      rw [ef]
      refine ⟨fo', li, _, _, _, _, _, _, _, _, _, _, _, _, _, _, rfl, hC', hL, by omega, ?_⟩
      intro i' j' h1 h2 h3
      rcases (show (i' < i ∨ i' = i ∧ j' < j) ∨ i' = i ∧ j' = j by omega) with q | ⟨rfl, rfl⟩
      · obtain ⟨g1, g2⟩ := hA i' j' h1 h2 q
        exact ⟨g1, fun k c1 c2 c3 => hMo.1 _ (g2 k c1 c2 c3)⟩
      · exact ⟨fun _ c2 => absurd c2 hw, hA'⟩
theorem f_crossPlanes (hn : n ≤ 8) (hT : TH_ vth) (hP : ∀ i, i < n + 3 → bw_ (gC_ va vb vc ve (ix_ n i))) {cm mk re la lb vrk : Nat → Int32} (hC : CS_ (gC_ va vb vc ve) n 0 cm mk re)
    (hR : vrk (2 ^ n - 1) = nI (rk_ (hS_ (gC_ va vb vc ve) (2 ^ n - 1)))) (k1x k1y k1z q1 q2 q3 q4 q5 q6 : Int32) :
    ∃ M fo li cm' mk' re' la' lb' a1 a2 a3 a4 a5 a6 a7 a8 a9, M = (if rk_ (hS_ (gC_ va vb vc ve) (2 ^ n - 1)) = 3 then n else n + 3) ∧ fX1_crossPlanes (nI n) 0 0 va vb vc ve vth vrk cm mk re la lb k1x k1y k1z q1 q2 q3 q4 q5 q6 = some (nI fo, nI li, cm', mk', re', la', lb', a1, a2, a3, a4, a5, a6, a7, a8, a9) ∧ CP_ (gC_ va vb vc ve) n M M (M + 1) fo li cm' mk' re' la' lb' := by
  have h2n : 2 ^ n ≤ 256 := Nat.pow_le_pow_right (n := 2) (j := 8) (by decide) hn
  have h2p : 0 < 2 ^ n := Nat.pow_pos (by decide)
  have hrk : fX2_rankOfAll (nI n) vrk = some (nI (rk_ (hS_ (gC_ va vb vc ve) (2 ^ n - 1)))) := by
    unfold fX2_rankOfAll
    rw [nI_all hn, ck_yes (in_R_nI (show 2 ^ n - 1 < 256 by omega) (by decide)), nI_clamp (by omega), hR]
  have hle := rk_le3 (hS_ (gC_ va vb vc ve) (2 ^ n - 1))
  generalize hM : (if rk_ (hS_ (gC_ va vb vc ve) (2 ^ n - 1)) = 3 then n else n + 3) = M
  have hMn : M ≤ n + 3 := by rw [← hM]; split <;> omega
  have hu3 : (if nI (rk_ (hS_ (gC_ va vb vc ve) (2 ^ n - 1))) = (3 : Int32) then some (nI n) else some (nI n + (3 : Int32))) = some (nI M) := by
    have e : (nI (rk_ (hS_ (gC_ va vb vc ve) (2 ^ n - 1))) = (3 : Int32)) ↔ rk_ (hS_ (gC_ va vb vc ve) (2 ^ n - 1)) = 3 := nI_eq (b := 3) (by omega) (by decide)
    by_cases c : rk_ (hS_ (gC_ va vb vc ve) (2 ^ n - 1)) = 3
    · rw [if_pos (e.mpr c), ← hM, if_pos c]
    · rw [if_neg (fun q => c (e.mp q)), ← hM, if_neg c]
      rw [show nI n + (3 : Int32) = nI (n + 3) from nI_add n 3]
  unfold fX1_crossPlanes
  rw [bind_yes hrk, bind_yes hu3]
  have hlp := lp_for (body := fun (st : (Int32 × Int32 × Int32 × (Nat → Int32) × (Nat → Int32) × (Nat → Int32) × (Nat → Int32) × (Nat → Int32) × Int32 × Int32 × Int32 × Int32 × Int32 × Int32 × Int32 × Int32 × Int32)) => fX1_crossPlanes_L33 (nI M) (nI n) va vb vc ve vth st.1 st.2.1 st.2.2.1 st.2.2.2.1 st.2.2.2.2.1 st.2.2.2.2.2.1 st.2.2.2.2.2.2.1 st.2.2.2.2.2.2.2.1 st.2.2.2.2.2.2.2.2.1 st.2.2.2.2.2.2.2.2.2.1 st.2.2.2.2.2.2.2.2.2.2.1 st.2.2.2.2.2.2.2.2.2.2.2.1 st.2.2.2.2.2.2.2.2.2.2.2.2.1 st.2.2.2.2.2.2.2.2.2.2.2.2.2.1 st.2.2.2.2.2.2.2.2.2.2.2.2.2.2.1 st.2.2.2.2.2.2.2.2.2.2.2.2.2.2.2.1 st.2.2.2.2.2.2.2.2.2.2.2.2.2.2.2.2)
    (fun i st => ∃ fo li cm' mk' re' la' lb' a1 a2 a3 a4 a5 a6 a7 a8 a9, st = (nI i, nI fo, nI li, cm', mk', re', la', lb', a1, a2, a3, a4, a5, a6, a7, a8, a9) ∧ CP_ (gC_ va vb vc ve) n M i (i + 1) fo li cm' mk' re' la' lb')
    (fun st => ∃ fo li cm' mk' re' la' lb' a1 a2 a3 a4 a5 a6 a7 a8 a9, st = (nI M, nI fo, nI li, cm', mk', re', la', lb', a1, a2, a3, a4, a5, a6, a7, a8, a9) ∧ CP_ (gC_ va vb vc ve) n M M (M + 1) fo li cm' mk' re' la' lb') M (by omega)
    (s := ((0 : Int32), (0 : Int32), (0 : Int32), cm, mk, re, la, lb, k1x, k1y, k1z, q1, q2, q3, q4, q5, q6)) ?_ ?_ ?_
  · obtain ⟨r, h1, fo, li, cm', mk', re', la', lb', a1, a2, a3, a4, a5, a6, a7, a8, a9, rfl, h2⟩ := hlp
    rw [bind_yes h1]
    exact ⟨M, fo, li, cm', mk', re', la', lb', _, _, _, _, _, _, _, _, _, rfl, rfl, h2⟩
  · refine ⟨0, 0, cm, mk, re, la, lb, _, _, _, _, _, _, _, _, _, rfl, hC, fun l hl => by omega, Nat.zero_le _, fun i' j' h1 h2 h3 => by omega⟩
  · rintro i st hi ⟨fo, li, cm', mk', re', la', lb', a1, a2, a3, a4, a5, a6, a7, a8, a9, rfl, hI⟩
    left
    dsimp only
    unfold fX1_crossPlanes_L33
    rw [if_neg (nI_ge hi (by omega))]
    have hlp := lp_for (body := fun (st : (Int32 × Int32 × Int32 × (Nat → Int32) × (Nat → Int32) × (Nat → Int32) × (Nat → Int32) × (Nat → Int32) × Int32 × Int32 × Int32 × Int32 × Int32 × Int32 × Int32 × Int32 × Int32)) => fX1_crossPlanes_L42 (nI M) (nI n) (nI i) va vb vc ve vth st.1 st.2.1 st.2.2.1 st.2.2.2.1 st.2.2.2.2.1 st.2.2.2.2.2.1 st.2.2.2.2.2.2.1 st.2.2.2.2.2.2.2.1 st.2.2.2.2.2.2.2.2.1 st.2.2.2.2.2.2.2.2.2.1 st.2.2.2.2.2.2.2.2.2.2.1 st.2.2.2.2.2.2.2.2.2.2.2.1 st.2.2.2.2.2.2.2.2.2.2.2.2.1 st.2.2.2.2.2.2.2.2.2.2.2.2.2.1 st.2.2.2.2.2.2.2.2.2.2.2.2.2.2.1 st.2.2.2.2.2.2.2.2.2.2.2.2.2.2.2.1 st.2.2.2.2.2.2.2.2.2.2.2.2.2.2.2.2)
      (fun κ st => ∃ fo li cm' mk' re' la' lb' a1 a2 a3 a4 a5 a6 a7 a8 a9, st = (nI (i + 1 + κ), nI fo, nI li, cm', mk', re', la', lb', a1, a2, a3, a4, a5, a6, a7, a8, a9) ∧ CP_ (gC_ va vb vc ve) n M i (i + 1 + κ) fo li cm' mk' re' la' lb')
      (fun st => ∃ fo li cm' mk' re' la' lb' a1 a2 a3 a4 a5 a6 a7 a8 a9, st = (nI M, nI fo, nI li, cm', mk', re', la', lb', a1, a2, a3, a4, a5, a6, a7, a8, a9) ∧ CP_ (gC_ va vb vc ve) n M i M fo li cm' mk' re' la' lb') (M - (i + 1)) (by omega)
      (s := (nI i + (1 : Int32), nI fo, nI li, cm', mk', re', la', lb', a1, a2, a3, a4, a5, a6, a7, a8, a9)) ?_ ?_ ?_
    · obtain ⟨r, h1, fo2, li2, cm2, mk2, re2, la2, lb2, b1, b2, b3, b4, b5, b6, b7, b8, b9, rfl, h2⟩ := hlp
      rw [bind_yes h1]
      refine ⟨_, rfl, fo2, li2, cm2, mk2, re2, la2, lb2, _, _, _, _, _, _, _, _, _, by rw [nI_1], ?_⟩
      obtain ⟨g1, g2, g3, g4⟩ := h2
      refine ⟨g1, g2, ?_, ?_⟩
      · simp only [pc_]; omega
      · intro i' j' h1 h2 h3
        exact g4 i' j' h1 h2 (by omega)
    · exact ⟨fo, li, cm', mk', re', la', lb', _, _, _, _, _, _, _, _, _, by rw [nI_1], hI⟩
    · rintro κ st hκ ⟨fo, li, cm', mk', re', la', lb', a1, a2, a3, a4, a5, a6, a7, a8, a9, rfl, hI⟩
      left
      dsimp only
      obtain ⟨fo2, li2, cm2, mk2, re2, la2, lb2, b1, b2, b3, b4, b5, b6, b7, b8, b9, e, h2⟩ := f_L42 hn hT hP hMn (show i < i + 1 + κ by omega) (by omega) hI a1 a2 a3 a4 a5 a6 a7 a8 a9
      rw [e]
      exact ⟨_, rfl, fo2, li2, cm2, mk2, re2, la2, lb2, _, _, _, _, _, _, _, _, _, rfl, h2⟩
    · rintro st ⟨fo, li, cm', mk', re', la', lb', a1, a2, a3, a4, a5, a6, a7, a8, a9, rfl, hI⟩
      dsimp only
      unfold fX1_crossPlanes_L42
      rw [show i + 1 + (M - (i + 1)) = M by omega] at hI ⊢
      rw [if_pos (nI_le (Nat.le_refl M) (by omega))]
      exact ⟨_, rfl, fo, li, cm', mk', re', la', lb', _, _, _, _, _, _, _, _, _, rfl, hI⟩
  · rintro st ⟨fo, li, cm', mk', re', la', lb', a1, a2, a3, a4, a5, a6, a7, a8, a9, rfl, hI⟩
    dsimp only
    unfold fX1_crossPlanes_L33
    rw [if_pos (nI_le (Nat.le_refl M) (by omega))]
    exact ⟨_, rfl, fo, li, cm', mk', re', la', lb', _, _, _, _, _, _, _, _, _, rfl, hI⟩
end C2
