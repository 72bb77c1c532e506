/-! the whole cut -/
/-- what the class's planes keep to -/
def PI_ (G : Nat → Wl_) (n : Nat) : Prop := n ≤ 8 ∧ (∀ k, k < n → bw_ (G k)) ∧ (∀ k, k < n → nv_ (G k) ≠ o3_) ∧ AX_ G ∧ DI_ G n
theorem PI_planes {G : Nat → Wl_} {n : Nat} (h : PI_ G n) : ∀ i, i < n + 3 → bw_ (G (ix_ n i)) := by
  obtain ⟨hn, hb, _, ⟨h8, h9, h10⟩, _⟩ := h
  intro i hi
  unfold ix_
  by_cases q : i < n
  · rw [if_pos q]; exact hb i q
  · rw [if_neg q]
    rcases (show i - n = 0 ∨ i - n = 1 ∨ i - n = 2 by omega) with e | e | e
    · rw [e, h8]; unfold bw_ ab_; decide
    · rw [e, h9]; unfold bw_ ab_; decide
    · rw [e, h10]; unfold bw_ ab_; decide
/-- what a cut holds -/
def CU_ (G : Nat → Wl_) (n d fo li : Nat) (rk cm mk ro wi la lb : Nat → Int32) : Prop :=
  (∀ r, r < 6561 → (mkd_ mk r = true ↔ Fa_ G n r)) ∧ fo = fb_ct (mkd_ mk) 6561 ∧ fo ≤ 577 ∧
  (∀ r, r < 6561 → mkd_ mk r = true → ro (fb_ct (mkd_ mk) r) = nI r ∧ wi (fb_ct (mkd_ mk) r) = nI d - nI (rk_ (hS_ G (mk_ 8 r 1)))) ∧
  (∀ h, h < 2 ^ n → rk h = nI (rk_ (hS_ G h))) ∧
  (∀ h, h < 2 ^ n → (cm h = 0 ∨ cm h = 1) ∧ (cm h = 1 ↔ ∃ p, ∀ k, h.testBit k = true → ev_ (G k) p = 0)) ∧
  li ≤ 55 ∧ LI_ G n (mM_ G n) li la lb ∧
  (∀ i j, i < j → j < mM_ G n → cx_ (G (ix_ n i)) (G (ix_ n j)) ≠ o3_ → (∃ k, k < n ∧ dr_ (G k) (cx_ (G (ix_ n i)) (G (ix_ n j))) ≠ 0) → ∃ l, l < li ∧ la l = nI (lm_ G n (cx_ (G (ix_ n i)) (G (ix_ n j))) 2) ∧ lb l = nI (lm_ G n (cx_ (G (ix_ n i)) (G (ix_ n j))) 0))
theorem f_cutAnew {va vb vc ve vth vrk vcm vkx vky vkz vmk vre vro vwi vla vlb : Nat → Int32} {n d : Nat} (hP : PI_ (gC_ va vb vc ve) n) (hT : TH_ vth) (h0 : vrk 0 = 0) (k0x k0y k0z k1x k1y k1z k2x k2y k2z k3x k3y k3z : Int32) :
    ∃ fo li rk cm kx ky kz mk re ro wi la lb a1 a2 a3 a4 a5 a6 a7 a8 a9 a10 a11 a12, fX1_cutAnew (nI d) (nI n) va vb vc ve vth vrk vcm vkx vky vkz vmk vre vro vwi vla vlb k0x k0y k0z k1x k1y k1z k2x k2y k2z k3x k3y k3z = some (nI fo, nI li, rk, cm, kx, ky, kz, mk, re, ro, wi, la, lb, a1, a2, a3, a4, a5, a6, a7, a8, a9, a10, a11, a12) ∧
      rk 0 = 0 ∧ CU_ (gC_ va vb vc ve) n d fo li rk cm mk ro wi la lb := by
  have hpl := PI_planes hP
  obtain ⟨hn, hb, hnv, hA, hD⟩ := hP
  have h2n : 2 ^ n ≤ 256 := Nat.pow_le_pow_right (n := 2) (j := 8) (by decide) hn
  have h2p : 0 < 2 ^ n := Nat.pow_pos (by decide)
  unfold fX1_cutAnew
  obtain ⟨mk0, e1, hmk0⟩ := f_fill vmk
  obtain ⟨cm0, e2, hcm0⟩ := f_forget vcm
  obtain ⟨u5, e3, hKV⟩ := f_rankAnew (vkx := vkx) (vky := vky) (vkz := vkz) (k0x := k0x) (k0y := k0y) (k0z := k0z) hn hb hnv h0
  have hrk : ∀ h, h < 2 ^ n → u5.1 h = nI (rk_ (hS_ (gC_ va vb vc ve) h)) := fun h hh => (hKV h hh).1
  obtain ⟨M, fo1, li, cm1, mk1, re1, la, lb, b1, b2, b3, b4, b5, b6, b7, b8, b9, hM, e4, hCP⟩ := f_crossPlanes hn hT hpl (la := vla) (lb := vlb) (CS_0 (gC_ va vb vc ve) hn vre hcm0 hmk0) (hrk (2 ^ n - 1) (by omega)) k1x k1y k1z k2x k2y k2z k3x k3y k3z
  have hMM : M = mM_ (gC_ va vb vc ve) n := hM
  subst hMM
  have hMn : mM_ (gC_ va vb vc ve) n ≤ n + 3 := by unfold mM_; split <;> omega
  have hli : li ≤ 55 := by
    have h1 := hCP.2.2.1
    generalize mM_ (gC_ va vb vc ve) n = m at *
    cases m with
    | zero => simp only [pc_] at h1; omega
    | succ m =>
      have := pc_55 ⟨m + 1, by omega⟩ ⟨m, by omega⟩
      dsimp only at this
      omega
  rw [bind_yes e1, bind_yes e2, bind_yes e3, bind_yes e4]
  obtain ⟨i, fo, cm2, mk2, re2, e5, hC, hmo, hclo⟩ := f_search hn hT hD hCP.2.1 hli u5 hrk (nI fo1, nI li, cm1, mk1, re1, la, lb, b1, b2, b3, b4, b5, b6, b7, b8, b9) rfl rfl rfl hCP.1
  have hall := all_marked hA hnv hCP hmo hclo
  have h577 := CS_577 hn hC
  have hF : ∀ r, r < 6561 → (mkd_ mk2 r = true ↔ Fa_ (gC_ va vb vc ve) n r) := fun r hr => ⟨hC.2.1 r hr, fun ⟨p, hp⟩ => by rw [hp]; exact hall p⟩
  obtain ⟨ro, wi, e6, hsort⟩ := f_sortRows (d := d) hn hC.1 h577 hC.2.1 hrk vro vwi
  obtain ⟨cm3, e7, hshare⟩ := f_shareDown (cm := cm2) hn (fun h hh => (hC.2.2.2.2 h (by omega)).1)
  dsimp only
  rw [bind_yes e5]
  dsimp only
  rw [bind_yes e6, bind_yes e7]
  refine ⟨fo, li, _, _, _, _, _, _, _, _, _, _, _, _, _, _, _, _, _, _, _, _, _, _, _, rfl, ?_, hF, hC.1, h577, hsort, hrk, ?_, hli, hCP.2.1, ?_⟩
  · rw [hrk 0 h2p]
    have := (KV_0 (gC_ va vb vc ve) 0 0 0).1
    exact this.symm
  · intro h hh
    obtain ⟨s1, s2⟩ := hshare h hh
    refine ⟨s1, ?_⟩
    rw [s2]
    constructor
    · rintro ⟨y, hy, hs, hcy⟩
      obtain ⟨r, r1, r2, r3⟩ := (hC.2.2.2.2 y (by omega)).2.mp hcy
      obtain ⟨p, rfl⟩ := hC.2.1 r r1 r2
      refine ⟨p, fun k hk => ?_⟩
      have := hs k hk
      rw [← r3, on_row hn, bn_bit] at this
      simp at this
      exact sg_eq1.mp this.2
    · rintro ⟨p, hp⟩
      refine ⟨mk_ 8 (rp_ (gC_ va vb vc ve) n p) 1, hS_row hn (rp_lt _ _ p), fun k hk => ?_, ?_⟩
      · rw [on_row hn, bn_bit]
        simp [lt_bit hh hk, sn_, sg_zero (hp k hk)]
      · have hlt := hS_row (n := n) hn (rp_lt (gC_ va vb vc ve) n p)
        exact (hC.2.2.2.2 _ (by omega)).2.mpr ⟨_, rp_6561 _ hn p, hall p, rfl⟩
  · intro i j hij hj
    exact (hCP.2.2.2 i j hij hj (Or.inl (by omega))).1
