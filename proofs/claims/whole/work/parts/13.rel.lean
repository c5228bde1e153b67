/-! the relation, and the methods that only read -/
def i_Rel (k : Nat) (u : SX) (v : SY) : Prop :=
  ∃ (n m c r d : Nat) (sS sM sT sF st sg pv ss ta dx dy dr ur jK jA jB jC : Nat → Int32) (ev ck : Int32), n ≤ 12 ∧ m ≤ 8 ∧ c ≤ 128 ∧ r ≤ c ∧ d ≤ r ∧ sq_tp n sS sF ∧ sq_iv n sS st sg pv ss ta dx dy dr ur ∧
    so_J n m sS sM sT sF jK jA jB r ev (st, sg, pv, ss, ta, dx, dy, dr, ur, ck) ∧ u = (nI n, ev, nI m, ck, nI c, nI r, nI d, sS, sM, sT, sF, st, sg, pv, ss, ta, dx, dr, ur, jK, jA, jB, jC) ∧ v = (nI m, nI c, nI n, ev, ck, nI r, nI d, sS, sM, sT, sF, st, sg, pv, ss, ta, dy, dr, ur, jK, jA, jB, jC)
theorem sr_mk {k n m c r d : Nat} {sS sM sT sF st sg pv ss ta dx dy dr ur jK jA jB jC : Nat → Int32} {ev ck : Int32} (hn : n ≤ 12) (hm : m ≤ 8) (hc : c ≤ 128) (hr : r ≤ c) (hd : d ≤ r) (hT : sq_tp n sS sF) (hI : sq_iv n sS st sg pv ss ta dx dy dr ur)
    (hJ : so_J n m sS sM sT sF jK jA jB r ev (st, sg, pv, ss, ta, dx, dy, dr, ur, ck)) : i_Rel k (nI n, ev, nI m, ck, nI c, nI r, nI d, sS, sM, sT, sF, st, sg, pv, ss, ta, dx, dr, ur, jK, jA, jB, jC) (nI m, nI c, nI n, ev, ck, nI r, nI d, sS, sM, sT, sF, st, sg, pv, ss, ta, dy, dr, ur, jK, jA, jB, jC) :=
  ⟨n, m, c, r, d, sS, sM, sT, sF, st, sg, pv, ss, ta, dx, dy, dr, ur, jK, jA, jB, jC, ev, ck, hn, hm, hc, hr, hd, hT, hI, hJ, rfl, rfl⟩
theorem i_up {k : Nat} {u : SX} {v : SY} (h : i_Rel k u v) : i_Rel (k + 5) u v := h
theorem sr_0 {m c : Nat} (hm : m ≤ 8) (hc : c ≤ 128) : i_Rel 2 (0, 0, nI m, 0, nI c, 0, 0, (fun _ => 0), (fun _ => 0), (fun _ => 0), (fun _ => 0), (fun _ => 0), (fun _ => 0), (fun _ => 0), (fun _ => 0), (fun _ => 0), (fun _ => 0), (fun _ => 0), (fun _ => 0), (fun _ => 0), (fun _ => 0), (fun _ => 0), (fun _ => 0))
    (nI m, nI c, 0, 0, 0, 0, 0, (fun _ => 0), (fun _ => 0), (fun _ => 0), (fun _ => 0), (fun _ => 0), (fun _ => 0), (fun _ => 0), (fun _ => 0), (fun _ => 0), (fun _ => 0), (fun _ => 0), (fun _ => 0), (fun _ => 0), (fun _ => 0), (fun _ => 0), (fun _ => 0)) :=
  sr_mk (k := 2) (n := 0) (m := m) (c := c) (r := 0) (d := 0) (by omega) hm hc (by omega) (by omega) sq_tp0 sq_iv0 (Or.inl ⟨rfl, rfl, fun i h => absurd h (by omega)⟩)
theorem sr_1 {m : Nat} (hm : m ≤ 8) {k0 k1 : Int32} (hY : ∀ post : SY → Prop, wY_init_158 post k1 (nI m) 0 0 0 0 0 0 0 (fun _ => 0) (fun _ => 0) (fun _ => 0) (fun _ => 0) (fun _ => 0) (fun _ => 0) (fun _ => 0) (fun _ => 0) (fun _ => 0) (fun _ => 0) (fun _ => 0) (fun _ => 0) (fun _ => 0) (fun _ => 0) (fun _ => 0) (fun _ => 0) → wpY_init post k0 k1) :
    wpX_clamp (fun r_2 => wpY_init (fun v => i_Rel 2 (0, 0, nI m, 0, r_2, 0, 0, (fun _ => 0), (fun _ => 0), (fun _ => 0), (fun _ => 0), (fun _ => 0), (fun _ => 0), (fun _ => 0), (fun _ => 0), (fun _ => 0), (fun _ => 0), (fun _ => 0), (fun _ => 0), (fun _ => 0), (fun _ => 0), (fun _ => 0), (fun _ => 0)) v) k0 k1) k1 8 128 := by
  by_cases a : 8 ≤ k1
  · by_cases b : k1 ≤ 128
    · obtain ⟨c, hc, e⟩ := nI_of2 (x := k1) (M := 128) (n := 128) (by decide) (Int32.not_lt.mpr (Int32.le_trans (by decide) a)) b
      refine br_t a (br_t b (hY _ (br_t a (br_t b ?_))))
      rw [e]
      exact sr_0 hm hc
    · exact br_t a (br_f b (hY _ (br_t a (br_f b (sr_0 (c := 128) hm (by omega))))))
  · exact br_f a (hY _ (br_f a (sr_0 (c := 8) hm (by omega))))
theorem i_vc0 (k0 : Int32) (k1 : Int32) : wpX_init (fun u => wpY_init (fun v => i_Rel 2 u v) k0 k1) k0 k1 := by
  unfold wpX_init
  by_cases a : 1 ≤ k0
  · by_cases b : k0 ≤ 8
    · obtain ⟨m, hm, e⟩ := nI_of2 (x := k0) (M := 8) (n := 8) (by decide) (Int32.not_lt.mpr (Int32.le_trans (by decide) a)) b
      refine br_t a (br_t b ?_)
      subst e
      exact sr_1 hm (fun post h => br_t a (br_t b h))
    · exact br_t a (br_f b (sr_1 (m := 8) (by omega) (fun post h => br_t a (br_f b h))))
  · exact br_f a (sr_1 (m := 1) (by omega) (fun post h => br_f a h))
theorem i_vc_stepCount {k : Nat} {u : SX} {v : SY} (I : i_Rel k u v) (hk : k + 5 ≤ 2562) : wpX_stepCount (fun r => wpY_stepCount (fun r' => r' = r ∧ i_Rel (k + 5) u v) v) u := by
  have I' := I
  obtain ⟨n, m, c, r, d, sS, sM, sT, sF, st, sg, pv, ss, ta, dx, dy, dr, ur, jK, jA, jB, jC, ev, ck, hn, hm, hc, hr, hd, hT, hI, hJ, rfl, rfl⟩ := I'
  exact And.intro rfl (i_up I)
theorem i_vc_clock {k : Nat} {u : SX} {v : SY} (I : i_Rel k u v) (hk : k + 5 ≤ 2562) : wpX_clock (fun r => wpY_clock (fun r' => r' = r ∧ i_Rel (k + 5) u v) v) u := by
  have I' := I
  obtain ⟨n, m, c, r, d, sS, sM, sT, sF, st, sg, pv, ss, ta, dx, dy, dr, ur, jK, jA, jB, jC, ev, ck, hn, hm, hc, hr, hd, hT, hI, hJ, rfl, rfl⟩ := I'
  exact And.intro rfl (i_up I)
theorem i_vc_journalLength {k : Nat} {u : SX} {v : SY} (I : i_Rel k u v) (hk : k + 5 ≤ 2562) : wpX_journalLength (fun r => wpY_journalLength (fun r' => r' = r ∧ i_Rel (k + 5) u v) v) u := by
  have I' := I
  obtain ⟨n, m, c, r, d, sS, sM, sT, sF, st, sg, pv, ss, ta, dx, dy, dr, ur, jK, jA, jB, jC, ev, ck, hn, hm, hc, hr, hd, hT, hI, hJ, rfl, rfl⟩ := I'
  exact And.intro rfl (i_up I)
theorem i_vc_durableLength {k : Nat} {u : SX} {v : SY} (I : i_Rel k u v) (hk : k + 5 ≤ 2562) : wpX_durableLength (fun r => wpY_durableLength (fun r' => r' = r ∧ i_Rel (k + 5) u v) v) u := by
  have I' := I
  obtain ⟨n, m, c, r, d, sS, sM, sT, sF, st, sg, pv, ss, ta, dx, dy, dr, ur, jK, jA, jB, jC, ev, ck, hn, hm, hc, hr, hd, hT, hI, hJ, rfl, rfl⟩ := I'
  exact And.intro rfl (i_up I)
theorem i_vc_flush {k : Nat} {u : SX} {v : SY} (I : i_Rel k u v) (hk : k + 5 ≤ 2562) : wpX_flush (fun r u' => wpY_flush (fun r' v' => r' = r ∧ i_Rel (k + 5) u' v') v) u := by
  have I' := I
  obtain ⟨n, m, c, r, d, sS, sM, sT, sF, st, sg, pv, ss, ta, dx, dy, dr, ur, jK, jA, jB, jC, ev, ck, hn, hm, hc, hr, hd, hT, hI, hJ, rfl, rfl⟩ := I'
  exact And.intro rfl (sr_mk hn hm hc hr (Nat.le_refl r) hT hI hJ)
theorem i_vc_instanceInfo {k : Nat} {u : SX} {v : SY} (I : i_Rel k u v) (hk : k + 5 ≤ 2562) (v1 : Int32) (v2 : Int32) : wpX_instanceInfo (fun r => wpY_instanceInfo (fun r' => r' = r ∧ i_Rel (k + 5) u v) v v1 v2) u v1 v2 := by
  have J := i_up I
  have I' := I
  obtain ⟨n, m, c, r, d, sS, sM, sT, sF, st, sg, pv, ss, ta, dx, dy, dr, ur, jK, jA, jB, jC, ev, ck, hn, hm, hc, hr, hd, hT, hI, hJ, rfl, rfl⟩ := I'
  unfold wpX_instanceInfo
  rcases pk_ix v1 (n := m) (by omega) with a | a | ⟨s, hs, rfl⟩
  · exact sx_isSlot_f (Or.inl a) (br_t rfl (br_t a ⟨rfl, J⟩))
  · refine sx_isSlot_f (Or.inr a) (br_t rfl ?_)
    by_cases b : v1 < 0
    · exact br_t b ⟨rfl, J⟩
    · exact br_f b (br_t a ⟨rfl, J⟩)
  · have hv : vp_in (nI s) 8 := vp_in_nI (by omega) (by omega)
    have h1 : ¬ nI s < 0 := nI_pos (by omega)
    have h2 : ¬ nI m ≤ nI s := nI_ge hs (by omega)
    refine sx_isSlot_t hm hs (br_f (by decide) ?_)
    by_cases e0 : v2 = 0
    · subst e0
      exact br_t rfl ⟨hv, br_f h1 (br_f h2 (br_f (by decide) (br_t (by decide) (br_t rfl ⟨hv, rfl, J⟩))))⟩
    by_cases e1 : v2 = 1
    · subst e1
      exact br_f e0 (br_t rfl ⟨hv, br_f h1 (br_f h2 (br_f (by decide) (br_t (by decide) (br_f e0 (br_t rfl ⟨hv, rfl, J⟩)))))⟩)
    by_cases e2 : v2 = 2
    · subst e2
      exact br_f e0 (br_f e1 (br_t rfl ⟨hv, br_f h1 (br_f h2 (br_f (by decide) (br_t (by decide) (br_f e0 (br_f e1 ⟨hv, rfl, J⟩)))))⟩))
    refine br_f e0 (br_f e1 (br_f e2 (br_f h1 (br_f h2 ?_))))
    by_cases z : v2 < 0
    · exact br_t z ⟨rfl, J⟩
    · refine br_f z (br_f (fun w => ?_) ⟨rfl, J⟩)
      obtain ⟨j, hj, e⟩ := nI_of2 (M := 2) (n := 2) (by decide) z w
      have hj3 : j = 0 ∨ j = 1 ∨ j = 2 := by omega
      rcases hj3 with rfl | rfl | rfl
      · exact e0 e
      · exact e1 e
      · exact e2 e
theorem i_vc_journalField {k : Nat} {u : SX} {v : SY} (I : i_Rel k u v) (hk : k + 5 ≤ 2562) (v1 : Int32) (v2 : Int32) : wpX_journalField (fun r => wpY_journalField (fun r' => r' = r ∧ i_Rel (k + 5) u v) v v1 v2) u v1 v2 := by
  have J := i_up I
  have I' := I
  obtain ⟨n, m, c, r, d, sS, sM, sT, sF, st, sg, pv, ss, ta, dx, dy, dr, ur, jK, jA, jB, jC, ev, ck, hn, hm, hc, hr, hd, hT, hI, hJ, rfl, rfl⟩ := I'
  rcases pk_ix v1 (n := r) (by omega) with a | a | ⟨s, hs, rfl⟩
  · exact br_t a (br_t a ⟨rfl, J⟩)
  · by_cases b : v1 < 0
    · exact br_t b (br_t b ⟨rfl, J⟩)
    · exact br_f b (br_f (Int32.not_lt.mpr a) (br_f b (br_t a ⟨rfl, J⟩)))
  · have hv : vp_in (nI s) 128 := vp_in_nI (by omega) (by omega)
    have h1 : ¬ nI s < 0 := nI_pos (by omega)
    have h2 : ¬ nI r ≤ nI s := nI_ge hs (by omega)
    refine br_f h1 (br_t (nI_lt hs (by omega)) ?_)
    by_cases e0 : v2 = 0
    · subst e0
      exact br_t rfl ⟨hv, br_f h1 (br_f h2 (br_f (by decide) (br_t (by decide) (br_t rfl ⟨hv, rfl, J⟩))))⟩
    by_cases e1 : v2 = 1
    · subst e1
      exact br_f e0 (br_t rfl ⟨hv, br_f h1 (br_f h2 (br_f (by decide) (br_t (by decide) (br_f e0 (br_t rfl ⟨hv, rfl, J⟩)))))⟩)
    by_cases e2 : v2 = 2
    · subst e2
      exact br_f e0 (br_f e1 (br_t rfl ⟨hv, br_f h1 (br_f h2 (br_f (by decide) (br_t (by decide) (br_f e0 (br_f e1 (br_t rfl ⟨hv, rfl, J⟩))))))⟩))
    by_cases e3 : v2 = 3
    · subst e3
      exact br_f e0 (br_f e1 (br_f e2 (br_t rfl ⟨hv, br_f h1 (br_f h2 (br_f (by decide) (br_t (by decide) (br_f e0 (br_f e1 (br_f e2 ⟨hv, rfl, J⟩))))))⟩)))
    refine br_f e0 (br_f e1 (br_f e2 (br_f e3 (br_f h1 (br_f h2 ?_)))))
    by_cases z : v2 < 0
    · exact br_t z ⟨rfl, J⟩
    · refine br_f z (br_f (fun w => ?_) ⟨rfl, J⟩)
      obtain ⟨j, hj, e⟩ := nI_of2 (M := 3) (n := 3) (by decide) z w
      have hj3 : j = 0 ∨ j = 1 ∨ j = 2 ∨ j = 3 := by omega
      rcases hj3 with rfl | rfl | rfl | rfl
      · exact e0 e
      · exact e1 e
      · exact e2 e
      · exact e3 e
