/-! the component's own methods, one by one: what reads -/
section XA
variable {n m s j : Nat} {ev ck cp rc du : Int32} {sS sM sT sF st sg pv ss ta dx dr ur jK jA jB jC : Nat → Int32}
theorem sx_isSlot_t {post : Int32 → Prop} (hm : m ≤ 8) (hs : s < m) (h : post 1) : wpX_isSlot post (nI n, ev, nI m, ck, cp, rc, du, sS, sM, sT, sF, st, sg, pv, ss, ta, dx, dr, ur, jK, jA, jB, jC) (nI s) :=
  br_f (nI_pos (by omega)) (br_f (nI_ge hs (by omega)) h)
theorem sx_isSlot_f {post : Int32 → Prop} {x : Int32} (hx : x < 0 ∨ nI m ≤ x) (h : post 0) : wpX_isSlot post (nI n, ev, nI m, ck, cp, rc, du, sS, sM, sT, sF, st, sg, pv, ss, ta, dx, dr, ur, jK, jA, jB, jC) x := by
  by_cases h0 : x < 0
  · exact br_t h0 h
  · rcases hx with a | a
    · exact absurd a h0
    · exact br_f h0 (br_t a h)
theorem sx_isStep_t {post : Int32 → Prop} (hn : n ≤ 12) (hj : j < n) (h : post 1) : wpX_isStep post (nI n, ev, nI m, ck, cp, rc, du, sS, sM, sT, sF, st, sg, pv, ss, ta, dx, dr, ur, jK, jA, jB, jC) (nI j) :=
  br_f (nI_pos (by omega)) (br_f (nI_ge hj (by omega)) h)
theorem sx_isStep_f {post : Int32 → Prop} {x : Int32} (hx : x < 0 ∨ nI n ≤ x) (h : post 0) : wpX_isStep post (nI n, ev, nI m, ck, cp, rc, du, sS, sM, sT, sF, st, sg, pv, ss, ta, dx, dr, ur, jK, jA, jB, jC) x := by
  by_cases h0 : x < 0
  · exact br_t h0 h
  · rcases hx with a | a
    · exact absurd a h0
    · exact br_f h0 (br_t a h)
theorem sx_infl_t {post : Int32 → Prop} {k : Nat} (hk : k < 96) (ha : ss k = 1 ∨ ss k = 4) (h : post 1) : wpX_isInFlight post (nI n, ev, nI m, ck, cp, rc, du, sS, sM, sT, sF, st, sg, pv, ss, ta, dx, dr, ur, jK, jA, jB, jC) (nI k) := by
  have hi : vp_in (nI k) 96 := vp_in_nI hk (by omega)
  unfold wpX_isInFlight
  rw [nI_clamp (n := k) (by omega)]
  rcases ha with a | a
  · exact ⟨hi, br_t a h⟩
  · exact ⟨hi, br_f (fun z => absurd (a.symm.trans z) (by decide)) ⟨hi, br_t a h⟩⟩
theorem sx_infl_f {post : Int32 → Prop} {k : Nat} (hk : k < 96) (ha : ¬ (ss k = 1 ∨ ss k = 4)) (h : post 0) : wpX_isInFlight post (nI n, ev, nI m, ck, cp, rc, du, sS, sM, sT, sF, st, sg, pv, ss, ta, dx, dr, ur, jK, jA, jB, jC) (nI k) := by
  have hi : vp_in (nI k) 96 := vp_in_nI hk (by omega)
  unfold wpX_isInFlight
  rw [nI_clamp (n := k) (by omega)]
  exact ⟨hi, br_f (fun z => ha (Or.inl z)) ⟨hi, br_f (fun z => ha (Or.inr z)) h⟩⟩
theorem sx_lf_s {post : Int32 → Prop} (hm : m ≤ 8) (hs : s < m) (h0 : st s = 0) (hl : ∀ t, t < s → ¬ st t = 0) (h : post (nI s)) : wpX_leastFreeSlot post (nI n, ev, nI m, ck, cp, rc, du, sS, sM, sT, sF, st, sg, pv, ss, ta, dx, dr, ur, jK, jA, jB, jC) := by
  have key : ∀ d i, i + d = s → wX_leastFreeSlot_2 post (nI n) ev (nI m) ck cp rc du sS sM sT sF st sg pv ss ta dx dr ur jK jA jB jC (d + 1) (nI i) := by
    intro d
    induction d with
    | zero =>
      intro i hi
      have e : i = s := by omega
      rw [e]
      exact br_f (nI_ge hs (by omega)) ⟨vp_in_nI (by omega) (by omega), br_t (by rw [nI_clamp (by omega)]; exact h0) h⟩
    | succ d ih =>
      intro i hi
      exact br_f (nI_ge (by omega) (by omega)) ⟨vp_in_nI (by omega) (by omega), br_f (by rw [nI_clamp (by omega)]; exact hl i (by omega)) (nm_r (nI_1 i) (ih (i + 1) (by omega)))⟩
  exact ⟨s + 1, key s 0 (by omega)⟩
theorem sx_lf_n {post : Int32 → Prop} (hm : m ≤ 8) (hl : ∀ t, t < m → ¬ st t = 0) (h : post (-1)) : wpX_leastFreeSlot post (nI n, ev, nI m, ck, cp, rc, du, sS, sM, sT, sF, st, sg, pv, ss, ta, dx, dr, ur, jK, jA, jB, jC) := by
  have key : ∀ d i, i + d = m → wX_leastFreeSlot_2 post (nI n) ev (nI m) ck cp rc du sS sM sT sF st sg pv ss ta dx dr ur jK jA jB jC (d + 1) (nI i) := by
    intro d
    induction d with
    | zero =>
      intro i hi
      exact br_t (nI_le (by omega) (by omega)) h
    | succ d ih =>
      intro i hi
      exact br_f (nI_ge (by omega) (by omega)) ⟨vp_in_nI (by omega) (by omega), br_f (by rw [nI_clamp (by omega)]; exact hl i (by omega)) (nm_r (nI_1 i) (ih (i + 1) (by omega)))⟩
  exact ⟨m + 1, key m 0 (by omega)⟩
theorem sx_rkD {post : Int32 → Prop} (hs : s < 8) (hn : n ≤ 12) (h : post (nI (1 + sq_rn dr s n))) : wpX_nextRank__doneRank post (nI n, ev, nI m, ck, cp, rc, du, sS, sM, sT, sF, st, sg, pv, ss, ta, dx, dr, ur, jK, jA, jB, jC) (nI s) := by
  have key : ∀ d i, i + d = n → wX_nextRank__doneRank_5 post (nI s) (nI n) ev (nI m) ck cp rc du sS sM sT sF st sg pv ss ta dx dr ur jK jA jB jC (d + 1) (nI (1 + sq_rn dr s i)) (nI i) := by
    intro d
    induction d with
    | zero =>
      intro i hi
      have e : i = n := by omega
      rw [e]
      exact br_t (nI_le (Nat.le_refl n) (by omega)) h
    | succ d ih =>
      intro i hi
      have t := ih (i + 1) (by omega)
      refine br_f (nI_ge (by omega) (by omega)) ⟨sq_cn hs (by omega), ?_⟩
      rw [sq_cl hs (by omega)]
      by_cases q : dr (s * 12 + i) = 0
      · rw [sq_rnS, if_pos q] at t
        exact br_t q (nm_r (nI_1 i) t)
      · rw [sq_rnS, if_neg q] at t
        exact br_f q (nm_r (nI_1 _) (nm_r (nI_1 i) t))
  exact ⟨n + 1, key n 0 (by omega)⟩
theorem sx_rkU {post : Int32 → Prop} (hs : s < 8) (hn : n ≤ 12) (h : post (nI (1 + sq_rn ur s n))) : wpX_nextRank__undoRank post (nI n, ev, nI m, ck, cp, rc, du, sS, sM, sT, sF, st, sg, pv, ss, ta, dx, dr, ur, jK, jA, jB, jC) (nI s) := by
  have key : ∀ d i, i + d = n → wX_nextRank__undoRank_5 post (nI s) (nI n) ev (nI m) ck cp rc du sS sM sT sF st sg pv ss ta dx dr ur jK jA jB jC (d + 1) (nI (1 + sq_rn ur s i)) (nI i) := by
    intro d
    induction d with
    | zero =>
      intro i hi
      have e : i = n := by omega
      rw [e]
      exact br_t (nI_le (Nat.le_refl n) (by omega)) h
    | succ d ih =>
      intro i hi
      have t := ih (i + 1) (by omega)
      refine br_f (nI_ge (by omega) (by omega)) ⟨sq_cn hs (by omega), ?_⟩
      rw [sq_cl hs (by omega)]
      by_cases q : ur (s * 12 + i) = 0
      · rw [sq_rnS, if_pos q] at t
        exact br_t q (nm_r (nI_1 i) t)
      · rw [sq_rnS, if_neg q] at t
        exact br_f q (nm_r (nI_1 _) (nm_r (nI_1 i) t))
  exact ⟨n + 1, key n 0 (by omega)⟩
theorem sx_sd {post : Int32 → Prop} (hs : s < 8) (hn : n ≤ 12) (ht : (∀ i, i < n → sS i = sg s → ss (s * 12 + i) = 2) → post 1) (hf : ¬ (∀ i, i < n → sS i = sg s → ss (s * 12 + i) = 2) → post 0) : wpX_isStageDone post (nI n, ev, nI m, ck, cp, rc, du, sS, sM, sT, sF, st, sg, pv, ss, ta, dx, dr, ur, jK, jA, jB, jC) (nI s) := by
  have key : ∀ d i, i + d = n → (∀ k, k < i → sS k = sg s → ss (s * 12 + k) = 2) → wX_isStageDone_2 post (nI s) (nI n) ev (nI m) ck cp rc du sS sM sT sF st sg pv ss ta dx dr ur jK jA jB jC (d + 1) (nI i) := by
    intro d
    induction d with
    | zero =>
      intro i hi hk
      have e : i = n := by omega
      rw [e] at hk
      exact br_t (nI_le (by omega) (by omega)) (ht hk)
    | succ d ih =>
      intro i hi hk
      refine br_f (nI_ge (by omega) (by omega)) ⟨vp_in_nI (by omega) (by omega), vp_in_nI (by omega) (by omega), ?_⟩
      rw [nI_clamp (n := i) (by omega), nI_clamp (n := s) (by omega), sq_cl hs (by omega)]
      by_cases q : sS i = sg s
      · refine br_t q ⟨sq_cn hs (by omega), ?_⟩
        by_cases q2 : ss (s * 12 + i) = 2
        · refine br_t q2 (nm_r (nI_1 i) (ih (i + 1) (by omega) (fun k h1 h2 => ?_)))
          by_cases e : k = i
          · rw [e]; exact q2
          · exact hk k (by omega) h2
        · exact br_f q2 (hf (fun z => q2 (z i (by omega) q)))
      · refine br_f q (nm_r (nI_1 i) (ih (i + 1) (by omega) (fun k h1 h2 => ?_)))
        by_cases e : k = i
        · rw [e] at h2; exact absurd h2 q
        · exact hk k (by omega) h2
  exact ⟨n + 1, key n 0 (by omega) (fun k h => absurd h (by omega))⟩
theorem sx_ha {post : Int32 → Prop} (hs : s < 8) (hn : n ≤ 12) (ht : (∀ i, i < n → ¬ ss (s * 12 + i) = 1) → post 0) (hf : ¬ (∀ i, i < n → ¬ ss (s * 12 + i) = 1) → post 1) : wpX_hasActiveStep post (nI n, ev, nI m, ck, cp, rc, du, sS, sM, sT, sF, st, sg, pv, ss, ta, dx, dr, ur, jK, jA, jB, jC) (nI s) := by
  have key : ∀ d i, i + d = n → (∀ k, k < i → ¬ ss (s * 12 + k) = 1) → wX_hasActiveStep_2 post (nI s) (nI n) ev (nI m) ck cp rc du sS sM sT sF st sg pv ss ta dx dr ur jK jA jB jC (d + 1) (nI i) := by
    intro d
    induction d with
    | zero =>
      intro i hi hk
      have e : i = n := by omega
      rw [e] at hk
      exact br_t (nI_le (by omega) (by omega)) (ht hk)
    | succ d ih =>
      intro i hi hk
      refine br_f (nI_ge (by omega) (by omega)) ⟨sq_cn hs (by omega), ?_⟩
      rw [sq_cl hs (by omega)]
      by_cases q : ss (s * 12 + i) = 1
      · exact br_t q (hf (fun z => z i (by omega) q))
      · refine br_f q (nm_r (nI_1 i) (ih (i + 1) (by omega) (fun k h1 => ?_)))
        by_cases e : k = i
        · rw [e]; exact q
        · exact hk k (by omega)
  exact ⟨n + 1, key n 0 (by omega) (fun k h => absurd h (by omega))⟩
theorem sx_nw {post : Int32 → Prop} (hs : s < 8) (hn : n ≤ 12) (h : post (sq_nu ss dr sF s n).1) : wpX_newestUndoable post (nI n, ev, nI m, ck, cp, rc, du, sS, sM, sT, sF, st, sg, pv, ss, ta, dx, dr, ur, jK, jA, jB, jC) (nI s) := by
  have key : ∀ d i, i + d = n → wX_newestUndoable_7 post (nI s) (nI n) ev (nI m) ck cp rc du sS sM sT sF st sg pv ss ta dx dr ur jK jA jB jC (d + 1) (sq_nu ss dr sF s i).1 (sq_nu ss dr sF s i).2 (nI i) := by
    intro d
    induction d with
    | zero =>
      intro i hi
      have e : i = n := by omega
      rw [e]
      exact br_t (nI_le (Nat.le_refl n) (by omega)) h
    | succ d ih =>
      intro i hi
      have t := ih (i + 1) (by omega)
      have hv : vp_in (nI (s * 12 + i)) 96 := vp_in_nI (by omega) (by omega)
      refine br_f (nI_ge (by omega) (by omega)) (nm_r (sq_ci s i) ⟨hv, ?_⟩)
      rw [nI_clamp (n := s * 12 + i) (by omega), nI_clamp (n := i) (by omega)]
      by_cases a : ss (s * 12 + i) = 2
      · refine br_t a ⟨vp_in_nI (by omega) (by omega), ?_⟩
        by_cases b : (sF i &&& 1) = 0
        · rw [sq_nuS, if_neg (fun z => z.2.1 b)] at t
          exact br_t b (br_t rfl (nm_r (nI_1 i) t))
        · by_cases c : dr (s * 12 + i) ≤ (sq_nu ss dr sF s i).2
          · rw [sq_nuS, if_neg (fun z => absurd z.2.2 (Int32.not_lt.mpr c))] at t
            refine br_f b (br_f (by decide) ⟨hv, ?_⟩)
            rw [nI_clamp (n := s * 12 + i) (by omega)]
            exact br_t c (nm_r (nI_1 i) t)
          · rw [sq_nuS, if_pos ⟨a, b, Int32.not_le.mp c⟩] at t
            refine br_f b (br_f (by decide) ⟨hv, ?_⟩)
            rw [nI_clamp (n := s * 12 + i) (by omega)]
            exact br_f c ⟨hv, nm_e (nm_r (nI_1 i) t)⟩
      · rw [sq_nuS, if_neg (fun z => a z.1)] at t
        exact br_f a (br_t rfl (nm_r (nI_1 i) t))
  exact ⟨n + 1, key n 0 (by omega)⟩
theorem sx_mr_t {post : Int32 → Prop} (hs : s < 8) (hj : j < 12) (hr : ss (s * 12 + j) = 4 ∨ (st s = 1 ∧ (pv s = 1 ∨ ta (s * 12 + j) < sM j))) (h : post 1) : wpX_mayRetry post (nI n, ev, nI m, ck, cp, rc, du, sS, sM, sT, sF, st, sg, pv, ss, ta, dx, dr, ur, jK, jA, jB, jC) (nI s) (nI j) := by
  simp (disch := omega) only [wpX_mayRetry, forall_eq, sq_ci, nI_clamp, sq_vin, true_and, nI_1]
  by_cases a : ss (s * 12 + j) = 4
  · exact br_t a h
  · rcases hr with z | ⟨b, c⟩
    · exact absurd z a
    · refine br_f a (br_t b ?_)
      by_cases p : pv s = 1
      · exact br_t p h
      · rcases c with z | c
        · exact absurd z p
        · exact br_f p (br_f (Int32.not_le.mpr c) h)
theorem sx_mr_f {post : Int32 → Prop} (hs : s < 8) (hj : j < 12) (ha : ¬ ss (s * 12 + j) = 4) (hr : ¬ (st s = 1 ∧ (pv s = 1 ∨ ta (s * 12 + j) < sM j))) (h : post 0) : wpX_mayRetry post (nI n, ev, nI m, ck, cp, rc, du, sS, sM, sT, sF, st, sg, pv, ss, ta, dx, dr, ur, jK, jA, jB, jC) (nI s) (nI j) := by
  simp (disch := omega) only [wpX_mayRetry, forall_eq, sq_ci, nI_clamp, sq_vin, true_and, nI_1]
  refine br_f ha ?_
  by_cases b : st s = 1
  · refine br_t b (br_f (fun z => hr ⟨b, Or.inl z⟩) (br_t (Int32.not_lt.mp (fun z => hr ⟨b, Or.inr z⟩)) h))
  · exact br_f b h
end XA
