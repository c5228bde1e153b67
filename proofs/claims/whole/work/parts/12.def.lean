/-! a step defined, on both sides -/
section DEFS
variable {n m : Nat} {ev ck cp rc du v1 v2 v3 v4 : Int32} {sS sM sT sF st sg pv ss ta dx dy dr ur jK jA jB jC : Nat → Int32}
theorem sx_ord0 {post : Int32 → Prop} (h1 : v1 = 0 → post 1) (h0 : ¬ v1 = 0 → post 0) : wpX_isStageInOrder post (nI 0, ev, nI m, ck, cp, rc, du, sS, sM, sT, sF, st, sg, pv, ss, ta, dx, dr, ur, jK, jA, jB, jC) v1 :=
  br_t rfl (br_c h1 h0)
theorem sx_ordS {k : Nat} {post : Int32 → Prop} (hk : k < 12) (h1 : (v1 = sS k ∨ v1 = sS k + 1) → post 1) (h0 : ¬ (v1 = sS k ∨ v1 = sS k + 1) → post 0) : wpX_isStageInOrder post (nI (k + 1), ev, nI m, ck, cp, rc, du, sS, sM, sT, sF, st, sg, pv, ss, ta, dx, dr, ur, jK, jA, jB, jC) v1 := by
  unfold wpX_isStageInOrder
  refine br_f (nI_ne0 (by omega) (by omega)) ?_
  simp (disch := omega) only [nI_pred, forall_eq, sq_ci, nI_clamp, sq_vin, true_and, nI_1]
  by_cases a : v1 = sS k
  · exact br_t a (h1 (Or.inl a))
  · refine br_f a ?_
    by_cases b : v1 = sS k + 1
    · exact br_t b (h1 (Or.inr b))
    · exact br_f b (h0 (fun z => by rcases z with z | z; exact a z; exact b z))
theorem sx_br0 {post : Int32 → Prop} (h : post 0) : wpX_breaksPivotRule post (nI 0, ev, nI m, ck, cp, rc, du, sS, sM, sT, sF, st, sg, pv, ss, ta, dx, dr, ur, jK, jA, jB, jC) v1 v4 := br_t rfl h
theorem sx_brN {k : Nat} {post : Int32 → Prop} (hk : k < 12) (hq : ¬ sS k = v1) (h : post 0) : wpX_breaksPivotRule post (nI (k + 1), ev, nI m, ck, cp, rc, du, sS, sM, sT, sF, st, sg, pv, ss, ta, dx, dr, ur, jK, jA, jB, jC) v1 v4 := by
  unfold wpX_breaksPivotRule
  refine br_f (nI_ne0 (by omega) (by omega)) ?_
  simp (disch := omega) only [nI_pred, forall_eq, sq_ci, nI_clamp, sq_vin, true_and, nI_1]
  exact br_f hq h
theorem sx_brS {k : Nat} {post : Int32 → Prop} (hk : k < 12) (hq : sS k = v1) (h0 : (v4 &&& 2) = 0 → (sF k &&& 2) = 0 → post 0) (h1 : ¬ ((v4 &&& 2) = 0 ∧ (sF k &&& 2) = 0) → post 1) : wpX_breaksPivotRule post (nI (k + 1), ev, nI m, ck, cp, rc, du, sS, sM, sT, sF, st, sg, pv, ss, ta, dx, dr, ur, jK, jA, jB, jC) v1 v4 := by
  unfold wpX_breaksPivotRule
  refine br_f (nI_ne0 (by omega) (by omega)) ?_
  simp (disch := omega) only [nI_pred, forall_eq, sq_ci, nI_clamp, sq_vin, true_and, nI_1]
  refine br_t hq ?_
  by_cases a : (v4 &&& 2) = 0
  · refine br_t a ?_
    by_cases b : (sF k &&& 2) = 0
    · exact br_t b (h0 a b)
    · exact br_f b (h1 (fun z => b z.2))
  · exact br_f a (h1 (fun z => a z.1))
theorem sy_ds {post : Int32 → SY → Prop} (hn : n ≤ 12) (h : wY_defineStep_109 post v1 v2 v3 v4 (nI m) cp (nI n) ev ck rc du sS sM sT sF st sg pv ss ta dy dr ur jK jA jB jC 1 (nI (sq_ct sS v1 n)) (sq_hp sS sF v1 n) (nI n)) : ∃ N, wY_defineStep_109 post v1 v2 v3 v4 (nI m) cp (nI n) ev ck rc du sS sM sT sF st sg pv ss ta dy dr ur jK jA jB jC N 0 0 0 := by
  have key : ∀ d i, i + d = n → wY_defineStep_109 post v1 v2 v3 v4 (nI m) cp (nI n) ev ck rc du sS sM sT sF st sg pv ss ta dy dr ur jK jA jB jC (d + 1) (nI (sq_ct sS v1 i)) (sq_hp sS sF v1 i) (nI i) := by
    intro d
    induction d with
    | zero =>
      intro i hi
      have e : i = n := by omega
      rw [e]
      exact h
    | succ d ih =>
      intro i hi
      have t := ih (i + 1) (by omega)
      refine br_f (nI_ge (by omega) (by omega)) ⟨vp_in_nI (by omega) (by omega), ?_⟩
      rw [nI_clamp (n := i) (by omega)]
      by_cases a : sS i = v1
      · refine br_t a (nm_r (nI_1 _) ⟨vp_in_nI (by omega) (by omega), ?_⟩)
        rw [sq_ctS, if_pos a] at t
        by_cases b : (sF i &&& 2) = 0
        · rw [sq_hpS, if_neg (fun z => z.2 b)] at t
          exact br_t b (nm_r (nI_1 i) t)
        · rw [sq_hpS, if_pos ⟨a, b⟩] at t
          exact br_f b (nm_r (nI_1 i) t)
      · rw [sq_ctS, if_neg a, sq_hpS, if_neg (fun z => a z.1)] at t
        exact br_f a (nm_r (nI_1 i) t)
  exact ⟨n + 1, key n 0 (by omega)⟩
theorem sy_dsA {post : Int32 → SY → Prop} (hn : n < 12) (hp : sq_hp sS sF v1 n = 0) (hc : (v4 &&& 2) = 0 ∨ sq_ct sS v1 n = 0)
    (h : post (nI n) (nI m, cp, nI (n + 1), ev, ck, rc, du, upd sS n v1, upd sM n v2, upd sT n v3, upd sF n v4, st, sg, pv, ss, ta, dy, dr, ur, jK, jA, jB, jC)) : ∃ N, wY_defineStep_109 post v1 v2 v3 v4 (nI m) cp (nI n) ev ck rc du sS sM sT sF st sg pv ss ta dy dr ur jK jA jB jC N 0 0 0 := by
  have w : wY_defineStep_167 post v1 v2 v3 v4 (sq_hp sS sF v1 n) (nI m) cp (nI n) ev ck rc du sS sM sT sF st sg pv ss ta dy dr ur jK jA jB jC := by
    refine br_t hp ?_
    simp (disch := omega) only [nI_pred, forall_eq, sq_ci, nI_clamp, sq_vin, true_and, nI_1]
    exact h
  refine sy_ds (by omega) (br_t (nI_le (Nat.le_refl n) (by omega)) ?_)
  by_cases a : (v4 &&& 2) = 0
  · exact br_t a w
  · refine br_f a (br_t ?_ w)
    rcases hc with z | z
    · exact absurd z a
    · rw [z]; exact nI_le (a := 0) (b := 0) (by omega) (by omega)
theorem sy_dsR {post : Int32 → SY → Prop} (hn : n < 12) (hb : (¬ (v4 &&& 2) = 0 ∧ 0 < sq_ct sS v1 n) ∨ ((v4 &&& 2) = 0 ∧ ¬ sq_hp sS sF v1 n = 0))
    (h : post (-1) (nI m, cp, nI n, ev, ck, rc, du, sS, sM, sT, sF, st, sg, pv, ss, ta, dy, dr, ur, jK, jA, jB, jC)) : ∃ N, wY_defineStep_109 post v1 v2 v3 v4 (nI m) cp (nI n) ev ck rc du sS sM sT sF st sg pv ss ta dy dr ur jK jA jB jC N 0 0 0 := by
  refine sy_ds (by omega) (br_t (nI_le (Nat.le_refl n) (by omega)) ?_)
  rcases hb with ⟨a, b⟩ | ⟨a, b⟩
  · exact br_f a (br_f (nI_ge (b := sq_ct sS v1 n) (a := 0) b (by have := sq_ctL (sS := sS) (v := v1) n; omega)) h)
  · exact br_t a (br_f b h)
end DEFS
