/-! the reference's own methods, one by one -/
section YA
variable {n m s j : Nat} {ev ck cp rc du : Int32} {sS sM sT sF st sg pv ss ta dy dr ur jK jA jB jC : Nat → Int32}
theorem sy_lf_s {post : Int32 → Prop} (hm : m ≤ 8) (hs : s < m) (h0 : st s = 0) (hl : ∀ t, t < s → ¬ st t = 0) (h : post (nI s)) : wpY_leastFree post (nI m, cp, nI n, ev, ck, rc, du, sS, sM, sT, sF, st, sg, pv, ss, ta, dy, dr, ur, jK, jA, jB, jC) := by
  have key : ∀ d i, i + d = s → wY_leastFree_2 post (nI m) cp (nI n) ev ck rc du sS sM sT sF st sg pv ss ta dy dr ur jK jA jB jC (d + 1) (nI i) := by
    intro d
    induction d with
    | zero =>
      intro i hi
      have e : i = s := by omega
      rw [e]
      exact br_f (nI_ge hs (by omega)) ⟨vp_in_nI (by omega) (by omega), br_t (by rw [nI_clamp (by omega)]; exact h0) h⟩
    | succ d ih =>
      intro i hi
      exact br_f (nI_ge (by omega) (by omega)) ⟨vp_in_nI (by omega) (by omega), br_f (by rw [nI_clamp (by omega)]; exact hl i (by omega)) (nm_r (nI_1 i) (ih (i + 1) (by omega)))⟩
  exact ⟨s + 1, key s 0 (by omega)⟩
theorem sy_lf_n {post : Int32 → Prop} (hm : m ≤ 8) (hl : ∀ t, t < m → ¬ st t = 0) (h : post (-1)) : wpY_leastFree post (nI m, cp, nI n, ev, ck, rc, du, sS, sM, sT, sF, st, sg, pv, ss, ta, dy, dr, ur, jK, jA, jB, jC) := by
  have key : ∀ d i, i + d = m → wY_leastFree_2 post (nI m) cp (nI n) ev ck rc du sS sM sT sF st sg pv ss ta dy dr ur jK jA jB jC (d + 1) (nI i) := by
    intro d
    induction d with
    | zero =>
      intro i hi
      exact br_t (nI_le (by omega) (by omega)) h
    | succ d ih =>
      intro i hi
      exact br_f (nI_ge (by omega) (by omega)) ⟨vp_in_nI (by omega) (by omega), br_f (by rw [nI_clamp (by omega)]; exact hl i (by omega)) (nm_r (nI_1 i) (ih (i + 1) (by omega)))⟩
  exact ⟨m + 1, key m 0 (by omega)⟩
theorem sy_append {r c0 : Nat} {k a b c : Int32} {post : SY → Prop} (hr : r < c0) (hc : c0 ≤ 128) (h : post (nI m, nI c0, nI n, ev, ck, nI (r + 1), du, sS, sM, sT, sF, st, sg, pv, ss, ta, dy, dr, ur, upd jK r k, upd jA r a, upd jB r b, upd jC r c)) : wpY_append post (nI m, nI c0, nI n, ev, ck, nI r, du, sS, sM, sT, sF, st, sg, pv, ss, ta, dy, dr, ur, jK, jA, jB, jC) k a b c := by
  unfold wpY_append
  refine br_f (nI_pos (by omega)) (br_f (nI_ge hr (by omega)) (br_f (nI_ge (b := 128) (by omega) (by omega)) ?_))
  simp (disch := omega) only [forall_eq, sq_ci, nI_clamp, sq_vin, true_and, nI_1]
  exact h
theorem sy_sd {g : Int32} {post : Int32 → Prop} (hs : s < 8) (hn : n ≤ 12) (ht : (∀ i, i < n → sS i = g → ss (s * 12 + i) = 2) → post 1) (hf : ¬ (∀ i, i < n → sS i = g → ss (s * 12 + i) = 2) → post 0) : wpY_stageAllDone post (nI m, cp, nI n, ev, ck, rc, du, sS, sM, sT, sF, st, sg, pv, ss, ta, dy, dr, ur, jK, jA, jB, jC) (nI s) g := by
  have key : ∀ d i, i + d = n → (∀ k, k < i → sS k = g → ss (s * 12 + k) = 2) → wY_stageAllDone_2 post (nI s) g (nI m) cp (nI n) ev ck rc du sS sM sT sF st sg pv ss ta dy dr ur jK jA jB jC (d + 1) (nI i) := by
    intro d
    induction d with
    | zero =>
      intro i hi hk
      have e : i = n := by omega
      rw [e] at hk
      exact br_t (nI_le (by omega) (by omega)) (ht hk)
    | succ d ih =>
      intro i hi hk
      refine br_f (nI_ge (by omega) (by omega)) ⟨vp_in_nI (by omega) (by omega), ?_⟩
      rw [nI_clamp (n := i) (by omega), sq_cl hs (by omega)]
      by_cases q : sS i = g
      · refine br_t q ⟨sq_cn hs (by omega), ?_⟩
        by_cases q2 : ss (s * 12 + i) = 2
        · refine br_t q2 (nm_r (nI_1 i) (ih (i + 1) (by omega) (fun k h1 h2 => ?_)))
          by_cases e : k = i
          · rw [e]; exact q2
          · exact hk k (by omega) h2
        · exact br_f q2 (hf (fun z => q2 (z i (by omega) q)))
      · refine br_f q (nm_r (nI_1 i) (ih (i + 1) (by omega) (fun k h1 h2 => ?_)))
        by_cases e : k = i
        · rw [e] at h2; exact absurd h2 q
        · exact hk k (by omega) h2
  exact ⟨n + 1, key n 0 (by omega) (fun k h => absurd h (by omega))⟩
theorem sy_free {post : SY → Prop} (hs : s < 8) (h : post (nI m, cp, nI n, ev, ck, rc, du, sS, sM, sT, sF, upd st s 0, upd sg s 0, upd pv s 0, sq_mx (fun _ => true) (fun _ => 0) s 12 ss, sq_mx (fun _ => true) (fun _ => 0) s 12 ta, sq_mx (fun _ => true) (fun _ => 0) s 12 dy, sq_mx (fun _ => true) (fun _ => 0) s 12 dr, sq_mx (fun _ => true) (fun _ => 0) s 12 ur, jK, jA, jB, jC)) : wpY_resetSlot post (nI m, cp, nI n, ev, ck, rc, du, sS, sM, sT, sF, st, sg, pv, ss, ta, dy, dr, ur, jK, jA, jB, jC) (nI s) := by
  have key : ∀ d i, i + d = 12 → wY_resetSlot_34 post (nI s) (nI m) cp (nI n) ev ck rc du (d + 1) (nI i) sS sM sT sF (upd st s 0) (upd sg s 0) (upd pv s 0) (sq_mx (fun _ => true) (fun _ => 0) s i ss) (sq_mx (fun _ => true) (fun _ => 0) s i ta) (sq_mx (fun _ => true) (fun _ => 0) s i dy) (sq_mx (fun _ => true) (fun _ => 0) s i dr) (sq_mx (fun _ => true) (fun _ => 0) s i ur) jK jA jB jC := by
    intro d
    induction d with
    | zero =>
      intro i hi
      have e : i = 12 := by omega
      rw [e]
      exact br_t (nI_le (a := 12) (b := 12) (by omega) (by omega)) h
    | succ d ih =>
      intro i hi
      have t := ih (i + 1) (by omega)
      have e : ∀ a : Nat → Int32, upd (sq_mx (fun _ => true) (fun _ => 0) s i a) (s * 12 + i) 0 = sq_mx (fun _ => true) (fun _ => 0) s (i + 1) a := fun a => sq_mxt (c := fun _ => true) (v := fun _ => 0) rfl
      rw [← e ss, ← e ta, ← e dy, ← e dr, ← e ur] at t
      refine br_f (nI_ge (b := 12) (by omega) (by omega)) ?_
      simp (disch := omega) only [forall_eq, sq_ci, nI_clamp, sq_vin, true_and, nI_1]
      exact t
  have k0 := key 12 0 (by omega)
  rw [sq_mx0, sq_mx0, sq_mx0, sq_mx0, sq_mx0] at k0
  unfold wpY_resetSlot
  refine br_f (nI_pos (by omega)) (br_t (nI_lt (b := 8) hs (by omega)) ?_)
  simp (disch := omega) only [forall_eq, sq_ci, nI_clamp, sq_vin, true_and, nI_1]
  exact ⟨12 + 1, k0⟩
theorem sy_issue {g : Int32} {post : SY → Prop} (hs : s < 8) (hn : n ≤ 12)
    (h : post (nI m, cp, nI n, ev, ck, rc, du, sS, sM, sT, sF, st, sg, pv, sq_mx (fun i => decide (sS i = g)) (fun _ => 1) s n ss, sq_mx (fun i => decide (sS i = g)) (fun _ => 1) s n ta, sq_mx (fun i => decide (sS i = g)) (fun i => ck + sT i) s n dy, dr, ur, jK, jA, jB, jC)) : wpY_issueStage post (nI m, cp, nI n, ev, ck, rc, du, sS, sM, sT, sF, st, sg, pv, ss, ta, dy, dr, ur, jK, jA, jB, jC) (nI s) g := by
  have key : ∀ d i, i + d = n → wY_issueStage_2 post (nI s) g (nI m) cp (nI n) ev ck rc du (d + 1) (nI i) sS sM sT sF st sg pv (sq_mx (fun i => decide (sS i = g)) (fun _ => 1) s i ss) (sq_mx (fun i => decide (sS i = g)) (fun _ => 1) s i ta) (sq_mx (fun i => decide (sS i = g)) (fun i => ck + sT i) s i dy) dr ur jK jA jB jC := by
    intro d
    induction d with
    | zero =>
      intro i hi
      have e : i = n := by omega
      rw [e]
      exact br_t (nI_le (Nat.le_refl n) (by omega)) h
    | succ d ih =>
      intro i hi
      have t := ih (i + 1) (by omega)
      refine br_f (nI_ge (by omega) (by omega)) ⟨vp_in_nI (by omega) (by omega), ?_⟩
      rw [nI_clamp (n := i) (by omega)]
      by_cases q : sS i = g
      · have hc : (fun i => decide (sS i = g)) i = true := decide_eq_true q
        have e1 : upd (sq_mx (fun i => decide (sS i = g)) (fun _ => 1) s i ss) (s * 12 + i) 1 = _ := sq_mxt hc
        have e2 : upd (sq_mx (fun i => decide (sS i = g)) (fun _ => 1) s i ta) (s * 12 + i) 1 = _ := sq_mxt hc
        have e3 : upd (sq_mx (fun i => decide (sS i = g)) (fun i => ck + sT i) s i dy) (s * 12 + i) (ck + sT i) = _ := sq_mxt hc
        rw [← e1, ← e2, ← e3] at t
        refine br_t q ?_
        simp (disch := omega) only [forall_eq, sq_ci, nI_clamp, sq_vin, true_and, nI_1]
        exact t
      · have hc : ¬ (fun i => decide (sS i = g)) i = true := fun z => q (of_decide_eq_true z)
        have e1 : sq_mx (fun i => decide (sS i = g)) (fun _ => 1) s i ss = _ := sq_mxf hc
        have e2 : sq_mx (fun i => decide (sS i = g)) (fun _ => 1) s i ta = _ := sq_mxf hc
        have e3 : sq_mx (fun i => decide (sS i = g)) (fun i => ck + sT i) s i dy = _ := sq_mxf hc
        rw [← e1, ← e2, ← e3] at t
        exact br_f q (nm_r (nI_1 i) t)
  have k0 := key n 0 (by omega)
  rw [sq_mx0, sq_mx0, sq_mx0] at k0
  exact ⟨n + 1, k0⟩
theorem sy_start {post : SY → Prop} (hm : m ≤ 8) (hs : s < m) (hn : n ≤ 12) (z1 : sq_mx (fun _ => true) (fun _ => 0) s 12 ss = ss) (z2 : sq_mx (fun _ => true) (fun _ => 0) s 12 ta = ta)
    (z3 : sq_mx (fun _ => true) (fun _ => 0) s 12 dy = dy) (z4 : sq_mx (fun _ => true) (fun _ => 0) s 12 dr = dr) (z5 : sq_mx (fun _ => true) (fun _ => 0) s 12 ur = ur)
    (h : post (nI m, cp, nI n, ev, ck, rc, du, sS, sM, sT, sF, upd st s 1, upd sg s 0, upd pv s 0, sq_mx (fun i => decide (sS i = 0)) (fun _ => 1) s n ss, sq_mx (fun i => decide (sS i = 0)) (fun _ => 1) s n ta, sq_mx (fun i => decide (sS i = 0)) (fun i => ck + sT i) s n dy, dr, ur, jK, jA, jB, jC)) : wpY_doStart post (nI m, cp, nI n, ev, ck, rc, du, sS, sM, sT, sF, st, sg, pv, ss, ta, dy, dr, ur, jK, jA, jB, jC) (nI s) := by
  unfold wpY_doStart
  refine br_f (nI_pos (by omega)) (br_t (nI_lt hs (by omega)) (sy_free (by omega) ?_))
  rw [z1, z2, z3, z4, z5]
  simp (disch := omega) only [sq_uu, forall_eq, sq_ci, nI_clamp, sq_vin, true_and, nI_1]
  exact sy_issue (by omega) hn h
theorem sy_nw {post : SY → Prop} (hs : s < 8) (hn : n ≤ 12) (hC : ∀ i, i < n → ss (s * 12 + i) = 2 → 0 < dr (s * 12 + i))
    (h : wY_nextUndo_7 post (nI s) (nI m) cp (nI n) ev ck rc du sS sM sT sF st sg pv ss ta dy dr ur jK jA jB jC 1 (sq_nu ss dr sF s n).1 (sq_nu ss dr sF s n).2 (nI n)) : wpY_nextUndo post (nI m, cp, nI n, ev, ck, rc, du, sS, sM, sT, sF, st, sg, pv, ss, ta, dy, dr, ur, jK, jA, jB, jC) (nI s) := by
  have key : ∀ d i, i + d = n → wY_nextUndo_7 post (nI s) (nI m) cp (nI n) ev ck rc du sS sM sT sF st sg pv ss ta dy dr ur jK jA jB jC (d + 1) (sq_nu ss dr sF s i).1 (sq_nu ss dr sF s i).2 (nI i) := by
    intro d
    induction d with
    | zero =>
      intro i hi
      have e : i = n := by omega
      rw [e]
      exact h
    | succ d ih =>
      intro i hi
      have t := ih (i + 1) (by omega)
      have hv : vp_in (nI (s * 12 + i)) 96 := vp_in_nI (by omega) (by omega)
      refine br_f (nI_ge (by omega) (by omega)) (nm_r (sq_ci s i) ⟨hv, ?_⟩)
      rw [nI_clamp (n := s * 12 + i) (by omega), nI_clamp (n := i) (by omega)]
      by_cases a : ss (s * 12 + i) = 2
      · refine br_t a ⟨vp_in_nI (by omega) (by omega), ?_⟩
        by_cases b : (sF i &&& 1) = 0
        · rw [sq_nuS, if_neg (fun z => z.2.1 b)] at t
          exact br_t b (nm_r (nI_1 i) t)
        · refine br_f b ?_
          rcases sq_nuP (ss := ss) (dr := dr) (sF := sF) (s := s) i with e | ⟨x, hx, e⟩
          · rw [sq_nuS, if_pos ⟨a, b, by rw [e]; exact hC i (by omega) a⟩] at t
            refine br_t (by rw [e]; decide) ⟨hv, ?_⟩
            rw [nI_clamp (n := s * 12 + i) (by omega)]
            exact nm_e (nm_r (nI_1 i) t)
          · refine br_f (by rw [e]; exact nI_pos (by omega)) ⟨hv, ?_⟩
            by_cases c : dr (s * 12 + i) ≤ (sq_nu ss dr sF s i).2
            · rw [sq_nuS, if_neg (fun z => absurd z.2.2 (Int32.not_lt.mpr c))] at t
              exact br_t c (nm_r (nI_1 i) t)
            · rw [sq_nuS, if_pos ⟨a, b, Int32.not_le.mp c⟩] at t
              refine br_f c ⟨hv, ?_⟩
              rw [nI_clamp (n := s * 12 + i) (by omega)]
              exact nm_e (nm_r (nI_1 i) t)
      · rw [sq_nuS, if_neg (fun z => a z.1)] at t
        exact br_f a (nm_r (nI_1 i) t)
  exact ⟨n + 1, key n 0 (by omega)⟩
theorem sy_nextUndo_a {post : SY → Prop} (hs : s < 8) (hn : n ≤ 12) (hC : ∀ i, i < n → ss (s * 12 + i) = 2 → 0 < dr (s * 12 + i)) (he : (sq_nu ss dr sF s n).1 = -1) (h : post (nI m, cp, nI n, ev, ck, rc, du, sS, sM, sT, sF, upd st s 5, sg, pv, ss, ta, dy, dr, ur, jK, jA, jB, jC)) : wpY_nextUndo post (nI m, cp, nI n, ev, ck, rc, du, sS, sM, sT, sF, st, sg, pv, ss, ta, dy, dr, ur, jK, jA, jB, jC) (nI s) := by
  refine sy_nw hs hn hC (br_t (nI_le (Nat.le_refl n) (by omega)) (br_f (by rw [he]; decide) ?_))
  simp (disch := omega) only [forall_eq, sq_ci, nI_clamp, sq_vin, true_and, nI_1]
  exact h
theorem sy_nextUndo_b {b : Nat} {post : SY → Prop} (hs : s < 8) (hn : n ≤ 12) (hC : ∀ i, i < n → ss (s * 12 + i) = 2 → 0 < dr (s * 12 + i)) (hb : b < 12) (he : (sq_nu ss dr sF s n).1 = nI b)
    (h : post (nI m, cp, nI n, ev, ck, rc, du, sS, sM, sT, sF, st, sg, pv, upd ss (s * 12 + b) 4, upd ta (s * 12 + b) 1, upd dy (s * 12 + b) (ck + sT b), dr, ur, jK, jA, jB, jC)) : wpY_nextUndo post (nI m, cp, nI n, ev, ck, rc, du, sS, sM, sT, sF, st, sg, pv, ss, ta, dy, dr, ur, jK, jA, jB, jC) (nI s) := by
  refine sy_nw hs hn hC (br_t (nI_le (Nat.le_refl n) (by omega)) (br_t (by rw [he]; exact nI_pos' (by omega)) ?_))
  rw [he]
  simp (disch := omega) only [forall_eq, sq_ci, nI_clamp, sq_vin, true_and, nI_1]
  exact h
theorem sy_settle_n {post : SY → Prop} (hs : s < 8) (hn : n ≤ 12) (hq : ∀ i, i < n → ¬ ss (s * 12 + i) = 1) (h : wpY_nextUndo post (nI m, cp, nI n, ev, ck, rc, du, sS, sM, sT, sF, upd st s 3, sg, pv, ss, ta, dy, dr, ur, jK, jA, jB, jC) (nI s)) : wpY_settle post (nI m, cp, nI n, ev, ck, rc, du, sS, sM, sT, sF, st, sg, pv, ss, ta, dy, dr, ur, jK, jA, jB, jC) (nI s) := by
  have key : ∀ d i, i + d = n → wY_settle_2 post (nI s) (nI m) cp (nI n) ev ck rc du sS sM sT sF st sg pv ss ta dy dr ur jK jA jB jC (d + 1) (nI i) := by
    intro d
    induction d with
    | zero =>
      intro i hi
      refine br_t (nI_le (by omega) (by omega)) ⟨vp_in_nI (by omega) (by omega), ?_⟩
      rw [nI_clamp (n := s) (by omega)]
      exact nm_e h
    | succ d ih =>
      intro i hi
      refine br_f (nI_ge (by omega) (by omega)) ⟨sq_cn hs (by omega), ?_⟩
      rw [sq_cl hs (by omega)]
      exact br_f (hq i (by omega)) (nm_r (nI_1 i) (ih (i + 1) (by omega)))
  exact ⟨n + 1, key n 0 (by omega)⟩
theorem sy_settle_a {post : SY → Prop} (hs : s < 8) (hn : n ≤ 12) (hq : ¬ ∀ i, i < n → ¬ ss (s * 12 + i) = 1) (h : post (nI m, cp, nI n, ev, ck, rc, du, sS, sM, sT, sF, st, sg, pv, ss, ta, dy, dr, ur, jK, jA, jB, jC)) : wpY_settle post (nI m, cp, nI n, ev, ck, rc, du, sS, sM, sT, sF, st, sg, pv, ss, ta, dy, dr, ur, jK, jA, jB, jC) (nI s) := by
  have key : ∀ d i, i + d = n → (∀ k, k < i → ¬ ss (s * 12 + k) = 1) → wY_settle_2 post (nI s) (nI m) cp (nI n) ev ck rc du sS sM sT sF st sg pv ss ta dy dr ur jK jA jB jC (d + 1) (nI i) := by
    intro d
    induction d with
    | zero =>
      intro i hi hk
      have e : i = n := by omega
      rw [e] at hk
      exact absurd hk hq
    | succ d ih =>
      intro i hi hk
      refine br_f (nI_ge (by omega) (by omega)) ⟨sq_cn hs (by omega), ?_⟩
      rw [sq_cl hs (by omega)]
      by_cases q : ss (s * 12 + i) = 1
      · exact br_t q h
      · refine br_f q (nm_r (nI_1 i) (ih (i + 1) (by omega) (fun k h1 => ?_)))
        by_cases e : k = i
        · rw [e]; exact q
        · exact hk k (by omega)
  exact ⟨n + 1, key n 0 (by omega) (fun k h => absurd h (by omega))⟩
/-- the way into applyOk of an ACTIVE step -/
theorem sy_ok1 {post : SY → Prop} (hm : m ≤ 8) (hs : s < m) (hn : n ≤ 12) (hj : j < n) (ha : ss (s * 12 + j) = 1)
    (h : wY_applyOk_116 post (nI s) (nI m) cp (nI n) ev ck rc du sS sM sT sF st sg (sq_pv (sF j) pv s) (upd ss (s * 12 + j) 2) ta dy (upd dr (s * 12 + j) (nI (1 + sq_rn dr s n))) ur jK jA jB jC) : wpY_applyOk post (nI m, cp, nI n, ev, ck, rc, du, sS, sM, sT, sF, st, sg, pv, ss, ta, dy, dr, ur, jK, jA, jB, jC) (nI s) (nI j) := by
  have key : ∀ d i, i + d = n → wY_applyOk_48 post (nI s) (nI j) (nI (s * 12 + j)) (nI m) cp (nI n) ev ck rc du sS sM sT sF st sg pv ss ta dy dr ur jK jA jB jC (d + 1) (nI (sq_rn dr s i)) (nI i) := by
    intro d
    induction d with
    | zero =>
      intro i hi
      have e : i = n := by omega
      rw [e]
      refine br_t (nI_le (Nat.le_refl n) (by omega)) ?_
      have e1 : (1 : Int32) + nI (sq_rn dr s n) = nI (1 + sq_rn dr s n) := nI_add 1 _
      simp (disch := omega) only [e1, forall_eq, sq_ci, nI_clamp, sq_vin, true_and, nI_1]
      unfold sq_pv at h
      by_cases f : (sF j &&& 2) = 0
      · rw [if_pos f] at h
        exact br_t f h
      · rw [if_neg f] at h
        exact br_f f h
    | succ d ih =>
      intro i hi
      have t := ih (i + 1) (by omega)
      refine br_f (nI_ge (by omega) (by omega)) ⟨sq_cn (by omega) (by omega), ?_⟩
      rw [sq_cl (by omega) (by omega)]
      by_cases q : dr (s * 12 + i) = 0
      · rw [sq_rnS, if_pos q] at t
        exact br_t q (nm_r (nI_1 i) t)
      · rw [sq_rnS, if_neg q] at t
        exact br_f q (nm_r (nI_1 _) (nm_r (nI_1 i) t))
  unfold wpY_applyOk
  refine br_f (nI_pos (by omega)) (br_f (nI_ge hs (by omega)) (br_f (nI_pos (by omega)) (br_t (nI_lt hj (by omega)) ?_)))
  simp (disch := omega) only [forall_eq, sq_ci, nI_clamp, sq_vin, true_and, nI_1]
  exact br_t ha ⟨n + 1, key n 0 (by omega)⟩
theorem sy_ok_n {post : SY → Prop} (hm : m ≤ 8) (hs : s < m) (hn : n ≤ 12) (hj : j < n) (ha : ss (s * 12 + j) = 1) (hr : st s = 1) (hq : ¬ ∀ i, i < n → sS i = sg s → upd ss (s * 12 + j) 2 (s * 12 + i) = 2)
    (h : post (nI m, cp, nI n, ev, ck, rc, du, sS, sM, sT, sF, st, sg, sq_pv (sF j) pv s, upd ss (s * 12 + j) 2, ta, dy, upd dr (s * 12 + j) (nI (1 + sq_rn dr s n)), ur, jK, jA, jB, jC)) : wpY_applyOk post (nI m, cp, nI n, ev, ck, rc, du, sS, sM, sT, sF, st, sg, pv, ss, ta, dy, dr, ur, jK, jA, jB, jC) (nI s) (nI j) := by
  refine sy_ok1 hm hs hn hj ha ?_
  simp (disch := omega) only [wY_applyOk_116, forall_eq, sq_ci, nI_clamp, sq_vin, true_and, nI_1]
  exact br_t hr (sy_sd (by omega) hn (fun z => absurd z hq) (fun _ => br_t rfl h))
theorem sy_ok_c {post : SY → Prop} (hm : m ≤ 8) (hs : s < m) (hn : n ≤ 12) (hj : j < n) (ha : ss (s * 12 + j) = 1) (hr : st s = 1) (hq : ∀ i, i < n → sS i = sg s → upd ss (s * 12 + j) 2 (s * 12 + i) = 2) (hl : sg s = sS (n - 1))
    (h : post (nI m, cp, nI n, ev, ck, rc, du, sS, sM, sT, sF, upd st s 4, sg, sq_pv (sF j) pv s, upd ss (s * 12 + j) 2, ta, dy, upd dr (s * 12 + j) (nI (1 + sq_rn dr s n)), ur, jK, jA, jB, jC)) : wpY_applyOk post (nI m, cp, nI n, ev, ck, rc, du, sS, sM, sT, sF, st, sg, pv, ss, ta, dy, dr, ur, jK, jA, jB, jC) (nI s) (nI j) := by
  have e : nI n - 1 = nI (n - 1) := pk_sub (b := 1) (by omega)
  refine sy_ok1 hm hs hn hj ha ?_
  simp (disch := omega) only [wY_applyOk_116, e, forall_eq, sq_ci, nI_clamp, sq_vin, true_and, nI_1]
  exact br_t hr (sy_sd (by omega) hn (fun _ => br_f (by decide) (br_t hl h)) (fun z => absurd hq z))
theorem sy_ok_i {post : SY → Prop} (hm : m ≤ 8) (hs : s < m) (hn : n ≤ 12) (hj : j < n) (ha : ss (s * 12 + j) = 1) (hr : st s = 1) (hq : ∀ i, i < n → sS i = sg s → upd ss (s * 12 + j) 2 (s * 12 + i) = 2) (hl : ¬ sg s = sS (n - 1))
    (h : post (nI m, cp, nI n, ev, ck, rc, du, sS, sM, sT, sF, st, upd sg s (sg s + 1), sq_pv (sF j) pv s, sq_mx (fun i => decide (sS i = sg s + 1)) (fun _ => 1) s n (upd ss (s * 12 + j) 2), sq_mx (fun i => decide (sS i = sg s + 1)) (fun _ => 1) s n ta, sq_mx (fun i => decide (sS i = sg s + 1)) (fun i => ck + sT i) s n dy, upd dr (s * 12 + j) (nI (1 + sq_rn dr s n)), ur, jK, jA, jB, jC)) : wpY_applyOk post (nI m, cp, nI n, ev, ck, rc, du, sS, sM, sT, sF, st, sg, pv, ss, ta, dy, dr, ur, jK, jA, jB, jC) (nI s) (nI j) := by
  have e : nI n - 1 = nI (n - 1) := pk_sub (b := 1) (by omega)
  refine sy_ok1 hm hs hn hj ha ?_
  simp (disch := omega) only [wY_applyOk_116, e, pk_us, forall_eq, sq_ci, nI_clamp, sq_vin, true_and, nI_1]
  exact br_t hr (sy_sd (by omega) hn (fun _ => br_f (by decide) (br_f hl (sy_issue (by omega) hn h))) (fun z => absurd hq z))
theorem sy_ok_s {post : SY → Prop} (hm : m ≤ 8) (hs : s < m) (hn : n ≤ 12) (hj : j < n) (ha : ss (s * 12 + j) = 1) (hr : st s = 2)
    (h : wpY_settle post (nI m, cp, nI n, ev, ck, rc, du, sS, sM, sT, sF, st, sg, sq_pv (sF j) pv s, upd ss (s * 12 + j) 2, ta, dy, upd dr (s * 12 + j) (nI (1 + sq_rn dr s n)), ur, jK, jA, jB, jC) (nI s)) : wpY_applyOk post (nI m, cp, nI n, ev, ck, rc, du, sS, sM, sT, sF, st, sg, pv, ss, ta, dy, dr, ur, jK, jA, jB, jC) (nI s) (nI j) := by
  refine sy_ok1 hm hs hn hj ha ?_
  simp (disch := omega) only [wY_applyOk_116, forall_eq, sq_ci, nI_clamp, sq_vin, true_and, nI_1]
  exact br_f (fun z => absurd (hr.symm.trans z) (by decide)) (br_t hr h)
theorem sy_ok_u {post : SY → Prop} (hm : m ≤ 8) (hs : s < m) (hn : n ≤ 12) (hj : j < n) (ha : ss (s * 12 + j) = 4)
    (h : wpY_nextUndo post (nI m, cp, nI n, ev, ck, rc, du, sS, sM, sT, sF, st, sg, pv, upd ss (s * 12 + j) 5, ta, dy, dr, upd ur (s * 12 + j) (nI (1 + sq_rn ur s n)), jK, jA, jB, jC) (nI s)) : wpY_applyOk post (nI m, cp, nI n, ev, ck, rc, du, sS, sM, sT, sF, st, sg, pv, ss, ta, dy, dr, ur, jK, jA, jB, jC) (nI s) (nI j) := by
  have key : ∀ d i, i + d = n → wY_applyOk_232 post (nI s) (nI (s * 12 + j)) (nI m) cp (nI n) ev ck rc du sS sM sT sF st sg pv ss ta dy dr ur jK jA jB jC (d + 1) (nI (sq_rn ur s i)) (nI i) := by
    intro d
    induction d with
    | zero =>
      intro i hi
      have e : i = n := by omega
      rw [e]
      refine br_t (nI_le (Nat.le_refl n) (by omega)) ?_
      have e1 : (1 : Int32) + nI (sq_rn ur s n) = nI (1 + sq_rn ur s n) := nI_add 1 _
      simp (disch := omega) only [e1, forall_eq, sq_ci, nI_clamp, sq_vin, true_and, nI_1]
      exact h
    | succ d ih =>
      intro i hi
      have t := ih (i + 1) (by omega)
      refine br_f (nI_ge (by omega) (by omega)) ⟨sq_cn (by omega) (by omega), ?_⟩
      rw [sq_cl (by omega) (by omega)]
      by_cases q : ur (s * 12 + i) = 0
      · rw [sq_rnS, if_pos q] at t
        exact br_t q (nm_r (nI_1 i) t)
      · rw [sq_rnS, if_neg q] at t
        exact br_f q (nm_r (nI_1 _) (nm_r (nI_1 i) t))
  unfold wpY_applyOk
  refine br_f (nI_pos (by omega)) (br_f (nI_ge hs (by omega)) (br_f (nI_pos (by omega)) (br_t (nI_lt hj (by omega)) ?_)))
  simp (disch := omega) only [forall_eq, sq_ci, nI_clamp, sq_vin, true_and, nI_1]
  exact br_f (fun z => absurd (ha.symm.trans z) (by decide)) (br_t ha ⟨n + 1, key n 0 (by omega)⟩)
theorem sy_fail_u {post : SY → Prop} (hm : m ≤ 8) (hs : s < m) (hn : n ≤ 12) (hj : j < n) (ha : ss (s * 12 + j) = 4)
    (h : post (nI m, cp, nI n, ev, ck, rc, du, sS, sM, sT, sF, st, sg, pv, ss, upd ta (s * 12 + j) (ta (s * 12 + j) + 1), upd dy (s * 12 + j) (ck + sT j), dr, ur, jK, jA, jB, jC)) : wpY_applyFail post (nI m, cp, nI n, ev, ck, rc, du, sS, sM, sT, sF, st, sg, pv, ss, ta, dy, dr, ur, jK, jA, jB, jC) (nI s) (nI j) := by
  unfold wpY_applyFail
  refine br_f (nI_pos (by omega)) (br_f (nI_ge hs (by omega)) (br_f (nI_pos (by omega)) (br_t (nI_lt hj (by omega)) ?_)))
  simp (disch := omega) only [forall_eq, sq_ci, nI_clamp, sq_vin, true_and, nI_1]
  exact br_f (fun z => absurd (ha.symm.trans z) (by decide)) (br_t ha h)
theorem sy_fail_r {post : SY → Prop} (hm : m ≤ 8) (hs : s < m) (hn : n ≤ 12) (hj : j < n) (ha : ss (s * 12 + j) = 1) (hr : st s = 1 ∧ (pv s = 1 ∨ ta (s * 12 + j) < sM j))
    (h : post (nI m, cp, nI n, ev, ck, rc, du, sS, sM, sT, sF, st, sg, pv, ss, upd ta (s * 12 + j) (ta (s * 12 + j) + 1), upd dy (s * 12 + j) (ck + sT j), dr, ur, jK, jA, jB, jC)) : wpY_applyFail post (nI m, cp, nI n, ev, ck, rc, du, sS, sM, sT, sF, st, sg, pv, ss, ta, dy, dr, ur, jK, jA, jB, jC) (nI s) (nI j) := by
  unfold wpY_applyFail
  refine br_f (nI_pos (by omega)) (br_f (nI_ge hs (by omega)) (br_f (nI_pos (by omega)) (br_t (nI_lt hj (by omega)) ?_)))
  simp (disch := omega) only [wY_applyFail_77, forall_eq, sq_ci, nI_clamp, sq_vin, true_and, nI_1]
  refine br_t ha (br_t hr.1 ?_)
  by_cases p : pv s = 1
  · exact br_t p h
  · rcases hr.2 with z | c
    · exact absurd z p
    · exact br_f p (br_f (Int32.not_le.mpr c) h)
theorem sy_fail_f {post : SY → Prop} (hm : m ≤ 8) (hs : s < m) (hn : n ≤ 12) (hj : j < n) (ha : ss (s * 12 + j) = 1) (hr : ¬ (st s = 1 ∧ (pv s = 1 ∨ ta (s * 12 + j) < sM j))) (hst : st s = 1 ∨ st s = 2)
    (h : wpY_settle post (nI m, cp, nI n, ev, ck, rc, du, sS, sM, sT, sF, upd st s 2, sg, pv, upd ss (s * 12 + j) 3, ta, dy, dr, ur, jK, jA, jB, jC) (nI s)) : wpY_applyFail post (nI m, cp, nI n, ev, ck, rc, du, sS, sM, sT, sF, st, sg, pv, ss, ta, dy, dr, ur, jK, jA, jB, jC) (nI s) (nI j) := by
  unfold wpY_applyFail
  refine br_f (nI_pos (by omega)) (br_f (nI_ge hs (by omega)) (br_f (nI_pos (by omega)) (br_t (nI_lt hj (by omega)) ?_)))
  simp (disch := omega) only [wY_applyFail_111, wY_applyFail_135, forall_eq, sq_ci, nI_clamp, sq_vin, true_and, nI_1]
  refine br_t ha ?_
  by_cases b : st s = 1
  · exact br_t b (br_f (fun z => hr ⟨b, Or.inl z⟩) (br_t (Int32.not_lt.mp (fun z => hr ⟨b, Or.inr z⟩)) (br_t b h)))
  · rcases hst with z | e
    · exact absurd z b
    · rw [sq_ui e] at h
      exact br_f b (br_f b h)
end YA
