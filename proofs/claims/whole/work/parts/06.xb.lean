/-! the component's own methods: what writes -/
section XB
variable {n m s j : Nat} {ev ck cp rc du : Int32} {sS sM sT sF st sg pv ss ta dx dr ur jK jA jB jC : Nat → Int32}
theorem sx_append {r : Nat} {k a b c : Int32} {post : SX → Prop} (hr : r < 128) (h : post (nI n, ev, nI m, ck, cp, nI (r + 1), du, sS, sM, sT, sF, st, sg, pv, ss, ta, dx, dr, ur, upd jK r k, upd jA r a, upd jB r b, upd jC r c)) : wpX_append post (nI n, ev, nI m, ck, cp, nI r, du, sS, sM, sT, sF, st, sg, pv, ss, ta, dx, dr, ur, jK, jA, jB, jC) k a b c := by
  simp (disch := omega) only [wpX_append, forall_eq, sq_ci, nI_clamp, sq_vin, true_and, nI_1]
  exact h
theorem sx_begin {x : Int32} {post : SX → Prop} (hs : s < 8) (hj : j < 12) (h : post (nI n, ev, nI m, ck, cp, rc, du, sS, sM, sT, sF, st, sg, pv, upd ss (s * 12 + j) x, upd ta (s * 12 + j) 1, upd dx (s * 12 + j) (ck + sT j), dr, ur, jK, jA, jB, jC)) : wpX_beginAttempts post (nI n, ev, nI m, ck, cp, rc, du, sS, sM, sT, sF, st, sg, pv, ss, ta, dx, dr, ur, jK, jA, jB, jC) (nI s) (nI j) x := by
  simp (disch := omega) only [wpX_beginAttempts, forall_eq, sq_ci, nI_clamp, sq_vin, true_and, nI_1]
  exact h
theorem sx_issue {g : Int32} {post : SX → Prop} (hs : s < 8) (hn : n ≤ 12) (hg : sg s = g)
    (h : post (nI n, ev, nI m, ck, cp, rc, du, sS, sM, sT, sF, st, sg, pv, sq_mx (fun i => decide (sS i = g)) (fun _ => 1) s n ss, sq_mx (fun i => decide (sS i = g)) (fun _ => 1) s n ta, sq_mx (fun i => decide (sS i = g)) (fun i => ck + sT i) s n dx, dr, ur, jK, jA, jB, jC)) : wpX_issueStage post (nI n, ev, nI m, ck, cp, rc, du, sS, sM, sT, sF, st, sg, pv, ss, ta, dx, dr, ur, jK, jA, jB, jC) (nI s) := by
  have key : ∀ d i, i + d = n → wX_issueStage_2 post (nI s) (d + 1) (nI i) (nI n) ev (nI m) ck cp rc du sS sM sT sF st sg pv (sq_mx (fun i => decide (sS i = g)) (fun _ => 1) s i ss) (sq_mx (fun i => decide (sS i = g)) (fun _ => 1) s i ta) (sq_mx (fun i => decide (sS i = g)) (fun i => ck + sT i) s i dx) dr ur jK jA jB jC := by
    intro d
    induction d with
    | zero =>
      intro i hi
      have e : i = n := by omega
      rw [e]
      exact br_t (nI_le (Nat.le_refl n) (by omega)) h
    | succ d ih =>
      intro i hi
      have t := ih (i + 1) (by omega)
      refine br_f (nI_ge (by omega) (by omega)) ⟨vp_in_nI (by omega) (by omega), vp_in_nI (by omega) (by omega), ?_⟩
      rw [nI_clamp (n := i) (by omega), nI_clamp (n := s) (by omega)]
      by_cases q : sS i = g
      · have hc : (fun i => decide (sS i = g)) i = true := decide_eq_true q
        have e1 : upd (sq_mx (fun i => decide (sS i = g)) (fun _ => 1) s i ss) (s * 12 + i) 1 = _ := sq_mxt hc
        have e2 : upd (sq_mx (fun i => decide (sS i = g)) (fun _ => 1) s i ta) (s * 12 + i) 1 = _ := sq_mxt hc
        have e3 : upd (sq_mx (fun i => decide (sS i = g)) (fun i => ck + sT i) s i dx) (s * 12 + i) (ck + sT i) = _ := sq_mxt hc
        rw [← e1, ← e2, ← e3] at t
        exact br_t (q.trans hg.symm) (sx_begin hs (by omega) (nm_r (nI_1 i) t))
      · have hc : ¬ (fun i => decide (sS i = g)) i = true := fun z => q (of_decide_eq_true z)
        have e1 : sq_mx (fun i => decide (sS i = g)) (fun _ => 1) s i ss = _ := sq_mxf hc
        have e2 : sq_mx (fun i => decide (sS i = g)) (fun _ => 1) s i ta = _ := sq_mxf hc
        have e3 : sq_mx (fun i => decide (sS i = g)) (fun i => ck + sT i) s i dx = _ := sq_mxf hc
        rw [← e1, ← e2, ← e3] at t
        exact br_f (fun z => q (z.trans hg)) (nm_r (nI_1 i) t)
  have k0 := key n 0 (by omega)
  rw [sq_mx0, sq_mx0, sq_mx0] at k0
  exact ⟨n + 1, k0⟩
theorem sx_free {post : SX → Prop} (hs : s < 8) (h : post (nI n, ev, nI m, ck, cp, rc, du, sS, sM, sT, sF, upd st s 0, upd sg s 0, upd pv s 0, sq_mx (fun _ => true) (fun _ => 0) s 12 ss, sq_mx (fun _ => true) (fun _ => 0) s 12 ta, sq_mx (fun _ => true) (fun _ => 0) s 12 dx, sq_mx (fun _ => true) (fun _ => 0) s 12 dr, sq_mx (fun _ => true) (fun _ => 0) s 12 ur, jK, jA, jB, jC)) : wpX_freeSlot post (nI n, ev, nI m, ck, cp, rc, du, sS, sM, sT, sF, st, sg, pv, ss, ta, dx, dr, ur, jK, jA, jB, jC) (nI s) := by
  have key : ∀ d i, i + d = 12 → wX_freeSlot_23 post (nI s) (nI n) ev (nI m) ck cp rc du (d + 1) (nI i) sS sM sT sF (upd st s 0) (upd sg s 0) (upd pv s 0) (sq_mx (fun _ => true) (fun _ => 0) s i ss) (sq_mx (fun _ => true) (fun _ => 0) s i ta) (sq_mx (fun _ => true) (fun _ => 0) s i dx) (sq_mx (fun _ => true) (fun _ => 0) s i dr) (sq_mx (fun _ => true) (fun _ => 0) s i ur) jK jA jB jC := by
    intro d
    induction d with
    | zero =>
      intro i hi
      have e : i = 12 := by omega
      rw [e]
      exact br_t (nI_le (a := 12) (b := 12) (by omega) (by omega)) h
    | succ d ih =>
      intro i hi
      have t := ih (i + 1) (by omega)
      have e : ∀ a : Nat → Int32, upd (sq_mx (fun _ => true) (fun _ => 0) s i a) (s * 12 + i) 0 = sq_mx (fun _ => true) (fun _ => 0) s (i + 1) a := fun a => sq_mxt (c := fun _ => true) (v := fun _ => 0) rfl
      rw [← e ss, ← e ta, ← e dx, ← e dr, ← e ur] at t
      refine br_f (nI_ge (b := 12) (by omega) (by omega)) ?_
      simp (disch := omega) only [forall_eq, sq_ci, nI_clamp, sq_vin, true_and, nI_1]
      exact t
  have k0 := key 12 0 (by omega)
  rw [sq_mx0, sq_mx0, sq_mx0, sq_mx0, sq_mx0] at k0
  simp (disch := omega) only [wpX_freeSlot, forall_eq, sq_ci, nI_clamp, sq_vin, true_and, nI_1]
  exact ⟨12 + 1, k0⟩
theorem sx_start {post : SX → Prop} (hs : s < 8) (hn : n ≤ 12)
    (h : post (nI n, ev, nI m, ck, cp, rc, du, sS, sM, sT, sF, upd st s 1, upd sg s 0, upd pv s 0, sq_mx (fun i => decide (sS i = 0)) (fun _ => 1) s n ss, sq_mx (fun i => decide (sS i = 0)) (fun _ => 1) s n ta, sq_mx (fun i => decide (sS i = 0)) (fun i => ck + sT i) s n dx, dr, ur, jK, jA, jB, jC)) : wpX_applyStart post (nI n, ev, nI m, ck, cp, rc, du, sS, sM, sT, sF, st, sg, pv, ss, ta, dx, dr, ur, jK, jA, jB, jC) (nI s) := by
  simp (disch := omega) only [wpX_applyStart, forall_eq, sq_ci, nI_clamp, sq_vin, true_and, nI_1]
  exact sx_issue hs hn pk_us h
theorem sx_nextUndo_a {post : SX → Prop} (hs : s < 8) (hn : n ≤ 12) (he : (sq_nu ss dr sF s n).1 = -1) (h : post (nI n, ev, nI m, ck, cp, rc, du, sS, sM, sT, sF, upd st s 5, sg, pv, ss, ta, dx, dr, ur, jK, jA, jB, jC)) : wpX_nextUndo post (nI n, ev, nI m, ck, cp, rc, du, sS, sM, sT, sF, st, sg, pv, ss, ta, dx, dr, ur, jK, jA, jB, jC) (nI s) := by
  unfold wpX_nextUndo
  refine sx_nw hs hn (br_t he ⟨vp_in_nI (by omega) (by omega), ?_⟩)
  rw [nI_clamp (n := s) (by omega)]
  exact nm_e h
theorem sx_nextUndo_b {b : Nat} {post : SX → Prop} (hs : s < 8) (hn : n ≤ 12) (hb : b < 12) (he : (sq_nu ss dr sF s n).1 = nI b)
    (h : post (nI n, ev, nI m, ck, cp, rc, du, sS, sM, sT, sF, st, sg, pv, upd ss (s * 12 + b) 4, upd ta (s * 12 + b) 1, upd dx (s * 12 + b) (ck + sT b), dr, ur, jK, jA, jB, jC)) : wpX_nextUndo post (nI n, ev, nI m, ck, cp, rc, du, sS, sM, sT, sF, st, sg, pv, ss, ta, dx, dr, ur, jK, jA, jB, jC) (nI s) := by
  unfold wpX_nextUndo
  refine sx_nw hs hn (br_f (by rw [he]; exact sq_ne1 (by omega)) ?_)
  rw [he]
  exact sx_begin hs hb h
theorem sx_settle_n {post : SX → Prop} (hs : s < 8) (hn : n ≤ 12) (hq : ∀ i, i < n → ¬ ss (s * 12 + i) = 1) (h : wpX_nextUndo post (nI n, ev, nI m, ck, cp, rc, du, sS, sM, sT, sF, upd st s 3, sg, pv, ss, ta, dx, dr, ur, jK, jA, jB, jC) (nI s)) : wpX_settle post (nI n, ev, nI m, ck, cp, rc, du, sS, sM, sT, sF, st, sg, pv, ss, ta, dx, dr, ur, jK, jA, jB, jC) (nI s) := by
  unfold wpX_settle
  refine sx_ha hs hn (fun _ => br_t rfl ⟨vp_in_nI (by omega) (by omega), ?_⟩) (fun z => absurd hq z)
  rw [nI_clamp (n := s) (by omega)]
  exact nm_e h
theorem sx_settle_a {post : SX → Prop} (hs : s < 8) (hn : n ≤ 12) (hq : ¬ ∀ i, i < n → ¬ ss (s * 12 + i) = 1) (h : post (nI n, ev, nI m, ck, cp, rc, du, sS, sM, sT, sF, st, sg, pv, ss, ta, dx, dr, ur, jK, jA, jB, jC)) : wpX_settle post (nI n, ev, nI m, ck, cp, rc, du, sS, sM, sT, sF, st, sg, pv, ss, ta, dx, dr, ur, jK, jA, jB, jC) (nI s) := by
  unfold wpX_settle
  exact sx_ha hs hn (fun z => absurd z hq) (fun _ => br_f (by decide) h)
theorem sx_adv_n {post : SX → Prop} (hs : s < 8) (hn : n ≤ 12) (hq : ¬ ∀ i, i < n → sS i = sg s → ss (s * 12 + i) = 2) (h : post (nI n, ev, nI m, ck, cp, rc, du, sS, sM, sT, sF, st, sg, pv, ss, ta, dx, dr, ur, jK, jA, jB, jC)) : wpX_advance post (nI n, ev, nI m, ck, cp, rc, du, sS, sM, sT, sF, st, sg, pv, ss, ta, dx, dr, ur, jK, jA, jB, jC) (nI s) := by
  unfold wpX_advance
  exact sx_sd hs hn (fun z => absurd z hq) (fun _ => br_t rfl h)
theorem sx_adv_c {post : SX → Prop} (hs : s < 8) (hn : n ≤ 12) (h0 : 0 < n) (hq : ∀ i, i < n → sS i = sg s → ss (s * 12 + i) = 2) (hl : sg s = sS (n - 1)) (h : post (nI n, ev, nI m, ck, cp, rc, du, sS, sM, sT, sF, upd st s 4, sg, pv, ss, ta, dx, dr, ur, jK, jA, jB, jC)) : wpX_advance post (nI n, ev, nI m, ck, cp, rc, du, sS, sM, sT, sF, st, sg, pv, ss, ta, dx, dr, ur, jK, jA, jB, jC) (nI s) := by
  have e : nI n - 1 = nI (n - 1) := pk_sub (b := 1) h0
  have hv : vp_in (nI s) 8 := vp_in_nI (by omega) (by omega)
  unfold wpX_advance
  refine sx_sd hs hn (fun _ => br_f (by decide) ⟨hv, ?_⟩) (fun z => absurd hq z)
  rw [e, nI_clamp (n := n - 1) (by omega), nI_clamp (n := s) (by omega)]
  exact ⟨vp_in_nI (by omega) (by omega), br_t hl ⟨hv, nm_e h⟩⟩
theorem sx_adv_i {post : SX → Prop} (hs : s < 8) (hn : n ≤ 12) (h0 : 0 < n) (hq : ∀ i, i < n → sS i = sg s → ss (s * 12 + i) = 2) (hl : ¬ sg s = sS (n - 1))
    (h : post (nI n, ev, nI m, ck, cp, rc, du, sS, sM, sT, sF, st, upd sg s (sg s + 1), pv, sq_mx (fun i => decide (sS i = sg s + 1)) (fun _ => 1) s n ss, sq_mx (fun i => decide (sS i = sg s + 1)) (fun _ => 1) s n ta, sq_mx (fun i => decide (sS i = sg s + 1)) (fun i => ck + sT i) s n dx, dr, ur, jK, jA, jB, jC)) : wpX_advance post (nI n, ev, nI m, ck, cp, rc, du, sS, sM, sT, sF, st, sg, pv, ss, ta, dx, dr, ur, jK, jA, jB, jC) (nI s) := by
  have e : nI n - 1 = nI (n - 1) := pk_sub (b := 1) h0
  have hv : vp_in (nI s) 8 := vp_in_nI (by omega) (by omega)
  unfold wpX_advance
  refine sx_sd hs hn (fun _ => br_f (by decide) ⟨hv, ?_⟩) (fun z => absurd hq z)
  rw [e, nI_clamp (n := n - 1) (by omega), nI_clamp (n := s) (by omega)]
  exact ⟨vp_in_nI (by omega) (by omega), br_f hl ⟨hv, hv, nm_e (sx_issue hs hn pk_us h)⟩⟩
theorem sx_ff {post : SX → Prop} (hs : s < 8) (hn : n ≤ 12) (hj : j < 12) (h : wX_finishForward_54 post (nI s) (nI n) ev (nI m) ck cp rc du sS sM sT sF st sg (sq_pv (sF j) pv s) (upd ss (s * 12 + j) 2) ta (upd dx (s * 12 + j) 0) (upd dr (s * 12 + j) (nI (1 + sq_rn dr s n))) ur jK jA jB jC) : wpX_finishForward post (nI n, ev, nI m, ck, cp, rc, du, sS, sM, sT, sF, st, sg, pv, ss, ta, dx, dr, ur, jK, jA, jB, jC) (nI s) (nI j) := by
  simp (disch := omega) only [wpX_finishForward, forall_eq, sq_ci, nI_clamp, sq_vin, true_and, nI_1]
  refine sx_rkD hs hn ?_
  unfold sq_pv at h
  by_cases f : (sF j &&& 2) = 0
  · rw [if_pos f] at h
    exact br_t f h
  · rw [if_neg f] at h
    exact br_f f h
theorem sx_ok_fr {post : SX → Prop} (hm : m ≤ 8) (hs : s < m) (hn : n ≤ 12) (hj : j < n) (ha : ¬ ss (s * 12 + j) = 4) (hr : st s = 1)
    (h : wpX_advance post (nI n, ev, nI m, ck, cp, rc, du, sS, sM, sT, sF, st, sg, sq_pv (sF j) pv s, upd ss (s * 12 + j) 2, ta, upd dx (s * 12 + j) 0, upd dr (s * 12 + j) (nI (1 + sq_rn dr s n)), ur, jK, jA, jB, jC) (nI s)) : wpX_applyOk post (nI n, ev, nI m, ck, cp, rc, du, sS, sM, sT, sF, st, sg, pv, ss, ta, dx, dr, ur, jK, jA, jB, jC) (nI s) (nI j) := by
  simp (disch := omega) only [wpX_applyOk, forall_eq, sq_ci, nI_clamp, sq_vin, true_and, nI_1]
  refine br_f ha (sx_ff (by omega) hn (by omega) ?_)
  simp (disch := omega) only [wX_finishForward_54, forall_eq, sq_ci, nI_clamp, sq_vin, true_and, nI_1]
  exact br_t hr h
theorem sx_ok_fs {post : SX → Prop} (hm : m ≤ 8) (hs : s < m) (hn : n ≤ 12) (hj : j < n) (ha : ¬ ss (s * 12 + j) = 4) (hr : ¬ st s = 1)
    (h : wpX_settle post (nI n, ev, nI m, ck, cp, rc, du, sS, sM, sT, sF, st, sg, sq_pv (sF j) pv s, upd ss (s * 12 + j) 2, ta, upd dx (s * 12 + j) 0, upd dr (s * 12 + j) (nI (1 + sq_rn dr s n)), ur, jK, jA, jB, jC) (nI s)) : wpX_applyOk post (nI n, ev, nI m, ck, cp, rc, du, sS, sM, sT, sF, st, sg, pv, ss, ta, dx, dr, ur, jK, jA, jB, jC) (nI s) (nI j) := by
  simp (disch := omega) only [wpX_applyOk, forall_eq, sq_ci, nI_clamp, sq_vin, true_and, nI_1]
  refine br_f ha (sx_ff (by omega) hn (by omega) ?_)
  simp (disch := omega) only [wX_finishForward_54, forall_eq, sq_ci, nI_clamp, sq_vin, true_and, nI_1]
  exact br_f hr h
theorem sx_ok_u {post : SX → Prop} (hm : m ≤ 8) (hs : s < m) (hn : n ≤ 12) (hj : j < n) (ha : ss (s * 12 + j) = 4)
    (h : wpX_nextUndo post (nI n, ev, nI m, ck, cp, rc, du, sS, sM, sT, sF, st, sg, pv, upd ss (s * 12 + j) 5, ta, upd dx (s * 12 + j) 0, dr, upd ur (s * 12 + j) (nI (1 + sq_rn ur s n)), jK, jA, jB, jC) (nI s)) : wpX_applyOk post (nI n, ev, nI m, ck, cp, rc, du, sS, sM, sT, sF, st, sg, pv, ss, ta, dx, dr, ur, jK, jA, jB, jC) (nI s) (nI j) := by
  simp (disch := omega) only [wpX_applyOk, forall_eq, sq_ci, nI_clamp, sq_vin, true_and, nI_1]
  refine br_t ha ?_
  simp (disch := omega) only [wpX_finishUndo, forall_eq, sq_ci, nI_clamp, sq_vin, true_and, nI_1]
  exact sx_rkU (by omega) hn h
theorem sx_fail_r {post : SX → Prop} (hm : m ≤ 8) (hs : s < m) (hn : n ≤ 12) (hj : j < n) (hr : ss (s * 12 + j) = 4 ∨ (st s = 1 ∧ (pv s = 1 ∨ ta (s * 12 + j) < sM j)))
    (h : post (nI n, ev, nI m, ck, cp, rc, du, sS, sM, sT, sF, st, sg, pv, ss, upd ta (s * 12 + j) (ta (s * 12 + j) + 1), upd dx (s * 12 + j) (ck + sT j), dr, ur, jK, jA, jB, jC)) : wpX_applyFail post (nI n, ev, nI m, ck, cp, rc, du, sS, sM, sT, sF, st, sg, pv, ss, ta, dx, dr, ur, jK, jA, jB, jC) (nI s) (nI j) := by
  simp (disch := omega) only [wpX_applyFail, forall_eq, sq_ci, nI_clamp, sq_vin, true_and, nI_1]
  exact sx_mr_t (by omega) (by omega) hr (br_f (by decide) h)
theorem sx_fail_f {post : SX → Prop} (hm : m ≤ 8) (hs : s < m) (hn : n ≤ 12) (hj : j < n) (ha : ¬ ss (s * 12 + j) = 4) (hr : ¬ (st s = 1 ∧ (pv s = 1 ∨ ta (s * 12 + j) < sM j)))
    (h : wpX_settle post (nI n, ev, nI m, ck, cp, rc, du, sS, sM, sT, sF, upd st s 2, sg, pv, upd ss (s * 12 + j) 3, ta, upd dx (s * 12 + j) 0, dr, ur, jK, jA, jB, jC) (nI s)) : wpX_applyFail post (nI n, ev, nI m, ck, cp, rc, du, sS, sM, sT, sF, st, sg, pv, ss, ta, dx, dr, ur, jK, jA, jB, jC) (nI s) (nI j) := by
  simp (disch := omega) only [wpX_applyFail, forall_eq, sq_ci, nI_clamp, sq_vin, true_and, nI_1]
  exact sx_mr_f (by omega) (by omega) ha hr (br_t rfl h)
end XB
