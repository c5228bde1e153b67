/-! the steps of one slot on both sides: where they lead, alike -/
section OPS
variable {n m s j : Nat} {ck : Int32} {sS sM sT sF st sg pv ss ta dx dy dr ur : Nat → Int32}
theorem so_nextUndo (hI : sq_iv n sS st sg pv ss ta dx dy dr ur) (hs : s < 8) (hn : n ≤ 12) (hx : st s = 3 ∨ st s = 5) :
    ∃ st' sg' pv' ss' ta' dx' dy' dr' ur' : Nat → Int32, sq_iv n sS st' sg' pv' ss' ta' dx' dy' dr' ur' ∧
      (∀ (ev cp rc du : Int32) (jK jA jB jC : Nat → Int32) (post : SX → Prop), post (nI n, ev, nI m, ck, cp, rc, du, sS, sM, sT, sF, st', sg', pv', ss', ta', dx', dr', ur', jK, jA, jB, jC) → wpX_nextUndo post (nI n, ev, nI m, ck, cp, rc, du, sS, sM, sT, sF, st, sg, pv, ss, ta, dx, dr, ur, jK, jA, jB, jC) (nI s)) ∧
      (∀ (ev cp rc du : Int32) (jK jA jB jC : Nat → Int32) (post : SY → Prop), post (nI m, cp, nI n, ev, ck, rc, du, sS, sM, sT, sF, st', sg', pv', ss', ta', dy', dr', ur', jK, jA, jB, jC) → wpY_nextUndo post (nI m, cp, nI n, ev, ck, rc, du, sS, sM, sT, sF, st, sg, pv, ss, ta, dy, dr, ur, jK, jA, jB, jC) (nI s)) := by
  rcases sq_nuP (ss := ss) (dr := dr) (sF := sF) (s := s) n with e | ⟨b, hb, e⟩
  · exact ⟨upd st s 5, sg, pv, ss, ta, dx, dy, dr, ur, sq_iRoll hI hs hn (sq_iDn hI hn hx),
      fun _ _ _ _ _ _ _ _ _ h => sx_nextUndo_a hs hn (by rw [e]) h,
      fun _ _ _ _ _ _ _ _ _ h => sy_nextUndo_a hs hn (fun i hi h2 => sq_iC hI hn hi h2) (by rw [e]) h⟩
  · exact ⟨st, sg, pv, upd ss (s * 12 + b) 4, upd ta (s * 12 + b) 1, upd dx (s * 12 + b) (ck + sT b), upd dy (s * 12 + b) (ck + sT b), dr, ur,
      sq_iUndo hI hs (by omega) hx,
      fun _ _ _ _ _ _ _ _ _ h => sx_nextUndo_b hs hn (by omega) e h,
      fun _ _ _ _ _ _ _ _ _ h => sy_nextUndo_b hs hn (fun i hi h2 => sq_iC hI hn hi h2) (by omega) e h⟩
theorem so_settle (hI : sq_iv n sS st sg pv ss ta dx dy dr ur) (hs : s < 8) (hn : n ≤ 12) (h2 : st s = 2) :
    ∃ st' sg' pv' ss' ta' dx' dy' dr' ur' : Nat → Int32, sq_iv n sS st' sg' pv' ss' ta' dx' dy' dr' ur' ∧
      (∀ (ev cp rc du : Int32) (jK jA jB jC : Nat → Int32) (post : SX → Prop), post (nI n, ev, nI m, ck, cp, rc, du, sS, sM, sT, sF, st', sg', pv', ss', ta', dx', dr', ur', jK, jA, jB, jC) → wpX_settle post (nI n, ev, nI m, ck, cp, rc, du, sS, sM, sT, sF, st, sg, pv, ss, ta, dx, dr, ur, jK, jA, jB, jC) (nI s)) ∧
      (∀ (ev cp rc du : Int32) (jK jA jB jC : Nat → Int32) (post : SY → Prop), post (nI m, cp, nI n, ev, ck, rc, du, sS, sM, sT, sF, st', sg', pv', ss', ta', dy', dr', ur', jK, jA, jB, jC) → wpY_settle post (nI m, cp, nI n, ev, ck, rc, du, sS, sM, sT, sF, st, sg, pv, ss, ta, dy, dr, ur, jK, jA, jB, jC) (nI s)) := by
  by_cases q : ∀ i, i < n → ¬ ss (s * 12 + i) = 1
  · obtain ⟨st', sg', pv', ss', ta', dx', dy', dr', ur', hI', hX, hY⟩ := so_nextUndo (m := m) (ck := ck) (sM := sM) (sT := sT) (sF := sF) (sq_iComp hI hs hn h2 q) hs hn (Or.inl pk_us)
    exact ⟨st', sg', pv', ss', ta', dx', dy', dr', ur', hI', fun _ _ _ _ _ _ _ _ _ h => sx_settle_n hs hn q (hX _ _ _ _ _ _ _ _ _ h), fun _ _ _ _ _ _ _ _ _ h => sy_settle_n hs hn q (hY _ _ _ _ _ _ _ _ _ h)⟩
  · exact ⟨st, sg, pv, ss, ta, dx, dy, dr, ur, hI, fun _ _ _ _ _ _ _ _ _ h => sx_settle_a hs hn q h, fun _ _ _ _ _ _ _ _ _ h => sy_settle_a hs hn q h⟩
theorem so_fail (hI : sq_iv n sS st sg pv ss ta dx dy dr ur) (hm : m ≤ 8) (hs : s < m) (hn : n ≤ 12) (hj : j < n) (ha : ss (s * 12 + j) = 1 ∨ ss (s * 12 + j) = 4) :
    ∃ st' sg' pv' ss' ta' dx' dy' dr' ur' : Nat → Int32, sq_iv n sS st' sg' pv' ss' ta' dx' dy' dr' ur' ∧
      (∀ (ev cp rc du : Int32) (jK jA jB jC : Nat → Int32) (post : SX → Prop), post (nI n, ev, nI m, ck, cp, rc, du, sS, sM, sT, sF, st', sg', pv', ss', ta', dx', dr', ur', jK, jA, jB, jC) → wpX_applyFail post (nI n, ev, nI m, ck, cp, rc, du, sS, sM, sT, sF, st, sg, pv, ss, ta, dx, dr, ur, jK, jA, jB, jC) (nI s) (nI j)) ∧
      (∀ (ev cp rc du : Int32) (jK jA jB jC : Nat → Int32) (post : SY → Prop), post (nI m, cp, nI n, ev, ck, rc, du, sS, sM, sT, sF, st', sg', pv', ss', ta', dy', dr', ur', jK, jA, jB, jC) → wpY_applyFail post (nI m, cp, nI n, ev, ck, rc, du, sS, sM, sT, sF, st, sg, pv, ss, ta, dy, dr, ur, jK, jA, jB, jC) (nI s) (nI j)) := by
  have hs8 : s < 8 := by omega
  rcases ha with h1 | h4
  · by_cases r : st s = 1 ∧ (pv s = 1 ∨ ta (s * 12 + j) < sM j)
    · exact ⟨st, sg, pv, ss, upd ta (s * 12 + j) (ta (s * 12 + j) + 1), upd dx (s * 12 + j) (ck + sT j), upd dy (s * 12 + j) (ck + sT j), dr, ur,
        sq_iRetry hI hs8 hj hn (Or.inl h1),
        fun _ _ _ _ _ _ _ _ _ h => sx_fail_r hm hs hn hj (Or.inr r) h,
        fun _ _ _ _ _ _ _ _ _ h => sy_fail_r hm hs hn hj h1 r h⟩
    · obtain ⟨st', sg', pv', ss', ta', dx', dy', dr', ur', hI', hX, hY⟩ := so_settle (m := m) (ck := ck) (sM := sM) (sT := sT) (sF := sF) (sq_iFail hI hs8 hj hn h1) hs8 hn pk_us
      exact ⟨st', sg', pv', ss', ta', dx', dy', dr', ur', hI',
        fun _ _ _ _ _ _ _ _ _ h => sx_fail_f hm hs hn hj (fun z => absurd (h1.symm.trans z) (by decide)) r (hX _ _ _ _ _ _ _ _ _ h),
        fun _ _ _ _ _ _ _ _ _ h => sy_fail_f hm hs hn hj h1 r (sq_iB hI hn hj h1) (hY _ _ _ _ _ _ _ _ _ h)⟩
  · exact ⟨st, sg, pv, ss, upd ta (s * 12 + j) (ta (s * 12 + j) + 1), upd dx (s * 12 + j) (ck + sT j), upd dy (s * 12 + j) (ck + sT j), dr, ur,
      sq_iRetry hI hs8 hj hn (Or.inr h4),
      fun _ _ _ _ _ _ _ _ _ h => sx_fail_r hm hs hn hj (Or.inl h4) h,
      fun _ _ _ _ _ _ _ _ _ h => sy_fail_u hm hs hn hj h4 h⟩
theorem so_ok (hI : sq_iv n sS st sg pv ss ta dx dy dr ur) (hm : m ≤ 8) (hs : s < m) (hn : n ≤ 12) (hj : j < n) (ha : ss (s * 12 + j) = 1 ∨ ss (s * 12 + j) = 4) :
    ∃ st' sg' pv' ss' ta' dx' dy' dr' ur' : Nat → Int32, sq_iv n sS st' sg' pv' ss' ta' dx' dy' dr' ur' ∧
      (∀ (ev cp rc du : Int32) (jK jA jB jC : Nat → Int32) (post : SX → Prop), post (nI n, ev, nI m, ck, cp, rc, du, sS, sM, sT, sF, st', sg', pv', ss', ta', dx', dr', ur', jK, jA, jB, jC) → wpX_applyOk post (nI n, ev, nI m, ck, cp, rc, du, sS, sM, sT, sF, st, sg, pv, ss, ta, dx, dr, ur, jK, jA, jB, jC) (nI s) (nI j)) ∧
      (∀ (ev cp rc du : Int32) (jK jA jB jC : Nat → Int32) (post : SY → Prop), post (nI m, cp, nI n, ev, ck, rc, du, sS, sM, sT, sF, st', sg', pv', ss', ta', dy', dr', ur', jK, jA, jB, jC) → wpY_applyOk post (nI m, cp, nI n, ev, ck, rc, du, sS, sM, sT, sF, st, sg, pv, ss, ta, dy, dr, ur, jK, jA, jB, jC) (nI s) (nI j)) := by
  have hs8 : s < 8 := by omega
  rcases ha with h1 | h4
  · have hI1 := sq_iDone (r := nI (1 + sq_rn dr s n)) (pv' := sq_pv (sF j) pv s) hI hs8 hj hn h1 (sq_rk hn) (fun t e => sq_pvO e)
    have h14 : ¬ ss (s * 12 + j) = 4 := fun z => absurd (h1.symm.trans z) (by decide)
    rcases sq_iB hI hn hj h1 with hr | hr
    · by_cases q : ∀ i, i < n → sS i = sg s → upd ss (s * 12 + j) 2 (s * 12 + i) = 2
      · by_cases q2 : sg s = sS (n - 1)
        · exact ⟨upd st s 4, sg, sq_pv (sF j) pv s, upd ss (s * 12 + j) 2, ta, upd dx (s * 12 + j) 0, dy, upd dr (s * 12 + j) (nI (1 + sq_rn dr s n)), ur,
            sq_iCommit hI1 hs8 hn hr q,
            fun _ _ _ _ _ _ _ _ _ h => sx_ok_fr hm hs hn hj h14 hr (sx_adv_c hs8 hn (by omega) q q2 h),
            fun _ _ _ _ _ _ _ _ _ h => sy_ok_c hm hs hn hj h1 hr q q2 h⟩
        · exact ⟨st, upd sg s (sg s + 1), sq_pv (sF j) pv s, sq_mx (fun i => decide (sS i = sg s + 1)) (fun _ => 1) s n (upd ss (s * 12 + j) 2), sq_mx (fun i => decide (sS i = sg s + 1)) (fun _ => 1) s n ta,
            sq_mx (fun i => decide (sS i = sg s + 1)) (fun i => ck + sT i) s n (upd dx (s * 12 + j) 0), sq_mx (fun i => decide (sS i = sg s + 1)) (fun i => ck + sT i) s n dy, upd dr (s * 12 + j) (nI (1 + sq_rn dr s n)), ur,
            sq_iIssue hI1 hs8 hn hr (sq_iNoAct hI1 hn q) (fun i h => of_decide_eq_true h),
            fun _ _ _ _ _ _ _ _ _ h => sx_ok_fr hm hs hn hj h14 hr (sx_adv_i hs8 hn (by omega) q q2 h),
            fun _ _ _ _ _ _ _ _ _ h => sy_ok_i hm hs hn hj h1 hr q q2 h⟩
      · exact ⟨st, sg, sq_pv (sF j) pv s, upd ss (s * 12 + j) 2, ta, upd dx (s * 12 + j) 0, dy, upd dr (s * 12 + j) (nI (1 + sq_rn dr s n)), ur, hI1,
          fun _ _ _ _ _ _ _ _ _ h => sx_ok_fr hm hs hn hj h14 hr (sx_adv_n hs8 hn q h),
          fun _ _ _ _ _ _ _ _ _ h => sy_ok_n hm hs hn hj h1 hr q h⟩
    · obtain ⟨st', sg', pv', ss', ta', dx', dy', dr', ur', hI', hX, hY⟩ := so_settle (m := m) (ck := ck) (sM := sM) (sT := sT) (sF := sF) hI1 hs8 hn hr
      exact ⟨st', sg', pv', ss', ta', dx', dy', dr', ur', hI',
        fun _ _ _ _ _ _ _ _ _ h => sx_ok_fs hm hs hn hj h14 (fun z => absurd (hr.symm.trans z) (by decide)) (hX _ _ _ _ _ _ _ _ _ h),
        fun _ _ _ _ _ _ _ _ _ h => sy_ok_s hm hs hn hj h1 hr (hY _ _ _ _ _ _ _ _ _ h)⟩
  · obtain ⟨st', sg', pv', ss', ta', dx', dy', dr', ur', hI', hX, hY⟩ := so_nextUndo (m := m) (ck := ck) (sM := sM) (sT := sT) (sF := sF) (sq_iUndone (r := nI (1 + sq_rn ur s n)) hI hs8 hj hn h4) hs8 hn (sq_iD hI hn hj h4)
    exact ⟨st', sg', pv', ss', ta', dx', dy', dr', ur', hI',
      fun _ _ _ _ _ _ _ _ _ h => sx_ok_u hm hs hn hj h4 (hX _ _ _ _ _ _ _ _ _ h),
      fun _ _ _ _ _ _ _ _ _ h => sy_ok_u hm hs hn hj h4 (hY _ _ _ _ _ _ _ _ _ h)⟩
theorem so_start (hI : sq_iv n sS st sg pv ss ta dx dy dr ur) (hm : m ≤ 8) (hs : s < m) (hn : n ≤ 12) (h0 : st s = 0) :
    ∃ st' sg' pv' ss' ta' dx' dy' dr' ur' : Nat → Int32, sq_iv n sS st' sg' pv' ss' ta' dx' dy' dr' ur' ∧
      (∀ (ev cp rc du : Int32) (jK jA jB jC : Nat → Int32) (post : SX → Prop), post (nI n, ev, nI m, ck, cp, rc, du, sS, sM, sT, sF, st', sg', pv', ss', ta', dx', dr', ur', jK, jA, jB, jC) → wpX_applyStart post (nI n, ev, nI m, ck, cp, rc, du, sS, sM, sT, sF, st, sg, pv, ss, ta, dx, dr, ur, jK, jA, jB, jC) (nI s)) ∧
      (∀ (ev cp rc du : Int32) (jK jA jB jC : Nat → Int32) (post : SY → Prop), post (nI m, cp, nI n, ev, ck, rc, du, sS, sM, sT, sF, st', sg', pv', ss', ta', dy', dr', ur', jK, jA, jB, jC) → wpY_doStart post (nI m, cp, nI n, ev, ck, rc, du, sS, sM, sT, sF, st, sg, pv, ss, ta, dy, dr, ur, jK, jA, jB, jC) (nI s)) := by
  have hs8 : s < 8 := by omega
  obtain ⟨z1, z2, z3, z4, z5, z6, z7⟩ := sq_iZ hI h0
  exact ⟨upd st s 1, upd sg s 0, upd pv s 0, sq_mx (fun i => decide (sS i = 0)) (fun _ => 1) s n ss, sq_mx (fun i => decide (sS i = 0)) (fun _ => 1) s n ta,
    sq_mx (fun i => decide (sS i = 0)) (fun i => ck + sT i) s n dx, sq_mx (fun i => decide (sS i = 0)) (fun i => ck + sT i) s n dy, dr, ur,
    sq_iStart hI hs8 hn h0 (fun i h => of_decide_eq_true h),
    fun _ _ _ _ _ _ _ _ _ h => sx_start hs8 hn h,
    fun _ _ _ _ _ _ _ _ _ h => sy_start hm hs hn z3 z4 z5 z6 z7 h⟩
theorem so_free (hI : sq_iv n sS st sg pv ss ta dx dy dr ur) (hs : s < 8) :
    ∃ st' sg' pv' ss' ta' dx' dy' dr' ur' : Nat → Int32, sq_iv n sS st' sg' pv' ss' ta' dx' dy' dr' ur' ∧ st' = upd st s 0 ∧
      (∀ (ev cp rc du : Int32) (jK jA jB jC : Nat → Int32) (post : SX → Prop), post (nI n, ev, nI m, ck, cp, rc, du, sS, sM, sT, sF, st', sg', pv', ss', ta', dx', dr', ur', jK, jA, jB, jC) → wpX_freeSlot post (nI n, ev, nI m, ck, cp, rc, du, sS, sM, sT, sF, st, sg, pv, ss, ta, dx, dr, ur, jK, jA, jB, jC) (nI s)) ∧
      (∀ (ev cp rc du : Int32) (jK jA jB jC : Nat → Int32) (post : SY → Prop), post (nI m, cp, nI n, ev, ck, rc, du, sS, sM, sT, sF, st', sg', pv', ss', ta', dy', dr', ur', jK, jA, jB, jC) → wpY_resetSlot post (nI m, cp, nI n, ev, ck, rc, du, sS, sM, sT, sF, st, sg, pv, ss, ta, dy, dr, ur, jK, jA, jB, jC) (nI s)) :=
  ⟨_, _, _, _, _, _, _, _, _, sq_iFree hI hs, rfl, fun _ _ _ _ _ _ _ _ _ h => sx_free hs h, fun _ _ _ _ _ _ _ _ _ h => sy_free hs h⟩
end OPS
