/-! a tick on both sides -/
section TICK
variable {n m : Nat} {ck : Int32} {sS sM sT sF : Nat → Int32}
theorem so_tickI {t : Nat} (hm : m ≤ 8) (hn : n ≤ 12) (ht : t < m) : ∀ (d i : Nat) (st sg pv ss ta dx dy dr ur : Nat → Int32) (c : Int32), i + d = n → sq_iv n sS st sg pv ss ta dx dy dr ur →
    ∃ (st' sg' pv' ss' ta' dx' dy' dr' ur' : Nat → Int32) (c' : Int32), sq_iv n sS st' sg' pv' ss' ta' dx' dy' dr' ur' ∧ ((∀ k, ¬ (ss k = 1 ∨ ss k = 4)) → st' = st ∧ sg' = sg ∧ pv' = pv ∧ ss' = ss ∧ ta' = ta ∧ dx' = dx ∧ dy' = dy ∧ dr' = dr ∧ ur' = ur) ∧
      (∀ (ev cp rc du : Int32) (jK jA jB jC : Nat → Int32) (post : Int32 → SX → Prop) (J : Int32 → Int32 → Int32 → Int32 → Int32 → Int32 → Int32 → Int32 → Int32 → (Nat → Int32) → (Nat → Int32) → (Nat → Int32) → (Nat → Int32) → (Nat → Int32) → (Nat → Int32) → (Nat → Int32) → (Nat → Int32) → (Nat → Int32) → (Nat → Int32) → (Nat → Int32) → (Nat → Int32) → (Nat → Int32) → (Nat → Int32) → (Nat → Int32) → (Nat → Int32) → Prop), J c' (nI (t + 1)) (nI n) ev (nI m) ck cp rc du sS sM sT sF st' sg' pv' ss' ta' dx' dr' ur' jK jA jB jC → wX_applyTick_25 post J (nI t) (d + 1) c (nI i) (nI n) ev (nI m) ck cp rc du sS sM sT sF st sg pv ss ta dx dr ur jK jA jB jC) ∧
      (∀ (ev cp rc du : Int32) (jK jA jB jC : Nat → Int32) (post : Int32 → SY → Prop) (J : Int32 → Int32 → Int32 → Int32 → Int32 → Int32 → Int32 → Int32 → Int32 → (Nat → Int32) → (Nat → Int32) → (Nat → Int32) → (Nat → Int32) → (Nat → Int32) → (Nat → Int32) → (Nat → Int32) → (Nat → Int32) → (Nat → Int32) → (Nat → Int32) → (Nat → Int32) → (Nat → Int32) → (Nat → Int32) → (Nat → Int32) → (Nat → Int32) → (Nat → Int32) → Prop), J c' (nI (t + 1)) (nI m) cp (nI n) ev ck rc du sS sM sT sF st' sg' pv' ss' ta' dy' dr' ur' jK jA jB jC → wY_doTick_25 post J (nI t) (d + 1) c (nI i) (nI m) cp (nI n) ev ck rc du sS sM sT sF st sg pv ss ta dy dr ur jK jA jB jC) := by
  intro d
  induction d with
  | zero =>
    intro i st sg pv ss ta dx dy dr ur c hi hI
    exact ⟨st, sg, pv, ss, ta, dx, dy, dr, ur, c, hI, fun _ => ⟨rfl, rfl, rfl, rfl, rfl, rfl, rfl, rfl, rfl⟩,
      fun _ _ _ _ _ _ _ _ _ _ h => br_t (nI_le (by omega) (by omega)) (nm_r (nI_1 t) h),
      fun _ _ _ _ _ _ _ _ _ _ h => br_t (nI_le (by omega) (by omega)) (nm_r (nI_1 t) h)⟩
  | succ d ih =>
    intro i st sg pv ss ta dx dy dr ur c hi hI
    have hk : t * 12 + i < 96 := by omega
    have hv : vp_in (nI (t * 12 + i)) 96 := vp_in_nI hk (by omega)
    have hg : ¬ nI n ≤ nI i := nI_ge (by omega) (by omega)
    by_cases q : ss (t * 12 + i) = 1 ∨ ss (t * 12 + i) = 4
    · have hE := sq_iE hI (by omega) q
      by_cases q2 : ck < dx (t * 12 + i)
      · obtain ⟨st', sg', pv', ss', ta', dx', dy', dr', ur', c', hI', hid, hX, hY⟩ := ih (i + 1) st sg pv ss ta dx dy dr ur c (by omega) hI
        refine ⟨st', sg', pv', ss', ta', dx', dy', dr', ur', c', hI', hid, fun ev cp rc du jK jA jB jC post J h => ?_, fun ev cp rc du jK jA jB jC post J h => ?_⟩
        · refine br_f hg (nm_r (sq_ci t i) (sx_infl_t hk q (br_f (by decide) ⟨hv, ?_⟩)))
          rw [nI_clamp (n := t * 12 + i) (by omega)]
          exact br_t q2 (nm_r (nI_1 i) (hX ev cp rc du jK jA jB jC post J h))
        · refine br_f hg (nm_r (sq_ci t i) ⟨hv, ?_⟩)
          rw [nI_clamp (n := t * 12 + i) (by omega)]
          have w : wY_doTick_65 post J (wY_doTick_25 post J (nI t) (d + 1)) c (nI t) (nI i) (nI (t * 12 + i)) (nI m) cp (nI n) ev ck rc du sS sM sT sF st sg pv ss ta dy dr ur jK jA jB jC := by
            refine And.intro hv ?_
            rw [nI_clamp (n := t * 12 + i) (by omega), ← hE]
            exact br_t q2 (nm_r (nI_1 i) (hY ev cp rc du jK jA jB jC post J h))
          rcases q with a | a
          · exact br_t a w
          · exact br_f (fun z => absurd (a.symm.trans z) (by decide)) ⟨hv, br_t a w⟩
      · obtain ⟨st1, sg1, pv1, ss1, ta1, dx1, dy1, dr1, ur1, hI1, hX1, hY1⟩ := so_fail (m := m) (ck := ck) (sM := sM) (sT := sT) (sF := sF) hI hm ht hn (show i < n by omega) q
        obtain ⟨st', sg', pv', ss', ta', dx', dy', dr', ur', c', hI', hid, hX, hY⟩ := ih (i + 1) st1 sg1 pv1 ss1 ta1 dx1 dy1 dr1 ur1 (c + 1) (by omega) hI1
        refine ⟨st', sg', pv', ss', ta', dx', dy', dr', ur', c', hI', fun z => absurd q (z _), fun ev cp rc du jK jA jB jC post J h => ?_, fun ev cp rc du jK jA jB jC post J h => ?_⟩
        · refine br_f hg (nm_r (sq_ci t i) (sx_infl_t hk q (br_f (by decide) ⟨hv, ?_⟩)))
          rw [nI_clamp (n := t * 12 + i) (by omega)]
          exact br_f q2 (hX1 ev cp rc du jK jA jB jC _ (nm_e (nm_r (nI_1 i) (hX ev cp rc du jK jA jB jC post J h))))
        · refine br_f hg (nm_r (sq_ci t i) ⟨hv, ?_⟩)
          rw [nI_clamp (n := t * 12 + i) (by omega)]
          have w : wY_doTick_65 post J (wY_doTick_25 post J (nI t) (d + 1)) c (nI t) (nI i) (nI (t * 12 + i)) (nI m) cp (nI n) ev ck rc du sS sM sT sF st sg pv ss ta dy dr ur jK jA jB jC := by
            refine And.intro hv ?_
            rw [nI_clamp (n := t * 12 + i) (by omega), ← hE]
            exact br_f q2 (hY1 ev cp rc du jK jA jB jC _ (nm_e (nm_r (nI_1 i) (hY ev cp rc du jK jA jB jC post J h))))
          rcases q with a | a
          · exact br_t a w
          · exact br_f (fun z => absurd (a.symm.trans z) (by decide)) ⟨hv, br_t a w⟩
    · obtain ⟨st', sg', pv', ss', ta', dx', dy', dr', ur', c', hI', hid, hX, hY⟩ := ih (i + 1) st sg pv ss ta dx dy dr ur c (by omega) hI
      refine ⟨st', sg', pv', ss', ta', dx', dy', dr', ur', c', hI', hid, fun ev cp rc du jK jA jB jC post J h => ?_, fun ev cp rc du jK jA jB jC post J h => ?_⟩
      · exact br_f hg (nm_r (sq_ci t i) (sx_infl_f hk q (br_t rfl (nm_r (nI_1 i) (hX ev cp rc du jK jA jB jC post J h)))))
      · refine br_f hg (nm_r (sq_ci t i) ⟨hv, ?_⟩)
        rw [nI_clamp (n := t * 12 + i) (by omega)]
        exact br_f (fun z => q (Or.inl z)) ⟨hv, br_f (fun z => q (Or.inr z)) (nm_r (nI_1 i) (hY ev cp rc du jK jA jB jC post J h))⟩
theorem so_tickO (hm : m ≤ 8) (hn : n ≤ 12) : ∀ (d t : Nat) (st sg pv ss ta dx dy dr ur : Nat → Int32) (c : Int32), t + d = m → sq_iv n sS st sg pv ss ta dx dy dr ur →
    ∃ (st' sg' pv' ss' ta' dx' dy' dr' ur' : Nat → Int32) (c' : Int32), sq_iv n sS st' sg' pv' ss' ta' dx' dy' dr' ur' ∧ ((∀ k, ¬ (ss k = 1 ∨ ss k = 4)) → st' = st ∧ sg' = sg ∧ pv' = pv ∧ ss' = ss ∧ ta' = ta ∧ dx' = dx ∧ dy' = dy ∧ dr' = dr ∧ ur' = ur) ∧
      (∀ (ev cp rc du : Int32) (jK jA jB jC : Nat → Int32) (post : Int32 → SX → Prop), post c' (nI n, ev, nI m, ck, cp, rc, du, sS, sM, sT, sF, st', sg', pv', ss', ta', dx', dr', ur', jK, jA, jB, jC) → wX_applyTick_14 post (d + 1) c (nI t) (nI n) ev (nI m) ck cp rc du sS sM sT sF st sg pv ss ta dx dr ur jK jA jB jC) ∧
      (∀ (ev cp rc du : Int32) (jK jA jB jC : Nat → Int32) (post : Int32 → SY → Prop), post c' (nI m, cp, nI n, ev, ck, rc, du, sS, sM, sT, sF, st', sg', pv', ss', ta', dy', dr', ur', jK, jA, jB, jC) → wY_doTick_14 post (d + 1) c (nI t) (nI m) cp (nI n) ev ck rc du sS sM sT sF st sg pv ss ta dy dr ur jK jA jB jC) := by
  intro d
  induction d with
  | zero =>
    intro t st sg pv ss ta dx dy dr ur c hi hI
    exact ⟨st, sg, pv, ss, ta, dx, dy, dr, ur, c, hI, fun _ => ⟨rfl, rfl, rfl, rfl, rfl, rfl, rfl, rfl, rfl⟩,
      fun _ _ _ _ _ _ _ _ _ h => br_t (nI_le (by omega) (by omega)) h,
      fun _ _ _ _ _ _ _ _ _ h => br_t (nI_le (by omega) (by omega)) h⟩
  | succ d ih =>
    intro t st sg pv ss ta dx dy dr ur c hi hI
    have hg : ¬ nI m ≤ nI t := nI_ge (by omega) (by omega)
    obtain ⟨st1, sg1, pv1, ss1, ta1, dx1, dy1, dr1, ur1, c1, hI1, hid1, hX1, hY1⟩ := so_tickI (m := m) (ck := ck) (sM := sM) (sT := sT) (sF := sF) hm hn (show t < m by omega) n 0 st sg pv ss ta dx dy dr ur c (by omega) hI
    obtain ⟨st', sg', pv', ss', ta', dx', dy', dr', ur', c', hI', hid, hX, hY⟩ := ih (t + 1) st1 sg1 pv1 ss1 ta1 dx1 dy1 dr1 ur1 c1 (by omega) hI1
    refine ⟨st', sg', pv', ss', ta', dx', dy', dr', ur', c', hI', fun z => ?_, fun ev cp rc du jK jA jB jC post h => ?_, fun ev cp rc du jK jA jB jC post h => ?_⟩
    · obtain ⟨rfl, rfl, rfl, rfl, rfl, rfl, rfl, rfl, rfl⟩ := hid1 z
      exact hid z
    · exact br_f hg ⟨n + 1, hX1 ev cp rc du jK jA jB jC post (wX_applyTick_14 post (d + 1)) (hX ev cp rc du jK jA jB jC post h)⟩
    · exact br_f hg ⟨n + 1, hY1 ev cp rc du jK jA jB jC post (wY_doTick_14 post (d + 1)) (hY ev cp rc du jK jA jB jC post h)⟩
theorem so_tick {st sg pv ss ta dx dy dr ur : Nat → Int32} (a : Int32) (hm : m ≤ 8) (hn : n ≤ 12) (hI : sq_iv n sS st sg pv ss ta dx dy dr ur) :
    ∃ (st' sg' pv' ss' ta' dx' dy' dr' ur' : Nat → Int32) (c' : Int32), sq_iv n sS st' sg' pv' ss' ta' dx' dy' dr' ur' ∧ ((∀ k, ¬ (ss k = 1 ∨ ss k = 4)) → st' = st ∧ sg' = sg ∧ pv' = pv ∧ ss' = ss ∧ ta' = ta ∧ dx' = dx ∧ dy' = dy ∧ dr' = dr ∧ ur' = ur) ∧
      (∀ (ev cp rc du : Int32) (jK jA jB jC : Nat → Int32) (post : Int32 → SX → Prop), post c' (nI n, ev, nI m, ck + a, cp, rc, du, sS, sM, sT, sF, st', sg', pv', ss', ta', dx', dr', ur', jK, jA, jB, jC) → wpX_applyTick post (nI n, ev, nI m, ck, cp, rc, du, sS, sM, sT, sF, st, sg, pv, ss, ta, dx, dr, ur, jK, jA, jB, jC) a) ∧
      (∀ (ev cp rc du : Int32) (jK jA jB jC : Nat → Int32) (post : Int32 → SY → Prop), post c' (nI m, cp, nI n, ev, ck + a, rc, du, sS, sM, sT, sF, st', sg', pv', ss', ta', dy', dr', ur', jK, jA, jB, jC) → wpY_doTick post (nI m, cp, nI n, ev, ck, rc, du, sS, sM, sT, sF, st, sg, pv, ss, ta, dy, dr, ur, jK, jA, jB, jC) a) := by
  obtain ⟨st', sg', pv', ss', ta', dx', dy', dr', ur', c', hI', hid, hX, hY⟩ := so_tickO (m := m) (ck := ck + a) (sM := sM) (sT := sT) (sF := sF) hm hn m 0 st sg pv ss ta dx dy dr ur 0 (by omega) hI
  exact ⟨st', sg', pv', ss', ta', dx', dy', dr', ur', c', hI', hid, fun ev cp rc du jK jA jB jC post h => nm_e ⟨m + 1, hX ev cp rc du jK jA jB jC post h⟩, fun ev cp rc du jK jA jB jC post h => nm_e ⟨m + 1, hY ev cp rc du jK jA jB jC post h⟩⟩
end TICK
