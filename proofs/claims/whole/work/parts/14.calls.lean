/-! stepInfo, tick, start, release, crash -/
theorem i_vc_stepInfo {k : Nat} {u : SX} {v : SY} (I : i_Rel k u v) (hk : k + 5 ≤ 2562) (v1 : Int32) (v2 : Int32) (v3 : Int32) : wpX_stepInfo (fun r => wpY_stepInfo (fun r' => r' = r ∧ i_Rel (k + 5) u v) v v1 v2 v3) u v1 v2 v3 := by
  have J := i_up I
  have I' := I
  obtain ⟨n, m, c, r, d, sS, sM, sT, sF, st, sg, pv, ss, ta, dx, dy, dr, ur, jK, jA, jB, jC, ev, ck, hn, hm, hc, hr, hd, hT, hI, hJ, rfl, rfl⟩ := I'
  unfold wpX_stepInfo
  rcases pk_ix v1 (n := m) (by omega) with a | a | ⟨s, hs, rfl⟩
  · exact sx_isSlot_f (Or.inl a) (br_t rfl (br_t a ⟨rfl, J⟩))
  · refine sx_isSlot_f (Or.inr a) (br_t rfl ?_)
    by_cases b : v1 < 0
    · exact br_t b ⟨rfl, J⟩
    · exact br_f b (br_t a ⟨rfl, J⟩)
  · have h1 : ¬ nI s < 0 := nI_pos (by omega)
    have h2 : ¬ nI m ≤ nI s := nI_ge hs (by omega)
    refine sx_isSlot_t hm hs (br_f (by decide) ?_)
    rcases pk_ix v2 (n := n) (by omega) with a | a | ⟨j, hj, rfl⟩
    · exact sx_isStep_f (Or.inl a) (br_t rfl (br_f h1 (br_f h2 (br_t a ⟨rfl, J⟩))))
    · refine sx_isStep_f (Or.inr a) (br_t rfl (br_f h1 (br_f h2 ?_)))
      by_cases b : v2 < 0
      · exact br_t b ⟨rfl, J⟩
      · exact br_f b (br_t a ⟨rfl, J⟩)
    · have h3 : ¬ nI j < 0 := nI_pos (by omega)
      have h4 : ¬ nI n ≤ nI j := nI_ge hj (by omega)
      have hv : vp_in (nI (s * 12 + j)) 96 := vp_in_nI (by omega) (by omega)
      refine sx_isStep_t hn hj (br_f (by decide) (nm_r (sq_ci s j) ?_))
      have Y0 : ∀ Q : Int32 → Prop, ¬ v3 < 0 → v3 ≤ 4 → ((v3 = 0 → Q (ss (s * 12 + j))) ∧ (v3 = 1 → Q (ta (s * 12 + j))) ∧ (v3 = 2 → Q (dx (s * 12 + j))) ∧ (v3 = 3 → Q (dr (s * 12 + j))) ∧ (v3 = 4 → Q (ur (s * 12 + j)))) →
          wpY_stepInfo Q (nI m, nI c, nI n, ev, ck, nI r, nI d, sS, sM, sT, sF, st, sg, pv, ss, ta, dy, dr, ur, jK, jA, jB, jC) (nI s) (nI j) v3 := by
        intro Q p0 p4 hQ
        obtain ⟨q0, q1, q2, q3, q4⟩ := hQ
        unfold wpY_stepInfo
        refine br_f h1 (br_f h2 (br_f h3 (br_f h4 (br_f p0 (br_t p4 (nm_r (sq_ci s j) ?_))))))
        rw [nI_clamp (n := s * 12 + j) (by omega)]
        refine br_c (fun e => ⟨hv, q0 e⟩) (fun e0 => br_c (fun e => ⟨hv, q1 e⟩) (fun e1 => br_c (fun e => ⟨hv, ?_⟩) (fun e2 => br_c (fun e => ⟨hv, q3 e⟩) (fun e3 => ⟨hv, q4 ?_⟩))))
        · by_cases w : ss (s * 12 + j) = 1 ∨ ss (s * 12 + j) = 4
          · have hE := sq_iE hI (by omega) w
            rw [hE] at q2
            rcases w with w | w
            · exact br_t w ⟨hv, q2 e⟩
            · exact br_f (fun z => absurd (w.symm.trans z) (by decide)) ⟨hv, br_t w ⟨hv, q2 e⟩⟩
          · have hE := sq_iE0 hI (by omega) w
            rw [hE] at q2
            exact br_f (fun z => w (Or.inl z)) ⟨hv, br_f (fun z => w (Or.inr z)) (q2 e)⟩
        · obtain ⟨i, hi, e⟩ := nI_of2 (M := 4) (n := 4) (by decide) p0 p4
          have hi5 : i = 0 ∨ i = 1 ∨ i = 2 ∨ i = 3 ∨ i = 4 := by omega
          rcases hi5 with rfl | rfl | rfl | rfl | rfl
          · exact absurd e e0
          · exact absurd e e1
          · exact absurd e e2
          · exact absurd e e3
          · exact e
      rw [nI_clamp (n := s * 12 + j) (by omega)]
      by_cases e0 : v3 = 0
      · subst e0
        exact br_t rfl ⟨hv, Y0 _ (by decide) (by decide) ⟨fun _ => ⟨rfl, J⟩, fun z => absurd z (by decide), fun z => absurd z (by decide), fun z => absurd z (by decide), fun z => absurd z (by decide)⟩⟩
      by_cases e1 : v3 = 1
      · subst e1
        exact br_f e0 (br_t rfl ⟨hv, Y0 _ (by decide) (by decide) ⟨fun z => absurd z (by decide), fun _ => ⟨rfl, J⟩, fun z => absurd z (by decide), fun z => absurd z (by decide), fun z => absurd z (by decide)⟩⟩)
      by_cases e2 : v3 = 2
      · subst e2
        exact br_f e0 (br_f e1 (br_t rfl ⟨hv, Y0 _ (by decide) (by decide) ⟨fun z => absurd z (by decide), fun z => absurd z (by decide), fun _ => ⟨rfl, J⟩, fun z => absurd z (by decide), fun z => absurd z (by decide)⟩⟩))
      by_cases e3 : v3 = 3
      · subst e3
        exact br_f e0 (br_f e1 (br_f e2 (br_t rfl ⟨hv, Y0 _ (by decide) (by decide) ⟨fun z => absurd z (by decide), fun z => absurd z (by decide), fun z => absurd z (by decide), fun _ => ⟨rfl, J⟩, fun z => absurd z (by decide)⟩⟩)))
      by_cases e4 : v3 = 4
      · subst e4
        exact br_f e0 (br_f e1 (br_f e2 (br_f e3 (br_t rfl ⟨hv, Y0 _ (by decide) (by decide) ⟨fun z => absurd z (by decide), fun z => absurd z (by decide), fun z => absurd z (by decide), fun z => absurd z (by decide), fun _ => ⟨rfl, J⟩⟩⟩))))
      refine br_f e0 (br_f e1 (br_f e2 (br_f e3 (br_f e4 (br_f h1 (br_f h2 (br_f h3 (br_f h4 ?_))))))))
      by_cases z : v3 < 0
      · exact br_t z ⟨rfl, J⟩
      · refine br_f z (br_f (fun w => ?_) ⟨rfl, J⟩)
        obtain ⟨i, hi, e⟩ := nI_of2 (M := 4) (n := 4) (by decide) z w
        have hi5 : i = 0 ∨ i = 1 ∨ i = 2 ∨ i = 3 ∨ i = 4 := by omega
        rcases hi5 with rfl | rfl | rfl | rfl | rfl
        · exact e0 e
        · exact e1 e
        · exact e2 e
        · exact e3 e
        · exact e4 e
theorem i_vc_tick {k : Nat} {u : SX} {v : SY} (I : i_Rel k u v) (hk : k + 5 ≤ 2562) (v1 : Int32) : wpX_tick (fun r u' => wpY_tick (fun r' v' => r' = r ∧ i_Rel (k + 5) u' v') v v1) u v1 := by
  have J := i_up I
  have I' := I
  obtain ⟨n, m, c, r, d, sS, sM, sT, sF, st, sg, pv, ss, ta, dx, dy, dr, ur, jK, jA, jB, jC, ev, ck, hn, hm, hc, hr, hd, hT, hI, hJ, rfl, rfl⟩ := I'
  by_cases a : v1 < 1
  · exact br_t a (br_t a ⟨rfl, J⟩)
  by_cases b : v1 ≤ 16
  · by_cases q : r < c
    · obtain ⟨st', sg', pv', ss', ta', dx', dy', dr', ur', c', hI', hid, hX, hY⟩ := so_tick (m := m) (ck := ck) (sM := sM) (sT := sT) (sF := sF) v1 hm hn hI
      have hJ' : so_J n m sS sM sT sF (upd jK r 4) (upd jA r v1) (upd jB r 0) (r + 1) ev (st', sg', pv', ss', ta', dx', dy', dr', ur', ck + v1) := by
        by_cases he : ev = 0
        · rcases hJ with ⟨_, ep, h4⟩ | ⟨h1, _⟩
          · injection ep with ep1 ep
            injection ep with ep2 ep
            injection ep with ep3 ep
            injection ep with ep4 ep
            injection ep with ep5 ep
            injection ep with ep6 ep
            injection ep with ep7 ep
            injection ep with ep8 ep
            injection ep with ep9 ep10
            obtain ⟨x1, x2, x3, x4, x5, x6, x7, x8, x9⟩ := hid (fun i z => by
              rw [ep4] at z
              rcases z with z | z
              · exact absurd (show (0 : Int32) = 1 from z) (by decide)
              · exact absurd (show (0 : Int32) = 4 from z) (by decide))
            refine Or.inl ⟨he, ?_, fun i hi => ?_⟩
            · rw [x1, x2, x3, x4, x5, x6, x7, x8, x9, ep1, ep2, ep3, ep4, ep5, ep6, ep7, ep8, ep9, ep10]
              show so_Z (sq_cs jA r + v1) = so_Z (sq_cs (upd jA r v1) r + upd jA r v1 r)
              rw [sq_csU r (Nat.le_refl r), pk_us]
            · by_cases e : i = r
              · rw [e, pk_us]
              · rw [pk_un e]; exact h4 i (by omega)
          · exact absurd he h1
        · exact so_Jx hm hn hJ he hI' (Or.inr (Or.inr (Or.inr (Or.inl ⟨rfl, ⟨fun ev cp rc du jK jA jB jC post h => hX ev cp rc du jK jA jB jC (fun _ u' => post u') h, fun ev cp rc du jK jA jB jC post h => hY ev cp rc du jK jA jB jC (fun _ v' => post v') h⟩⟩))))
      have R : i_Rel (k + 5) (nI n, ev, nI m, ck + v1, nI c, nI (r + 1), nI d, sS, sM, sT, sF, st', sg', pv', ss', ta', dx', dr', ur', upd jK r 4, upd jA r v1, upd jB r 0, upd jC r 0) (nI m, nI c, nI n, ev, ck + v1, nI (r + 1), nI d, sS, sM, sT, sF, st', sg', pv', ss', ta', dy', dr', ur', upd jK r 4, upd jA r v1, upd jB r 0, upd jC r 0) :=
        sr_mk hn hm hc (by omega) (by omega) hT hI' hJ'
      have hlt : nI r < nI c := nI_lt q (by omega)
      refine br_f a (br_t b (br_t hlt (sx_append (by omega) (hX ev (nI c) (nI (r + 1)) (nI d) (upd jK r 4) (upd jA r v1) (upd jB r 0) (upd jC r 0) _ ?_))))
      exact br_f a (br_t b (br_t hlt (sy_append q hc (hY ev (nI c) (nI (r + 1)) (nI d) (upd jK r 4) (upd jA r v1) (upd jB r 0) (upd jC r 0) _ ⟨rfl, R⟩))))
    · have hlt : ¬ nI r < nI c := nI_nlt (by omega) (by omega)
      exact br_f a (br_t b (br_f hlt (br_f a (br_t b (br_f hlt ⟨rfl, J⟩)))))
  · exact br_f a (br_f b (br_f a (br_f b ⟨rfl, J⟩)))
theorem sr_least {st : Nat → Int32} {m : Nat} : ∀ s, s < m → st s = 0 → ∃ s, s < m ∧ st s = 0 ∧ ∀ t, t < s → ¬ st t = 0 := by
  intro s
  induction s using Nat.strongRecOn with
  | ind s ih =>
    intro hs h0
    by_cases q : ∀ t, t < s → ¬ st t = 0
    · exact ⟨s, hs, h0, q⟩
    · by_cases q2 : ∃ t, t < s ∧ st t = 0
      · obtain ⟨t, ht, ht0⟩ := q2
        exact ih t ht (by omega) ht0
      · exact absurd (fun t ht h => q2 ⟨t, ht, h⟩) q
theorem i_vc_start {k : Nat} {u : SX} {v : SY} (I : i_Rel k u v) (hk : k + 5 ≤ 2562) : wpX_start (fun r u' => wpY_start (fun r' v' => r' = r ∧ i_Rel (k + 5) u' v') v) u := by
  have J := i_up I
  have I' := I
  obtain ⟨n, m, c, r, d, sS, sM, sT, sF, st, sg, pv, ss, ta, dx, dy, dr, ur, jK, jA, jB, jC, ev, ck, hn, hm, hc, hr, hd, hT, hI, hJ, rfl, rfl⟩ := I'
  by_cases z : n = 0
  · subst z
    exact br_t rfl (br_t rfl ⟨rfl, J⟩)
  have hz : ¬ nI n = 0 := nI_ne0 (by omega) (by omega)
  by_cases q : ∀ t, t < m → ¬ st t = 0
  · exact br_f hz (sx_lf_n hm q (br_t rfl (br_f hz (sy_lf_n hm q (br_f (by decide) ⟨rfl, J⟩)))))
  · by_cases q2 : ∃ t, t < m ∧ st t = 0
    · obtain ⟨t, ht, ht0⟩ := q2
      obtain ⟨s, hs, h0, hl⟩ := sr_least t ht ht0
      have n1 : ¬ nI s = -1 := sq_ne1 (by omega)
      have p1 : (0 : Int32) ≤ nI s := nI_pos' (by omega)
      by_cases w : r < c
      · obtain ⟨st', sg', pv', ss', ta', dx', dy', dr', ur', hI', hX, hY⟩ := so_start (m := m) (ck := ck) (sM := sM) (sT := sT) (sF := sF) hI hm hs hn h0
        have hJ' : so_J n m sS sM sT sF (upd jK r 1) (upd jA r (nI s)) (upd jB r 0) (r + 1) 1 (st', sg', pv', ss', ta', dx', dy', dr', ur', ck) := so_Jx hm hn hJ (by decide) hI' (Or.inl ⟨rfl, s, hs, rfl, h0, hl, ⟨hX, hY⟩⟩)
        have R : i_Rel (k + 5) (nI n, 1, nI m, ck, nI c, nI (r + 1), nI d, sS, sM, sT, sF, st', sg', pv', ss', ta', dx', dr', ur', upd jK r 1, upd jA r (nI s), upd jB r 0, upd jC r 0) (nI m, nI c, nI n, 1, ck, nI (r + 1), nI d, sS, sM, sT, sF, st', sg', pv', ss', ta', dy', dr', ur', upd jK r 1, upd jA r (nI s), upd jB r 0, upd jC r 0) :=
          sr_mk hn hm hc (by omega) (by omega) hT hI' hJ'
        have hlt : nI r < nI c := nI_lt w (by omega)
        refine br_f hz (sx_lf_s hm hs h0 hl (br_f n1 (br_t hlt (sx_append (by omega) (hX 1 (nI c) (nI (r + 1)) (nI d) (upd jK r 1) (upd jA r (nI s)) (upd jB r 0) (upd jC r 0) _ ?_)))))
        exact br_f hz (sy_lf_s hm hs h0 hl (br_t p1 (br_t hlt (sy_append w hc (hY 1 (nI c) (nI (r + 1)) (nI d) (upd jK r 1) (upd jA r (nI s)) (upd jB r 0) (upd jC r 0) _ ⟨rfl, R⟩)))))
      · have hlt : ¬ nI r < nI c := nI_nlt (by omega) (by omega)
        exact br_f hz (sx_lf_s hm hs h0 hl (br_f n1 (br_f hlt (br_f hz (sy_lf_s hm hs h0 hl (br_t p1 (br_f hlt ⟨rfl, J⟩)))))))
    · exact absurd (fun t ht h => q2 ⟨t, ht, h⟩) q
/-- before the first start no slot runs -/
theorem sr_ev {n m : Nat} {sS sM sT sF jK jA jB st sg pv ss ta dx dy dr ur : Nat → Int32} {r : Nat} {ev ck : Int32} (hJ : so_J n m sS sM sT sF jK jA jB r ev (st, sg, pv, ss, ta, dx, dy, dr, ur, ck)) (h : (∃ t, ¬ st t = 0) ∨ ∃ t, ¬ ss t = 0) : ¬ ev = 0 := by
  intro he
  rcases hJ with ⟨_, ep, h4⟩ | ⟨h1, _⟩
  · injection ep with ep1 ep
    injection ep with ep2 ep
    injection ep with ep3 ep
    injection ep with ep4 ep
    rcases h with ⟨t, ht⟩ | ⟨t, ht⟩
    · exact ht (by rw [ep1])
    · exact ht (by rw [ep4])
  · exact h1 he
theorem i_vc_release {k : Nat} {u : SX} {v : SY} (I : i_Rel k u v) (hk : k + 5 ≤ 2562) (v1 : Int32) : wpX_release (fun r u' => wpY_release (fun r' v' => r' = r ∧ i_Rel (k + 5) u' v') v v1) u v1 := by
  have J := i_up I
  have I' := I
  obtain ⟨n, m, c, r, d, sS, sM, sT, sF, st, sg, pv, ss, ta, dx, dy, dr, ur, jK, jA, jB, jC, ev, ck, hn, hm, hc, hr, hd, hT, hI, hJ, rfl, rfl⟩ := I'
  unfold wpX_release
  rcases pk_ix v1 (n := m) (by omega) with a | a | ⟨s, hs, rfl⟩
  · exact sx_isSlot_f (Or.inl a) (br_t rfl (br_t a ⟨rfl, J⟩))
  · refine sx_isSlot_f (Or.inr a) (br_t rfl ?_)
    by_cases b : v1 < 0
    · exact br_t b ⟨rfl, J⟩
    · exact br_f b (br_f (Int32.not_lt.mpr a) ⟨rfl, J⟩)
  · have hv : vp_in (nI s) 8 := vp_in_nI (by omega) (by omega)
    have h1 : ¬ nI s < 0 := nI_pos (by omega)
    have h2 : nI s < nI m := nI_lt hs (by omega)
    refine sx_isSlot_t hm hs (br_f (by decide) ⟨hv, ?_⟩)
    by_cases q : st s = 4 ∨ st s = 5
    · have hev : ¬ ev = 0 := sr_ev hJ (Or.inl ⟨s, fun z => by
        rcases q with q | q
        · exact absurd (q.symm.trans z) (by decide)
        · exact absurd (q.symm.trans z) (by decide)⟩)
      have w : wX_release_32 (fun y u' => wpY_release (fun r' v' => r' = y ∧ i_Rel (k + 5) u' v') (nI m, nI c, nI n, ev, ck, nI r, nI d, sS, sM, sT, sF, st, sg, pv, ss, ta, dy, dr, ur, jK, jA, jB, jC) (nI s)) (nI s) (nI n) ev (nI m) ck (nI c) (nI r) (nI d) sS sM sT sF st sg pv ss ta dx dr ur jK jA jB jC := by
        have wy : ∀ Q : Int32 → SY → Prop, wY_release_36 Q (nI s) (nI m) (nI c) (nI n) ev ck (nI r) (nI d) sS sM sT sF st sg pv ss ta dy dr ur jK jA jB jC → wpY_release Q (nI m, nI c, nI n, ev, ck, nI r, nI d, sS, sM, sT, sF, st, sg, pv, ss, ta, dy, dr, ur, jK, jA, jB, jC) (nI s) := by
          intro Q h
          refine br_f h1 (br_t h2 ⟨hv, ?_⟩)
          rw [nI_clamp (n := s) (by omega)]
          rcases q with q | q
          · exact br_t q h
          · exact br_f (fun z => absurd (q.symm.trans z) (by decide)) ⟨hv, br_t q h⟩
        by_cases w : r < c
        · have hlt : nI r < nI c := nI_lt w (by omega)
          obtain ⟨st', sg', pv', ss', ta', dx', dy', dr', ur', hI', _, hX, hY⟩ := so_free (m := m) (ck := ck) (sM := sM) (sT := sT) (sF := sF) hI (show s < 8 by omega)
          have hJ' : so_J n m sS sM sT sF (upd jK r 5) (upd jA r (nI s)) (upd jB r 0) (r + 1) ev (st', sg', pv', ss', ta', dx', dy', dr', ur', ck) := so_Jx hm hn hJ hev hI' (Or.inr (Or.inr (Or.inr (Or.inr ⟨rfl, s, hs, rfl, ⟨hX, hY⟩⟩))))
          have R : i_Rel (k + 5) (nI n, ev, nI m, ck, nI c, nI (r + 1), nI d, sS, sM, sT, sF, st', sg', pv', ss', ta', dx', dr', ur', upd jK r 5, upd jA r (nI s), upd jB r 0, upd jC r 0) (nI m, nI c, nI n, ev, ck, nI (r + 1), nI d, sS, sM, sT, sF, st', sg', pv', ss', ta', dy', dr', ur', upd jK r 5, upd jA r (nI s), upd jB r 0, upd jC r 0) :=
            sr_mk hn hm hc (by omega) (by omega) hT hI' hJ'
          refine br_t hlt (sx_append (by omega) (hX ev (nI c) (nI (r + 1)) (nI d) (upd jK r 5) (upd jA r (nI s)) (upd jB r 0) (upd jC r 0) _ (wy _ ?_)))
          exact br_t hlt (sy_append w hc (hY ev (nI c) (nI (r + 1)) (nI d) (upd jK r 5) (upd jA r (nI s)) (upd jB r 0) (upd jC r 0) _ ⟨rfl, R⟩))
        · have hlt : ¬ nI r < nI c := nI_nlt (by omega) (by omega)
          exact br_f hlt (wy _ (br_f hlt ⟨rfl, J⟩))
      rw [nI_clamp (n := s) (by omega)]
      rcases q with q | q
      · exact br_t q w
      · exact br_f (fun z => absurd (q.symm.trans z) (by decide)) ⟨hv, br_t q w⟩
    · rw [nI_clamp (n := s) (by omega)]
      refine br_f (fun z => q (Or.inl z)) ⟨hv, br_f (fun z => q (Or.inr z)) (br_f h1 (br_t h2 ⟨hv, ?_⟩))⟩
      rw [nI_clamp (n := s) (by omega)]
      exact br_f (fun z => q (Or.inl z)) ⟨hv, br_f (fun z => q (Or.inr z)) ⟨rfl, J⟩⟩
theorem i_vc_crash {k : Nat} {u : SX} {v : SY} (I : i_Rel k u v) (hk : k + 5 ≤ 2562) : wpX_crash (fun r u' => wpY_crash (fun r' v' => r' = r ∧ i_Rel (k + 5) u' v') v) u := by
  have I' := I
  obtain ⟨n, m, c, r, d, sS, sM, sT, sF, st, sg, pv, ss, ta, dx, dy, dr, ur, jK, jA, jB, jC, ev, ck, hn, hm, hc, hr, hd, hT, hI, hJ, rfl, rfl⟩ := I'
  have fin : ∀ C : Nat → so_P, so_C n m sS sM sT sF jK jA jB d C → so_J n m sS sM sT sF jK jA jB d ev (C d) →
      wpX_crash (fun y u' => wpY_crash (fun r' v' => r' = y ∧ i_Rel (k + 5) u' v') (nI m, nI c, nI n, ev, ck, nI r, nI d, sS, sM, sT, sF, st, sg, pv, ss, ta, dy, dr, ur, jK, jA, jB, jC)) (nI n, ev, nI m, ck, nI c, nI r, nI d, sS, sM, sT, sF, st, sg, pv, ss, ta, dx, dr, ur, jK, jA, jB, jC) := by
    intro C hC hJ'
    exact so_crashX (p := (st, sg, pv, ss, ta, dx, dy, dr, ur, ck)) (by omega) hI hC (so_crashY (p := (st, sg, pv, ss, ta, dx, dy, dr, ur, ck)) hm (by omega) hI hC ⟨rfl, sr_mk hn hm hc (by omega) (Nat.le_refl d) hT (hC.2.1 d (Nat.le_refl d)) hJ'⟩)
  rcases hJ with ⟨he, ep, h4⟩ | ⟨he, C, hC, eC⟩
  · exact fin _ (so_C0 hm hn (fun i hi => h4 i (by omega))) (Or.inl ⟨he, rfl, fun i hi => h4 i (by omega)⟩)
  · exact fin C (so_Ccut hC hd) (Or.inr ⟨he, C, so_Ccut hC hd, rfl⟩)
