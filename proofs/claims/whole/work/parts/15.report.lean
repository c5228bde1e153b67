/-! report -/
theorem i_vc_report {k : Nat} {u : SX} {v : SY} (I : i_Rel k u v) (hk : k + 5 ≤ 2562) (v1 : Int32) (v2 : Int32) (v3 : Int32) (v4 : Int32) : wpX_report (fun r u' => wpY_report (fun r' v' => r' = r ∧ i_Rel (k + 5) u' v') v v1 v2 v3 (lw_bz v4)) u v1 v2 v3 (lw_bz v4) := by
  have J := i_up I
  generalize lw_bz v4 = b
  have I' := I
  obtain ⟨n, m, c, r, d, sS, sM, sT, sF, st, sg, pv, ss, ta, dx, dy, dr, ur, jK, jA, jB, jC, ev, ck, hn, hm, hc, hr, hd, hT, hI, hJ, rfl, rfl⟩ := I'
  unfold wpX_report
  rcases pk_ix v1 (n := m) (by omega) with a | a | ⟨s, hs, rfl⟩
  · exact sx_isSlot_f (Or.inl a) (br_t rfl (br_t a ⟨rfl, J⟩))
  · refine sx_isSlot_f (Or.inr a) (br_t rfl ?_)
    by_cases b : v1 < 0
    · exact br_t b ⟨rfl, J⟩
    · exact br_f b (br_f (Int32.not_lt.mpr a) ⟨rfl, J⟩)
  · have h1 : ¬ nI s < 0 := nI_pos (by omega)
    have h2 : nI s < nI m := nI_lt hs (by omega)
    refine sx_isSlot_t hm hs (br_f (by decide) ?_)
    rcases pk_ix v2 (n := n) (by omega) with a | a | ⟨j, hj, rfl⟩
    · exact sx_isStep_f (Or.inl a) (br_t rfl (br_f h1 (br_t h2 (br_t a ⟨rfl, J⟩))))
    · refine sx_isStep_f (Or.inr a) (br_t rfl (br_f h1 (br_t h2 ?_)))
      by_cases b : v2 < 0
      · exact br_t b ⟨rfl, J⟩
      · exact br_f b (br_f (Int32.not_lt.mpr a) ⟨rfl, J⟩)
    · have h3 : ¬ nI j < 0 := nI_pos (by omega)
      have h4 : nI j < nI n := nI_lt hj (by omega)
      have hk9 : s * 12 + j < 96 := by omega
      have hv : vp_in (nI (s * 12 + j)) 96 := vp_in_nI hk9 (by omega)
      refine sx_isStep_t hn hj (br_f (by decide) (nm_r (sq_ci s j) ?_))
      by_cases q : ss (s * 12 + j) = 1 ∨ ss (s * 12 + j) = 4
      · have hev : ¬ ev = 0 := sr_ev hJ (Or.inr ⟨s * 12 + j, fun z => by
          rcases q with q | q
          · exact absurd (q.symm.trans z) (by decide)
          · exact absurd (q.symm.trans z) (by decide)⟩)
        have wy : ∀ Q : Int32 → SY → Prop, wY_report_61 Q (nI s) (nI j) v3 b (nI (s * 12 + j)) (nI m) (nI c) (nI n) ev ck (nI r) (nI d) sS sM sT sF st sg pv ss ta dy dr ur jK jA jB jC → wpY_report Q (nI m, nI c, nI n, ev, ck, nI r, nI d, sS, sM, sT, sF, st, sg, pv, ss, ta, dy, dr, ur, jK, jA, jB, jC) (nI s) (nI j) v3 b := by
          intro Q h
          refine br_f h1 (br_t h2 (br_f h3 (br_t h4 (nm_r (sq_ci s j) ⟨hv, ?_⟩))))
          rw [nI_clamp (n := s * 12 + j) (by omega)]
          rcases q with q | q
          · exact br_t q h
          · exact br_f (fun z => absurd (q.symm.trans z) (by decide)) ⟨hv, br_t q h⟩
        refine sx_infl_t hk9 q (br_f (by decide) ⟨hv, ?_⟩)
        rw [nI_clamp (n := s * 12 + j) (by omega)]
        by_cases e : v3 = ta (s * 12 + j)
        · by_cases w : r < c
          · have hlt : nI r < nI c := nI_lt w (by omega)
            by_cases z : b = 0
            · obtain ⟨st', sg', pv', ss', ta', dx', dy', dr', ur', hI', hX, hY⟩ := so_fail (m := m) (ck := ck) (sM := sM) (sT := sT) (sF := sF) hI hm hs hn hj q
              have hJ' : so_J n m sS sM sT sF (upd jK r 3) (upd jA r (nI s)) (upd jB r (nI j)) (r + 1) ev (st', sg', pv', ss', ta', dx', dy', dr', ur', ck) := so_Jx hm hn hJ hev hI' (Or.inr (Or.inr (Or.inl ⟨rfl, ⟨hX, hY⟩⟩)))
              have R : i_Rel (k + 5) (nI n, ev, nI m, ck, nI c, nI (r + 1), nI d, sS, sM, sT, sF, st', sg', pv', ss', ta', dx', dr', ur', upd jK r 3, upd jA r (nI s), upd jB r (nI j), upd jC r v3) (nI m, nI c, nI n, ev, ck, nI (r + 1), nI d, sS, sM, sT, sF, st', sg', pv', ss', ta', dy', dr', ur', upd jK r 3, upd jA r (nI s), upd jB r (nI j), upd jC r v3) :=
                sr_mk hn hm hc (by omega) (by omega) hT hI' hJ'
              refine br_t e (br_t hlt (br_t z (sx_append (by omega) (hX ev (nI c) (nI (r + 1)) (nI d) (upd jK r 3) (upd jA r (nI s)) (upd jB r (nI j)) (upd jC r v3) _ ⟨hv, wy _ (And.intro hv ?_)⟩))))
              rw [nI_clamp (n := s * 12 + j) (by omega)]
              refine br_t e.symm (br_t hlt (br_t z ?_))
              unfold wY_report_100
              exact sy_append w hc (br_t z (hY ev (nI c) (nI (r + 1)) (nI d) (upd jK r 3) (upd jA r (nI s)) (upd jB r (nI j)) (upd jC r v3) _ ⟨hv, congrArg ss' (nI_clamp (by omega)), R⟩))
            · obtain ⟨st', sg', pv', ss', ta', dx', dy', dr', ur', hI', hX, hY⟩ := so_ok (m := m) (ck := ck) (sM := sM) (sT := sT) (sF := sF) hI hm hs hn hj q
              have hJ' : so_J n m sS sM sT sF (upd jK r 2) (upd jA r (nI s)) (upd jB r (nI j)) (r + 1) ev (st', sg', pv', ss', ta', dx', dy', dr', ur', ck) := so_Jx hm hn hJ hev hI' (Or.inr (Or.inl ⟨rfl, ⟨hX, hY⟩⟩))
              have R : i_Rel (k + 5) (nI n, ev, nI m, ck, nI c, nI (r + 1), nI d, sS, sM, sT, sF, st', sg', pv', ss', ta', dx', dr', ur', upd jK r 2, upd jA r (nI s), upd jB r (nI j), upd jC r v3) (nI m, nI c, nI n, ev, ck, nI (r + 1), nI d, sS, sM, sT, sF, st', sg', pv', ss', ta', dy', dr', ur', upd jK r 2, upd jA r (nI s), upd jB r (nI j), upd jC r v3) :=
                sr_mk hn hm hc (by omega) (by omega) hT hI' hJ'
              refine br_t e (br_t hlt (br_f z (sx_append (by omega) (hX ev (nI c) (nI (r + 1)) (nI d) (upd jK r 2) (upd jA r (nI s)) (upd jB r (nI j)) (upd jC r v3) _ ⟨hv, wy _ (And.intro hv ?_)⟩))))
              rw [nI_clamp (n := s * 12 + j) (by omega)]
              refine br_t e.symm (br_t hlt (br_f z ?_))
              unfold wY_report_100
              exact sy_append w hc (br_f z (hY ev (nI c) (nI (r + 1)) (nI d) (upd jK r 2) (upd jA r (nI s)) (upd jB r (nI j)) (upd jC r v3) _ ⟨hv, congrArg ss' (nI_clamp (by omega)), R⟩))
          · have hlt : ¬ nI r < nI c := nI_nlt (by omega) (by omega)
            refine br_t e (br_f hlt (wy _ (And.intro hv ?_)))
            rw [nI_clamp (n := s * 12 + j) (by omega)]
            exact br_t e.symm (br_f hlt ⟨rfl, J⟩)
        · refine br_f e (wy _ (And.intro hv ?_))
          rw [nI_clamp (n := s * 12 + j) (by omega)]
          exact br_f (fun z => e z.symm) ⟨rfl, J⟩
      · refine sx_infl_f hk9 q (br_t rfl (br_f h1 (br_t h2 (br_f h3 (br_t h4 (nm_r (sq_ci s j) ⟨hv, ?_⟩))))))
        rw [nI_clamp (n := s * 12 + j) (by omega)]
        exact br_f (fun z => q (Or.inl z)) ⟨hv, br_f (fun z => q (Or.inr z)) ⟨rfl, J⟩⟩
