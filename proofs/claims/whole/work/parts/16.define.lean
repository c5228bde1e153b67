/-! defineStep -/
theorem sr_ch {v2 v3 v4 : Int32} {R M : Prop} (hb : ¬ (¬ v2 < 1 ∧ v2 ≤ 4 ∧ ¬ v3 < 1 ∧ v3 ≤ 15 ∧ ¬ v4 < 0 ∧ v4 ≤ 3) → R) (hm : (¬ v2 < 1 ∧ v2 ≤ 4 ∧ ¬ v3 < 1 ∧ v3 ≤ 15 ∧ ¬ v4 < 0 ∧ v4 ≤ 3) → M) :
    (v2 < 1 → R) ∧ (¬ v2 < 1 → (v2 ≤ 4 → (v3 < 1 → R) ∧ (¬ v3 < 1 → (v3 ≤ 15 → (v4 < 0 → R) ∧ (¬ v4 < 0 → (v4 ≤ 3 → M) ∧ (¬ v4 ≤ 3 → R))) ∧ (¬ v3 ≤ 15 → R))) ∧ (¬ v2 ≤ 4 → R)) :=
  br_c (fun a => hb (fun z => z.1 a)) (fun a => br_c (fun b => br_c (fun x => hb (fun z => z.2.2.1 x)) (fun x => br_c (fun y => br_c (fun e => hb (fun z => z.2.2.2.2.1 e)) (fun e => br_c (fun f => hm ⟨a, b, x, y, e, f⟩) (fun f => hb (fun z => f z.2.2.2.2.2))))
    (fun y => hb (fun z => y z.2.2.2.1)))) (fun b => hb (fun z => b z.2.1)))
theorem i_vc_defineStep {k : Nat} {u : SX} {v : SY} (I : i_Rel k u v) (hk : k + 5 ≤ 2562) (v1 : Int32) (v2 : Int32) (v3 : Int32) (v4 : Int32) : wpX_defineStep (fun r u' => wpY_defineStep (fun r' v' => r' = r ∧ i_Rel (k + 5) u' v') v v1 v2 v3 v4) u v1 v2 v3 v4 := by
  have J := i_up I
  have I' := I
  obtain ⟨n, m, c, r, d, sS, sM, sT, sF, st, sg, pv, ss, ta, dx, dy, dr, ur, jK, jA, jB, jC, ev, ck, hn, hm, hc, hr, hd, hT, hI, hJ, rfl, rfl⟩ := I'
  by_cases he : ev = 0
  · by_cases h12 : n = 12
    · have e12 : nI n = 12 := by rw [h12]; rfl
      exact br_t he (br_t e12 (br_t he (br_t e12 ⟨rfl, J⟩)))
    · have n12 : ¬ nI n = 12 := fun z => h12 ((nI_eq (b := 12) (by omega) (by omega)).mp z)
      have hn' : n < 12 := by omega
      rcases hJ with ⟨_, ep, h4⟩ | ⟨hx, _⟩
      · injection ep with ep1 ep
        injection ep with ep2 ep
        injection ep with ep3 ep
        injection ep with ep4 ep
        injection ep with ep5 ep
        injection ep with ep6 ep
        injection ep with ep7 ep
        injection ep with ep8 ep
        injection ep with ep9 ep10
        subst ep1 ep2 ep3 ep4 ep5 ep6 ep7 ep8 ep9 ep10
        have acc : sq_tp (n + 1) (upd sS n v1) (upd sF n v4) → sq_hp sS sF v1 n = 0 → ((v4 &&& 2) = 0 ∨ sq_ct sS v1 n = 0) → (¬ v2 < 1 ∧ v2 ≤ 4 ∧ ¬ v3 < 1 ∧ v3 ≤ 15 ∧ ¬ v4 < 0 ∧ v4 ≤ 3) →
            wY_defineStep_62 (fun r' v' => r' = nI n ∧ i_Rel (k + 5) (nI (n + 1), ev, nI m, (so_Z (sq_cs jA r)).2.2.2.2.2.2.2.2.2, nI c, nI r, nI d, upd sS n v1, upd sM n v2, upd sT n v3, upd sF n v4, (so_Z (sq_cs jA r)).1, (so_Z (sq_cs jA r)).2.1, (so_Z (sq_cs jA r)).2.2.1, (so_Z (sq_cs jA r)).2.2.2.1, (so_Z (sq_cs jA r)).2.2.2.2.1, (so_Z (sq_cs jA r)).2.2.2.2.2.1, (so_Z (sq_cs jA r)).2.2.2.2.2.2.2.1, (so_Z (sq_cs jA r)).2.2.2.2.2.2.2.2.1, jK, jA, jB, jC) v') v1 v2 v3 v4 (nI m) (nI c) (nI n) ev ((so_Z (sq_cs jA r)).2.2.2.2.2.2.2.2.2) (nI r) (nI d) sS sM sT sF ((so_Z (sq_cs jA r)).1) ((so_Z (sq_cs jA r)).2.1) ((so_Z (sq_cs jA r)).2.2.1) ((so_Z (sq_cs jA r)).2.2.2.1) ((so_Z (sq_cs jA r)).2.2.2.2.1) ((so_Z (sq_cs jA r)).2.2.2.2.2.2.1) ((so_Z (sq_cs jA r)).2.2.2.2.2.2.2.1) ((so_Z (sq_cs jA r)).2.2.2.2.2.2.2.2.1) jK jA jB jC :=
          fun hT' hp hq ok => sr_ch (fun z => absurd ok z) (fun _ => sy_dsA hn' hp hq ⟨rfl, sr_mk (by omega) hm hc hr hd hT' sq_iv0 (Or.inl ⟨he, rfl, h4⟩)⟩)
        have ref : ((¬ (v4 &&& 2) = 0 ∧ 0 < sq_ct sS v1 n) ∨ ((v4 &&& 2) = 0 ∧ ¬ sq_hp sS sF v1 n = 0)) → (¬ v2 < 1 ∧ v2 ≤ 4 ∧ ¬ v3 < 1 ∧ v3 ≤ 15 ∧ ¬ v4 < 0 ∧ v4 ≤ 3) →
            wY_defineStep_62 (fun r' v' => r' = -1 ∧ i_Rel (k + 5) (nI n, ev, nI m, (so_Z (sq_cs jA r)).2.2.2.2.2.2.2.2.2, nI c, nI r, nI d, sS, sM, sT, sF, (so_Z (sq_cs jA r)).1, (so_Z (sq_cs jA r)).2.1, (so_Z (sq_cs jA r)).2.2.1, (so_Z (sq_cs jA r)).2.2.2.1, (so_Z (sq_cs jA r)).2.2.2.2.1, (so_Z (sq_cs jA r)).2.2.2.2.2.1, (so_Z (sq_cs jA r)).2.2.2.2.2.2.2.1, (so_Z (sq_cs jA r)).2.2.2.2.2.2.2.2.1, jK, jA, jB, jC) v') v1 v2 v3 v4 (nI m) (nI c) (nI n) ev ((so_Z (sq_cs jA r)).2.2.2.2.2.2.2.2.2) (nI r) (nI d) sS sM sT sF ((so_Z (sq_cs jA r)).1) ((so_Z (sq_cs jA r)).2.1) ((so_Z (sq_cs jA r)).2.2.1) ((so_Z (sq_cs jA r)).2.2.2.1) ((so_Z (sq_cs jA r)).2.2.2.2.1) ((so_Z (sq_cs jA r)).2.2.2.2.2.2.1) ((so_Z (sq_cs jA r)).2.2.2.2.2.2.2.1) ((so_Z (sq_cs jA r)).2.2.2.2.2.2.2.2.1) jK jA jB jC :=
          fun hb ok => sr_ch (fun z => absurd ok z) (fun _ => sy_dsR hn' hb ⟨rfl, J⟩)
        have bad : ¬ (¬ v2 < 1 ∧ v2 ≤ 4 ∧ ¬ v3 < 1 ∧ v3 ≤ 15 ∧ ¬ v4 < 0 ∧ v4 ≤ 3) →
            wY_defineStep_62 (fun r' v' => r' = -1 ∧ i_Rel (k + 5) (nI n, ev, nI m, (so_Z (sq_cs jA r)).2.2.2.2.2.2.2.2.2, nI c, nI r, nI d, sS, sM, sT, sF, (so_Z (sq_cs jA r)).1, (so_Z (sq_cs jA r)).2.1, (so_Z (sq_cs jA r)).2.2.1, (so_Z (sq_cs jA r)).2.2.2.1, (so_Z (sq_cs jA r)).2.2.2.2.1, (so_Z (sq_cs jA r)).2.2.2.2.2.1, (so_Z (sq_cs jA r)).2.2.2.2.2.2.2.1, (so_Z (sq_cs jA r)).2.2.2.2.2.2.2.2.1, jK, jA, jB, jC) v') v1 v2 v3 v4 (nI m) (nI c) (nI n) ev ((so_Z (sq_cs jA r)).2.2.2.2.2.2.2.2.2) (nI r) (nI d) sS sM sT sF ((so_Z (sq_cs jA r)).1) ((so_Z (sq_cs jA r)).2.1) ((so_Z (sq_cs jA r)).2.2.1) ((so_Z (sq_cs jA r)).2.2.2.1) ((so_Z (sq_cs jA r)).2.2.2.2.1) ((so_Z (sq_cs jA r)).2.2.2.2.2.2.1) ((so_Z (sq_cs jA r)).2.2.2.2.2.2.2.1) ((so_Z (sq_cs jA r)).2.2.2.2.2.2.2.2.1) jK jA jB jC :=
          fun no => sr_ch (fun _ => ⟨rfl, J⟩) (fun z => absurd z no)
        refine br_t he (br_f n12 ?_)
        rcases n with _ | q
        · refine sx_ord0 (fun e => br_f (by decide) ?_) (fun e => br_t rfl (br_t he (br_f n12 (br_t rfl (br_f e ⟨rfl, J⟩)))))
          have ent : ∀ Q : Int32 → SY → Prop, wY_defineStep_62 Q v1 v2 v3 v4 (nI m) (nI c) (nI 0) ev ((so_Z (sq_cs jA r)).2.2.2.2.2.2.2.2.2) (nI r) (nI d) sS sM sT sF ((so_Z (sq_cs jA r)).1) ((so_Z (sq_cs jA r)).2.1) ((so_Z (sq_cs jA r)).2.2.1) ((so_Z (sq_cs jA r)).2.2.2.1) ((so_Z (sq_cs jA r)).2.2.2.2.1) ((so_Z (sq_cs jA r)).2.2.2.2.2.2.1) ((so_Z (sq_cs jA r)).2.2.2.2.2.2.2.1) ((so_Z (sq_cs jA r)).2.2.2.2.2.2.2.2.1) jK jA jB jC → wpY_defineStep Q (nI m, nI c, nI 0, ev, (so_Z (sq_cs jA r)).2.2.2.2.2.2.2.2.2, nI r, nI d, sS, sM, sT, sF, (so_Z (sq_cs jA r)).1, (so_Z (sq_cs jA r)).2.1, (so_Z (sq_cs jA r)).2.2.1, (so_Z (sq_cs jA r)).2.2.2.1, (so_Z (sq_cs jA r)).2.2.2.2.1, (so_Z (sq_cs jA r)).2.2.2.2.2.2.1, (so_Z (sq_cs jA r)).2.2.2.2.2.2.2.1, (so_Z (sq_cs jA r)).2.2.2.2.2.2.2.2.1, jK, jA, jB, jC) v1 v2 v3 v4 :=
            fun Q h => br_t he (br_f n12 (br_t rfl (br_t e h)))
          refine sr_ch (fun no => ent _ (bad no)) (fun ok => sx_br0 (br_t rfl ?_))
          have hT' : sq_tp (0 + 1) (upd sS 0 v1) (upd sF 0 v4) := by rw [e]; exact sq_tp1
          have A := ent _ (acc hT' rfl (Or.inr rfl) ok)
          simp (disch := omega) only [forall_eq, sq_ci, nI_clamp, sq_vin, true_and, nI_1]
          exact A
        · have vq : vp_in (nI q) 12 := vp_in_nI (by omega) (by omega)
          have nz : ¬ nI (q + 1) = 0 := nI_ne0 (by omega) (by omega)
          refine sx_ordS (by omega) (fun e => br_f (by decide) ?_) (fun e => br_t rfl (br_t he (br_f n12 (br_f nz ?_))))
          · have ent : ∀ Q : Int32 → SY → Prop, wY_defineStep_62 Q v1 v2 v3 v4 (nI m) (nI c) (nI (q + 1)) ev ((so_Z (sq_cs jA r)).2.2.2.2.2.2.2.2.2) (nI r) (nI d) sS sM sT sF ((so_Z (sq_cs jA r)).1) ((so_Z (sq_cs jA r)).2.1) ((so_Z (sq_cs jA r)).2.2.1) ((so_Z (sq_cs jA r)).2.2.2.1) ((so_Z (sq_cs jA r)).2.2.2.2.1) ((so_Z (sq_cs jA r)).2.2.2.2.2.2.1) ((so_Z (sq_cs jA r)).2.2.2.2.2.2.2.1) ((so_Z (sq_cs jA r)).2.2.2.2.2.2.2.2.1) jK jA jB jC → wpY_defineStep Q (nI m, nI c, nI (q + 1), ev, (so_Z (sq_cs jA r)).2.2.2.2.2.2.2.2.2, nI r, nI d, sS, sM, sT, sF, (so_Z (sq_cs jA r)).1, (so_Z (sq_cs jA r)).2.1, (so_Z (sq_cs jA r)).2.2.1, (so_Z (sq_cs jA r)).2.2.2.1, (so_Z (sq_cs jA r)).2.2.2.2.1, (so_Z (sq_cs jA r)).2.2.2.2.2.2.1, (so_Z (sq_cs jA r)).2.2.2.2.2.2.2.1, (so_Z (sq_cs jA r)).2.2.2.2.2.2.2.2.1, jK, jA, jB, jC) v1 v2 v3 v4 := by
              intro Q h
              refine br_t he (br_f n12 (br_f nz ?_))
              simp (disch := omega) only [nI_pred, forall_eq, sq_ci, nI_clamp, sq_vin, true_and, nI_1]
              by_cases a : v1 = sS q
              · exact br_t a h
              · rcases e with e | e
                · exact absurd e a
                · exact br_f a (br_t e h)
            refine sr_ch (fun no => ent _ (bad no)) (fun ok => ?_)
            by_cases a : sS q = v1
            · refine sx_brS (by omega) a (fun f4 fq => br_t rfl ?_) (fun nf => br_f (by decide) (ent _ (ref ?_ ok)))
              · have hT' : sq_tp (q + 1 + 1) (upd sS (q + 1) v1) (upd sF (q + 1) v4) := by rw [← a]; exact sq_tpA hT f4 fq
                have hp : sq_hp sS sF v1 (q + 1) = 0 := sq_hp0 (q + 1) (fun j hj ej => sq_tpS hT fq (by omega) j hj (ej.trans a.symm))
                have A := ent _ (acc hT' hp (Or.inl f4) ok)
                simp (disch := omega) only [forall_eq, sq_ci, nI_clamp, sq_vin, true_and, nI_1]
                exact A
              · by_cases f4 : (v4 &&& 2) = 0
                · refine Or.inr ⟨f4, ?_⟩
                  rw [sq_hpS, if_pos ⟨a, fun z => nf ⟨f4, z⟩⟩]
                  decide
                · refine Or.inl ⟨f4, ?_⟩
                  rw [sq_ctS, if_pos a]
                  omega
            · have e1 : v1 = sS q + 1 := by
                rcases e with e | e
                · exact absurd e.symm a
                · exact e
              have hT' : sq_tp (q + 1 + 1) (upd sS (q + 1) v1) (upd sF (q + 1) v4) := by rw [e1]; exact sq_tpB hT
              have none1 : ∀ j, j < q + 1 → ¬ sS j = v1 := by rw [e1]; exact sq_tpN hT (by omega)
              have A := ent _ (acc hT' (sq_hp0 (q + 1) (fun j hj ej => absurd ej (none1 j hj))) (Or.inr (sq_ct0 (q + 1) none1)) ok)
              refine sx_brN (by omega) a (br_t rfl ?_)
              simp (disch := omega) only [forall_eq, sq_ci, nI_clamp, sq_vin, true_and, nI_1]
              exact A
          · simp (disch := omega) only [nI_pred, forall_eq, sq_ci, nI_clamp, sq_vin, true_and, nI_1]
            exact br_f (fun z => e (Or.inl z)) (br_f (fun z => e (Or.inr z)) J)
      · exact absurd he hx
  · exact br_f he (br_f he ⟨rfl, J⟩)
