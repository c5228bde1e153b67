/-! a crash on both sides: all slots freed, then the kept records once more -/
section CRASH
variable {n m : Nat} {ck : Int32} {sS sM sT sF : Nat → Int32}
theorem so_crA : ∀ (d i : Nat) (st sg pv ss ta dx dy dr ur : Nat → Int32), i + d = 8 → sq_iv n sS st sg pv ss ta dx dy dr ur → (∀ t, t < i → st t = 0) →
      (∀ (ev cp rc du : Int32) (jK jA jB jC : Nat → Int32) (post : Int32 → SX → Prop) (x : Int32), (∃ N, wX_crash_49 post x du N 0 (nI n) ev (nI m) (((so_Z ck)).2.2.2.2.2.2.2.2.2) cp rc du sS sM sT sF (((so_Z ck)).1) (((so_Z ck)).2.1) (((so_Z ck)).2.2.1) (((so_Z ck)).2.2.2.1) (((so_Z ck)).2.2.2.2.1) (((so_Z ck)).2.2.2.2.2.1) (((so_Z ck)).2.2.2.2.2.2.2.1) (((so_Z ck)).2.2.2.2.2.2.2.2.1) jK jA jB jC) → wX_crash_25 post x (d + 1) (nI i) (nI n) ev (nI m) ck cp rc du sS sM sT sF st sg pv ss ta dx dr ur jK jA jB jC) ∧
      (∀ (ev cp rc du : Int32) (jK jA jB jC : Nat → Int32) (post : Int32 → SY → Prop) (x : Int32), (∃ N, wY_crash_44 post x N 0 (nI m) cp (nI n) ev (((so_Z ck)).2.2.2.2.2.2.2.2.2) rc du sS sM sT sF (((so_Z ck)).1) (((so_Z ck)).2.1) (((so_Z ck)).2.2.1) (((so_Z ck)).2.2.2.1) (((so_Z ck)).2.2.2.2.1) (((so_Z ck)).2.2.2.2.2.2.1) (((so_Z ck)).2.2.2.2.2.2.2.1) (((so_Z ck)).2.2.2.2.2.2.2.2.1) jK jA jB jC) → wY_crash_25 post x (d + 1) (nI i) (nI m) cp (nI n) ev ck rc du sS sM sT sF st sg pv ss ta dy dr ur jK jA jB jC) := by
  intro d
  induction d with
  | zero =>
    intro i st sg pv ss ta dx dy dr ur hi hI hk
    have hz : ∀ t, st t = 0 := fun t => by
      by_cases e : t < i
      · exact hk t e
      · exact (hI t).1 (by omega)
    obtain ⟨rfl, rfl, rfl, rfl, rfl, rfl, rfl, rfl, rfl⟩ := sq_iAll hI hz
    exact ⟨fun _ _ _ _ _ _ _ _ _ _ h => br_t (nI_le (a := 8) (by omega) (by omega)) h, fun _ _ _ _ _ _ _ _ _ _ h => br_t (nI_le (a := 8) (by omega) (by omega)) h⟩
  | succ d ih =>
    intro i st sg pv ss ta dx dy dr ur hi hI hk
    obtain ⟨st', sg', pv', ss', ta', dx', dy', dr', ur', hI', e, hX, hY⟩ := so_free (m := m) (ck := ck) (sM := sM) (sT := sT) (sF := sF) hI (show i < 8 by omega)
    have hk' : ∀ t, t < i + 1 → st' t = 0 := fun t ht => by
      rw [e]
      by_cases q : t = i
      · rw [q, pk_us]
      · rw [pk_un q]; exact hk t (by omega)
    obtain ⟨jX, jY⟩ := ih (i + 1) st' sg' pv' ss' ta' dx' dy' dr' ur' (by omega) hI' hk'
    have hg : ¬ (8 : Int32) ≤ nI i := nI_ge (b := 8) (by omega) (by omega)
    exact ⟨fun ev cp rc du jK jA jB jC post x h => br_f hg (hX ev cp rc du jK jA jB jC _ (nm_r (nI_1 i) (jX ev cp rc du jK jA jB jC post x h))),
      fun ev cp rc du jK jA jB jC post x h => br_f hg (hY ev cp rc du jK jA jB jC _ (nm_r (nI_1 i) (jY ev cp rc du jK jA jB jC post x h)))⟩
theorem so_crX {jK jA jB : Nat → Int32} {D : Nat} {C : Nat → so_P} (hD : D ≤ 128) (hC : so_C n m sS sM sT sF jK jA jB D C) (ev cp rc du : Int32) (jC : Nat → Int32) (post : Int32 → SX → Prop) (x : Int32)
    (h : post x (so_X n m sS sM sT sF (C D) ev cp rc du jK jA jB jC)) : ∀ d i, i + d = D → wX_crash_49 post x (nI D) (d + 1) (nI i) (nI n) ev (nI m) (((C i)).2.2.2.2.2.2.2.2.2) cp rc du sS sM sT sF (((C i)).1) (((C i)).2.1) (((C i)).2.2.1) (((C i)).2.2.2.1) (((C i)).2.2.2.2.1) (((C i)).2.2.2.2.2.1) (((C i)).2.2.2.2.2.2.2.1) (((C i)).2.2.2.2.2.2.2.2.1) jK jA jB jC := by
  intro d
  induction d with
  | zero =>
    intro i hi
    have e : i = D := by omega
    rw [e]
    exact br_t (nI_le (Nat.le_refl D) (by omega)) h
  | succ d ih =>
    intro i hi
    have t := ih (i + 1) (by omega)
    have hv : vp_in (nI i) 128 := vp_in_nI (by omega) (by omega)
    refine br_f (nI_ge (by omega) (by omega)) ⟨hv, ?_⟩
    rw [nI_clamp (n := i) (by omega)]
    refine nm_e ⟨hv, nm_e ⟨hv, nm_e ?_⟩⟩
    rcases hC.2.2 i (by omega) with ⟨k, s, hs, ha, h0, hl, hR⟩ | ⟨k, hR⟩ | ⟨k, hR⟩ | ⟨k, hR⟩ | ⟨k, s, hs, ha, hR⟩
    · rw [ha]
      exact br_t k (hR.1 ev cp rc du jK jA jB jC _ (nm_r (nI_1 i) t))
    · rw [k]
      exact br_f (by decide) (br_t rfl (hR.1 ev cp rc du jK jA jB jC _ (nm_r (nI_1 i) t)))
    · rw [k]
      exact br_f (by decide) (br_f (by decide) (br_t rfl (hR.1 ev cp rc du jK jA jB jC _ (nm_r (nI_1 i) t))))
    · rw [k]
      exact br_f (by decide) (br_f (by decide) (br_f (by decide) (br_t rfl (hR.1 ev cp rc du jK jA jB jC _ (nm_r (nI_1 i) t)))))
    · rw [k, ha]
      exact br_f (by decide) (br_f (by decide) (br_f (by decide) (br_f (by decide) (hR.1 ev cp rc du jK jA jB jC _ (nm_r (nI_1 i) t)))))
theorem so_crY {jK jA jB : Nat → Int32} {D : Nat} {C : Nat → so_P} (hm : m ≤ 8) (hD : D ≤ 128) (hC : so_C n m sS sM sT sF jK jA jB D C) (ev cp du : Int32) (jC : Nat → Int32) (post : Int32 → SY → Prop) (x : Int32)
    (h : post x (so_Y n m sS sM sT sF (C D) ev cp (nI D) du jK jA jB jC)) : ∀ d i, i + d = D → wY_crash_44 post x (d + 1) (nI i) (nI m) cp (nI n) ev (((C i)).2.2.2.2.2.2.2.2.2) (nI D) du sS sM sT sF (((C i)).1) (((C i)).2.1) (((C i)).2.2.1) (((C i)).2.2.2.1) (((C i)).2.2.2.2.1) (((C i)).2.2.2.2.2.2.1) (((C i)).2.2.2.2.2.2.2.1) (((C i)).2.2.2.2.2.2.2.2.1) jK jA jB jC := by
  intro d
  induction d with
  | zero =>
    intro i hi
    have e : i = D := by omega
    rw [e]
    exact br_t (nI_le (Nat.le_refl D) (by omega)) h
  | succ d ih =>
    intro i hi
    have t := ih (i + 1) (by omega)
    have hv : vp_in (nI i) 128 := vp_in_nI (by omega) (by omega)
    refine br_f (nI_ge (by omega) (by omega)) (br_f (nI_ge (b := 128) (by omega) (by omega)) ⟨hv, ?_⟩)
    rw [nI_clamp (n := i) (by omega)]
    refine nm_e ?_
    rcases hC.2.2 i (by omega) with ⟨k, s, hs, ha, h0, hl, hR⟩ | ⟨k, hR⟩ | ⟨k, hR⟩ | ⟨k, hR⟩ | ⟨k, s, hs, ha, hR⟩
    · exact br_t k (sy_lf_s hm hs h0 hl (br_f (nI_pos (by omega)) (hR.2 ev cp (nI D) du jK jA jB jC _ (nm_r (nI_1 i) t))))
    · rw [k]
      exact br_f (by decide) (br_t rfl ⟨hv, hv, hR.2 ev cp (nI D) du jK jA jB jC _ (nm_r (nI_1 i) t)⟩)
    · rw [k]
      exact br_f (by decide) (br_f (by decide) (br_t rfl ⟨hv, hv, hR.2 ev cp (nI D) du jK jA jB jC _ (nm_r (nI_1 i) t)⟩))
    · rw [k]
      exact br_f (by decide) (br_f (by decide) (br_f (by decide) (br_t rfl ⟨hv, hR.2 ev cp (nI D) du jK jA jB jC _ (nm_r (nI_1 i) t)⟩)))
    · rw [k, ha]
      exact br_f (by decide) (br_f (by decide) (br_f (by decide) (br_f (by decide) (br_t rfl ⟨hv, br_f (nI_pos (by omega)) ⟨hv, br_f (nI_ge hs (by omega)) ⟨hv, hR.2 ev cp (nI D) du jK jA jB jC _ (nm_r (nI_1 i) t)⟩⟩⟩))))
theorem so_crashX {jK jA jB jC : Nat → Int32} {D : Nat} {C : Nat → so_P} {p : so_P} {ev cp rc : Int32} {post : Int32 → SX → Prop} (hD : D ≤ 128) (hI : so_I n sS p) (hC : so_C n m sS sM sT sF jK jA jB D C)
    (h : post (rc - nI D) (so_X n m sS sM sT sF (C D) ev cp (nI D) (nI D) jK jA jB jC)) : wpX_crash post (so_X n m sS sM sT sF p ev cp rc (nI D) jK jA jB jC) := by
  have t := so_crX hD hC ev cp (nI D) (nI D) jC post (rc - nI D) h D 0 (by omega)
  rw [hC.1] at t
  exact nm_e ⟨8 + 1, (so_crA (m := m) (ck := 0) (sM := sM) (sT := sT) (sF := sF) 8 0 _ _ _ _ _ _ _ _ _ (by omega) hI (fun t h => absurd h (by omega))).1 ev cp (nI D) (nI D) jK jA jB jC post (rc - nI D) ⟨D + 1, t⟩⟩
theorem so_crashY {jK jA jB jC : Nat → Int32} {D : Nat} {C : Nat → so_P} {p : so_P} {ev cp rc : Int32} {post : Int32 → SY → Prop} (hm : m ≤ 8) (hD : D ≤ 128) (hI : so_I n sS p) (hC : so_C n m sS sM sT sF jK jA jB D C)
    (h : post (rc - nI D) (so_Y n m sS sM sT sF (C D) ev cp (nI D) (nI D) jK jA jB jC)) : wpY_crash post (so_Y n m sS sM sT sF p ev cp rc (nI D) jK jA jB jC) := by
  have t := so_crY hm hD hC ev cp (nI D) jC post (rc - nI D) h D 0 (by omega)
  rw [hC.1] at t
  exact nm_e ⟨8 + 1, (so_crA (m := m) (ck := 0) (sM := sM) (sT := sT) (sF := sF) 8 0 _ _ _ _ _ _ _ _ _ (by omega) hI (fun t h => absurd h (by omega))).2 ev cp (nI D) (nI D) jK jA jB jC post (rc - nI D) ⟨D + 1, t⟩⟩
end CRASH
