/-! the steps of a slot keep what holds of all slots -/
section STEPS
variable {n s j : Nat} {sS st sg pv ss ta dx dy dr ur : Nat → Int32}
theorem sq_iDone {r : Int32} {pv' : Nat → Int32} (h : sq_iv n sS st sg pv ss ta dx dy dr ur) (hs : s < 8) (hj : j < n) (hn : n ≤ 12) (ha : ss (s * 12 + j) = 1) (hr : 0 < r) (hp : ∀ t, t ≠ s → pv' t = pv t) :
    sq_iv n sS st sg pv' (upd ss (s * 12 + j) 2) ta (upd dx (s * 12 + j) 0) dy (upd dr (s * 12 + j) r) ur := by
  have hj' : j < 12 := by omega
  refine sq_ivU h hs (fun _ _ => rfl) (fun _ _ => rfl) hp (fun t e => sq_wo hj' e) (fun _ _ => rfl) (fun t e => sq_wo hj' e) (fun _ _ => rfl) (fun t e => sq_wo hj' e) (fun _ _ => rfl) ?_
  rw [sq_wu hj', sq_wu hj', sq_wu hj']
  exact sq_vDone (h s).2 hj (by rw [sq_wi hj']; exact ha) hr
theorem sq_iUndone {r : Int32} (h : sq_iv n sS st sg pv ss ta dx dy dr ur) (hs : s < 8) (hj : j < n) (hn : n ≤ 12) (ha : ss (s * 12 + j) = 4) :
    sq_iv n sS st sg pv (upd ss (s * 12 + j) 5) ta (upd dx (s * 12 + j) 0) dy dr (upd ur (s * 12 + j) r) := by
  have hj' : j < 12 := by omega
  refine sq_ivU h hs (fun _ _ => rfl) (fun _ _ => rfl) (fun _ _ => rfl) (fun t e => sq_wo hj' e) (fun _ _ => rfl) (fun t e => sq_wo hj' e) (fun _ _ => rfl) (fun _ _ => rfl) (fun t e => sq_wo hj' e) ?_
  rw [sq_wu hj', sq_wu hj', sq_wu hj']
  exact sq_vUndone (h s).2 hj (by rw [sq_wi hj']; exact ha)
theorem sq_iFail (h : sq_iv n sS st sg pv ss ta dx dy dr ur) (hs : s < 8) (hj : j < n) (hn : n ≤ 12) (ha : ss (s * 12 + j) = 1) :
    sq_iv n sS (upd st s 2) sg pv (upd ss (s * 12 + j) 3) ta (upd dx (s * 12 + j) 0) dy dr ur := by
  have hj' : j < 12 := by omega
  refine sq_ivU h hs (fun _ e => pk_un e) (fun _ _ => rfl) (fun _ _ => rfl) (fun t e => sq_wo hj' e) (fun _ _ => rfl) (fun t e => sq_wo hj' e) (fun _ _ => rfl) (fun _ _ => rfl) (fun _ _ => rfl) ?_
  rw [sq_wu hj', sq_wu hj', pk_us]
  exact sq_vFail (h s).2 hj (by rw [sq_wi hj']; exact ha)
theorem sq_iRetry {y d : Int32} (h : sq_iv n sS st sg pv ss ta dx dy dr ur) (hs : s < 8) (hj : j < n) (hn : n ≤ 12) (ha : ss (s * 12 + j) = 1 ∨ ss (s * 12 + j) = 4) :
    sq_iv n sS st sg pv ss (upd ta (s * 12 + j) y) (upd dx (s * 12 + j) d) (upd dy (s * 12 + j) d) dr ur := by
  have hj' : j < 12 := by omega
  refine sq_ivU h hs (fun _ _ => rfl) (fun _ _ => rfl) (fun _ _ => rfl) (fun _ _ => rfl) (fun t e => sq_wo hj' e) (fun t e => sq_wo hj' e) (fun t e => sq_wo hj' e) (fun _ _ => rfl) (fun _ _ => rfl) ?_
  rw [sq_wu hj', sq_wu hj', sq_wu hj']
  exact sq_vRetry (h s).2 hj (by rw [sq_wi hj']; exact ha)
theorem sq_iComp (h : sq_iv n sS st sg pv ss ta dx dy dr ur) (hs : s < 8) (hn : n ≤ 12) (h2 : st s = 2) (ha : ∀ i, i < n → ¬ ss (s * 12 + i) = 1) :
    sq_iv n sS (upd st s 3) sg pv ss ta dx dy dr ur := by
  refine sq_ivU h hs (fun _ e => pk_un e) (fun _ _ => rfl) (fun _ _ => rfl) (fun _ _ => rfl) (fun _ _ => rfl) (fun _ _ => rfl) (fun _ _ => rfl) (fun _ _ => rfl) (fun _ _ => rfl) ?_
  have hv := (h s).2
  rw [h2] at hv
  rw [pk_us]
  exact sq_vComp hv (fun i hi => by rw [sq_wi (by omega)]; exact ha i hi)
theorem sq_iRoll (h : sq_iv n sS st sg pv ss ta dx dy dr ur) (hs : s < 8) (hn : n ≤ 12) (ha : ∀ i, i < n → ¬ ss (s * 12 + i) = 1) :
    sq_iv n sS (upd st s 5) sg pv ss ta dx dy dr ur := by
  refine sq_ivU h hs (fun _ e => pk_un e) (fun _ _ => rfl) (fun _ _ => rfl) (fun _ _ => rfl) (fun _ _ => rfl) (fun _ _ => rfl) (fun _ _ => rfl) (fun _ _ => rfl) (fun _ _ => rfl) ?_
  rw [pk_us]
  exact sq_vRoll (h s).2 (fun i hi => by rw [sq_wi (by omega)]; exact ha i hi)
theorem sq_iUndo {y d : Int32} (h : sq_iv n sS st sg pv ss ta dx dy dr ur) (hs : s < 8) (hj : j < 12) (hx : st s = 3 ∨ st s = 5) :
    sq_iv n sS st sg pv (upd ss (s * 12 + j) 4) (upd ta (s * 12 + j) y) (upd dx (s * 12 + j) d) (upd dy (s * 12 + j) d) dr ur := by
  refine sq_ivU h hs (fun _ _ => rfl) (fun _ _ => rfl) (fun _ _ => rfl) (fun t e => sq_wo hj e) (fun t e => sq_wo hj e) (fun t e => sq_wo hj e) (fun t e => sq_wo hj e) (fun _ _ => rfl) (fun _ _ => rfl) ?_
  rw [sq_wu hj, sq_wu hj, sq_wu hj, sq_wu hj]
  exact sq_vUndo (h s).2 hx
theorem sq_iCommit (h : sq_iv n sS st sg pv ss ta dx dy dr ur) (hs : s < 8) (hn : n ≤ 12) (h1 : st s = 1) (hd : ∀ i, i < n → sS i = sg s → ss (s * 12 + i) = 2) :
    sq_iv n sS (upd st s 4) sg pv ss ta dx dy dr ur := by
  refine sq_ivU h hs (fun _ e => pk_un e) (fun _ _ => rfl) (fun _ _ => rfl) (fun _ _ => rfl) (fun _ _ => rfl) (fun _ _ => rfl) (fun _ _ => rfl) (fun _ _ => rfl) (fun _ _ => rfl) ?_
  have hv := (h s).2
  rw [h1] at hv
  rw [pk_us]
  exact sq_vCommit hv (fun i hi e => by rw [sq_wi (by omega)]; exact hd i hi e)
/-- a finished stage has no step ACTIVE -/
theorem sq_iNoAct (h : sq_iv n sS st sg pv ss ta dx dy dr ur) (hn : n ≤ 12) (hd : ∀ i, i < n → sS i = sg s → ss (s * 12 + i) = 2) :
    ∀ i, i < n → ¬ ss (s * 12 + i) = 1 := by
  intro i hi h1
  have hB := (h s).2.2.1 i hi (by rw [sq_wi (by omega)]; exact h1)
  exact absurd (h1.symm.trans (hd i hi hB.2)) (by decide)
theorem sq_iIssue {c : Nat → Bool} {d : Nat → Int32} {g : Int32} (h : sq_iv n sS st sg pv ss ta dx dy dr ur) (hs : s < 8) (hn : n ≤ 12) (h1 : st s = 1)
    (ha : ∀ i, i < n → ¬ ss (s * 12 + i) = 1) (hc : ∀ i, c i = true → sS i = g) :
    sq_iv n sS st (upd sg s g) pv (sq_mx c (fun _ => 1) s n ss) (sq_mx c (fun _ => 1) s n ta) (sq_mx c d s n dx) (sq_mx c d s n dy) dr ur := by
  refine sq_ivU h hs (fun _ _ => rfl) (fun _ e => pk_un e) (fun _ _ => rfl) (fun t e => sq_wmo hn e) (fun t e => sq_wmo hn e) (fun t e => sq_wmo hn e) (fun t e => sq_wmo hn e) (fun _ _ => rfl) (fun _ _ => rfl) ?_
  have hv := (h s).2
  rw [h1] at hv
  rw [sq_wm hn, sq_wm hn, sq_wm hn, sq_wm hn, pk_us, h1]
  exact sq_vIssue hv (fun i hi => by rw [sq_wi (by omega)]; exact ha i hi) hc
theorem sq_iStart {c : Nat → Bool} {d : Nat → Int32} (h : sq_iv n sS st sg pv ss ta dx dy dr ur) (hs : s < 8) (hn : n ≤ 12) (h0 : st s = 0)
    (hc : ∀ i, c i = true → sS i = 0) :
    sq_iv n sS (upd st s 1) (upd sg s 0) (upd pv s 0) (sq_mx c (fun _ => 1) s n ss) (sq_mx c (fun _ => 1) s n ta) (sq_mx c d s n dx) (sq_mx c d s n dy) dr ur := by
  refine sq_ivU h hs (fun _ e => pk_un e) (fun _ e => pk_un e) (fun _ e => pk_un e) (fun t e => sq_wmo hn e) (fun t e => sq_wmo hn e) (fun t e => sq_wmo hn e) (fun t e => sq_wmo hn e) (fun _ _ => rfl) (fun _ _ => rfl) ?_
  have hv := (h s).2
  rw [h0] at hv
  obtain ⟨hw, hn1⟩ := sq_vRun hv hn
  rw [sq_wm hn, sq_wm hn, sq_wm hn, sq_wm hn, pk_us, pk_us, pk_us]
  exact sq_vIssue hw hn1 hc
theorem sq_iFree (h : sq_iv n sS st sg pv ss ta dx dy dr ur) (hs : s < 8) :
    sq_iv n sS (upd st s 0) (upd sg s 0) (upd pv s 0) (sq_mx (fun _ => true) (fun _ => 0) s 12 ss) (sq_mx (fun _ => true) (fun _ => 0) s 12 ta) (sq_mx (fun _ => true) (fun _ => 0) s 12 dx)
      (sq_mx (fun _ => true) (fun _ => 0) s 12 dy) (sq_mx (fun _ => true) (fun _ => 0) s 12 dr) (sq_mx (fun _ => true) (fun _ => 0) s 12 ur) := by
  refine sq_ivU h hs (fun _ e => pk_un e) (fun _ e => pk_un e) (fun _ e => pk_un e) (fun t e => sq_wmo (Nat.le_refl 12) e) (fun t e => sq_wmo (Nat.le_refl 12) e) (fun t e => sq_wmo (Nat.le_refl 12) e)
    (fun t e => sq_wmo (Nat.le_refl 12) e) (fun t e => sq_wmo (Nat.le_refl 12) e) (fun t e => sq_wmo (Nat.le_refl 12) e) ?_
  rw [sq_wz, sq_wz, sq_wz, sq_wz, sq_wz, sq_wz, pk_us, pk_us, pk_us]
  exact sq_v0
/-- what an index of a cell says: slot and step -/
theorem sq_allz {a : Nat → Int32} (h : ∀ t i, i < 12 → sq_w a t i = 0) : a = fun _ => 0 := by
  funext k
  have h1 := h (k / 12) (k % 12) (Nat.mod_lt _ (by omega))
  rw [sq_wi (Nat.mod_lt _ (by omega)), show k / 12 * 12 + k % 12 = k from by omega] at h1
  exact h1
theorem sq_iAll (h : sq_iv n sS st sg pv ss ta dx dy dr ur) (hz : ∀ t, st t = 0) :
    st = (fun _ => 0) ∧ sg = (fun _ => 0) ∧ pv = (fun _ => 0) ∧ ss = (fun _ => 0) ∧ ta = (fun _ => 0) ∧ dx = (fun _ => 0) ∧ dy = (fun _ => 0) ∧ dr = (fun _ => 0) ∧ ur = (fun _ => 0) := by
  have hA := fun t => (h t).2.1 (hz t)
  exact ⟨funext hz, funext fun t => (hA t).1, funext fun t => (hA t).2.1, sq_allz fun t i hi => ((hA t).2.2 i hi).1, sq_allz fun t i hi => ((hA t).2.2 i hi).2.1, sq_allz fun t i hi => ((hA t).2.2 i hi).2.2.1,
    sq_allz fun t i hi => ((hA t).2.2 i hi).2.2.2.1, sq_allz fun t i hi => ((hA t).2.2 i hi).2.2.2.2.1, sq_allz fun t i hi => ((hA t).2.2 i hi).2.2.2.2.2⟩
/-- a free slot's cells are 0 -/
theorem sq_iZ (h : sq_iv n sS st sg pv ss ta dx dy dr ur) (h0 : st s = 0) :
    sg s = 0 ∧ pv s = 0 ∧ sq_mx (fun _ => true) (fun _ => 0) s 12 ss = ss ∧ sq_mx (fun _ => true) (fun _ => 0) s 12 ta = ta ∧ sq_mx (fun _ => true) (fun _ => 0) s 12 dy = dy ∧ sq_mx (fun _ => true) (fun _ => 0) s 12 dr = dr ∧ sq_mx (fun _ => true) (fun _ => 0) s 12 ur = ur := by
  have hA := (h s).2.1 h0
  exact ⟨hA.1, hA.2.1, sq_mz fun i hi => (hA.2.2 i hi).1, sq_mz fun i hi => (hA.2.2 i hi).2.1, sq_mz fun i hi => (hA.2.2 i hi).2.2.2.1, sq_mz fun i hi => (hA.2.2 i hi).2.2.2.2.1, sq_mz fun i hi => (hA.2.2 i hi).2.2.2.2.2⟩
/-- the cell's facts by its index -/
theorem sq_iB (h : sq_iv n sS st sg pv ss ta dx dy dr ur) (hn : n ≤ 12) (hj : j < n) (h1 : ss (s * 12 + j) = 1) : st s = 1 ∨ st s = 2 :=
  ((h s).2.2.1 j hj (by rw [sq_wi (by omega)]; exact h1)).1
theorem sq_iC (h : sq_iv n sS st sg pv ss ta dx dy dr ur) (hn : n ≤ 12) (hj : j < n) (h1 : ss (s * 12 + j) = 2) : 0 < dr (s * 12 + j) := by
  have := (h s).2.2.2.1 j hj (by rw [sq_wi (by omega)]; exact h1)
  rw [sq_wi (by omega)] at this
  exact this
theorem sq_iD (h : sq_iv n sS st sg pv ss ta dx dy dr ur) (hn : n ≤ 12) (hj : j < n) (h1 : ss (s * 12 + j) = 4) : st s = 3 ∨ st s = 5 :=
  (h s).2.2.2.2.1 j hj (by rw [sq_wi (by omega)]; exact h1)
theorem sq_iDn (h : sq_iv n sS st sg pv ss ta dx dy dr ur) (hn : n ≤ 12) (hx : st s = 3 ∨ st s = 5) : ∀ i, i < n → ¬ ss (s * 12 + i) = 1 := by
  intro i hi h1
  rcases sq_iB h hn hi h1 with a | a <;> rcases hx with b | b <;> exact absurd (a.symm.trans b) (by decide)
theorem sq_iE (h : sq_iv n sS st sg pv ss ta dx dy dr ur) (hj : j < 12) (h1 : ss (s * 12 + j) = 1 ∨ ss (s * 12 + j) = 4) : dx (s * 12 + j) = dy (s * 12 + j) := by
  have := ((h s).2.2.2.2.2 j hj).1 (by rw [sq_wi hj]; exact h1)
  rw [sq_wi hj, sq_wi hj] at this
  exact this
theorem sq_iE0 (h : sq_iv n sS st sg pv ss ta dx dy dr ur) (hj : j < 12) (h1 : ¬ (ss (s * 12 + j) = 1 ∨ ss (s * 12 + j) = 4)) : dx (s * 12 + j) = 0 := by
  have := ((h s).2.2.2.2.2 j hj).2 (by rw [sq_wi hj]; exact h1)
  rw [sq_wi hj] at this
  exact this
end STEPS
