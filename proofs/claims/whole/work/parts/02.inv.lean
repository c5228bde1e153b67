/-! what holds of a slot: x its state, g its stage, p its pivot mark, then the views of its cells -/
def sq_v (n : Nat) (sS : Nat → Int32) (x g p : Int32) (ss ta dx dy dr ur : Nat → Int32) : Prop :=
  (x = 0 → g = 0 ∧ p = 0 ∧ ∀ i, i < 12 → ss i = 0 ∧ ta i = 0 ∧ dx i = 0 ∧ dy i = 0 ∧ dr i = 0 ∧ ur i = 0) ∧
  (∀ i, i < n → ss i = 1 → (x = 1 ∨ x = 2) ∧ sS i = g) ∧
  (∀ i, i < n → ss i = 2 → 0 < dr i) ∧
  (∀ i, i < n → ss i = 4 → x = 3 ∨ x = 5) ∧
  (∀ i, i < 12 → ((ss i = 1 ∨ ss i = 4) → dx i = dy i) ∧ (¬ (ss i = 1 ∨ ss i = 4) → dx i = 0))
def sq_iv (n : Nat) (sS st sg pv ss ta dx dy dr ur : Nat → Int32) : Prop :=
  ∀ s, (8 ≤ s → st s = 0) ∧ sq_v n sS (st s) (sg s) (pv s) (sq_w ss s) (sq_w ta s) (sq_w dx s) (sq_w dy s) (sq_w dr s) (sq_w ur s)
theorem sq_ivU {n s : Nat} {sS st sg pv ss ta dx dy dr ur st' sg' pv' ss' ta' dx' dy' dr' ur' : Nat → Int32}
    (h : sq_iv n sS st sg pv ss ta dx dy dr ur) (hs : s < 8)
    (o1 : ∀ t, t ≠ s → st' t = st t) (o2 : ∀ t, t ≠ s → sg' t = sg t) (o3 : ∀ t, t ≠ s → pv' t = pv t)
    (o4 : ∀ t, t ≠ s → sq_w ss' t = sq_w ss t) (o5 : ∀ t, t ≠ s → sq_w ta' t = sq_w ta t) (o6 : ∀ t, t ≠ s → sq_w dx' t = sq_w dx t)
    (o7 : ∀ t, t ≠ s → sq_w dy' t = sq_w dy t) (o8 : ∀ t, t ≠ s → sq_w dr' t = sq_w dr t) (o9 : ∀ t, t ≠ s → sq_w ur' t = sq_w ur t)
    (hv : sq_v n sS (st' s) (sg' s) (pv' s) (sq_w ss' s) (sq_w ta' s) (sq_w dx' s) (sq_w dy' s) (sq_w dr' s) (sq_w ur' s)) :
    sq_iv n sS st' sg' pv' ss' ta' dx' dy' dr' ur' := by
  intro t
  by_cases e : t = s
  · subst e
    exact ⟨fun z => absurd hs (by omega), hv⟩
  · rw [o1 t e, o2 t e, o3 t e, o4 t e, o5 t e, o6 t e, o7 t e, o8 t e, o9 t e]
    exact h t
theorem sq_v0 {n : Nat} {sS : Nat → Int32} : sq_v n sS 0 0 0 (fun _ => 0) (fun _ => 0) (fun _ => 0) (fun _ => 0) (fun _ => 0) (fun _ => 0) :=
  ⟨fun _ => ⟨rfl, rfl, fun _ _ => ⟨rfl, rfl, rfl, rfl, rfl, rfl⟩⟩, fun _ _ h => absurd (show (0 : Int32) = 1 from h) (by decide), fun _ _ h => absurd (show (0 : Int32) = 2 from h) (by decide), fun _ _ h => absurd (show (0 : Int32) = 4 from h) (by decide), fun _ _ => ⟨fun _ => rfl, fun _ => rfl⟩⟩
theorem sq_iv0 {n : Nat} {sS : Nat → Int32} : sq_iv n sS (fun _ => 0) (fun _ => 0) (fun _ => 0) (fun _ => 0) (fun _ => 0) (fun _ => 0) (fun _ => 0) (fun _ => 0) (fun _ => 0) := by
  intro s
  rw [sq_w0]
  exact ⟨fun _ => rfl, sq_v0⟩

section VIEWS
variable {n : Nat} {sS : Nat → Int32} {x g p : Int32} {ss ta dx dy dr ur : Nat → Int32}
/-- a step ends well: ACTIVE to DONE -/
theorem sq_vDone {j : Nat} {r p' : Int32} (h : sq_v n sS x g p ss ta dx dy dr ur) (hj : j < n) (ha : ss j = 1) (hr : 0 < r) :
    sq_v n sS x g p' (upd ss j 2) ta (upd dx j 0) dy (upd dr j r) ur := by
  obtain ⟨hA, hB, hC, hD, hE⟩ := h
  have hx := (hB j hj ha).1
  refine ⟨fun z => ?_, fun i hi h1 => ?_, fun i hi h1 => ?_, fun i hi h1 => ?_, fun i hi => ?_⟩
  · rcases hx with e | e
    · exact absurd (e.symm.trans z) (by decide)
    · exact absurd (e.symm.trans z) (by decide)
  · by_cases e : i = j
    · subst e; rw [pk_us] at h1; exact absurd h1 (by decide)
    · rw [pk_un e] at h1; exact hB i hi h1
  · by_cases e : i = j
    · subst e; rw [pk_us]; exact hr
    · rw [pk_un e] at h1; rw [pk_un e]; exact hC i hi h1
  · by_cases e : i = j
    · subst e; rw [pk_us] at h1; exact absurd h1 (by decide)
    · rw [pk_un e] at h1; exact hD i hi h1
  · by_cases e : i = j
    · subst e; rw [pk_us, pk_us]; exact ⟨fun z => absurd z (by decide), fun _ => rfl⟩
    · rw [pk_un e, pk_un e]; exact hE i hi
/-- an undo ends well: UNDOING to UNDONE -/
theorem sq_vUndone {j : Nat} {ur' : Nat → Int32} (h : sq_v n sS x g p ss ta dx dy dr ur) (hj : j < n) (ha : ss j = 4) :
    sq_v n sS x g p (upd ss j 5) ta (upd dx j 0) dy dr ur' := by
  obtain ⟨hA, hB, hC, hD, hE⟩ := h
  have hx := hD j hj ha
  refine ⟨fun z => ?_, fun i hi h1 => ?_, fun i hi h1 => ?_, fun i hi h1 => ?_, fun i hi => ?_⟩
  · rcases hx with e | e
    · exact absurd (e.symm.trans z) (by decide)
    · exact absurd (e.symm.trans z) (by decide)
  · by_cases e : i = j
    · subst e; rw [pk_us] at h1; exact absurd h1 (by decide)
    · rw [pk_un e] at h1; exact hB i hi h1
  · by_cases e : i = j
    · subst e; rw [pk_us] at h1; exact absurd h1 (by decide)
    · rw [pk_un e] at h1; exact hC i hi h1
  · exact hx
  · by_cases e : i = j
    · subst e; rw [pk_us, pk_us]; exact ⟨fun z => absurd z (by decide), fun _ => rfl⟩
    · rw [pk_un e, pk_un e]; exact hE i hi
/-- a step fails for good: ACTIVE to FAILED, the slot aborting -/
theorem sq_vFail {j : Nat} (h : sq_v n sS x g p ss ta dx dy dr ur) (hj : j < n) (ha : ss j = 1) :
    sq_v n sS 2 g p (upd ss j 3) ta (upd dx j 0) dy dr ur := by
  obtain ⟨hA, hB, hC, hD, hE⟩ := h
  have hx := (hB j hj ha).1
  refine ⟨fun z => absurd z (by decide), fun i hi h1 => ?_, fun i hi h1 => ?_, fun i hi h1 => ?_, fun i hi => ?_⟩
  · by_cases e : i = j
    · subst e; rw [pk_us] at h1; exact absurd h1 (by decide)
    · rw [pk_un e] at h1; exact ⟨Or.inr rfl, (hB i hi h1).2⟩
  · by_cases e : i = j
    · subst e; rw [pk_us] at h1; exact absurd h1 (by decide)
    · rw [pk_un e] at h1; exact hC i hi h1
  · by_cases e : i = j
    · subst e; rw [pk_us] at h1; exact absurd h1 (by decide)
    · rw [pk_un e] at h1
      rcases hx with a | a
      · rcases hD i hi h1 with b | b
        · exact absurd (a.symm.trans b) (by decide)
        · exact absurd (a.symm.trans b) (by decide)
      · rcases hD i hi h1 with b | b
        · exact absurd (a.symm.trans b) (by decide)
        · exact absurd (a.symm.trans b) (by decide)
  · by_cases e : i = j
    · subst e; rw [pk_us, pk_us]; exact ⟨fun z => absurd z (by decide), fun _ => rfl⟩
    · rw [pk_un e, pk_un e]; exact hE i hi
/-- a further attempt -/
theorem sq_vRetry {j : Nat} {d : Int32} {ta' : Nat → Int32} (h : sq_v n sS x g p ss ta dx dy dr ur) (hj : j < n) (ha : ss j = 1 ∨ ss j = 4) :
    sq_v n sS x g p ss ta' (upd dx j d) (upd dy j d) dr ur := by
  obtain ⟨hA, hB, hC, hD, hE⟩ := h
  refine ⟨fun z => ?_, hB, hC, hD, fun i hi => ?_⟩
  · rcases ha with a | a
    · rcases (hB j hj a).1 with e | e
      · exact absurd (e.symm.trans z) (by decide)
      · exact absurd (e.symm.trans z) (by decide)
    · rcases hD j hj a with e | e
      · exact absurd (e.symm.trans z) (by decide)
      · exact absurd (e.symm.trans z) (by decide)
  · by_cases e : i = j
    · subst e; rw [pk_us, pk_us]; exact ⟨fun _ => rfl, fun z => absurd ha z⟩
    · rw [pk_un e, pk_un e]; exact hE i hi
/-- no step ACTIVE: the slot's state may become 3 from 2 -/
theorem sq_vComp (h : sq_v n sS 2 g p ss ta dx dy dr ur) (hn : ∀ i, i < n → ¬ ss i = 1) : sq_v n sS 3 g p ss ta dx dy dr ur := by
  obtain ⟨hA, hB, hC, hD, hE⟩ := h
  exact ⟨fun z => absurd z (by decide), fun i hi h1 => absurd h1 (hn i hi), hC, fun _ _ _ => Or.inl rfl, hE⟩
theorem sq_vRoll (h : sq_v n sS x g p ss ta dx dy dr ur) (hn : ∀ i, i < n → ¬ ss i = 1) : sq_v n sS 5 g p ss ta dx dy dr ur := by
  obtain ⟨hA, hB, hC, hD, hE⟩ := h
  exact ⟨fun z => absurd z (by decide), fun i hi h1 => absurd h1 (hn i hi), hC, fun _ _ _ => Or.inr rfl, hE⟩
theorem sq_vUndo {b : Nat} {d : Int32} {ta' : Nat → Int32} (h : sq_v n sS x g p ss ta dx dy dr ur) (hx : x = 3 ∨ x = 5) :
    sq_v n sS x g p (upd ss b 4) ta' (upd dx b d) (upd dy b d) dr ur := by
  obtain ⟨hA, hB, hC, hD, hE⟩ := h
  refine ⟨fun z => ?_, fun i hi h1 => ?_, fun i hi h1 => ?_, fun _ _ _ => hx, fun i hi => ?_⟩
  · rcases hx with e | e
    · exact absurd (e.symm.trans z) (by decide)
    · exact absurd (e.symm.trans z) (by decide)
  · by_cases e : i = b
    · subst e; rw [pk_us] at h1; exact absurd h1 (by decide)
    · rw [pk_un e] at h1; exact hB i hi h1
  · by_cases e : i = b
    · subst e; rw [pk_us] at h1; exact absurd h1 (by decide)
    · rw [pk_un e] at h1; exact hC i hi h1
  · by_cases e : i = b
    · subst e; rw [pk_us, pk_us, pk_us]; exact ⟨fun _ => rfl, fun z => absurd (Or.inr rfl) z⟩
    · rw [pk_un e, pk_un e, pk_un e]; exact hE i hi
theorem sq_vCommit (h : sq_v n sS 1 g p ss ta dx dy dr ur) (hd : ∀ i, i < n → sS i = g → ss i = 2) : sq_v n sS 4 g p ss ta dx dy dr ur := by
  obtain ⟨hA, hB, hC, hD, hE⟩ := h
  refine ⟨fun z => absurd z (by decide), fun i hi h1 => ?_, hC, fun i hi h1 => ?_, hE⟩
  · exact absurd (h1.symm.trans (hd i hi (hB i hi h1).2)) (by decide)
  · rcases hD i hi h1 with e | e
    · exact absurd e (by decide)
    · exact absurd e (by decide)
/-- a stage is issued in a running slot that has no step ACTIVE -/
theorem sq_vIssue {c : Nat → Bool} {d : Nat → Int32} {g' : Int32} {ta' : Nat → Int32} (h : sq_v n sS 1 g p ss ta dx dy dr ur) (hn : ∀ i, i < n → ¬ ss i = 1) (hc : ∀ i, c i = true → sS i = g') :
    sq_v n sS 1 g' p (sq_vm c (fun _ => 1) n ss) ta' (sq_vm c d n dx) (sq_vm c d n dy) dr ur := by
  obtain ⟨hA, hB, hC, hD, hE⟩ := h
  refine ⟨fun z => absurd z (by decide), fun i hi h1 => ?_, fun i hi h1 => ?_, fun i hi h1 => ?_, fun i hi => ?_⟩
  · by_cases q : c i = true
    · exact ⟨Or.inl rfl, hc i q⟩
    · rw [sq_vmN (fun z => q z.2)] at h1; exact absurd h1 (hn i hi)
  · by_cases q : c i = true
    · rw [sq_vmP ⟨hi, q⟩] at h1; exact absurd h1 (by decide)
    · rw [sq_vmN (fun z => q z.2)] at h1; exact hC i hi h1
  · by_cases q : c i = true
    · rw [sq_vmP ⟨hi, q⟩] at h1; exact absurd h1 (by decide)
    · rw [sq_vmN (fun z => q z.2)] at h1
      rcases hD i hi h1 with e | e
      · exact absurd e (by decide)
      · exact absurd e (by decide)
  · by_cases q : i < n ∧ c i = true
    · have e1 : sq_vm c (fun _ => 1) n ss i = 1 := sq_vmP q
      have e2 : sq_vm c d n dx i = d i := sq_vmP q
      have e3 : sq_vm c d n dy i = d i := sq_vmP q
      rw [e1, e2, e3]
      exact ⟨fun _ => rfl, fun z => absurd (Or.inl rfl) z⟩
    · have e1 : sq_vm c (fun _ => 1) n ss i = ss i := sq_vmN q
      have e2 : sq_vm c d n dx i = dx i := sq_vmN q
      have e3 : sq_vm c d n dy i = dy i := sq_vmN q
      rw [e1, e2, e3]
      exact hE i hi
/-- a free slot begins to run -/
theorem sq_vRun (h : sq_v n sS 0 g p ss ta dx dy dr ur) (hn : n ≤ 12) : sq_v n sS 1 0 0 ss ta dx dy dr ur ∧ ∀ i, i < n → ¬ ss i = 1 := by
  obtain ⟨hA, hB, hC, hD, hE⟩ := h
  obtain ⟨_, _, hz⟩ := hA rfl
  have z0 : ∀ i, i < n → ss i = 0 := fun i hi => (hz i (by omega)).1
  refine ⟨⟨fun z => absurd z (by decide), fun i hi h1 => ?_, hC, fun i hi h1 => ?_, hE⟩, fun i hi h1 => ?_⟩
  · exact absurd ((z0 i hi).symm.trans h1) (by decide)
  · exact absurd ((z0 i hi).symm.trans h1) (by decide)
  · exact absurd ((z0 i hi).symm.trans h1) (by decide)
end VIEWS
