/-! the template: stages in order, a pivot alone in its stage -/
def sq_tp (n : Nat) (sS sF : Nat → Int32) : Prop :=
  ∃ g : Nat → Nat, (∀ j, j < n → sS j = nI (g j) ∧ g j ≤ j) ∧ (∀ i j, i < j → j < n → g i ≤ g j) ∧
    (∀ i j, i < j → j < n → g i = g j → (sF i &&& 2) = 0 ∧ (sF j &&& 2) = 0)
theorem sq_tp0 {sS sF : Nat → Int32} : sq_tp 0 sS sF :=
  ⟨fun _ => 0, fun j h => absurd h (by omega), fun i j _ h => absurd h (by omega), fun i j _ h => absurd h (by omega)⟩
theorem sq_tp1 {sS sF : Nat → Int32} {f : Int32} : sq_tp 1 (upd sS 0 0) (upd sF 0 f) := by
  refine ⟨fun _ => 0, fun j h => ?_, fun i j h1 h2 => absurd h2 (by omega), fun i j h1 h2 => absurd h2 (by omega)⟩
  have e : j = 0 := by omega
  subst e
  exact ⟨pk_us, Nat.le_refl 0⟩
theorem sq_tpG {k : Nat} {sS sF : Nat → Int32} {v f : Int32} {g : Nat → Nat} {q : Nat} (h1 : ∀ j, j < k + 1 → sS j = nI (g j) ∧ g j ≤ j) (h2 : ∀ i j, i < j → j < k + 1 → g i ≤ g j)
    (h3 : ∀ i j, i < j → j < k + 1 → g i = g j → (sF i &&& 2) = 0 ∧ (sF j &&& 2) = 0) (hv : v = nI q) (hq : g k ≤ q) (hq2 : q ≤ k + 1)
    (h4 : ∀ i, i < k + 1 → g i = q → (sF i &&& 2) = 0 ∧ (f &&& 2) = 0) : sq_tp (k + 2) (upd sS (k + 1) v) (upd sF (k + 1) f) := by
  refine ⟨fun j => if j = k + 1 then q else g j, fun j hj => ?_, fun i j hij hj => ?_, fun i j hij hj e => ?_⟩
  · dsimp only
    by_cases e : j = k + 1
    · subst e
      rw [pk_us, if_pos rfl]
      exact ⟨hv, by omega⟩
    · rw [pk_un e, if_neg e]
      exact h1 j (by omega)
  · have ei : ¬ i = k + 1 := by omega
    dsimp only
    rw [if_neg ei]
    by_cases e : j = k + 1
    · rw [if_pos e]
      by_cases e2 : i = k
      · rw [e2]; exact hq
      · exact Nat.le_trans (h2 i k (by omega) (by omega)) hq
    · rw [if_neg e]; exact h2 i j hij (by omega)
  · have ei : ¬ i = k + 1 := by omega
    dsimp only at e
    rw [if_neg ei] at e
    rw [pk_un ei]
    by_cases e1 : j = k + 1
    · rw [if_pos e1] at e
      subst e1
      rw [pk_us]
      exact h4 i (by omega) e
    · rw [if_neg e1] at e
      rw [pk_un e1]
      exact h3 i j hij (by omega) e
/-- the last stage once more, no pivot there -/
theorem sq_tpA {k : Nat} {sS sF : Nat → Int32} {f : Int32} (h : sq_tp (k + 1) sS sF) (hf : (f &&& 2) = 0) (hk : (sF k &&& 2) = 0) : sq_tp (k + 2) (upd sS (k + 1) (sS k)) (upd sF (k + 1) f) := by
  obtain ⟨g, h1, h2, h3⟩ := h
  refine sq_tpG h1 h2 h3 (h1 k (by omega)).1 (Nat.le_refl _) (by have := (h1 k (by omega)).2; omega) (fun i hi e => ⟨?_, hf⟩)
  by_cases e2 : i = k
  · rw [e2]; exact hk
  · exact (h3 i k (by omega) (by omega) e).1
/-- the next stage -/
theorem sq_tpB {k : Nat} {sS sF : Nat → Int32} {f : Int32} (h : sq_tp (k + 1) sS sF) : sq_tp (k + 2) (upd sS (k + 1) (sS k + 1)) (upd sF (k + 1) f) := by
  obtain ⟨g, h1, h2, h3⟩ := h
  refine sq_tpG (q := g k + 1) h1 h2 h3 (by rw [(h1 k (by omega)).1, nI_1]) (by omega) (by have := (h1 k (by omega)).2; omega) (fun i hi e => ?_)
  by_cases e2 : i = k
  · rw [e2] at e; omega
  · have := h2 i k (by omega) (by omega); omega
theorem sq_tpS {k : Nat} {sS sF : Nat → Int32} (h : sq_tp (k + 1) sS sF) (hk : (sF k &&& 2) = 0) (hn : k + 1 ≤ 12) : ∀ j, j < k + 1 → sS j = sS k → (sF j &&& 2) = 0 := by
  obtain ⟨g, h1, h2, h3⟩ := h
  intro j hj e
  by_cases e2 : j = k
  · rw [e2]; exact hk
  · rw [(h1 j hj).1, (h1 k (by omega)).1] at e
    have a1 := (h1 j hj).2
    have a2 := (h1 k (by omega)).2
    exact (h3 j k (by omega) (by omega) ((nI_eq (by omega) (by omega)).mp e)).1
theorem sq_tpN {k : Nat} {sS sF : Nat → Int32} (h : sq_tp (k + 1) sS sF) (hn : k + 1 ≤ 12) : ∀ j, j < k + 1 → ¬ sS j = sS k + 1 := by
  obtain ⟨g, h1, h2, h3⟩ := h
  intro j hj e
  rw [(h1 j hj).1, (h1 k (by omega)).1, nI_1] at e
  have a1 := (h1 j hj).2
  have a2 := (h1 k (by omega)).2
  have e3 := (nI_eq (by omega) (by omega)).mp e
  by_cases e2 : j = k
  · rw [e2] at e3; omega
  · have := h2 j k (by omega) (by omega); omega
theorem sq_tpNe {k : Nat} {sS sF : Nat → Int32} (h : sq_tp (k + 1) sS sF) (hn : k + 1 ≤ 12) : ¬ sS k = sS k + 1 := sq_tpN h hn k (by omega)
/-! the scan of the template: how many steps have the stage, and whether one of them is a pivot -/
def sq_ct (sS : Nat → Int32) (v : Int32) : Nat → Nat
  | 0 => 0
  | i + 1 => if sS i = v then sq_ct sS v i + 1 else sq_ct sS v i
def sq_hp (sS sF : Nat → Int32) (v : Int32) : Nat → Int32
  | 0 => 0
  | i + 1 => if sS i = v ∧ ¬ (sF i &&& 2) = 0 then 1 else sq_hp sS sF v i
theorem sq_ctS {sS : Nat → Int32} {v : Int32} {i : Nat} : sq_ct sS v (i + 1) = if sS i = v then sq_ct sS v i + 1 else sq_ct sS v i := rfl
theorem sq_hpS {sS sF : Nat → Int32} {v : Int32} {i : Nat} : sq_hp sS sF v (i + 1) = if sS i = v ∧ ¬ (sF i &&& 2) = 0 then 1 else sq_hp sS sF v i := rfl
theorem sq_ctL {sS : Nat → Int32} {v : Int32} : ∀ i, sq_ct sS v i ≤ i := by
  intro i
  induction i with
  | zero => exact Nat.le_refl 0
  | succ i ih =>
    rw [sq_ctS]
    by_cases h : sS i = v
    · rw [if_pos h]; omega
    · rw [if_neg h]; omega
theorem sq_ct0 {sS : Nat → Int32} {v : Int32} : ∀ i, (∀ j, j < i → ¬ sS j = v) → sq_ct sS v i = 0 := by
  intro i
  induction i with
  | zero => exact fun _ => rfl
  | succ i ih =>
    intro h
    rw [sq_ctS, if_neg (h i (by omega))]
    exact ih (fun j hj => h j (by omega))
theorem sq_hp0 {sS sF : Nat → Int32} {v : Int32} : ∀ i, (∀ j, j < i → sS j = v → (sF j &&& 2) = 0) → sq_hp sS sF v i = 0 := by
  intro i
  induction i with
  | zero => exact fun _ => rfl
  | succ i ih =>
    intro h
    rw [sq_hpS, if_neg (fun z => z.2 (h i (by omega) z.1))]
    exact ih (fun j hj => h j (by omega))
/-! the clock of a journal of ticks -/
def sq_cs (jA : Nat → Int32) : Nat → Int32
  | 0 => 0
  | r + 1 => sq_cs jA r + jA r
theorem sq_csU {jA : Nat → Int32} {k : Nat} {x : Int32} : ∀ r, r ≤ k → sq_cs (upd jA k x) r = sq_cs jA r := by
  intro r
  induction r with
  | zero => exact fun _ => rfl
  | succ r ih =>
    intro h
    show sq_cs (upd jA k x) r + upd jA k x r = sq_cs jA r + jA r
    rw [ih (by omega), pk_un (by omega)]
