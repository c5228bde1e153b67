/-! the journal's chain: each record leads from one state of the slots to the next, on both sides alike -/
abbrev so_P : Type := (Nat → Int32) × (Nat → Int32) × (Nat → Int32) × (Nat → Int32) × (Nat → Int32) × (Nat → Int32) × (Nat → Int32) × (Nat → Int32) × (Nat → Int32) × Int32
def so_X (n m : Nat) (sS sM sT sF : Nat → Int32) (p : so_P) (ev cp rc du : Int32) (jK jA jB jC : Nat → Int32) : SX :=
  (nI n, ev, nI m, p.2.2.2.2.2.2.2.2.2, cp, rc, du, sS, sM, sT, sF, p.1, p.2.1, p.2.2.1, p.2.2.2.1, p.2.2.2.2.1, p.2.2.2.2.2.1, p.2.2.2.2.2.2.2.1, p.2.2.2.2.2.2.2.2.1, jK, jA, jB, jC)
def so_Y (n m : Nat) (sS sM sT sF : Nat → Int32) (p : so_P) (ev cp rc du : Int32) (jK jA jB jC : Nat → Int32) : SY :=
  (nI m, cp, nI n, ev, p.2.2.2.2.2.2.2.2.2, rc, du, sS, sM, sT, sF, p.1, p.2.1, p.2.2.1, p.2.2.2.1, p.2.2.2.2.1, p.2.2.2.2.2.2.1, p.2.2.2.2.2.2.2.1, p.2.2.2.2.2.2.2.2.1, jK, jA, jB, jC)
def so_I (n : Nat) (sS : Nat → Int32) (p : so_P) : Prop :=
  sq_iv n sS p.1 p.2.1 p.2.2.1 p.2.2.2.1 p.2.2.2.2.1 p.2.2.2.2.2.1 p.2.2.2.2.2.2.1 p.2.2.2.2.2.2.2.1 p.2.2.2.2.2.2.2.2.1
def so_Z (x : Int32) : so_P := (fun _ => 0, fun _ => 0, fun _ => 0, fun _ => 0, fun _ => 0, fun _ => 0, fun _ => 0, fun _ => 0, fun _ => 0, x)
def so_R (n m : Nat) (sS sM sT sF : Nat → Int32) (p p' : so_P) (wx : (SX → Prop) → SX → Prop) (wy : (SY → Prop) → SY → Prop) : Prop :=
  (∀ (ev cp rc du : Int32) (jK jA jB jC : Nat → Int32) (post : SX → Prop), post (so_X n m sS sM sT sF p' ev cp rc du jK jA jB jC) → wx post (so_X n m sS sM sT sF p ev cp rc du jK jA jB jC)) ∧
  (∀ (ev cp rc du : Int32) (jK jA jB jC : Nat → Int32) (post : SY → Prop), post (so_Y n m sS sM sT sF p' ev cp rc du jK jA jB jC) → wy post (so_Y n m sS sM sT sF p ev cp rc du jK jA jB jC))
/-- a record: what it does -/
def so_S (n m : Nat) (sS sM sT sF : Nat → Int32) (k a b : Int32) (p p' : so_P) : Prop :=
  (k = 1 ∧ ∃ s, s < m ∧ a = nI s ∧ p.1 s = 0 ∧ (∀ t, t < s → ¬ p.1 t = 0) ∧ so_R n m sS sM sT sF p p' (fun q u => wpX_applyStart q u (nI s)) (fun q v => wpY_doStart q v (nI s))) ∨
  (k = 2 ∧ so_R n m sS sM sT sF p p' (fun q u => wpX_applyOk q u a b) (fun q v => wpY_applyOk q v a b)) ∨
  (k = 3 ∧ so_R n m sS sM sT sF p p' (fun q u => wpX_applyFail q u a b) (fun q v => wpY_applyFail q v a b)) ∨
  (k = 4 ∧ so_R n m sS sM sT sF p p' (fun q u => wpX_applyTick (fun _ u' => q u') u a) (fun q v => wpY_doTick (fun _ v' => q v') v a)) ∨
  (k = 5 ∧ ∃ s, s < m ∧ a = nI s ∧ so_R n m sS sM sT sF p p' (fun q u => wpX_freeSlot q u (nI s)) (fun q v => wpY_resetSlot q v (nI s)))
def so_C (n m : Nat) (sS sM sT sF jK jA jB : Nat → Int32) (r : Nat) (C : Nat → so_P) : Prop :=
  C 0 = so_Z 0 ∧ (∀ i, i ≤ r → so_I n sS (C i)) ∧ ∀ i, i < r → so_S n m sS sM sT sF (jK i) (jA i) (jB i) (C i) (C (i + 1))
theorem so_Ccut {n m : Nat} {sS sM sT sF jK jA jB : Nat → Int32} {r d : Nat} {C : Nat → so_P} (h : so_C n m sS sM sT sF jK jA jB r C) (hd : d ≤ r) : so_C n m sS sM sT sF jK jA jB d C :=
  ⟨h.1, fun i hi => h.2.1 i (by omega), fun i hi => h.2.2 i (by omega)⟩
theorem so_Cext {n m : Nat} {sS sM sT sF jK jA jB : Nat → Int32} {r : Nat} {C : Nat → so_P} {k a b : Int32} {p : so_P} (h : so_C n m sS sM sT sF jK jA jB r C) (hI : so_I n sS p)
    (hS : so_S n m sS sM sT sF k a b (C r) p) : so_C n m sS sM sT sF (upd jK r k) (upd jA r a) (upd jB r b) (r + 1) (fun i => if i ≤ r then C i else p) := by
  refine ⟨?_, fun i hi => ?_, fun i hi => ?_⟩
  · show (if 0 ≤ r then C 0 else p) = so_Z 0
    rw [if_pos (Nat.zero_le r)]; exact h.1
  · show so_I n sS (if i ≤ r then C i else p)
    by_cases e : i ≤ r
    · rw [if_pos e]; exact h.2.1 i e
    · rw [if_neg e]; exact hI
  · show so_S n m sS sM sT sF (upd jK r k i) (upd jA r a i) (upd jB r b i) (if i ≤ r then C i else p) (if i + 1 ≤ r then C (i + 1) else p)
    by_cases e : i = r
    · subst e
      rw [pk_us, pk_us, pk_us, if_pos (Nat.le_refl i), if_neg (by omega)]
      exact hS
    · rw [pk_un e, pk_un e, pk_un e, if_pos (by omega), if_pos (by omega)]
      exact h.2.2 i (by omega)
theorem so_IZ {n : Nat} {sS : Nat → Int32} {x : Int32} : so_I n sS (so_Z x) := sq_iv0
theorem so_tickZ {n m : Nat} {sS sM sT sF : Nat → Int32} {x a : Int32} (hm : m ≤ 8) (hn : n ≤ 12) : so_R n m sS sM sT sF (so_Z x) (so_Z (x + a)) (fun q u => wpX_applyTick (fun _ u' => q u') u a) (fun q v => wpY_doTick (fun _ v' => q v') v a) := by
  obtain ⟨st', sg', pv', ss', ta', dx', dy', dr', ur', c', hI', hid, hX, hY⟩ := so_tick (m := m) (n := n) (sS := sS) (ck := x) (sM := sM) (sT := sT) (sF := sF) a hm hn sq_iv0
  obtain ⟨rfl, rfl, rfl, rfl, rfl, rfl, rfl, rfl, rfl⟩ := hid (fun k z => by
    rcases z with z | z
    · exact absurd (show (0 : Int32) = 1 from z) (by decide)
    · exact absurd (show (0 : Int32) = 4 from z) (by decide))
  exact ⟨fun ev cp rc du jK jA jB jC post h => hX ev cp rc du jK jA jB jC (fun _ u' => post u') h, fun ev cp rc du jK jA jB jC post h => hY ev cp rc du jK jA jB jC (fun _ v' => post v') h⟩
/-- before the first start the journal holds ticks alone, over free slots -/
theorem so_C0 {n m : Nat} {sS sM sT sF jK jA jB : Nat → Int32} {r : Nat} (hm : m ≤ 8) (hn : n ≤ 12) (h : ∀ i, i < r → jK i = 4) : so_C n m sS sM sT sF jK jA jB r (fun i => so_Z (sq_cs jA i)) :=
  ⟨rfl, fun _ _ => so_IZ, fun i hi => Or.inr (Or.inr (Or.inr (Or.inl ⟨h i hi, so_tickZ hm hn⟩)))⟩
/-- the relation's two cases -/
def so_J (n m : Nat) (sS sM sT sF jK jA jB : Nat → Int32) (r : Nat) (ev : Int32) (p : so_P) : Prop :=
  (ev = 0 ∧ p = so_Z (sq_cs jA r) ∧ ∀ i, i < r → jK i = 4) ∨ (¬ ev = 0 ∧ ∃ C, so_C n m sS sM sT sF jK jA jB r C ∧ C r = p)
theorem so_Jc {n m : Nat} {sS sM sT sF jK jA jB : Nat → Int32} {r : Nat} {ev : Int32} {p : so_P} (hm : m ≤ 8) (hn : n ≤ 12) (h : so_J n m sS sM sT sF jK jA jB r ev p) : ∃ C, so_C n m sS sM sT sF jK jA jB r C ∧ C r = p := by
  rcases h with ⟨_, e, h4⟩ | ⟨_, h⟩
  · exact ⟨_, so_C0 hm hn h4, e.symm⟩
  · exact h
/-- a record more, once a start has been -/
theorem so_Jx {n m : Nat} {sS sM sT sF jK jA jB : Nat → Int32} {r : Nat} {ev ev' : Int32} {p p' : so_P} {k a b : Int32} (hm : m ≤ 8) (hn : n ≤ 12) (h : so_J n m sS sM sT sF jK jA jB r ev p) (he : ¬ ev' = 0) (hI : so_I n sS p')
    (hS : so_S n m sS sM sT sF k a b p p') : so_J n m sS sM sT sF (upd jK r k) (upd jA r a) (upd jB r b) (r + 1) ev' p' := by
  obtain ⟨C, hC, e⟩ := so_Jc hm hn h
  subst e
  refine Or.inr ⟨he, _, so_Cext hC hI hS, ?_⟩
  show (if r + 1 ≤ r then C (r + 1) else p') = p'
  rw [if_neg (by omega)]
