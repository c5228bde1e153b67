section
/-! numbers and stores (the pk_ rows begin as rows to paste) -/
theorem pk_us {f : Nat → Int32} {k : Nat} {x : Int32} : upd f k x k = x := if_pos rfl
theorem pk_un {f : Nat → Int32} {k j : Nat} {x : Int32} (h : j ≠ k) : upd f k x j = f j := if_neg h
theorem pk_sub {a b : Nat} (h : b ≤ a) : nI a - nI b = nI (a - b) := by
  obtain ⟨c, rfl⟩ : ∃ c, a = c + b := ⟨a - b, by omega⟩
  rw [← nI_add, Int32.add_sub_cancel, Nat.add_sub_cancel]
theorem pk_mul (a b : Nat) : nI a * nI b = nI (a * b) := (Int32.ofNat_mul a b).symm
theorem pk_ix (x : Int32) {n : Nat} (hn : n < 2 ^ 31) : x < 0 ∨ nI n ≤ x ∨ ∃ j : Nat, j < n ∧ x = nI j := by
  by_cases h : x < 0
  · exact Or.inl h
  · obtain ⟨j, hj, rfl⟩ := nI_of h
    by_cases h2 : j < n
    · exact Or.inr (Or.inr ⟨j, h2, rfl⟩)
    · exact Or.inr (Or.inl (nI_le (by omega) hj))
theorem pk_le {x y : Int32} {A B : Prop} (a b : Nat) (f : a ≤ b → A) (g : b < a → B) (hx : x = nI a := by rfl) (hy : y = nI b := by rfl) (ha : a < 2 ^ 31 := by omega) (hb : b < 2 ^ 31 := by omega) : (x ≤ y → A) ∧ (¬ x ≤ y → B) := by
  subst hx hy
  rw [nI_leI ha hb]
  exact ⟨f, fun z => g (by omega)⟩
theorem pk_lt {x y : Int32} {A B : Prop} (a b : Nat) (f : a < b → A) (g : b ≤ a → B) (hx : x = nI a := by rfl) (hy : y = nI b := by rfl) (ha : a < 2 ^ 31 := by omega) (hb : b < 2 ^ 31 := by omega) : (x < y → A) ∧ (¬ x < y → B) := by
  subst hx hy
  rw [nI_ltI ha hb]
  exact ⟨f, fun z => g (by omega)⟩
theorem pk_eq {x y : Int32} {A B : Prop} (a b : Nat) (f : a = b → A) (g : a ≠ b → B) (hx : x = nI a := by rfl) (hy : y = nI b := by rfl) (ha : a < 2 ^ 31 := by omega) (hb : b < 2 ^ 31 := by omega) : (x = y → A) ∧ (¬ x = y → B) := by
  subst hx hy
  rw [nI_eq ha hb]
  exact ⟨f, g⟩
theorem pk_in {x : Int32} (n N : Nat) (h : n < N) (hx : x = nI n := by rfl) (hN : N < 2 ^ 31 := by omega) : vp_in x N := by
  subst hx
  exact vp_in_nI h hN
theorem pk_cl {x : Int32} (n : Nat) (hx : x = nI n := by rfl) (h : n < 2 ^ 31 := by omega) : x.toNatClampNeg = n := by
  subst hx
  exact nI_clamp h
theorem pk_loop {σ : Type} (W : Nat → Nat → σ → Prop) (I : Nat → σ → Prop) (e i0 : Nat) (s : σ) (hi : i0 ≤ e) (h0 : I i0 s) (hx : ∀ n s, I e s → W (n + 1) e s)
    (hs : ∀ n i s, i < e → I i s → (∀ s', I (i + 1) s' → W n (i + 1) s') → W (n + 1) i s) : ∃ n, W n i0 s :=
  ⟨e + 1, loop_i W I e hx hs (e + 1) i0 s hi (by omega) h0⟩
theorem sq_ci (s j : Nat) : nI s * 12 + nI j = nI (s * 12 + j) := by
  rw [show (12 : Int32) = nI 12 from rfl, pk_mul, nI_add]
theorem sq_cl {s j : Nat} (hs : s < 8) (hj : j < 12) : (nI s * 12 + nI j).toNatClampNeg = s * 12 + j := by
  rw [sq_ci]; exact nI_clamp (by omega)
theorem sq_cn {s j : Nat} (hs : s < 8) (hj : j < 12) : vp_in (nI s * 12 + nI j) 96 := by
  rw [sq_ci]; exact vp_in_nI (by omega) (by omega)
theorem sq_ne1 {a : Nat} (h : a < 2 ^ 31) : ¬ nI a = -1 := by
  intro e
  have := nI_pos (n := a) h
  rw [e] at this
  exact this (by decide)
theorem sq_uu {a : Nat → Int32} {k : Nat} {x y : Int32} : upd (upd a k x) k y = upd a k y := by
  funext j
  by_cases e : j = k
  · subst e; rw [pk_us, pk_us]
  · rw [pk_un e, pk_un e, pk_un e]
theorem sq_ui {a : Nat → Int32} {k : Nat} {x : Int32} (h : a k = x) : upd a k x = a := by
  funext j
  by_cases e : j = k
  · subst e; rw [pk_us, h]
  · rw [pk_un e]

/-! a stretch of a slot's cells written where c holds -/
def sq_mx (c : Nat → Bool) (v : Nat → Int32) (s i : Nat) (a : Nat → Int32) : Nat → Int32 :=
  fun k => if s * 12 ≤ k ∧ k < s * 12 + i ∧ c (k - s * 12) = true then v (k - s * 12) else a k
theorem sq_mxP {c : Nat → Bool} {v : Nat → Int32} {s i k : Nat} {a : Nat → Int32} (h : s * 12 ≤ k ∧ k < s * 12 + i ∧ c (k - s * 12) = true) : sq_mx c v s i a k = v (k - s * 12) := if_pos h
theorem sq_mxN {c : Nat → Bool} {v : Nat → Int32} {s i k : Nat} {a : Nat → Int32} (h : ¬ (s * 12 ≤ k ∧ k < s * 12 + i ∧ c (k - s * 12) = true)) : sq_mx c v s i a k = a k := if_neg h
theorem sq_mx0 {c : Nat → Bool} {v : Nat → Int32} {s : Nat} {a : Nat → Int32} : sq_mx c v s 0 a = a := by
  funext k
  exact sq_mxN (fun h => by have h1 := h.1; have h2 := h.2.1; omega)
theorem sq_mxi {c : Nat → Bool} {v : Nat → Int32} {s i j : Nat} {a : Nat → Int32} (hj : j < i) : sq_mx c v s i a (s * 12 + j) = if c j = true then v j else a (s * 12 + j) := by
  have e2 : s * 12 + j - s * 12 = j := by omega
  by_cases q : c j = true
  · rw [if_pos q, sq_mxP ⟨by omega, by omega, by rw [e2]; exact q⟩, e2]
  · rw [if_neg q, sq_mxN (fun z => q (by have z2 := z.2.2; rw [e2] at z2; exact z2))]
theorem sq_mxh {c : Nat → Bool} {v : Nat → Int32} {s i j : Nat} {a : Nat → Int32} (hj : i ≤ j) : sq_mx c v s i a (s * 12 + j) = a (s * 12 + j) :=
  sq_mxN (fun z => by have := z.2.1; omega)
theorem sq_mxo {c : Nat → Bool} {v : Nat → Int32} {s t i j : Nat} {a : Nat → Int32} (hs : t ≠ s) (hj : j < 12) (hi : i ≤ 12) : sq_mx c v s i a (t * 12 + j) = a (t * 12 + j) :=
  sq_mxN (fun z => by have := z.1; have := z.2.1; omega)
theorem sq_mxt {c : Nat → Bool} {v : Nat → Int32} {s i : Nat} {a : Nat → Int32} (h : c i = true) : upd (sq_mx c v s i a) (s * 12 + i) (v i) = sq_mx c v s (i + 1) a := by
  funext k
  by_cases e : k = s * 12 + i
  · subst e
    rw [pk_us, sq_mxi (by omega), if_pos h]
  · rw [pk_un e]
    by_cases q : s * 12 ≤ k ∧ k < s * 12 + i ∧ c (k - s * 12) = true
    · rw [sq_mxP q, sq_mxP (i := i + 1) ⟨q.1, by have := q.2.1; omega, q.2.2⟩]
    · rw [sq_mxN q, sq_mxN (i := i + 1) (fun z => q ⟨z.1, by have := z.2.1; omega, z.2.2⟩)]
theorem sq_mxf {c : Nat → Bool} {v : Nat → Int32} {s i : Nat} {a : Nat → Int32} (h : ¬ c i = true) : sq_mx c v s i a = sq_mx c v s (i + 1) a := by
  funext k
  by_cases e : k = s * 12 + i
  · subst e
    rw [sq_mxh (by omega), sq_mxi (by omega), if_neg h]
  · by_cases q : s * 12 ≤ k ∧ k < s * 12 + i ∧ c (k - s * 12) = true
    · rw [sq_mxP q, sq_mxP (i := i + 1) ⟨q.1, by have := q.2.1; omega, q.2.2⟩]
    · rw [sq_mxN q, sq_mxN (i := i + 1) (fun z => q ⟨z.1, by have := z.2.1; omega, z.2.2⟩)]

/-! the view of a slot: its twelve cells -/
def sq_w (a : Nat → Int32) (s : Nat) : Nat → Int32 := fun i => if i < 12 then a (s * 12 + i) else 0
theorem sq_wi {a : Nat → Int32} {s i : Nat} (h : i < 12) : sq_w a s i = a (s * 12 + i) := if_pos h
theorem sq_wn {a : Nat → Int32} {s i : Nat} (h : ¬ i < 12) : sq_w a s i = 0 := if_neg h
theorem sq_wu {a : Nat → Int32} {s j : Nat} {x : Int32} (hj : j < 12) : sq_w (upd a (s * 12 + j) x) s = upd (sq_w a s) j x := by
  funext i
  by_cases e : i = j
  · subst e; rw [pk_us, sq_wi hj, pk_us]
  · rw [pk_un e]
    by_cases h : i < 12
    · rw [sq_wi h, sq_wi h, pk_un (by omega)]
    · rw [sq_wn h, sq_wn h]
theorem sq_wo {a : Nat → Int32} {s t j : Nat} {x : Int32} (hj : j < 12) (ht : t ≠ s) : sq_w (upd a (s * 12 + j) x) t = sq_w a t := by
  funext i
  by_cases h : i < 12
  · rw [sq_wi h, sq_wi h, pk_un (by omega)]
  · rw [sq_wn h, sq_wn h]
def sq_vm (c : Nat → Bool) (v : Nat → Int32) (m : Nat) (a : Nat → Int32) : Nat → Int32 := fun i => if i < m ∧ c i = true then v i else a i
theorem sq_vmP {c : Nat → Bool} {v : Nat → Int32} {m i : Nat} {a : Nat → Int32} (h : i < m ∧ c i = true) : sq_vm c v m a i = v i := if_pos h
theorem sq_vmN {c : Nat → Bool} {v : Nat → Int32} {m i : Nat} {a : Nat → Int32} (h : ¬ (i < m ∧ c i = true)) : sq_vm c v m a i = a i := if_neg h
theorem sq_wm {c : Nat → Bool} {v : Nat → Int32} {s m : Nat} {a : Nat → Int32} (hm : m ≤ 12) : sq_w (sq_mx c v s m a) s = sq_vm c v m (sq_w a s) := by
  funext i
  by_cases h : i < 12
  · rw [sq_wi h]
    by_cases q : i < m
    · rw [sq_mxi q]
      by_cases r : c i = true
      · rw [if_pos r, sq_vmP ⟨q, r⟩]
      · rw [if_neg r, sq_vmN (fun z => r z.2), sq_wi h]
    · rw [sq_mxh (by omega), sq_vmN (fun z => q z.1), sq_wi h]
  · rw [sq_wn h, sq_vmN (fun z => by have := z.1; omega), sq_wn h]
theorem sq_wmo {c : Nat → Bool} {v : Nat → Int32} {s t m : Nat} {a : Nat → Int32} (hm : m ≤ 12) (ht : t ≠ s) : sq_w (sq_mx c v s m a) t = sq_w a t := by
  funext i
  by_cases h : i < 12
  · rw [sq_wi h, sq_wi h, sq_mxo ht h hm]
  · rw [sq_wn h, sq_wn h]
theorem sq_w0 {s : Nat} : sq_w (fun _ => 0) s = fun _ => 0 := by
  funext i
  by_cases h : i < 12
  · exact sq_wi h
  · exact sq_wn h
/-- all twelve cells written: the view is what was written -/
theorem sq_wz {s : Nat} {a : Nat → Int32} : sq_w (sq_mx (fun _ => true) (fun _ => 0) s 12 a) s = fun _ => 0 := by
  funext i
  by_cases h : i < 12
  · rw [sq_wi h, sq_mxi h, if_pos rfl]
  · exact sq_wn h
/-- an array with a free slot's cells 0: writing 0 there changes nothing -/
theorem sq_mz {s : Nat} {a : Nat → Int32} (h : ∀ i, i < 12 → sq_w a s i = 0) : sq_mx (fun _ => true) (fun _ => 0) s 12 a = a := by
  funext k
  by_cases q : s * 12 ≤ k ∧ k < s * 12 + 12 ∧ (fun _ : Nat => true) (k - s * 12) = true
  · rw [sq_mxP q]
    have h1 := q.1
    have h2 := q.2.1
    have h3 := h (k - s * 12) (by omega)
    rw [sq_wi (by omega), show s * 12 + (k - s * 12) = k from by omega] at h3
    exact h3.symm
  · exact sq_mxN q

/-! scans -/
def sq_nu (ss dr sF : Nat → Int32) (s : Nat) : Nat → Int32 × Int32
  | 0 => (-1, 0)
  | i + 1 => if ss (s * 12 + i) = 2 ∧ ¬ (sF i &&& 1) = 0 ∧ (sq_nu ss dr sF s i).2 < dr (s * 12 + i) then (nI i, dr (s * 12 + i)) else sq_nu ss dr sF s i
theorem sq_nuS {ss dr sF : Nat → Int32} {s i : Nat} : sq_nu ss dr sF s (i + 1) = if ss (s * 12 + i) = 2 ∧ ¬ (sF i &&& 1) = 0 ∧ (sq_nu ss dr sF s i).2 < dr (s * 12 + i) then (nI i, dr (s * 12 + i)) else sq_nu ss dr sF s i := rfl
theorem sq_nuP {ss dr sF : Nat → Int32} {s : Nat} : ∀ i, sq_nu ss dr sF s i = (-1, 0) ∨ ∃ b, b < i ∧ (sq_nu ss dr sF s i).1 = nI b := by
  intro i
  induction i with
  | zero => exact Or.inl rfl
  | succ i ih =>
    rw [sq_nuS]
    by_cases h : ss (s * 12 + i) = 2 ∧ ¬ (sF i &&& 1) = 0 ∧ (sq_nu ss dr sF s i).2 < dr (s * 12 + i)
    · rw [if_pos h]; exact Or.inr ⟨i, by omega, rfl⟩
    · rw [if_neg h]
      rcases ih with h | ⟨b, hb, e⟩
      · exact Or.inl h
      · exact Or.inr ⟨b, by omega, e⟩
def sq_rn (a : Nat → Int32) (s : Nat) : Nat → Nat
  | 0 => 0
  | i + 1 => if a (s * 12 + i) = 0 then sq_rn a s i else sq_rn a s i + 1
theorem sq_rnS {a : Nat → Int32} {s i : Nat} : sq_rn a s (i + 1) = if a (s * 12 + i) = 0 then sq_rn a s i else sq_rn a s i + 1 := rfl
theorem sq_rnL {a : Nat → Int32} {s : Nat} : ∀ i, sq_rn a s i ≤ i := by
  intro i
  induction i with
  | zero => exact Nat.le_refl 0
  | succ i ih =>
    rw [sq_rnS]
    by_cases h : a (s * 12 + i) = 0
    · rw [if_pos h]; omega
    · rw [if_neg h]; omega
theorem sq_rk {a : Nat → Int32} {s n : Nat} (hn : n ≤ 12) : 0 < nI (1 + sq_rn a s n) := by
  have := sq_rnL (a := a) (s := s) n
  exact nI_lt (a := 0) (by omega) (by omega)
/-- the pivot mark of a slot once a step with flags f is done there -/
def sq_pv (f : Int32) (pv : Nat → Int32) (s : Nat) : Nat → Int32 := if (f &&& 2) = 0 then pv else upd pv s 1
theorem sq_pvO {f : Int32} {pv : Nat → Int32} {s t : Nat} (e : t ≠ s) : sq_pv f pv s t = pv t := by
  unfold sq_pv
  by_cases h : (f &&& 2) = 0
  · rw [if_pos h]
  · rw [if_neg h, pk_un e]
theorem sq_vin {n N : Nat} (h : n < N) (hN : N < 2 ^ 31) : vp_in (nI n) N ↔ True := ⟨fun _ => trivial, fun _ => vp_in_nI h hN⟩
end
section
/-! what holds of a slot: x its state, g its stage, p its pivot mark, then the views of its cells -/
def sq_v (n : Nat) (sS : Nat → Int32) (x g p : Int32) (ss ta dx dy dr ur : Nat → Int32) : Prop :=
  (x = 0 → g = 0 ∧ p = 0 ∧ ∀ i, i < 12 → ss i = 0 ∧ ta i = 0 ∧ dx i = 0 ∧ dy i = 0 ∧ dr i = 0 ∧ ur i = 0) ∧
  (∀ i, i < n → ss i = 1 → (x = 1 ∨ x = 2) ∧ sS i = g) ∧
  (∀ i, i < n → ss i = 2 → 0 < dr i) ∧
  (∀ i, i < n → ss i = 4 → x = 3 ∨ x = 5) ∧
  (∀ i, i < 12 → ((ss i = 1 ∨ ss i = 4) → dx i = dy i) ∧ (¬ (ss i = 1 ∨ ss i = 4) → dx i = 0))
def sq_iv (n : Nat) (sS st sg pv ss ta dx dy dr ur : Nat → Int32) : Prop :=
  ∀ s, (8 ≤ s → st s = 0) ∧ sq_v n sS (st s) (sg s) (pv s) (sq_w ss s) (sq_w ta s) (sq_w dx s) (sq_w dy s) (sq_w dr s) (sq_w ur s)
theorem sq_ivU {n s : Nat} {sS st sg pv ss ta dx dy dr ur st' sg' pv' ss' ta' dx' dy' dr' ur' : Nat → Int32}
    (h : sq_iv n sS st sg pv ss ta dx dy dr ur) (hs : s < 8)
    (o1 : ∀ t, t ≠ s → st' t = st t) (o2 : ∀ t, t ≠ s → sg' t = sg t) (o3 : ∀ t, t ≠ s → pv' t = pv t)
    (o4 : ∀ t, t ≠ s → sq_w ss' t = sq_w ss t) (o5 : ∀ t, t ≠ s → sq_w ta' t = sq_w ta t) (o6 : ∀ t, t ≠ s → sq_w dx' t = sq_w dx t)
    (o7 : ∀ t, t ≠ s → sq_w dy' t = sq_w dy t) (o8 : ∀ t, t ≠ s → sq_w dr' t = sq_w dr t) (o9 : ∀ t, t ≠ s → sq_w ur' t = sq_w ur t)
    (hv : sq_v n sS (st' s) (sg' s) (pv' s) (sq_w ss' s) (sq_w ta' s) (sq_w dx' s) (sq_w dy' s) (sq_w dr' s) (sq_w ur' s)) :
    sq_iv n sS st' sg' pv' ss' ta' dx' dy' dr' ur' := by
  intro t
  by_cases e : t = s
  · subst e
    exact ⟨fun z => absurd hs (by omega), hv⟩
  · rw [o1 t e, o2 t e, o3 t e, o4 t e, o5 t e, o6 t e, o7 t e, o8 t e, o9 t e]
    exact h t
theorem sq_v0 {n : Nat} {sS : Nat → Int32} : sq_v n sS 0 0 0 (fun _ => 0) (fun _ => 0) (fun _ => 0) (fun _ => 0) (fun _ => 0) (fun _ => 0) :=
  ⟨fun _ => ⟨rfl, rfl, fun _ _ => ⟨rfl, rfl, rfl, rfl, rfl, rfl⟩⟩, fun _ _ h => absurd (show (0 : Int32) = 1 from h) (by decide), fun _ _ h => absurd (show (0 : Int32) = 2 from h) (by decide), fun _ _ h => absurd (show (0 : Int32) = 4 from h) (by decide), fun _ _ => ⟨fun _ => rfl, fun _ => rfl⟩⟩
theorem sq_iv0 {n : Nat} {sS : Nat → Int32} : sq_iv n sS (fun _ => 0) (fun _ => 0) (fun _ => 0) (fun _ => 0) (fun _ => 0) (fun _ => 0) (fun _ => 0) (fun _ => 0) (fun _ => 0) := by
  intro s
  rw [sq_w0]
  exact ⟨fun _ => rfl, sq_v0⟩

section VIEWS
variable {n : Nat} {sS : Nat → Int32} {x g p : Int32} {ss ta dx dy dr ur : Nat → Int32}
/-- a step ends well: ACTIVE to DONE -/
theorem sq_vDone {j : Nat} {r p' : Int32} (h : sq_v n sS x g p ss ta dx dy dr ur) (hj : j < n) (ha : ss j = 1) (hr : 0 < r) :
    sq_v n sS x g p' (upd ss j 2) ta (upd dx j 0) dy (upd dr j r) ur := by
  obtain ⟨hA, hB, hC, hD, hE⟩ := h
  have hx := (hB j hj ha).1
  refine ⟨fun z => ?_, fun i hi h1 => ?_, fun i hi h1 => ?_, fun i hi h1 => ?_, fun i hi => ?_⟩
  · rcases hx with e | e
    · exact absurd (e.symm.trans z) (by decide)
    · exact absurd (e.symm.trans z) (by decide)
  · by_cases e : i = j
    · subst e; rw [pk_us] at h1; exact absurd h1 (by decide)
    · rw [pk_un e] at h1; exact hB i hi h1
  · by_cases e : i = j
    · subst e; rw [pk_us]; exact hr
    · rw [pk_un e] at h1; rw [pk_un e]; exact hC i hi h1
  · by_cases e : i = j
    · subst e; rw [pk_us] at h1; exact absurd h1 (by decide)
    · rw [pk_un e] at h1; exact hD i hi h1
  · by_cases e : i = j
    · subst e; rw [pk_us, pk_us]; exact ⟨fun z => absurd z (by decide), fun _ => rfl⟩
    · rw [pk_un e, pk_un e]; exact hE i hi
/-- an undo ends well: UNDOING to UNDONE -/
theorem sq_vUndone {j : Nat} {ur' : Nat → Int32} (h : sq_v n sS x g p ss ta dx dy dr ur) (hj : j < n) (ha : ss j = 4) :
    sq_v n sS x g p (upd ss j 5) ta (upd dx j 0) dy dr ur' := by
  obtain ⟨hA, hB, hC, hD, hE⟩ := h
  have hx := hD j hj ha
  refine ⟨fun z => ?_, fun i hi h1 => ?_, fun i hi h1 => ?_, fun i hi h1 => ?_, fun i hi => ?_⟩
  · rcases hx with e | e
    · exact absurd (e.symm.trans z) (by decide)
    · exact absurd (e.symm.trans z) (by decide)
  · by_cases e : i = j
    · subst e; rw [pk_us] at h1; exact absurd h1 (by decide)
    · rw [pk_un e] at h1; exact hB i hi h1
  · by_cases e : i = j
    · subst e; rw [pk_us] at h1; exact absurd h1 (by decide)
    · rw [pk_un e] at h1; exact hC i hi h1
  · exact hx
  · by_cases e : i = j
    · subst e; rw [pk_us, pk_us]; exact ⟨fun z => absurd z (by decide), fun _ => rfl⟩
    · rw [pk_un e, pk_un e]; exact hE i hi
/-- a step fails for good: ACTIVE to FAILED, the slot aborting -/
theorem sq_vFail {j : Nat} (h : sq_v n sS x g p ss ta dx dy dr ur) (hj : j < n) (ha : ss j = 1) :
    sq_v n sS 2 g p (upd ss j 3) ta (upd dx j 0) dy dr ur := by
  obtain ⟨hA, hB, hC, hD, hE⟩ := h
  have hx := (hB j hj ha).1
  refine ⟨fun z => absurd z (by decide), fun i hi h1 => ?_, fun i hi h1 => ?_, fun i hi h1 => ?_, fun i hi => ?_⟩
  · by_cases e : i = j
    · subst e; rw [pk_us] at h1; exact absurd h1 (by decide)
    · rw [pk_un e] at h1; exact ⟨Or.inr rfl, (hB i hi h1).2⟩
  · by_cases e : i = j
    · subst e; rw [pk_us] at h1; exact absurd h1 (by decide)
    · rw [pk_un e] at h1; exact hC i hi h1
  · by_cases e : i = j
    · subst e; rw [pk_us] at h1; exact absurd h1 (by decide)
    · rw [pk_un e] at h1
      rcases hx with a | a
      · rcases hD i hi h1 with b | b
        · exact absurd (a.symm.trans b) (by decide)
        · exact absurd (a.symm.trans b) (by decide)
      · rcases hD i hi h1 with b | b
        · exact absurd (a.symm.trans b) (by decide)
        · exact absurd (a.symm.trans b) (by decide)
  · by_cases e : i = j
    · subst e; rw [pk_us, pk_us]; exact ⟨fun z => absurd z (by decide), fun _ => rfl⟩
    · rw [pk_un e, pk_un e]; exact hE i hi
/-- a further attempt -/
theorem sq_vRetry {j : Nat} {d : Int32} {ta' : Nat → Int32} (h : sq_v n sS x g p ss ta dx dy dr ur) (hj : j < n) (ha : ss j = 1 ∨ ss j = 4) :
    sq_v n sS x g p ss ta' (upd dx j d) (upd dy j d) dr ur := by
  obtain ⟨hA, hB, hC, hD, hE⟩ := h
  refine ⟨fun z => ?_, hB, hC, hD, fun i hi => ?_⟩
  · rcases ha with a | a
    · rcases (hB j hj a).1 with e | e
      · exact absurd (e.symm.trans z) (by decide)
      · exact absurd (e.symm.trans z) (by decide)
    · rcases hD j hj a with e | e
      · exact absurd (e.symm.trans z) (by decide)
      · exact absurd (e.symm.trans z) (by decide)
  · by_cases e : i = j
    · subst e; rw [pk_us, pk_us]; exact ⟨fun _ => rfl, fun z => absurd ha z⟩
    · rw [pk_un e, pk_un e]; exact hE i hi
/-- no step ACTIVE: the slot's state may become 3 from 2 -/
theorem sq_vComp (h : sq_v n sS 2 g p ss ta dx dy dr ur) (hn : ∀ i, i < n → ¬ ss i = 1) : sq_v n sS 3 g p ss ta dx dy dr ur := by
  obtain ⟨hA, hB, hC, hD, hE⟩ := h
  exact ⟨fun z => absurd z (by decide), fun i hi h1 => absurd h1 (hn i hi), hC, fun _ _ _ => Or.inl rfl, hE⟩
theorem sq_vRoll (h : sq_v n sS x g p ss ta dx dy dr ur) (hn : ∀ i, i < n → ¬ ss i = 1) : sq_v n sS 5 g p ss ta dx dy dr ur := by
  obtain ⟨hA, hB, hC, hD, hE⟩ := h
  exact ⟨fun z => absurd z (by decide), fun i hi h1 => absurd h1 (hn i hi), hC, fun _ _ _ => Or.inr rfl, hE⟩
theorem sq_vUndo {b : Nat} {d : Int32} {ta' : Nat → Int32} (h : sq_v n sS x g p ss ta dx dy dr ur) (hx : x = 3 ∨ x = 5) :
    sq_v n sS x g p (upd ss b 4) ta' (upd dx b d) (upd dy b d) dr ur := by
  obtain ⟨hA, hB, hC, hD, hE⟩ := h
  refine ⟨fun z => ?_, fun i hi h1 => ?_, fun i hi h1 => ?_, fun _ _ _ => hx, fun i hi => ?_⟩
  · rcases hx with e | e
    · exact absurd (e.symm.trans z) (by decide)
    · exact absurd (e.symm.trans z) (by decide)
  · by_cases e : i = b
    · subst e; rw [pk_us] at h1; exact absurd h1 (by decide)
    · rw [pk_un e] at h1; exact hB i hi h1
  · by_cases e : i = b
    · subst e; rw [pk_us] at h1; exact absurd h1 (by decide)
    · rw [pk_un e] at h1; exact hC i hi h1
  · by_cases e : i = b
    · subst e; rw [pk_us, pk_us, pk_us]; exact ⟨fun _ => rfl, fun z => absurd (Or.inr rfl) z⟩
    · rw [pk_un e, pk_un e, pk_un e]; exact hE i hi
theorem sq_vCommit (h : sq_v n sS 1 g p ss ta dx dy dr ur) (hd : ∀ i, i < n → sS i = g → ss i = 2) : sq_v n sS 4 g p ss ta dx dy dr ur := by
  obtain ⟨hA, hB, hC, hD, hE⟩ := h
  refine ⟨fun z => absurd z (by decide), fun i hi h1 => ?_, hC, fun i hi h1 => ?_, hE⟩
  · exact absurd (h1.symm.trans (hd i hi (hB i hi h1).2)) (by decide)
  · rcases hD i hi h1 with e | e
    · exact absurd e (by decide)
    · exact absurd e (by decide)
/-- a stage is issued in a running slot that has no step ACTIVE -/
theorem sq_vIssue {c : Nat → Bool} {d : Nat → Int32} {g' : Int32} {ta' : Nat → Int32} (h : sq_v n sS 1 g p ss ta dx dy dr ur) (hn : ∀ i, i < n → ¬ ss i = 1) (hc : ∀ i, c i = true → sS i = g') :
    sq_v n sS 1 g' p (sq_vm c (fun _ => 1) n ss) ta' (sq_vm c d n dx) (sq_vm c d n dy) dr ur := by
  obtain ⟨hA, hB, hC, hD, hE⟩ := h
  refine ⟨fun z => absurd z (by decide), fun i hi h1 => ?_, fun i hi h1 => ?_, fun i hi h1 => ?_, fun i hi => ?_⟩
  · by_cases q : c i = true
    · exact ⟨Or.inl rfl, hc i q⟩
    · rw [sq_vmN (fun z => q z.2)] at h1; exact absurd h1 (hn i hi)
  · by_cases q : c i = true
    · rw [sq_vmP ⟨hi, q⟩] at h1; exact absurd h1 (by decide)
    · rw [sq_vmN (fun z => q z.2)] at h1; exact hC i hi h1
  · by_cases q : c i = true
    · rw [sq_vmP ⟨hi, q⟩] at h1; exact absurd h1 (by decide)
    · rw [sq_vmN (fun z => q z.2)] at h1
      rcases hD i hi h1 with e | e
      · exact absurd e (by decide)
      · exact absurd e (by decide)
  · by_cases q : i < n ∧ c i = true
    · have e1 : sq_vm c (fun _ => 1) n ss i = 1 := sq_vmP q
      have e2 : sq_vm c d n dx i = d i := sq_vmP q
      have e3 : sq_vm c d n dy i = d i := sq_vmP q
      rw [e1, e2, e3]
      exact ⟨fun _ => rfl, fun z => absurd (Or.inl rfl) z⟩
    · have e1 : sq_vm c (fun _ => 1) n ss i = ss i := sq_vmN q
      have e2 : sq_vm c d n dx i = dx i := sq_vmN q
      have e3 : sq_vm c d n dy i = dy i := sq_vmN q
      rw [e1, e2, e3]
      exact hE i hi
/-- a free slot begins to run -/
theorem sq_vRun (h : sq_v n sS 0 g p ss ta dx dy dr ur) (hn : n ≤ 12) : sq_v n sS 1 0 0 ss ta dx dy dr ur ∧ ∀ i, i < n → ¬ ss i = 1 := by
  obtain ⟨hA, hB, hC, hD, hE⟩ := h
  obtain ⟨_, _, hz⟩ := hA rfl
  have z0 : ∀ i, i < n → ss i = 0 := fun i hi => (hz i (by omega)).1
  refine ⟨⟨fun z => absurd z (by decide), fun i hi h1 => ?_, hC, fun i hi h1 => ?_, hE⟩, fun i hi h1 => ?_⟩
  · exact absurd ((z0 i hi).symm.trans h1) (by decide)
  · exact absurd ((z0 i hi).symm.trans h1) (by decide)
  · exact absurd ((z0 i hi).symm.trans h1) (by decide)
end VIEWS
end
section
/-! the steps of a slot keep what holds of all slots -/
section STEPS
variable {n s j : Nat} {sS st sg pv ss ta dx dy dr ur : Nat → Int32}
theorem sq_iDone {r : Int32} {pv' : Nat → Int32} (h : sq_iv n sS st sg pv ss ta dx dy dr ur) (hs : s < 8) (hj : j < n) (hn : n ≤ 12) (ha : ss (s * 12 + j) = 1) (hr : 0 < r) (hp : ∀ t, t ≠ s → pv' t = pv t) :
    sq_iv n sS st sg pv' (upd ss (s * 12 + j) 2) ta (upd dx (s * 12 + j) 0) dy (upd dr (s * 12 + j) r) ur := by
  have hj' : j < 12 := by omega
  refine sq_ivU h hs (fun _ _ => rfl) (fun _ _ => rfl) hp (fun t e => sq_wo hj' e) (fun _ _ => rfl) (fun t e => sq_wo hj' e) (fun _ _ => rfl) (fun t e => sq_wo hj' e) (fun _ _ => rfl) ?_
  rw [sq_wu hj', sq_wu hj', sq_wu hj']
  exact sq_vDone (h s).2 hj (by rw [sq_wi hj']; exact ha) hr
theorem sq_iUndone {r : Int32} (h : sq_iv n sS st sg pv ss ta dx dy dr ur) (hs : s < 8) (hj : j < n) (hn : n ≤ 12) (ha : ss (s * 12 + j) = 4) :
    sq_iv n sS st sg pv (upd ss (s * 12 + j) 5) ta (upd dx (s * 12 + j) 0) dy dr (upd ur (s * 12 + j) r) := by
  have hj' : j < 12 := by omega
  refine sq_ivU h hs (fun _ _ => rfl) (fun _ _ => rfl) (fun _ _ => rfl) (fun t e => sq_wo hj' e) (fun _ _ => rfl) (fun t e => sq_wo hj' e) (fun _ _ => rfl) (fun _ _ => rfl) (fun t e => sq_wo hj' e) ?_
  rw [sq_wu hj', sq_wu hj', sq_wu hj']
  exact sq_vUndone (h s).2 hj (by rw [sq_wi hj']; exact ha)
theorem sq_iFail (h : sq_iv n sS st sg pv ss ta dx dy dr ur) (hs : s < 8) (hj : j < n) (hn : n ≤ 12) (ha : ss (s * 12 + j) = 1) :
    sq_iv n sS (upd st s 2) sg pv (upd ss (s * 12 + j) 3) ta (upd dx (s * 12 + j) 0) dy dr ur := by
  have hj' : j < 12 := by omega
  refine sq_ivU h hs (fun _ e => pk_un e) (fun _ _ => rfl) (fun _ _ => rfl) (fun t e => sq_wo hj' e) (fun _ _ => rfl) (fun t e => sq_wo hj' e) (fun _ _ => rfl) (fun _ _ => rfl) (fun _ _ => rfl) ?_
  rw [sq_wu hj', sq_wu hj', pk_us]
  exact sq_vFail (h s).2 hj (by rw [sq_wi hj']; exact ha)
theorem sq_iRetry {y d : Int32} (h : sq_iv n sS st sg pv ss ta dx dy dr ur) (hs : s < 8) (hj : j < n) (hn : n ≤ 12) (ha : ss (s * 12 + j) = 1 ∨ ss (s * 12 + j) = 4) :
    sq_iv n sS st sg pv ss (upd ta (s * 12 + j) y) (upd dx (s * 12 + j) d) (upd dy (s * 12 + j) d) dr ur := by
  have hj' : j < 12 := by omega
  refine sq_ivU h hs (fun _ _ => rfl) (fun _ _ => rfl) (fun _ _ => rfl) (fun _ _ => rfl) (fun t e => sq_wo hj' e) (fun t e => sq_wo hj' e) (fun t e => sq_wo hj' e) (fun _ _ => rfl) (fun _ _ => rfl) ?_
  rw [sq_wu hj', sq_wu hj', sq_wu hj']
  exact sq_vRetry (h s).2 hj (by rw [sq_wi hj']; exact ha)
theorem sq_iComp (h : sq_iv n sS st sg pv ss ta dx dy dr ur) (hs : s < 8) (hn : n ≤ 12) (h2 : st s = 2) (ha : ∀ i, i < n → ¬ ss (s * 12 + i) = 1) :
    sq_iv n sS (upd st s 3) sg pv ss ta dx dy dr ur := by
  refine sq_ivU h hs (fun _ e => pk_un e) (fun _ _ => rfl) (fun _ _ => rfl) (fun _ _ => rfl) (fun _ _ => rfl) (fun _ _ => rfl) (fun _ _ => rfl) (fun _ _ => rfl) (fun _ _ => rfl) ?_
  have hv := (h s).2
  rw [h2] at hv
  rw [pk_us]
  exact sq_vComp hv (fun i hi => by rw [sq_wi (by omega)]; exact ha i hi)
theorem sq_iRoll (h : sq_iv n sS st sg pv ss ta dx dy dr ur) (hs : s < 8) (hn : n ≤ 12) (ha : ∀ i, i < n → ¬ ss (s * 12 + i) = 1) :
    sq_iv n sS (upd st s 5) sg pv ss ta dx dy dr ur := by
  refine sq_ivU h hs (fun _ e => pk_un e) (fun _ _ => rfl) (fun _ _ => rfl) (fun _ _ => rfl) (fun _ _ => rfl) (fun _ _ => rfl) (fun _ _ => rfl) (fun _ _ => rfl) (fun _ _ => rfl) ?_
  rw [pk_us]
  exact sq_vRoll (h s).2 (fun i hi => by rw [sq_wi (by omega)]; exact ha i hi)
theorem sq_iUndo {y d : Int32} (h : sq_iv n sS st sg pv ss ta dx dy dr ur) (hs : s < 8) (hj : j < 12) (hx : st s = 3 ∨ st s = 5) :
    sq_iv n sS st sg pv (upd ss (s * 12 + j) 4) (upd ta (s * 12 + j) y) (upd dx (s * 12 + j) d) (upd dy (s * 12 + j) d) dr ur := by
  refine sq_ivU h hs (fun _ _ => rfl) (fun _ _ => rfl) (fun _ _ => rfl) (fun t e => sq_wo hj e) (fun t e => sq_wo hj e) (fun t e => sq_wo hj e) (fun t e => sq_wo hj e) (fun _ _ => rfl) (fun _ _ => rfl) ?_
  rw [sq_wu hj, sq_wu hj, sq_wu hj, sq_wu hj]
  exact sq_vUndo (h s).2 hx
theorem sq_iCommit (h : sq_iv n sS st sg pv ss ta dx dy dr ur) (hs : s < 8) (hn : n ≤ 12) (h1 : st s = 1) (hd : ∀ i, i < n → sS i = sg s → ss (s * 12 + i) = 2) :
    sq_iv n sS (upd st s 4) sg pv ss ta dx dy dr ur := by
  refine sq_ivU h hs (fun _ e => pk_un e) (fun _ _ => rfl) (fun _ _ => rfl) (fun _ _ => rfl) (fun _ _ => rfl) (fun _ _ => rfl) (fun _ _ => rfl) (fun _ _ => rfl) (fun _ _ => rfl) ?_
  have hv := (h s).2
  rw [h1] at hv
  rw [pk_us]
  exact sq_vCommit hv (fun i hi e => by rw [sq_wi (by omega)]; exact hd i hi e)
/-- a finished stage has no step ACTIVE -/
theorem sq_iNoAct (h : sq_iv n sS st sg pv ss ta dx dy dr ur) (hn : n ≤ 12) (hd : ∀ i, i < n → sS i = sg s → ss (s * 12 + i) = 2) :
    ∀ i, i < n → ¬ ss (s * 12 + i) = 1 := by
  intro i hi h1
  have hB := (h s).2.2.1 i hi (by rw [sq_wi (by omega)]; exact h1)
  exact absurd (h1.symm.trans (hd i hi hB.2)) (by decide)
theorem sq_iIssue {c : Nat → Bool} {d : Nat → Int32} {g : Int32} (h : sq_iv n sS st sg pv ss ta dx dy dr ur) (hs : s < 8) (hn : n ≤ 12) (h1 : st s = 1)
    (ha : ∀ i, i < n → ¬ ss (s * 12 + i) = 1) (hc : ∀ i, c i = true → sS i = g) :
    sq_iv n sS st (upd sg s g) pv (sq_mx c (fun _ => 1) s n ss) (sq_mx c (fun _ => 1) s n ta) (sq_mx c d s n dx) (sq_mx c d s n dy) dr ur := by
  refine sq_ivU h hs (fun _ _ => rfl) (fun _ e => pk_un e) (fun _ _ => rfl) (fun t e => sq_wmo hn e) (fun t e => sq_wmo hn e) (fun t e => sq_wmo hn e) (fun t e => sq_wmo hn e) (fun _ _ => rfl) (fun _ _ => rfl) ?_
  have hv := (h s).2
  rw [h1] at hv
  rw [sq_wm hn, sq_wm hn, sq_wm hn, sq_wm hn, pk_us, h1]
  exact sq_vIssue hv (fun i hi => by rw [sq_wi (by omega)]; exact ha i hi) hc
theorem sq_iStart {c : Nat → Bool} {d : Nat → Int32} (h : sq_iv n sS st sg pv ss ta dx dy dr ur) (hs : s < 8) (hn : n ≤ 12) (h0 : st s = 0)
    (hc : ∀ i, c i = true → sS i = 0) :
    sq_iv n sS (upd st s 1) (upd sg s 0) (upd pv s 0) (sq_mx c (fun _ => 1) s n ss) (sq_mx c (fun _ => 1) s n ta) (sq_mx c d s n dx) (sq_mx c d s n dy) dr ur := by
  refine sq_ivU h hs (fun _ e => pk_un e) (fun _ e => pk_un e) (fun _ e => pk_un e) (fun t e => sq_wmo hn e) (fun t e => sq_wmo hn e) (fun t e => sq_wmo hn e) (fun t e => sq_wmo hn e) (fun _ _ => rfl) (fun _ _ => rfl) ?_
  have hv := (h s).2
  rw [h0] at hv
  obtain ⟨hw, hn1⟩ := sq_vRun hv hn
  rw [sq_wm hn, sq_wm hn, sq_wm hn, sq_wm hn, pk_us, pk_us, pk_us]
  exact sq_vIssue hw hn1 hc
theorem sq_iFree (h : sq_iv n sS st sg pv ss ta dx dy dr ur) (hs : s < 8) :
    sq_iv n sS (upd st s 0) (upd sg s 0) (upd pv s 0) (sq_mx (fun _ => true) (fun _ => 0) s 12 ss) (sq_mx (fun _ => true) (fun _ => 0) s 12 ta) (sq_mx (fun _ => true) (fun _ => 0) s 12 dx)
      (sq_mx (fun _ => true) (fun _ => 0) s 12 dy) (sq_mx (fun _ => true) (fun _ => 0) s 12 dr) (sq_mx (fun _ => true) (fun _ => 0) s 12 ur) := by
  refine sq_ivU h hs (fun _ e => pk_un e) (fun _ e => pk_un e) (fun _ e => pk_un e) (fun t e => sq_wmo (Nat.le_refl 12) e) (fun t e => sq_wmo (Nat.le_refl 12) e) (fun t e => sq_wmo (Nat.le_refl 12) e)
    (fun t e => sq_wmo (Nat.le_refl 12) e) (fun t e => sq_wmo (Nat.le_refl 12) e) (fun t e => sq_wmo (Nat.le_refl 12) e) ?_
  rw [sq_wz, sq_wz, sq_wz, sq_wz, sq_wz, sq_wz, pk_us, pk_us, pk_us]
  exact sq_v0
/-- what an index of a cell says: slot and step -/
theorem sq_allz {a : Nat → Int32} (h : ∀ t i, i < 12 → sq_w a t i = 0) : a = fun _ => 0 := by
  funext k
  have h1 := h (k / 12) (k % 12) (Nat.mod_lt _ (by omega))
  rw [sq_wi (Nat.mod_lt _ (by omega)), show k / 12 * 12 + k % 12 = k from by omega] at h1
  exact h1
theorem sq_iAll (h : sq_iv n sS st sg pv ss ta dx dy dr ur) (hz : ∀ t, st t = 0) :
    st = (fun _ => 0) ∧ sg = (fun _ => 0) ∧ pv = (fun _ => 0) ∧ ss = (fun _ => 0) ∧ ta = (fun _ => 0) ∧ dx = (fun _ => 0) ∧ dy = (fun _ => 0) ∧ dr = (fun _ => 0) ∧ ur = (fun _ => 0) := by
  have hA := fun t => (h t).2.1 (hz t)
  exact ⟨funext hz, funext fun t => (hA t).1, funext fun t => (hA t).2.1, sq_allz fun t i hi => ((hA t).2.2 i hi).1, sq_allz fun t i hi => ((hA t).2.2 i hi).2.1, sq_allz fun t i hi => ((hA t).2.2 i hi).2.2.1,
    sq_allz fun t i hi => ((hA t).2.2 i hi).2.2.2.1, sq_allz fun t i hi => ((hA t).2.2 i hi).2.2.2.2.1, sq_allz fun t i hi => ((hA t).2.2 i hi).2.2.2.2.2⟩
/-- a free slot's cells are 0 -/
theorem sq_iZ (h : sq_iv n sS st sg pv ss ta dx dy dr ur) (h0 : st s = 0) :
    sg s = 0 ∧ pv s = 0 ∧ sq_mx (fun _ => true) (fun _ => 0) s 12 ss = ss ∧ sq_mx (fun _ => true) (fun _ => 0) s 12 ta = ta ∧ sq_mx (fun _ => true) (fun _ => 0) s 12 dy = dy ∧ sq_mx (fun _ => true) (fun _ => 0) s 12 dr = dr ∧ sq_mx (fun _ => true) (fun _ => 0) s 12 ur = ur := by
  have hA := (h s).2.1 h0
  exact ⟨hA.1, hA.2.1, sq_mz fun i hi => (hA.2.2 i hi).1, sq_mz fun i hi => (hA.2.2 i hi).2.1, sq_mz fun i hi => (hA.2.2 i hi).2.2.2.1, sq_mz fun i hi => (hA.2.2 i hi).2.2.2.2.1, sq_mz fun i hi => (hA.2.2 i hi).2.2.2.2.2⟩
/-- the cell's facts by its index -/
theorem sq_iB (h : sq_iv n sS st sg pv ss ta dx dy dr ur) (hn : n ≤ 12) (hj : j < n) (h1 : ss (s * 12 + j) = 1) : st s = 1 ∨ st s = 2 :=
  ((h s).2.2.1 j hj (by rw [sq_wi (by omega)]; exact h1)).1
theorem sq_iC (h : sq_iv n sS st sg pv ss ta dx dy dr ur) (hn : n ≤ 12) (hj : j < n) (h1 : ss (s * 12 + j) = 2) : 0 < dr (s * 12 + j) := by
  have := (h s).2.2.2.1 j hj (by rw [sq_wi (by omega)]; exact h1)
  rw [sq_wi (by omega)] at this
  exact this
theorem sq_iD (h : sq_iv n sS st sg pv ss ta dx dy dr ur) (hn : n ≤ 12) (hj : j < n) (h1 : ss (s * 12 + j) = 4) : st s = 3 ∨ st s = 5 :=
  (h s).2.2.2.2.1 j hj (by rw [sq_wi (by omega)]; exact h1)
theorem sq_iDn (h : sq_iv n sS st sg pv ss ta dx dy dr ur) (hn : n ≤ 12) (hx : st s = 3 ∨ st s = 5) : ∀ i, i < n → ¬ ss (s * 12 + i) = 1 := by
  intro i hi h1
  rcases sq_iB h hn hi h1 with a | a <;> rcases hx with b | b <;> exact absurd (a.symm.trans b) (by decide)
theorem sq_iE (h : sq_iv n sS st sg pv ss ta dx dy dr ur) (hj : j < 12) (h1 : ss (s * 12 + j) = 1 ∨ ss (s * 12 + j) = 4) : dx (s * 12 + j) = dy (s * 12 + j) := by
  have := ((h s).2.2.2.2.2 j hj).1 (by rw [sq_wi hj]; exact h1)
  rw [sq_wi hj, sq_wi hj] at this
  exact this
theorem sq_iE0 (h : sq_iv n sS st sg pv ss ta dx dy dr ur) (hj : j < 12) (h1 : ¬ (ss (s * 12 + j) = 1 ∨ ss (s * 12 + j) = 4)) : dx (s * 12 + j) = 0 := by
  have := ((h s).2.2.2.2.2 j hj).2 (by rw [sq_wi hj]; exact h1)
  rw [sq_wi hj] at this
  exact this
end STEPS
end
section
/-! the template: stages in order, a pivot alone in its stage -/
def sq_tp (n : Nat) (sS sF : Nat → Int32) : Prop :=
  ∃ g : Nat → Nat, (∀ j, j < n → sS j = nI (g j) ∧ g j ≤ j) ∧ (∀ i j, i < j → j < n → g i ≤ g j) ∧
    (∀ i j, i < j → j < n → g i = g j → (sF i &&& 2) = 0 ∧ (sF j &&& 2) = 0)
theorem sq_tp0 {sS sF : Nat → Int32} : sq_tp 0 sS sF :=
  ⟨fun _ => 0, fun j h => absurd h (by omega), fun i j _ h => absurd h (by omega), fun i j _ h => absurd h (by omega)⟩
theorem sq_tp1 {sS sF : Nat → Int32} {f : Int32} : sq_tp 1 (upd sS 0 0) (upd sF 0 f) := by
  refine ⟨fun _ => 0, fun j h => ?_, fun i j h1 h2 => absurd h2 (by omega), fun i j h1 h2 => absurd h2 (by omega)⟩
  have e : j = 0 := by omega
  subst e
  exact ⟨pk_us, Nat.le_refl 0⟩
theorem sq_tpG {k : Nat} {sS sF : Nat → Int32} {v f : Int32} {g : Nat → Nat} {q : Nat} (h1 : ∀ j, j < k + 1 → sS j = nI (g j) ∧ g j ≤ j) (h2 : ∀ i j, i < j → j < k + 1 → g i ≤ g j)
    (h3 : ∀ i j, i < j → j < k + 1 → g i = g j → (sF i &&& 2) = 0 ∧ (sF j &&& 2) = 0) (hv : v = nI q) (hq : g k ≤ q) (hq2 : q ≤ k + 1)
    (h4 : ∀ i, i < k + 1 → g i = q → (sF i &&& 2) = 0 ∧ (f &&& 2) = 0) : sq_tp (k + 2) (upd sS (k + 1) v) (upd sF (k + 1) f) := by
  refine ⟨fun j => if j = k + 1 then q else g j, fun j hj => ?_, fun i j hij hj => ?_, fun i j hij hj e => ?_⟩
  · dsimp only
    by_cases e : j = k + 1
    · subst e
      rw [pk_us, if_pos rfl]
      exact ⟨hv, by omega⟩
    · rw [pk_un e, if_neg e]
      exact h1 j (by omega)
  · have ei : ¬ i = k + 1 := by omega
    dsimp only
    rw [if_neg ei]
    by_cases e : j = k + 1
    · rw [if_pos e]
      by_cases e2 : i = k
      · rw [e2]; exact hq
      · exact Nat.le_trans (h2 i k (by omega) (by omega)) hq
    · rw [if_neg e]; exact h2 i j hij (by omega)
  · have ei : ¬ i = k + 1 := by omega
    dsimp only at e
    rw [if_neg ei] at e
    rw [pk_un ei]
    by_cases e1 : j = k + 1
    · rw [if_pos e1] at e
      subst e1
      rw [pk_us]
      exact h4 i (by omega) e
    · rw [if_neg e1] at e
      rw [pk_un e1]
      exact h3 i j hij (by omega) e
/-- the last stage once more, no pivot there -/
theorem sq_tpA {k : Nat} {sS sF : Nat → Int32} {f : Int32} (h : sq_tp (k + 1) sS sF) (hf : (f &&& 2) = 0) (hk : (sF k &&& 2) = 0) : sq_tp (k + 2) (upd sS (k + 1) (sS k)) (upd sF (k + 1) f) := by
  obtain ⟨g, h1, h2, h3⟩ := h
  refine sq_tpG h1 h2 h3 (h1 k (by omega)).1 (Nat.le_refl _) (by have := (h1 k (by omega)).2; omega) (fun i hi e => ⟨?_, hf⟩)
  by_cases e2 : i = k
  · rw [e2]; exact hk
  · exact (h3 i k (by omega) (by omega) e).1
/-- the next stage -/
theorem sq_tpB {k : Nat} {sS sF : Nat → Int32} {f : Int32} (h : sq_tp (k + 1) sS sF) : sq_tp (k + 2) (upd sS (k + 1) (sS k + 1)) (upd sF (k + 1) f) := by
  obtain ⟨g, h1, h2, h3⟩ := h
  refine sq_tpG (q := g k + 1) h1 h2 h3 (by rw [(h1 k (by omega)).1, nI_1]) (by omega) (by have := (h1 k (by omega)).2; omega) (fun i hi e => ?_)
  by_cases e2 : i = k
  · rw [e2] at e; omega
  · have := h2 i k (by omega) (by omega); omega
theorem sq_tpS {k : Nat} {sS sF : Nat → Int32} (h : sq_tp (k + 1) sS sF) (hk : (sF k &&& 2) = 0) (hn : k + 1 ≤ 12) : ∀ j, j < k + 1 → sS j = sS k → (sF j &&& 2) = 0 := by
  obtain ⟨g, h1, h2, h3⟩ := h
  intro j hj e
  by_cases e2 : j = k
  · rw [e2]; exact hk
  · rw [(h1 j hj).1, (h1 k (by omega)).1] at e
    have a1 := (h1 j hj).2
    have a2 := (h1 k (by omega)).2
    exact (h3 j k (by omega) (by omega) ((nI_eq (by omega) (by omega)).mp e)).1
theorem sq_tpN {k : Nat} {sS sF : Nat → Int32} (h : sq_tp (k + 1) sS sF) (hn : k + 1 ≤ 12) : ∀ j, j < k + 1 → ¬ sS j = sS k + 1 := by
  obtain ⟨g, h1, h2, h3⟩ := h
  intro j hj e
  rw [(h1 j hj).1, (h1 k (by omega)).1, nI_1] at e
  have a1 := (h1 j hj).2
  have a2 := (h1 k (by omega)).2
  have e3 := (nI_eq (by omega) (by omega)).mp e
  by_cases e2 : j = k
  · rw [e2] at e3; omega
  · have := h2 j k (by omega) (by omega); omega
theorem sq_tpNe {k : Nat} {sS sF : Nat → Int32} (h : sq_tp (k + 1) sS sF) (hn : k + 1 ≤ 12) : ¬ sS k = sS k + 1 := sq_tpN h hn k (by omega)
/-! the scan of the template: how many steps have the stage, and whether one of them is a pivot -/
def sq_ct (sS : Nat → Int32) (v : Int32) : Nat → Nat
  | 0 => 0
  | i + 1 => if sS i = v then sq_ct sS v i + 1 else sq_ct sS v i
def sq_hp (sS sF : Nat → Int32) (v : Int32) : Nat → Int32
  | 0 => 0
  | i + 1 => if sS i = v ∧ ¬ (sF i &&& 2) = 0 then 1 else sq_hp sS sF v i
theorem sq_ctS {sS : Nat → Int32} {v : Int32} {i : Nat} : sq_ct sS v (i + 1) = if sS i = v then sq_ct sS v i + 1 else sq_ct sS v i := rfl
theorem sq_hpS {sS sF : Nat → Int32} {v : Int32} {i : Nat} : sq_hp sS sF v (i + 1) = if sS i = v ∧ ¬ (sF i &&& 2) = 0 then 1 else sq_hp sS sF v i := rfl
theorem sq_ctL {sS : Nat → Int32} {v : Int32} : ∀ i, sq_ct sS v i ≤ i := by
  intro i
  induction i with
  | zero => exact Nat.le_refl 0
  | succ i ih =>
    rw [sq_ctS]
    by_cases h : sS i = v
    · rw [if_pos h]; omega
    · rw [if_neg h]; omega
theorem sq_ct0 {sS : Nat → Int32} {v : Int32} : ∀ i, (∀ j, j < i → ¬ sS j = v) → sq_ct sS v i = 0 := by
  intro i
  induction i with
  | zero => exact fun _ => rfl
  | succ i ih =>
    intro h
    rw [sq_ctS, if_neg (h i (by omega))]
    exact ih (fun j hj => h j (by omega))
theorem sq_hp0 {sS sF : Nat → Int32} {v : Int32} : ∀ i, (∀ j, j < i → sS j = v → (sF j &&& 2) = 0) → sq_hp sS sF v i = 0 := by
  intro i
  induction i with
  | zero => exact fun _ => rfl
  | succ i ih =>
    intro h
    rw [sq_hpS, if_neg (fun z => z.2 (h i (by omega) z.1))]
    exact ih (fun j hj => h j (by omega))
/-! the clock of a journal of ticks -/
def sq_cs (jA : Nat → Int32) : Nat → Int32
  | 0 => 0
  | r + 1 => sq_cs jA r + jA r
theorem sq_csU {jA : Nat → Int32} {k : Nat} {x : Int32} : ∀ r, r ≤ k → sq_cs (upd jA k x) r = sq_cs jA r := by
  intro r
  induction r with
  | zero => exact fun _ => rfl
  | succ r ih =>
    intro h
    show sq_cs (upd jA k x) r + upd jA k x r = sq_cs jA r + jA r
    rw [ih (by omega), pk_un (by omega)]
end
section
/-! the component's own methods, one by one: what reads -/
section XA
variable {n m s j : Nat} {ev ck cp rc du : Int32} {sS sM sT sF st sg pv ss ta dx dr ur jK jA jB jC : Nat → Int32}
theorem sx_isSlot_t {post : Int32 → Prop} (hm : m ≤ 8) (hs : s < m) (h : post 1) : wpX_isSlot post (nI n, ev, nI m, ck, cp, rc, du, sS, sM, sT, sF, st, sg, pv, ss, ta, dx, dr, ur, jK, jA, jB, jC) (nI s) :=
  br_f (nI_pos (by omega)) (br_f (nI_ge hs (by omega)) h)
theorem sx_isSlot_f {post : Int32 → Prop} {x : Int32} (hx : x < 0 ∨ nI m ≤ x) (h : post 0) : wpX_isSlot post (nI n, ev, nI m, ck, cp, rc, du, sS, sM, sT, sF, st, sg, pv, ss, ta, dx, dr, ur, jK, jA, jB, jC) x := by
  by_cases h0 : x < 0
  · exact br_t h0 h
  · rcases hx with a | a
    · exact absurd a h0
    · exact br_f h0 (br_t a h)
theorem sx_isStep_t {post : Int32 → Prop} (hn : n ≤ 12) (hj : j < n) (h : post 1) : wpX_isStep post (nI n, ev, nI m, ck, cp, rc, du, sS, sM, sT, sF, st, sg, pv, ss, ta, dx, dr, ur, jK, jA, jB, jC) (nI j) :=
  br_f (nI_pos (by omega)) (br_f (nI_ge hj (by omega)) h)
theorem sx_isStep_f {post : Int32 → Prop} {x : Int32} (hx : x < 0 ∨ nI n ≤ x) (h : post 0) : wpX_isStep post (nI n, ev, nI m, ck, cp, rc, du, sS, sM, sT, sF, st, sg, pv, ss, ta, dx, dr, ur, jK, jA, jB, jC) x := by
  by_cases h0 : x < 0
  · exact br_t h0 h
  · rcases hx with a | a
    · exact absurd a h0
    · exact br_f h0 (br_t a h)
theorem sx_infl_t {post : Int32 → Prop} {k : Nat} (hk : k < 96) (ha : ss k = 1 ∨ ss k = 4) (h : post 1) : wpX_isInFlight post (nI n, ev, nI m, ck, cp, rc, du, sS, sM, sT, sF, st, sg, pv, ss, ta, dx, dr, ur, jK, jA, jB, jC) (nI k) := by
  have hi : vp_in (nI k) 96 := vp_in_nI hk (by omega)
  unfold wpX_isInFlight
  rw [nI_clamp (n := k) (by omega)]
  rcases ha with a | a
  · exact ⟨hi, br_t a h⟩
  · exact ⟨hi, br_f (fun z => absurd (a.symm.trans z) (by decide)) ⟨hi, br_t a h⟩⟩
theorem sx_infl_f {post : Int32 → Prop} {k : Nat} (hk : k < 96) (ha : ¬ (ss k = 1 ∨ ss k = 4)) (h : post 0) : wpX_isInFlight post (nI n, ev, nI m, ck, cp, rc, du, sS, sM, sT, sF, st, sg, pv, ss, ta, dx, dr, ur, jK, jA, jB, jC) (nI k) := by
  have hi : vp_in (nI k) 96 := vp_in_nI hk (by omega)
  unfold wpX_isInFlight
  rw [nI_clamp (n := k) (by omega)]
  exact ⟨hi, br_f (fun z => ha (Or.inl z)) ⟨hi, br_f (fun z => ha (Or.inr z)) h⟩⟩
theorem sx_lf_s {post : Int32 → Prop} (hm : m ≤ 8) (hs : s < m) (h0 : st s = 0) (hl : ∀ t, t < s → ¬ st t = 0) (h : post (nI s)) : wpX_leastFreeSlot post (nI n, ev, nI m, ck, cp, rc, du, sS, sM, sT, sF, st, sg, pv, ss, ta, dx, dr, ur, jK, jA, jB, jC) := by
  have key : ∀ d i, i + d = s → wX_leastFreeSlot_2 post (nI n) ev (nI m) ck cp rc du sS sM sT sF st sg pv ss ta dx dr ur jK jA jB jC (d + 1) (nI i) := by
    intro d
    induction d with
    | zero =>
      intro i hi
      have e : i = s := by omega
      rw [e]
      exact br_f (nI_ge hs (by omega)) ⟨vp_in_nI (by omega) (by omega), br_t (by rw [nI_clamp (by omega)]; exact h0) h⟩
    | succ d ih =>
      intro i hi
      exact br_f (nI_ge (by omega) (by omega)) ⟨vp_in_nI (by omega) (by omega), br_f (by rw [nI_clamp (by omega)]; exact hl i (by omega)) (nm_r (nI_1 i) (ih (i + 1) (by omega)))⟩
  exact ⟨s + 1, key s 0 (by omega)⟩
theorem sx_lf_n {post : Int32 → Prop} (hm : m ≤ 8) (hl : ∀ t, t < m → ¬ st t = 0) (h : post (-1)) : wpX_leastFreeSlot post (nI n, ev, nI m, ck, cp, rc, du, sS, sM, sT, sF, st, sg, pv, ss, ta, dx, dr, ur, jK, jA, jB, jC) := by
  have key : ∀ d i, i + d = m → wX_leastFreeSlot_2 post (nI n) ev (nI m) ck cp rc du sS sM sT sF st sg pv ss ta dx dr ur jK jA jB jC (d + 1) (nI i) := by
    intro d
    induction d with
    | zero =>
      intro i hi
      exact br_t (nI_le (by omega) (by omega)) h
    | succ d ih =>
      intro i hi
      exact br_f (nI_ge (by omega) (by omega)) ⟨vp_in_nI (by omega) (by omega), br_f (by rw [nI_clamp (by omega)]; exact hl i (by omega)) (nm_r (nI_1 i) (ih (i + 1) (by omega)))⟩
  exact ⟨m + 1, key m 0 (by omega)⟩
theorem sx_rkD {post : Int32 → Prop} (hs : s < 8) (hn : n ≤ 12) (h : post (nI (1 + sq_rn dr s n))) : wpX_nextRank__doneRank post (nI n, ev, nI m, ck, cp, rc, du, sS, sM, sT, sF, st, sg, pv, ss, ta, dx, dr, ur, jK, jA, jB, jC) (nI s) := by
  have key : ∀ d i, i + d = n → wX_nextRank__doneRank_5 post (nI s) (nI n) ev (nI m) ck cp rc du sS sM sT sF st sg pv ss ta dx dr ur jK jA jB jC (d + 1) (nI (1 + sq_rn dr s i)) (nI i) := by
    intro d
    induction d with
    | zero =>
      intro i hi
      have e : i = n := by omega
      rw [e]
      exact br_t (nI_le (Nat.le_refl n) (by omega)) h
    | succ d ih =>
      intro i hi
      have t := ih (i + 1) (by omega)
      refine br_f (nI_ge (by omega) (by omega)) ⟨sq_cn hs (by omega), ?_⟩
      rw [sq_cl hs (by omega)]
      by_cases q : dr (s * 12 + i) = 0
      · rw [sq_rnS, if_pos q] at t
        exact br_t q (nm_r (nI_1 i) t)
      · rw [sq_rnS, if_neg q] at t
        exact br_f q (nm_r (nI_1 _) (nm_r (nI_1 i) t))
  exact ⟨n + 1, key n 0 (by omega)⟩
theorem sx_rkU {post : Int32 → Prop} (hs : s < 8) (hn : n ≤ 12) (h : post (nI (1 + sq_rn ur s n))) : wpX_nextRank__undoRank post (nI n, ev, nI m, ck, cp, rc, du, sS, sM, sT, sF, st, sg, pv, ss, ta, dx, dr, ur, jK, jA, jB, jC) (nI s) := by
  have key : ∀ d i, i + d = n → wX_nextRank__undoRank_5 post (nI s) (nI n) ev (nI m) ck cp rc du sS sM sT sF st sg pv ss ta dx dr ur jK jA jB jC (d + 1) (nI (1 + sq_rn ur s i)) (nI i) := by
    intro d
    induction d with
    | zero =>
      intro i hi
      have e : i = n := by omega
      rw [e]
      exact br_t (nI_le (Nat.le_refl n) (by omega)) h
    | succ d ih =>
      intro i hi
      have t := ih (i + 1) (by omega)
      refine br_f (nI_ge (by omega) (by omega)) ⟨sq_cn hs (by omega), ?_⟩
      rw [sq_cl hs (by omega)]
      by_cases q : ur (s * 12 + i) = 0
      · rw [sq_rnS, if_pos q] at t
        exact br_t q (nm_r (nI_1 i) t)
      · rw [sq_rnS, if_neg q] at t
        exact br_f q (nm_r (nI_1 _) (nm_r (nI_1 i) t))
  exact ⟨n + 1, key n 0 (by omega)⟩
theorem sx_sd {post : Int32 → Prop} (hs : s < 8) (hn : n ≤ 12) (ht : (∀ i, i < n → sS i = sg s → ss (s * 12 + i) = 2) → post 1) (hf : ¬ (∀ i, i < n → sS i = sg s → ss (s * 12 + i) = 2) → post 0) : wpX_isStageDone post (nI n, ev, nI m, ck, cp, rc, du, sS, sM, sT, sF, st, sg, pv, ss, ta, dx, dr, ur, jK, jA, jB, jC) (nI s) := by
  have key : ∀ d i, i + d = n → (∀ k, k < i → sS k = sg s → ss (s * 12 + k) = 2) → wX_isStageDone_2 post (nI s) (nI n) ev (nI m) ck cp rc du sS sM sT sF st sg pv ss ta dx dr ur jK jA jB jC (d + 1) (nI i) := by
    intro d
    induction d with
    | zero =>
      intro i hi hk
      have e : i = n := by omega
      rw [e] at hk
      exact br_t (nI_le (by omega) (by omega)) (ht hk)
    | succ d ih =>
      intro i hi hk
      refine br_f (nI_ge (by omega) (by omega)) ⟨vp_in_nI (by omega) (by omega), vp_in_nI (by omega) (by omega), ?_⟩
      rw [nI_clamp (n := i) (by omega), nI_clamp (n := s) (by omega), sq_cl hs (by omega)]
      by_cases q : sS i = sg s
      · refine br_t q ⟨sq_cn hs (by omega), ?_⟩
        by_cases q2 : ss (s * 12 + i) = 2
        · refine br_t q2 (nm_r (nI_1 i) (ih (i + 1) (by omega) (fun k h1 h2 => ?_)))
          by_cases e : k = i
          · rw [e]; exact q2
          · exact hk k (by omega) h2
        · exact br_f q2 (hf (fun z => q2 (z i (by omega) q)))
      · refine br_f q (nm_r (nI_1 i) (ih (i + 1) (by omega) (fun k h1 h2 => ?_)))
        by_cases e : k = i
        · rw [e] at h2; exact absurd h2 q
        · exact hk k (by omega) h2
  exact ⟨n + 1, key n 0 (by omega) (fun k h => absurd h (by omega))⟩
theorem sx_ha {post : Int32 → Prop} (hs : s < 8) (hn : n ≤ 12) (ht : (∀ i, i < n → ¬ ss (s * 12 + i) = 1) → post 0) (hf : ¬ (∀ i, i < n → ¬ ss (s * 12 + i) = 1) → post 1) : wpX_hasActiveStep post (nI n, ev, nI m, ck, cp, rc, du, sS, sM, sT, sF, st, sg, pv, ss, ta, dx, dr, ur, jK, jA, jB, jC) (nI s) := by
  have key : ∀ d i, i + d = n → (∀ k, k < i → ¬ ss (s * 12 + k) = 1) → wX_hasActiveStep_2 post (nI s) (nI n) ev (nI m) ck cp rc du sS sM sT sF st sg pv ss ta dx dr ur jK jA jB jC (d + 1) (nI i) := by
    intro d
    induction d with
    | zero =>
      intro i hi hk
      have e : i = n := by omega
      rw [e] at hk
      exact br_t (nI_le (by omega) (by omega)) (ht hk)
    | succ d ih =>
      intro i hi hk
      refine br_f (nI_ge (by omega) (by omega)) ⟨sq_cn hs (by omega), ?_⟩
      rw [sq_cl hs (by omega)]
      by_cases q : ss (s * 12 + i) = 1
      · exact br_t q (hf (fun z => z i (by omega) q))
      · refine br_f q (nm_r (nI_1 i) (ih (i + 1) (by omega) (fun k h1 => ?_)))
        by_cases e : k = i
        · rw [e]; exact q
        · exact hk k (by omega)
  exact ⟨n + 1, key n 0 (by omega) (fun k h => absurd h (by omega))⟩
theorem sx_nw {post : Int32 → Prop} (hs : s < 8) (hn : n ≤ 12) (h : post (sq_nu ss dr sF s n).1) : wpX_newestUndoable post (nI n, ev, nI m, ck, cp, rc, du, sS, sM, sT, sF, st, sg, pv, ss, ta, dx, dr, ur, jK, jA, jB, jC) (nI s) := by
  have key : ∀ d i, i + d = n → wX_newestUndoable_7 post (nI s) (nI n) ev (nI m) ck cp rc du sS sM sT sF st sg pv ss ta dx dr ur jK jA jB jC (d + 1) (sq_nu ss dr sF s i).1 (sq_nu ss dr sF s i).2 (nI i) := by
    intro d
    induction d with
    | zero =>
      intro i hi
      have e : i = n := by omega
      rw [e]
      exact br_t (nI_le (Nat.le_refl n) (by omega)) h
    | succ d ih =>
      intro i hi
      have t := ih (i + 1) (by omega)
      have hv : vp_in (nI (s * 12 + i)) 96 := vp_in_nI (by omega) (by omega)
      refine br_f (nI_ge (by omega) (by omega)) (nm_r (sq_ci s i) ⟨hv, ?_⟩)
      rw [nI_clamp (n := s * 12 + i) (by omega), nI_clamp (n := i) (by omega)]
      by_cases a : ss (s * 12 + i) = 2
      · refine br_t a ⟨vp_in_nI (by omega) (by omega), ?_⟩
        by_cases b : (sF i &&& 1) = 0
        · rw [sq_nuS, if_neg (fun z => z.2.1 b)] at t
          exact br_t b (br_t rfl (nm_r (nI_1 i) t))
        · by_cases c : dr (s * 12 + i) ≤ (sq_nu ss dr sF s i).2
          · rw [sq_nuS, if_neg (fun z => absurd z.2.2 (Int32.not_lt.mpr c))] at t
            refine br_f b (br_f (by decide) ⟨hv, ?_⟩)
            rw [nI_clamp (n := s * 12 + i) (by omega)]
            exact br_t c (nm_r (nI_1 i) t)
          · rw [sq_nuS, if_pos ⟨a, b, Int32.not_le.mp c⟩] at t
            refine br_f b (br_f (by decide) ⟨hv, ?_⟩)
            rw [nI_clamp (n := s * 12 + i) (by omega)]
            exact br_f c ⟨hv, nm_e (nm_r (nI_1 i) t)⟩
      · rw [sq_nuS, if_neg (fun z => a z.1)] at t
        exact br_f a (br_t rfl (nm_r (nI_1 i) t))
  exact ⟨n + 1, key n 0 (by omega)⟩
theorem sx_mr_t {post : Int32 → Prop} (hs : s < 8) (hj : j < 12) (hr : ss (s * 12 + j) = 4 ∨ (st s = 1 ∧ (pv s = 1 ∨ ta (s * 12 + j) < sM j))) (h : post 1) : wpX_mayRetry post (nI n, ev, nI m, ck, cp, rc, du, sS, sM, sT, sF, st, sg, pv, ss, ta, dx, dr, ur, jK, jA, jB, jC) (nI s) (nI j) := by
  simp (disch := omega) only [wpX_mayRetry, forall_eq, sq_ci, nI_clamp, sq_vin, true_and, nI_1]
  by_cases a : ss (s * 12 + j) = 4
  · exact br_t a h
  · rcases hr with z | ⟨b, c⟩
    · exact absurd z a
    · refine br_f a (br_t b ?_)
      by_cases p : pv s = 1
      · exact br_t p h
      · rcases c with z | c
        · exact absurd z p
        · exact br_f p (br_f (Int32.not_le.mpr c) h)
theorem sx_mr_f {post : Int32 → Prop} (hs : s < 8) (hj : j < 12) (ha : ¬ ss (s * 12 + j) = 4) (hr : ¬ (st s = 1 ∧ (pv s = 1 ∨ ta (s * 12 + j) < sM j))) (h : post 0) : wpX_mayRetry post (nI n, ev, nI m, ck, cp, rc, du, sS, sM, sT, sF, st, sg, pv, ss, ta, dx, dr, ur, jK, jA, jB, jC) (nI s) (nI j) := by
  simp (disch := omega) only [wpX_mayRetry, forall_eq, sq_ci, nI_clamp, sq_vin, true_and, nI_1]
  refine br_f ha ?_
  by_cases b : st s = 1
  · refine br_t b (br_f (fun z => hr ⟨b, Or.inl z⟩) (br_t (Int32.not_lt.mp (fun z => hr ⟨b, Or.inr z⟩)) h))
  · exact br_f b h
end XA
end
section
/-! the component's own methods: what writes -/
section XB
variable {n m s j : Nat} {ev ck cp rc du : Int32} {sS sM sT sF st sg pv ss ta dx dr ur jK jA jB jC : Nat → Int32}
theorem sx_append {r : Nat} {k a b c : Int32} {post : SX → Prop} (hr : r < 128) (h : post (nI n, ev, nI m, ck, cp, nI (r + 1), du, sS, sM, sT, sF, st, sg, pv, ss, ta, dx, dr, ur, upd jK r k, upd jA r a, upd jB r b, upd jC r c)) : wpX_append post (nI n, ev, nI m, ck, cp, nI r, du, sS, sM, sT, sF, st, sg, pv, ss, ta, dx, dr, ur, jK, jA, jB, jC) k a b c := by
  simp (disch := omega) only [wpX_append, forall_eq, sq_ci, nI_clamp, sq_vin, true_and, nI_1]
  exact h
theorem sx_begin {x : Int32} {post : SX → Prop} (hs : s < 8) (hj : j < 12) (h : post (nI n, ev, nI m, ck, cp, rc, du, sS, sM, sT, sF, st, sg, pv, upd ss (s * 12 + j) x, upd ta (s * 12 + j) 1, upd dx (s * 12 + j) (ck + sT j), dr, ur, jK, jA, jB, jC)) : wpX_beginAttempts post (nI n, ev, nI m, ck, cp, rc, du, sS, sM, sT, sF, st, sg, pv, ss, ta, dx, dr, ur, jK, jA, jB, jC) (nI s) (nI j) x := by
  simp (disch := omega) only [wpX_beginAttempts, forall_eq, sq_ci, nI_clamp, sq_vin, true_and, nI_1]
  exact h
theorem sx_issue {g : Int32} {post : SX → Prop} (hs : s < 8) (hn : n ≤ 12) (hg : sg s = g)
    (h : post (nI n, ev, nI m, ck, cp, rc, du, sS, sM, sT, sF, st, sg, pv, sq_mx (fun i => decide (sS i = g)) (fun _ => 1) s n ss, sq_mx (fun i => decide (sS i = g)) (fun _ => 1) s n ta, sq_mx (fun i => decide (sS i = g)) (fun i => ck + sT i) s n dx, dr, ur, jK, jA, jB, jC)) : wpX_issueStage post (nI n, ev, nI m, ck, cp, rc, du, sS, sM, sT, sF, st, sg, pv, ss, ta, dx, dr, ur, jK, jA, jB, jC) (nI s) := by
  have key : ∀ d i, i + d = n → wX_issueStage_2 post (nI s) (d + 1) (nI i) (nI n) ev (nI m) ck cp rc du sS sM sT sF st sg pv (sq_mx (fun i => decide (sS i = g)) (fun _ => 1) s i ss) (sq_mx (fun i => decide (sS i = g)) (fun _ => 1) s i ta) (sq_mx (fun i => decide (sS i = g)) (fun i => ck + sT i) s i dx) dr ur jK jA jB jC := by
    intro d
    induction d with
    | zero =>
      intro i hi
      have e : i = n := by omega
      rw [e]
      exact br_t (nI_le (Nat.le_refl n) (by omega)) h
    | succ d ih =>
      intro i hi
      have t := ih (i + 1) (by omega)
      refine br_f (nI_ge (by omega) (by omega)) ⟨vp_in_nI (by omega) (by omega), vp_in_nI (by omega) (by omega), ?_⟩
      rw [nI_clamp (n := i) (by omega), nI_clamp (n := s) (by omega)]
      by_cases q : sS i = g
      · have hc : (fun i => decide (sS i = g)) i = true := decide_eq_true q
        have e1 : upd (sq_mx (fun i => decide (sS i = g)) (fun _ => 1) s i ss) (s * 12 + i) 1 = _ := sq_mxt hc
        have e2 : upd (sq_mx (fun i => decide (sS i = g)) (fun _ => 1) s i ta) (s * 12 + i) 1 = _ := sq_mxt hc
        have e3 : upd (sq_mx (fun i => decide (sS i = g)) (fun i => ck + sT i) s i dx) (s * 12 + i) (ck + sT i) = _ := sq_mxt hc
        rw [← e1, ← e2, ← e3] at t
        exact br_t (q.trans hg.symm) (sx_begin hs (by omega) (nm_r (nI_1 i) t))
      · have hc : ¬ (fun i => decide (sS i = g)) i = true := fun z => q (of_decide_eq_true z)
        have e1 : sq_mx (fun i => decide (sS i = g)) (fun _ => 1) s i ss = _ := sq_mxf hc
        have e2 : sq_mx (fun i => decide (sS i = g)) (fun _ => 1) s i ta = _ := sq_mxf hc
        have e3 : sq_mx (fun i => decide (sS i = g)) (fun i => ck + sT i) s i dx = _ := sq_mxf hc
        rw [← e1, ← e2, ← e3] at t
        exact br_f (fun z => q (z.trans hg)) (nm_r (nI_1 i) t)
  have k0 := key n 0 (by omega)
  rw [sq_mx0, sq_mx0, sq_mx0] at k0
  exact ⟨n + 1, k0⟩
theorem sx_free {post : SX → Prop} (hs : s < 8) (h : post (nI n, ev, nI m, ck, cp, rc, du, sS, sM, sT, sF, upd st s 0, upd sg s 0, upd pv s 0, sq_mx (fun _ => true) (fun _ => 0) s 12 ss, sq_mx (fun _ => true) (fun _ => 0) s 12 ta, sq_mx (fun _ => true) (fun _ => 0) s 12 dx, sq_mx (fun _ => true) (fun _ => 0) s 12 dr, sq_mx (fun _ => true) (fun _ => 0) s 12 ur, jK, jA, jB, jC)) : wpX_freeSlot post (nI n, ev, nI m, ck, cp, rc, du, sS, sM, sT, sF, st, sg, pv, ss, ta, dx, dr, ur, jK, jA, jB, jC) (nI s) := by
  have key : ∀ d i, i + d = 12 → wX_freeSlot_23 post (nI s) (nI n) ev (nI m) ck cp rc du (d + 1) (nI i) sS sM sT sF (upd st s 0) (upd sg s 0) (upd pv s 0) (sq_mx (fun _ => true) (fun _ => 0) s i ss) (sq_mx (fun _ => true) (fun _ => 0) s i ta) (sq_mx (fun _ => true) (fun _ => 0) s i dx) (sq_mx (fun _ => true) (fun _ => 0) s i dr) (sq_mx (fun _ => true) (fun _ => 0) s i ur) jK jA jB jC := by
    intro d
    induction d with
    | zero =>
      intro i hi
      have e : i = 12 := by omega
      rw [e]
      exact br_t (nI_le (a := 12) (b := 12) (by omega) (by omega)) h
    | succ d ih =>
      intro i hi
      have t := ih (i + 1) (by omega)
      have e : ∀ a : Nat → Int32, upd (sq_mx (fun _ => true) (fun _ => 0) s i a) (s * 12 + i) 0 = sq_mx (fun _ => true) (fun _ => 0) s (i + 1) a := fun a => sq_mxt (c := fun _ => true) (v := fun _ => 0) rfl
      rw [← e ss, ← e ta, ← e dx, ← e dr, ← e ur] at t
      refine br_f (nI_ge (b := 12) (by omega) (by omega)) ?_
      simp (disch := omega) only [forall_eq, sq_ci, nI_clamp, sq_vin, true_and, nI_1]
      exact t
  have k0 := key 12 0 (by omega)
  rw [sq_mx0, sq_mx0, sq_mx0, sq_mx0, sq_mx0] at k0
  simp (disch := omega) only [wpX_freeSlot, forall_eq, sq_ci, nI_clamp, sq_vin, true_and, nI_1]
  exact ⟨12 + 1, k0⟩
theorem sx_start {post : SX → Prop} (hs : s < 8) (hn : n ≤ 12)
    (h : post (nI n, ev, nI m, ck, cp, rc, du, sS, sM, sT, sF, upd st s 1, upd sg s 0, upd pv s 0, sq_mx (fun i => decide (sS i = 0)) (fun _ => 1) s n ss, sq_mx (fun i => decide (sS i = 0)) (fun _ => 1) s n ta, sq_mx (fun i => decide (sS i = 0)) (fun i => ck + sT i) s n dx, dr, ur, jK, jA, jB, jC)) : wpX_applyStart post (nI n, ev, nI m, ck, cp, rc, du, sS, sM, sT, sF, st, sg, pv, ss, ta, dx, dr, ur, jK, jA, jB, jC) (nI s) := by
  simp (disch := omega) only [wpX_applyStart, forall_eq, sq_ci, nI_clamp, sq_vin, true_and, nI_1]
  exact sx_issue hs hn pk_us h
theorem sx_nextUndo_a {post : SX → Prop} (hs : s < 8) (hn : n ≤ 12) (he : (sq_nu ss dr sF s n).1 = -1) (h : post (nI n, ev, nI m, ck, cp, rc, du, sS, sM, sT, sF, upd st s 5, sg, pv, ss, ta, dx, dr, ur, jK, jA, jB, jC)) : wpX_nextUndo post (nI n, ev, nI m, ck, cp, rc, du, sS, sM, sT, sF, st, sg, pv, ss, ta, dx, dr, ur, jK, jA, jB, jC) (nI s) := by
  unfold wpX_nextUndo
  refine sx_nw hs hn (br_t he ⟨vp_in_nI (by omega) (by omega), ?_⟩)
  rw [nI_clamp (n := s) (by omega)]
  exact nm_e h
theorem sx_nextUndo_b {b : Nat} {post : SX → Prop} (hs : s < 8) (hn : n ≤ 12) (hb : b < 12) (he : (sq_nu ss dr sF s n).1 = nI b)
    (h : post (nI n, ev, nI m, ck, cp, rc, du, sS, sM, sT, sF, st, sg, pv, upd ss (s * 12 + b) 4, upd ta (s * 12 + b) 1, upd dx (s * 12 + b) (ck + sT b), dr, ur, jK, jA, jB, jC)) : wpX_nextUndo post (nI n, ev, nI m, ck, cp, rc, du, sS, sM, sT, sF, st, sg, pv, ss, ta, dx, dr, ur, jK, jA, jB, jC) (nI s) := by
  unfold wpX_nextUndo
  refine sx_nw hs hn (br_f (by rw [he]; exact sq_ne1 (by omega)) ?_)
  rw [he]
  exact sx_begin hs hb h
theorem sx_settle_n {post : SX → Prop} (hs : s < 8) (hn : n ≤ 12) (hq : ∀ i, i < n → ¬ ss (s * 12 + i) = 1) (h : wpX_nextUndo post (nI n, ev, nI m, ck, cp, rc, du, sS, sM, sT, sF, upd st s 3, sg, pv, ss, ta, dx, dr, ur, jK, jA, jB, jC) (nI s)) : wpX_settle post (nI n, ev, nI m, ck, cp, rc, du, sS, sM, sT, sF, st, sg, pv, ss, ta, dx, dr, ur, jK, jA, jB, jC) (nI s) := by
  unfold wpX_settle
  refine sx_ha hs hn (fun _ => br_t rfl ⟨vp_in_nI (by omega) (by omega), ?_⟩) (fun z => absurd hq z)
  rw [nI_clamp (n := s) (by omega)]
  exact nm_e h
theorem sx_settle_a {post : SX → Prop} (hs : s < 8) (hn : n ≤ 12) (hq : ¬ ∀ i, i < n → ¬ ss (s * 12 + i) = 1) (h : post (nI n, ev, nI m, ck, cp, rc, du, sS, sM, sT, sF, st, sg, pv, ss, ta, dx, dr, ur, jK, jA, jB, jC)) : wpX_settle post (nI n, ev, nI m, ck, cp, rc, du, sS, sM, sT, sF, st, sg, pv, ss, ta, dx, dr, ur, jK, jA, jB, jC) (nI s) := by
  unfold wpX_settle
  exact sx_ha hs hn (fun z => absurd z hq) (fun _ => br_f (by decide) h)
theorem sx_adv_n {post : SX → Prop} (hs : s < 8) (hn : n ≤ 12) (hq : ¬ ∀ i, i < n → sS i = sg s → ss (s * 12 + i) = 2) (h : post (nI n, ev, nI m, ck, cp, rc, du, sS, sM, sT, sF, st, sg, pv, ss, ta, dx, dr, ur, jK, jA, jB, jC)) : wpX_advance post (nI n, ev, nI m, ck, cp, rc, du, sS, sM, sT, sF, st, sg, pv, ss, ta, dx, dr, ur, jK, jA, jB, jC) (nI s) := by
  unfold wpX_advance
  exact sx_sd hs hn (fun z => absurd z hq) (fun _ => br_t rfl h)
theorem sx_adv_c {post : SX → Prop} (hs : s < 8) (hn : n ≤ 12) (h0 : 0 < n) (hq : ∀ i, i < n → sS i = sg s → ss (s * 12 + i) = 2) (hl : sg s = sS (n - 1)) (h : post (nI n, ev, nI m, ck, cp, rc, du, sS, sM, sT, sF, upd st s 4, sg, pv, ss, ta, dx, dr, ur, jK, jA, jB, jC)) : wpX_advance post (nI n, ev, nI m, ck, cp, rc, du, sS, sM, sT, sF, st, sg, pv, ss, ta, dx, dr, ur, jK, jA, jB, jC) (nI s) := by
  have e : nI n - 1 = nI (n - 1) := pk_sub (b := 1) h0
  have hv : vp_in (nI s) 8 := vp_in_nI (by omega) (by omega)
  unfold wpX_advance
  refine sx_sd hs hn (fun _ => br_f (by decide) ⟨hv, ?_⟩) (fun z => absurd hq z)
  rw [e, nI_clamp (n := n - 1) (by omega), nI_clamp (n := s) (by omega)]
  exact ⟨vp_in_nI (by omega) (by omega), br_t hl ⟨hv, nm_e h⟩⟩
theorem sx_adv_i {post : SX → Prop} (hs : s < 8) (hn : n ≤ 12) (h0 : 0 < n) (hq : ∀ i, i < n → sS i = sg s → ss (s * 12 + i) = 2) (hl : ¬ sg s = sS (n - 1))
    (h : post (nI n, ev, nI m, ck, cp, rc, du, sS, sM, sT, sF, st, upd sg s (sg s + 1), pv, sq_mx (fun i => decide (sS i = sg s + 1)) (fun _ => 1) s n ss, sq_mx (fun i => decide (sS i = sg s + 1)) (fun _ => 1) s n ta, sq_mx (fun i => decide (sS i = sg s + 1)) (fun i => ck + sT i) s n dx, dr, ur, jK, jA, jB, jC)) : wpX_advance post (nI n, ev, nI m, ck, cp, rc, du, sS, sM, sT, sF, st, sg, pv, ss, ta, dx, dr, ur, jK, jA, jB, jC) (nI s) := by
  have e : nI n - 1 = nI (n - 1) := pk_sub (b := 1) h0
  have hv : vp_in (nI s) 8 := vp_in_nI (by omega) (by omega)
  unfold wpX_advance
  refine sx_sd hs hn (fun _ => br_f (by decide) ⟨hv, ?_⟩) (fun z => absurd hq z)
  rw [e, nI_clamp (n := n - 1) (by omega), nI_clamp (n := s) (by omega)]
  exact ⟨vp_in_nI (by omega) (by omega), br_f hl ⟨hv, hv, nm_e (sx_issue hs hn pk_us h)⟩⟩
theorem sx_ff {post : SX → Prop} (hs : s < 8) (hn : n ≤ 12) (hj : j < 12) (h : wX_finishForward_54 post (nI s) (nI n) ev (nI m) ck cp rc du sS sM sT sF st sg (sq_pv (sF j) pv s) (upd ss (s * 12 + j) 2) ta (upd dx (s * 12 + j) 0) (upd dr (s * 12 + j) (nI (1 + sq_rn dr s n))) ur jK jA jB jC) : wpX_finishForward post (nI n, ev, nI m, ck, cp, rc, du, sS, sM, sT, sF, st, sg, pv, ss, ta, dx, dr, ur, jK, jA, jB, jC) (nI s) (nI j) := by
  simp (disch := omega) only [wpX_finishForward, forall_eq, sq_ci, nI_clamp, sq_vin, true_and, nI_1]
  refine sx_rkD hs hn ?_
  unfold sq_pv at h
  by_cases f : (sF j &&& 2) = 0
  · rw [if_pos f] at h
    exact br_t f h
  · rw [if_neg f] at h
    exact br_f f h
theorem sx_ok_fr {post : SX → Prop} (hm : m ≤ 8) (hs : s < m) (hn : n ≤ 12) (hj : j < n) (ha : ¬ ss (s * 12 + j) = 4) (hr : st s = 1)
    (h : wpX_advance post (nI n, ev, nI m, ck, cp, rc, du, sS, sM, sT, sF, st, sg, sq_pv (sF j) pv s, upd ss (s * 12 + j) 2, ta, upd dx (s * 12 + j) 0, upd dr (s * 12 + j) (nI (1 + sq_rn dr s n)), ur, jK, jA, jB, jC) (nI s)) : wpX_applyOk post (nI n, ev, nI m, ck, cp, rc, du, sS, sM, sT, sF, st, sg, pv, ss, ta, dx, dr, ur, jK, jA, jB, jC) (nI s) (nI j) := by
  simp (disch := omega) only [wpX_applyOk, forall_eq, sq_ci, nI_clamp, sq_vin, true_and, nI_1]
  refine br_f ha (sx_ff (by omega) hn (by omega) ?_)
  simp (disch := omega) only [wX_finishForward_54, forall_eq, sq_ci, nI_clamp, sq_vin, true_and, nI_1]
  exact br_t hr h
theorem sx_ok_fs {post : SX → Prop} (hm : m ≤ 8) (hs : s < m) (hn : n ≤ 12) (hj : j < n) (ha : ¬ ss (s * 12 + j) = 4) (hr : ¬ st s = 1)
    (h : wpX_settle post (nI n, ev, nI m, ck, cp, rc, du, sS, sM, sT, sF, st, sg, sq_pv (sF j) pv s, upd ss (s * 12 + j) 2, ta, upd dx (s * 12 + j) 0, upd dr (s * 12 + j) (nI (1 + sq_rn dr s n)), ur, jK, jA, jB, jC) (nI s)) : wpX_applyOk post (nI n, ev, nI m, ck, cp, rc, du, sS, sM, sT, sF, st, sg, pv, ss, ta, dx, dr, ur, jK, jA, jB, jC) (nI s) (nI j) := by
  simp (disch := omega) only [wpX_applyOk, forall_eq, sq_ci, nI_clamp, sq_vin, true_and, nI_1]
  refine br_f ha (sx_ff (by omega) hn (by omega) ?_)
  simp (disch := omega) only [wX_finishForward_54, forall_eq, sq_ci, nI_clamp, sq_vin, true_and, nI_1]
  exact br_f hr h
theorem sx_ok_u {post : SX → Prop} (hm : m ≤ 8) (hs : s < m) (hn : n ≤ 12) (hj : j < n) (ha : ss (s * 12 + j) = 4)
    (h : wpX_nextUndo post (nI n, ev, nI m, ck, cp, rc, du, sS, sM, sT, sF, st, sg, pv, upd ss (s * 12 + j) 5, ta, upd dx (s * 12 + j) 0, dr, upd ur (s * 12 + j) (nI (1 + sq_rn ur s n)), jK, jA, jB, jC) (nI s)) : wpX_applyOk post (nI n, ev, nI m, ck, cp, rc, du, sS, sM, sT, sF, st, sg, pv, ss, ta, dx, dr, ur, jK, jA, jB, jC) (nI s) (nI j) := by
  simp (disch := omega) only [wpX_applyOk, forall_eq, sq_ci, nI_clamp, sq_vin, true_and, nI_1]
  refine br_t ha ?_
  simp (disch := omega) only [wpX_finishUndo, forall_eq, sq_ci, nI_clamp, sq_vin, true_and, nI_1]
  exact sx_rkU (by omega) hn h
theorem sx_fail_r {post : SX → Prop} (hm : m ≤ 8) (hs : s < m) (hn : n ≤ 12) (hj : j < n) (hr : ss (s * 12 + j) = 4 ∨ (st s = 1 ∧ (pv s = 1 ∨ ta (s * 12 + j) < sM j)))
    (h : post (nI n, ev, nI m, ck, cp, rc, du, sS, sM, sT, sF, st, sg, pv, ss, upd ta (s * 12 + j) (ta (s * 12 + j) + 1), upd dx (s * 12 + j) (ck + sT j), dr, ur, jK, jA, jB, jC)) : wpX_applyFail post (nI n, ev, nI m, ck, cp, rc, du, sS, sM, sT, sF, st, sg, pv, ss, ta, dx, dr, ur, jK, jA, jB, jC) (nI s) (nI j) := by
  simp (disch := omega) only [wpX_applyFail, forall_eq, sq_ci, nI_clamp, sq_vin, true_and, nI_1]
  exact sx_mr_t (by omega) (by omega) hr (br_f (by decide) h)
theorem sx_fail_f {post : SX → Prop} (hm : m ≤ 8) (hs : s < m) (hn : n ≤ 12) (hj : j < n) (ha : ¬ ss (s * 12 + j) = 4) (hr : ¬ (st s = 1 ∧ (pv s = 1 ∨ ta (s * 12 + j) < sM j)))
    (h : wpX_settle post (nI n, ev, nI m, ck, cp, rc, du, sS, sM, sT, sF, upd st s 2, sg, pv, upd ss (s * 12 + j) 3, ta, upd dx (s * 12 + j) 0, dr, ur, jK, jA, jB, jC) (nI s)) : wpX_applyFail post (nI n, ev, nI m, ck, cp, rc, du, sS, sM, sT, sF, st, sg, pv, ss, ta, dx, dr, ur, jK, jA, jB, jC) (nI s) (nI j) := by
  simp (disch := omega) only [wpX_applyFail, forall_eq, sq_ci, nI_clamp, sq_vin, true_and, nI_1]
  exact sx_mr_f (by omega) (by omega) ha hr (br_t rfl h)
end XB
end
section
/-! the reference's own methods, one by one -/
section YA
variable {n m s j : Nat} {ev ck cp rc du : Int32} {sS sM sT sF st sg pv ss ta dy dr ur jK jA jB jC : Nat → Int32}
theorem sy_lf_s {post : Int32 → Prop} (hm : m ≤ 8) (hs : s < m) (h0 : st s = 0) (hl : ∀ t, t < s → ¬ st t = 0) (h : post (nI s)) : wpY_leastFree post (nI m, cp, nI n, ev, ck, rc, du, sS, sM, sT, sF, st, sg, pv, ss, ta, dy, dr, ur, jK, jA, jB, jC) := by
  have key : ∀ d i, i + d = s → wY_leastFree_2 post (nI m) cp (nI n) ev ck rc du sS sM sT sF st sg pv ss ta dy dr ur jK jA jB jC (d + 1) (nI i) := by
    intro d
    induction d with
    | zero =>
      intro i hi
      have e : i = s := by omega
      rw [e]
      exact br_f (nI_ge hs (by omega)) ⟨vp_in_nI (by omega) (by omega), br_t (by rw [nI_clamp (by omega)]; exact h0) h⟩
    | succ d ih =>
      intro i hi
      exact br_f (nI_ge (by omega) (by omega)) ⟨vp_in_nI (by omega) (by omega), br_f (by rw [nI_clamp (by omega)]; exact hl i (by omega)) (nm_r (nI_1 i) (ih (i + 1) (by omega)))⟩
  exact ⟨s + 1, key s 0 (by omega)⟩
theorem sy_lf_n {post : Int32 → Prop} (hm : m ≤ 8) (hl : ∀ t, t < m → ¬ st t = 0) (h : post (-1)) : wpY_leastFree post (nI m, cp, nI n, ev, ck, rc, du, sS, sM, sT, sF, st, sg, pv, ss, ta, dy, dr, ur, jK, jA, jB, jC) := by
  have key : ∀ d i, i + d = m → wY_leastFree_2 post (nI m) cp (nI n) ev ck rc du sS sM sT sF st sg pv ss ta dy dr ur jK jA jB jC (d + 1) (nI i) := by
    intro d
    induction d with
    | zero =>
      intro i hi
      exact br_t (nI_le (by omega) (by omega)) h
    | succ d ih =>
      intro i hi
      exact br_f (nI_ge (by omega) (by omega)) ⟨vp_in_nI (by omega) (by omega), br_f (by rw [nI_clamp (by omega)]; exact hl i (by omega)) (nm_r (nI_1 i) (ih (i + 1) (by omega)))⟩
  exact ⟨m + 1, key m 0 (by omega)⟩
theorem sy_append {r c0 : Nat} {k a b c : Int32} {post : SY → Prop} (hr : r < c0) (hc : c0 ≤ 128) (h : post (nI m, nI c0, nI n, ev, ck, nI (r + 1), du, sS, sM, sT, sF, st, sg, pv, ss, ta, dy, dr, ur, upd jK r k, upd jA r a, upd jB r b, upd jC r c)) : wpY_append post (nI m, nI c0, nI n, ev, ck, nI r, du, sS, sM, sT, sF, st, sg, pv, ss, ta, dy, dr, ur, jK, jA, jB, jC) k a b c := by
  unfold wpY_append
  refine br_f (nI_pos (by omega)) (br_f (nI_ge hr (by omega)) (br_f (nI_ge (b := 128) (by omega) (by omega)) ?_))
  simp (disch := omega) only [forall_eq, sq_ci, nI_clamp, sq_vin, true_and, nI_1]
  exact h
theorem sy_sd {g : Int32} {post : Int32 → Prop} (hs : s < 8) (hn : n ≤ 12) (ht : (∀ i, i < n → sS i = g → ss (s * 12 + i) = 2) → post 1) (hf : ¬ (∀ i, i < n → sS i = g → ss (s * 12 + i) = 2) → post 0) : wpY_stageAllDone post (nI m, cp, nI n, ev, ck, rc, du, sS, sM, sT, sF, st, sg, pv, ss, ta, dy, dr, ur, jK, jA, jB, jC) (nI s) g := by
  have key : ∀ d i, i + d = n → (∀ k, k < i → sS k = g → ss (s * 12 + k) = 2) → wY_stageAllDone_2 post (nI s) g (nI m) cp (nI n) ev ck rc du sS sM sT sF st sg pv ss ta dy dr ur jK jA jB jC (d + 1) (nI i) := by
    intro d
    induction d with
    | zero =>
      intro i hi hk
      have e : i = n := by omega
      rw [e] at hk
      exact br_t (nI_le (by omega) (by omega)) (ht hk)
    | succ d ih =>
      intro i hi hk
      refine br_f (nI_ge (by omega) (by omega)) ⟨vp_in_nI (by omega) (by omega), ?_⟩
      rw [nI_clamp (n := i) (by omega), sq_cl hs (by omega)]
      by_cases q : sS i = g
      · refine br_t q ⟨sq_cn hs (by omega), ?_⟩
        by_cases q2 : ss (s * 12 + i) = 2
        · refine br_t q2 (nm_r (nI_1 i) (ih (i + 1) (by omega) (fun k h1 h2 => ?_)))
          by_cases e : k = i
          · rw [e]; exact q2
          · exact hk k (by omega) h2
        · exact br_f q2 (hf (fun z => q2 (z i (by omega) q)))
      · refine br_f q (nm_r (nI_1 i) (ih (i + 1) (by omega) (fun k h1 h2 => ?_)))
        by_cases e : k = i
        · rw [e] at h2; exact absurd h2 q
        · exact hk k (by omega) h2
  exact ⟨n + 1, key n 0 (by omega) (fun k h => absurd h (by omega))⟩
theorem sy_free {post : SY → Prop} (hs : s < 8) (h : post (nI m, cp, nI n, ev, ck, rc, du, sS, sM, sT, sF, upd st s 0, upd sg s 0, upd pv s 0, sq_mx (fun _ => true) (fun _ => 0) s 12 ss, sq_mx (fun _ => true) (fun _ => 0) s 12 ta, sq_mx (fun _ => true) (fun _ => 0) s 12 dy, sq_mx (fun _ => true) (fun _ => 0) s 12 dr, sq_mx (fun _ => true) (fun _ => 0) s 12 ur, jK, jA, jB, jC)) : wpY_resetSlot post (nI m, cp, nI n, ev, ck, rc, du, sS, sM, sT, sF, st, sg, pv, ss, ta, dy, dr, ur, jK, jA, jB, jC) (nI s) := by
  have key : ∀ d i, i + d = 12 → wY_resetSlot_34 post (nI s) (nI m) cp (nI n) ev ck rc du (d + 1) (nI i) sS sM sT sF (upd st s 0) (upd sg s 0) (upd pv s 0) (sq_mx (fun _ => true) (fun _ => 0) s i ss) (sq_mx (fun _ => true) (fun _ => 0) s i ta) (sq_mx (fun _ => true) (fun _ => 0) s i dy) (sq_mx (fun _ => true) (fun _ => 0) s i dr) (sq_mx (fun _ => true) (fun _ => 0) s i ur) jK jA jB jC := by
    intro d
    induction d with
    | zero =>
      intro i hi
      have e : i = 12 := by omega
      rw [e]
      exact br_t (nI_le (a := 12) (b := 12) (by omega) (by omega)) h
    | succ d ih =>
      intro i hi
      have t := ih (i + 1) (by omega)
      have e : ∀ a : Nat → Int32, upd (sq_mx (fun _ => true) (fun _ => 0) s i a) (s * 12 + i) 0 = sq_mx (fun _ => true) (fun _ => 0) s (i + 1) a := fun a => sq_mxt (c := fun _ => true) (v := fun _ => 0) rfl
      rw [← e ss, ← e ta, ← e dy, ← e dr, ← e ur] at t
      refine br_f (nI_ge (b := 12) (by omega) (by omega)) ?_
      simp (disch := omega) only [forall_eq, sq_ci, nI_clamp, sq_vin, true_and, nI_1]
      exact t
  have k0 := key 12 0 (by omega)
  rw [sq_mx0, sq_mx0, sq_mx0, sq_mx0, sq_mx0] at k0
  unfold wpY_resetSlot
  refine br_f (nI_pos (by omega)) (br_t (nI_lt (b := 8) hs (by omega)) ?_)
  simp (disch := omega) only [forall_eq, sq_ci, nI_clamp, sq_vin, true_and, nI_1]
  exact ⟨12 + 1, k0⟩
theorem sy_issue {g : Int32} {post : SY → Prop} (hs : s < 8) (hn : n ≤ 12)
    (h : post (nI m, cp, nI n, ev, ck, rc, du, sS, sM, sT, sF, st, sg, pv, sq_mx (fun i => decide (sS i = g)) (fun _ => 1) s n ss, sq_mx (fun i => decide (sS i = g)) (fun _ => 1) s n ta, sq_mx (fun i => decide (sS i = g)) (fun i => ck + sT i) s n dy, dr, ur, jK, jA, jB, jC)) : wpY_issueStage post (nI m, cp, nI n, ev, ck, rc, du, sS, sM, sT, sF, st, sg, pv, ss, ta, dy, dr, ur, jK, jA, jB, jC) (nI s) g := by
  have key : ∀ d i, i + d = n → wY_issueStage_2 post (nI s) g (nI m) cp (nI n) ev ck rc du (d + 1) (nI i) sS sM sT sF st sg pv (sq_mx (fun i => decide (sS i = g)) (fun _ => 1) s i ss) (sq_mx (fun i => decide (sS i = g)) (fun _ => 1) s i ta) (sq_mx (fun i => decide (sS i = g)) (fun i => ck + sT i) s i dy) dr ur jK jA jB jC := by
    intro d
    induction d with
    | zero =>
      intro i hi
      have e : i = n := by omega
      rw [e]
      exact br_t (nI_le (Nat.le_refl n) (by omega)) h
    | succ d ih =>
      intro i hi
      have t := ih (i + 1) (by omega)
      refine br_f (nI_ge (by omega) (by omega)) ⟨vp_in_nI (by omega) (by omega), ?_⟩
      rw [nI_clamp (n := i) (by omega)]
      by_cases q : sS i = g
      · have hc : (fun i => decide (sS i = g)) i = true := decide_eq_true q
        have e1 : upd (sq_mx (fun i => decide (sS i = g)) (fun _ => 1) s i ss) (s * 12 + i) 1 = _ := sq_mxt hc
        have e2 : upd (sq_mx (fun i => decide (sS i = g)) (fun _ => 1) s i ta) (s * 12 + i) 1 = _ := sq_mxt hc
        have e3 : upd (sq_mx (fun i => decide (sS i = g)) (fun i => ck + sT i) s i dy) (s * 12 + i) (ck + sT i) = _ := sq_mxt hc
        rw [← e1, ← e2, ← e3] at t
        refine br_t q ?_
        simp (disch := omega) only [forall_eq, sq_ci, nI_clamp, sq_vin, true_and, nI_1]
        exact t
      · have hc : ¬ (fun i => decide (sS i = g)) i = true := fun z => q (of_decide_eq_true z)
        have e1 : sq_mx (fun i => decide (sS i = g)) (fun _ => 1) s i ss = _ := sq_mxf hc
        have e2 : sq_mx (fun i => decide (sS i = g)) (fun _ => 1) s i ta = _ := sq_mxf hc
        have e3 : sq_mx (fun i => decide (sS i = g)) (fun i => ck + sT i) s i dy = _ := sq_mxf hc
        rw [← e1, ← e2, ← e3] at t
        exact br_f q (nm_r (nI_1 i) t)
  have k0 := key n 0 (by omega)
  rw [sq_mx0, sq_mx0, sq_mx0] at k0
  exact ⟨n + 1, k0⟩
theorem sy_start {post : SY → Prop} (hm : m ≤ 8) (hs : s < m) (hn : n ≤ 12) (z1 : sq_mx (fun _ => true) (fun _ => 0) s 12 ss = ss) (z2 : sq_mx (fun _ => true) (fun _ => 0) s 12 ta = ta)
    (z3 : sq_mx (fun _ => true) (fun _ => 0) s 12 dy = dy) (z4 : sq_mx (fun _ => true) (fun _ => 0) s 12 dr = dr) (z5 : sq_mx (fun _ => true) (fun _ => 0) s 12 ur = ur)
    (h : post (nI m, cp, nI n, ev, ck, rc, du, sS, sM, sT, sF, upd st s 1, upd sg s 0, upd pv s 0, sq_mx (fun i => decide (sS i = 0)) (fun _ => 1) s n ss, sq_mx (fun i => decide (sS i = 0)) (fun _ => 1) s n ta, sq_mx (fun i => decide (sS i = 0)) (fun i => ck + sT i) s n dy, dr, ur, jK, jA, jB, jC)) : wpY_doStart post (nI m, cp, nI n, ev, ck, rc, du, sS, sM, sT, sF, st, sg, pv, ss, ta, dy, dr, ur, jK, jA, jB, jC) (nI s) := by
  unfold wpY_doStart
  refine br_f (nI_pos (by omega)) (br_t (nI_lt hs (by omega)) (sy_free (by omega) ?_))
  rw [z1, z2, z3, z4, z5]
  simp (disch := omega) only [sq_uu, forall_eq, sq_ci, nI_clamp, sq_vin, true_and, nI_1]
  exact sy_issue (by omega) hn h
theorem sy_nw {post : SY → Prop} (hs : s < 8) (hn : n ≤ 12) (hC : ∀ i, i < n → ss (s * 12 + i) = 2 → 0 < dr (s * 12 + i))
    (h : wY_nextUndo_7 post (nI s) (nI m) cp (nI n) ev ck rc du sS sM sT sF st sg pv ss ta dy dr ur jK jA jB jC 1 (sq_nu ss dr sF s n).1 (sq_nu ss dr sF s n).2 (nI n)) : wpY_nextUndo post (nI m, cp, nI n, ev, ck, rc, du, sS, sM, sT, sF, st, sg, pv, ss, ta, dy, dr, ur, jK, jA, jB, jC) (nI s) := by
  have key : ∀ d i, i + d = n → wY_nextUndo_7 post (nI s) (nI m) cp (nI n) ev ck rc du sS sM sT sF st sg pv ss ta dy dr ur jK jA jB jC (d + 1) (sq_nu ss dr sF s i).1 (sq_nu ss dr sF s i).2 (nI i) := by
    intro d
    induction d with
    | zero =>
      intro i hi
      have e : i = n := by omega
      rw [e]
      exact h
    | succ d ih =>
      intro i hi
      have t := ih (i + 1) (by omega)
      have hv : vp_in (nI (s * 12 + i)) 96 := vp_in_nI (by omega) (by omega)
      refine br_f (nI_ge (by omega) (by omega)) (nm_r (sq_ci s i) ⟨hv, ?_⟩)
      rw [nI_clamp (n := s * 12 + i) (by omega), nI_clamp (n := i) (by omega)]
      by_cases a : ss (s * 12 + i) = 2
      · refine br_t a ⟨vp_in_nI (by omega) (by omega), ?_⟩
        by_cases b : (sF i &&& 1) = 0
        · rw [sq_nuS, if_neg (fun z => z.2.1 b)] at t
          exact br_t b (nm_r (nI_1 i) t)
        · refine br_f b ?_
          rcases sq_nuP (ss := ss) (dr := dr) (sF := sF) (s := s) i with e | ⟨x, hx, e⟩
          · rw [sq_nuS, if_pos ⟨a, b, by rw [e]; exact hC i (by omega) a⟩] at t
            refine br_t (by rw [e]; decide) ⟨hv, ?_⟩
            rw [nI_clamp (n := s * 12 + i) (by omega)]
            exact nm_e (nm_r (nI_1 i) t)
          · refine br_f (by rw [e]; exact nI_pos (by omega)) ⟨hv, ?_⟩
            by_cases c : dr (s * 12 + i) ≤ (sq_nu ss dr sF s i).2
            · rw [sq_nuS, if_neg (fun z => absurd z.2.2 (Int32.not_lt.mpr c))] at t
              exact br_t c (nm_r (nI_1 i) t)
            · rw [sq_nuS, if_pos ⟨a, b, Int32.not_le.mp c⟩] at t
              refine br_f c ⟨hv, ?_⟩
              rw [nI_clamp (n := s * 12 + i) (by omega)]
              exact nm_e (nm_r (nI_1 i) t)
      · rw [sq_nuS, if_neg (fun z => a z.1)] at t
        exact br_f a (nm_r (nI_1 i) t)
  exact ⟨n + 1, key n 0 (by omega)⟩
theorem sy_nextUndo_a {post : SY → Prop} (hs : s < 8) (hn : n ≤ 12) (hC : ∀ i, i < n → ss (s * 12 + i) = 2 → 0 < dr (s * 12 + i)) (he : (sq_nu ss dr sF s n).1 = -1) (h : post (nI m, cp, nI n, ev, ck, rc, du, sS, sM, sT, sF, upd st s 5, sg, pv, ss, ta, dy, dr, ur, jK, jA, jB, jC)) : wpY_nextUndo post (nI m, cp, nI n, ev, ck, rc, du, sS, sM, sT, sF, st, sg, pv, ss, ta, dy, dr, ur, jK, jA, jB, jC) (nI s) := by
  refine sy_nw hs hn hC (br_t (nI_le (Nat.le_refl n) (by omega)) (br_f (by rw [he]; decide) ?_))
  simp (disch := omega) only [forall_eq, sq_ci, nI_clamp, sq_vin, true_and, nI_1]
  exact h
theorem sy_nextUndo_b {b : Nat} {post : SY → Prop} (hs : s < 8) (hn : n ≤ 12) (hC : ∀ i, i < n → ss (s * 12 + i) = 2 → 0 < dr (s * 12 + i)) (hb : b < 12) (he : (sq_nu ss dr sF s n).1 = nI b)
    (h : post (nI m, cp, nI n, ev, ck, rc, du, sS, sM, sT, sF, st, sg, pv, upd ss (s * 12 + b) 4, upd ta (s * 12 + b) 1, upd dy (s * 12 + b) (ck + sT b), dr, ur, jK, jA, jB, jC)) : wpY_nextUndo post (nI m, cp, nI n, ev, ck, rc, du, sS, sM, sT, sF, st, sg, pv, ss, ta, dy, dr, ur, jK, jA, jB, jC) (nI s) := by
  refine sy_nw hs hn hC (br_t (nI_le (Nat.le_refl n) (by omega)) (br_t (by rw [he]; exact nI_pos' (by omega)) ?_))
  rw [he]
  simp (disch := omega) only [forall_eq, sq_ci, nI_clamp, sq_vin, true_and, nI_1]
  exact h
theorem sy_settle_n {post : SY → Prop} (hs : s < 8) (hn : n ≤ 12) (hq : ∀ i, i < n → ¬ ss (s * 12 + i) = 1) (h : wpY_nextUndo post (nI m, cp, nI n, ev, ck, rc, du, sS, sM, sT, sF, upd st s 3, sg, pv, ss, ta, dy, dr, ur, jK, jA, jB, jC) (nI s)) : wpY_settle post (nI m, cp, nI n, ev, ck, rc, du, sS, sM, sT, sF, st, sg, pv, ss, ta, dy, dr, ur, jK, jA, jB, jC) (nI s) := by
  have key : ∀ d i, i + d = n → wY_settle_2 post (nI s) (nI m) cp (nI n) ev ck rc du sS sM sT sF st sg pv ss ta dy dr ur jK jA jB jC (d + 1) (nI i) := by
    intro d
    induction d with
    | zero =>
      intro i hi
      refine br_t (nI_le (by omega) (by omega)) ⟨vp_in_nI (by omega) (by omega), ?_⟩
      rw [nI_clamp (n := s) (by omega)]
      exact nm_e h
    | succ d ih =>
      intro i hi
      refine br_f (nI_ge (by omega) (by omega)) ⟨sq_cn hs (by omega), ?_⟩
      rw [sq_cl hs (by omega)]
      exact br_f (hq i (by omega)) (nm_r (nI_1 i) (ih (i + 1) (by omega)))
  exact ⟨n + 1, key n 0 (by omega)⟩
theorem sy_settle_a {post : SY → Prop} (hs : s < 8) (hn : n ≤ 12) (hq : ¬ ∀ i, i < n → ¬ ss (s * 12 + i) = 1) (h : post (nI m, cp, nI n, ev, ck, rc, du, sS, sM, sT, sF, st, sg, pv, ss, ta, dy, dr, ur, jK, jA, jB, jC)) : wpY_settle post (nI m, cp, nI n, ev, ck, rc, du, sS, sM, sT, sF, st, sg, pv, ss, ta, dy, dr, ur, jK, jA, jB, jC) (nI s) := by
  have key : ∀ d i, i + d = n → (∀ k, k < i → ¬ ss (s * 12 + k) = 1) → wY_settle_2 post (nI s) (nI m) cp (nI n) ev ck rc du sS sM sT sF st sg pv ss ta dy dr ur jK jA jB jC (d + 1) (nI i) := by
    intro d
    induction d with
    | zero =>
      intro i hi hk
      have e : i = n := by omega
      rw [e] at hk
      exact absurd hk hq
    | succ d ih =>
      intro i hi hk
      refine br_f (nI_ge (by omega) (by omega)) ⟨sq_cn hs (by omega), ?_⟩
      rw [sq_cl hs (by omega)]
      by_cases q : ss (s * 12 + i) = 1
      · exact br_t q h
      · refine br_f q (nm_r (nI_1 i) (ih (i + 1) (by omega) (fun k h1 => ?_)))
        by_cases e : k = i
        · rw [e]; exact q
        · exact hk k (by omega)
  exact ⟨n + 1, key n 0 (by omega) (fun k h => absurd h (by omega))⟩
/-- the way into applyOk of an ACTIVE step -/
theorem sy_ok1 {post : SY → Prop} (hm : m ≤ 8) (hs : s < m) (hn : n ≤ 12) (hj : j < n) (ha : ss (s * 12 + j) = 1)
    (h : wY_applyOk_116 post (nI s) (nI m) cp (nI n) ev ck rc du sS sM sT sF st sg (sq_pv (sF j) pv s) (upd ss (s * 12 + j) 2) ta dy (upd dr (s * 12 + j) (nI (1 + sq_rn dr s n))) ur jK jA jB jC) : wpY_applyOk post (nI m, cp, nI n, ev, ck, rc, du, sS, sM, sT, sF, st, sg, pv, ss, ta, dy, dr, ur, jK, jA, jB, jC) (nI s) (nI j) := by
  have key : ∀ d i, i + d = n → wY_applyOk_48 post (nI s) (nI j) (nI (s * 12 + j)) (nI m) cp (nI n) ev ck rc du sS sM sT sF st sg pv ss ta dy dr ur jK jA jB jC (d + 1) (nI (sq_rn dr s i)) (nI i) := by
    intro d
    induction d with
    | zero =>
      intro i hi
      have e : i = n := by omega
      rw [e]
      refine br_t (nI_le (Nat.le_refl n) (by omega)) ?_
      have e1 : (1 : Int32) + nI (sq_rn dr s n) = nI (1 + sq_rn dr s n) := nI_add 1 _
      simp (disch := omega) only [e1, forall_eq, sq_ci, nI_clamp, sq_vin, true_and, nI_1]
      unfold sq_pv at h
      by_cases f : (sF j &&& 2) = 0
      · rw [if_pos f] at h
        exact br_t f h
      · rw [if_neg f] at h
        exact br_f f h
    | succ d ih =>
      intro i hi
      have t := ih (i + 1) (by omega)
      refine br_f (nI_ge (by omega) (by omega)) ⟨sq_cn (by omega) (by omega), ?_⟩
      rw [sq_cl (by omega) (by omega)]
      by_cases q : dr (s * 12 + i) = 0
      · rw [sq_rnS, if_pos q] at t
        exact br_t q (nm_r (nI_1 i) t)
      · rw [sq_rnS, if_neg q] at t
        exact br_f q (nm_r (nI_1 _) (nm_r (nI_1 i) t))
  unfold wpY_applyOk
  refine br_f (nI_pos (by omega)) (br_f (nI_ge hs (by omega)) (br_f (nI_pos (by omega)) (br_t (nI_lt hj (by omega)) ?_)))
  simp (disch := omega) only [forall_eq, sq_ci, nI_clamp, sq_vin, true_and, nI_1]
  exact br_t ha ⟨n + 1, key n 0 (by omega)⟩
theorem sy_ok_n {post : SY → Prop} (hm : m ≤ 8) (hs : s < m) (hn : n ≤ 12) (hj : j < n) (ha : ss (s * 12 + j) = 1) (hr : st s = 1) (hq : ¬ ∀ i, i < n → sS i = sg s → upd ss (s * 12 + j) 2 (s * 12 + i) = 2)
    (h : post (nI m, cp, nI n, ev, ck, rc, du, sS, sM, sT, sF, st, sg, sq_pv (sF j) pv s, upd ss (s * 12 + j) 2, ta, dy, upd dr (s * 12 + j) (nI (1 + sq_rn dr s n)), ur, jK, jA, jB, jC)) : wpY_applyOk post (nI m, cp, nI n, ev, ck, rc, du, sS, sM, sT, sF, st, sg, pv, ss, ta, dy, dr, ur, jK, jA, jB, jC) (nI s) (nI j) := by
  refine sy_ok1 hm hs hn hj ha ?_
  simp (disch := omega) only [wY_applyOk_116, forall_eq, sq_ci, nI_clamp, sq_vin, true_and, nI_1]
  exact br_t hr (sy_sd (by omega) hn (fun z => absurd z hq) (fun _ => br_t rfl h))
theorem sy_ok_c {post : SY → Prop} (hm : m ≤ 8) (hs : s < m) (hn : n ≤ 12) (hj : j < n) (ha : ss (s * 12 + j) = 1) (hr : st s = 1) (hq : ∀ i, i < n → sS i = sg s → upd ss (s * 12 + j) 2 (s * 12 + i) = 2) (hl : sg s = sS (n - 1))
    (h : post (nI m, cp, nI n, ev, ck, rc, du, sS, sM, sT, sF, upd st s 4, sg, sq_pv (sF j) pv s, upd ss (s * 12 + j) 2, ta, dy, upd dr (s * 12 + j) (nI (1 + sq_rn dr s n)), ur, jK, jA, jB, jC)) : wpY_applyOk post (nI m, cp, nI n, ev, ck, rc, du, sS, sM, sT, sF, st, sg, pv, ss, ta, dy, dr, ur, jK, jA, jB, jC) (nI s) (nI j) := by
  have e : nI n - 1 = nI (n - 1) := pk_sub (b := 1) (by omega)
  refine sy_ok1 hm hs hn hj ha ?_
  simp (disch := omega) only [wY_applyOk_116, e, forall_eq, sq_ci, nI_clamp, sq_vin, true_and, nI_1]
  exact br_t hr (sy_sd (by omega) hn (fun _ => br_f (by decide) (br_t hl h)) (fun z => absurd hq z))
theorem sy_ok_i {post : SY → Prop} (hm : m ≤ 8) (hs : s < m) (hn : n ≤ 12) (hj : j < n) (ha : ss (s * 12 + j) = 1) (hr : st s = 1) (hq : ∀ i, i < n → sS i = sg s → upd ss (s * 12 + j) 2 (s * 12 + i) = 2) (hl : ¬ sg s = sS (n - 1))
    (h : post (nI m, cp, nI n, ev, ck, rc, du, sS, sM, sT, sF, st, upd sg s (sg s + 1), sq_pv (sF j) pv s, sq_mx (fun i => decide (sS i = sg s + 1)) (fun _ => 1) s n (upd ss (s * 12 + j) 2), sq_mx (fun i => decide (sS i = sg s + 1)) (fun _ => 1) s n ta, sq_mx (fun i => decide (sS i = sg s + 1)) (fun i => ck + sT i) s n dy, upd dr (s * 12 + j) (nI (1 + sq_rn dr s n)), ur, jK, jA, jB, jC)) : wpY_applyOk post (nI m, cp, nI n, ev, ck, rc, du, sS, sM, sT, sF, st, sg, pv, ss, ta, dy, dr, ur, jK, jA, jB, jC) (nI s) (nI j) := by
  have e : nI n - 1 = nI (n - 1) := pk_sub (b := 1) (by omega)
  refine sy_ok1 hm hs hn hj ha ?_
  simp (disch := omega) only [wY_applyOk_116, e, pk_us, forall_eq, sq_ci, nI_clamp, sq_vin, true_and, nI_1]
  exact br_t hr (sy_sd (by omega) hn (fun _ => br_f (by decide) (br_f hl (sy_issue (by omega) hn h))) (fun z => absurd hq z))
theorem sy_ok_s {post : SY → Prop} (hm : m ≤ 8) (hs : s < m) (hn : n ≤ 12) (hj : j < n) (ha : ss (s * 12 + j) = 1) (hr : st s = 2)
    (h : wpY_settle post (nI m, cp, nI n, ev, ck, rc, du, sS, sM, sT, sF, st, sg, sq_pv (sF j) pv s, upd ss (s * 12 + j) 2, ta, dy, upd dr (s * 12 + j) (nI (1 + sq_rn dr s n)), ur, jK, jA, jB, jC) (nI s)) : wpY_applyOk post (nI m, cp, nI n, ev, ck, rc, du, sS, sM, sT, sF, st, sg, pv, ss, ta, dy, dr, ur, jK, jA, jB, jC) (nI s) (nI j) := by
  refine sy_ok1 hm hs hn hj ha ?_
  simp (disch := omega) only [wY_applyOk_116, forall_eq, sq_ci, nI_clamp, sq_vin, true_and, nI_1]
  exact br_f (fun z => absurd (hr.symm.trans z) (by decide)) (br_t hr h)
theorem sy_ok_u {post : SY → Prop} (hm : m ≤ 8) (hs : s < m) (hn : n ≤ 12) (hj : j < n) (ha : ss (s * 12 + j) = 4)
    (h : wpY_nextUndo post (nI m, cp, nI n, ev, ck, rc, du, sS, sM, sT, sF, st, sg, pv, upd ss (s * 12 + j) 5, ta, dy, dr, upd ur (s * 12 + j) (nI (1 + sq_rn ur s n)), jK, jA, jB, jC) (nI s)) : wpY_applyOk post (nI m, cp, nI n, ev, ck, rc, du, sS, sM, sT, sF, st, sg, pv, ss, ta, dy, dr, ur, jK, jA, jB, jC) (nI s) (nI j) := by
  have key : ∀ d i, i + d = n → wY_applyOk_232 post (nI s) (nI (s * 12 + j)) (nI m) cp (nI n) ev ck rc du sS sM sT sF st sg pv ss ta dy dr ur jK jA jB jC (d + 1) (nI (sq_rn ur s i)) (nI i) := by
    intro d
    induction d with
    | zero =>
      intro i hi
      have e : i = n := by omega
      rw [e]
      refine br_t (nI_le (Nat.le_refl n) (by omega)) ?_
      have e1 : (1 : Int32) + nI (sq_rn ur s n) = nI (1 + sq_rn ur s n) := nI_add 1 _
      simp (disch := omega) only [e1, forall_eq, sq_ci, nI_clamp, sq_vin, true_and, nI_1]
      exact h
    | succ d ih =>
      intro i hi
      have t := ih (i + 1) (by omega)
      refine br_f (nI_ge (by omega) (by omega)) ⟨sq_cn (by omega) (by omega), ?_⟩
      rw [sq_cl (by omega) (by omega)]
      by_cases q : ur (s * 12 + i) = 0
      · rw [sq_rnS, if_pos q] at t
        exact br_t q (nm_r (nI_1 i) t)
      · rw [sq_rnS, if_neg q] at t
        exact br_f q (nm_r (nI_1 _) (nm_r (nI_1 i) t))
  unfold wpY_applyOk
  refine br_f (nI_pos (by omega)) (br_f (nI_ge hs (by omega)) (br_f (nI_pos (by omega)) (br_t (nI_lt hj (by omega)) ?_)))
  simp (disch := omega) only [forall_eq, sq_ci, nI_clamp, sq_vin, true_and, nI_1]
  exact br_f (fun z => absurd (ha.symm.trans z) (by decide)) (br_t ha ⟨n + 1, key n 0 (by omega)⟩)
theorem sy_fail_u {post : SY → Prop} (hm : m ≤ 8) (hs : s < m) (hn : n ≤ 12) (hj : j < n) (ha : ss (s * 12 + j) = 4)
    (h : post (nI m, cp, nI n, ev, ck, rc, du, sS, sM, sT, sF, st, sg, pv, ss, upd ta (s * 12 + j) (ta (s * 12 + j) + 1), upd dy (s * 12 + j) (ck + sT j), dr, ur, jK, jA, jB, jC)) : wpY_applyFail post (nI m, cp, nI n, ev, ck, rc, du, sS, sM, sT, sF, st, sg, pv, ss, ta, dy, dr, ur, jK, jA, jB, jC) (nI s) (nI j) := by
  unfold wpY_applyFail
  refine br_f (nI_pos (by omega)) (br_f (nI_ge hs (by omega)) (br_f (nI_pos (by omega)) (br_t (nI_lt hj (by omega)) ?_)))
  simp (disch := omega) only [forall_eq, sq_ci, nI_clamp, sq_vin, true_and, nI_1]
  exact br_f (fun z => absurd (ha.symm.trans z) (by decide)) (br_t ha h)
theorem sy_fail_r {post : SY → Prop} (hm : m ≤ 8) (hs : s < m) (hn : n ≤ 12) (hj : j < n) (ha : ss (s * 12 + j) = 1) (hr : st s = 1 ∧ (pv s = 1 ∨ ta (s * 12 + j) < sM j))
    (h : post (nI m, cp, nI n, ev, ck, rc, du, sS, sM, sT, sF, st, sg, pv, ss, upd ta (s * 12 + j) (ta (s * 12 + j) + 1), upd dy (s * 12 + j) (ck + sT j), dr, ur, jK, jA, jB, jC)) : wpY_applyFail post (nI m, cp, nI n, ev, ck, rc, du, sS, sM, sT, sF, st, sg, pv, ss, ta, dy, dr, ur, jK, jA, jB, jC) (nI s) (nI j) := by
  unfold wpY_applyFail
  refine br_f (nI_pos (by omega)) (br_f (nI_ge hs (by omega)) (br_f (nI_pos (by omega)) (br_t (nI_lt hj (by omega)) ?_)))
  simp (disch := omega) only [wY_applyFail_77, forall_eq, sq_ci, nI_clamp, sq_vin, true_and, nI_1]
  refine br_t ha (br_t hr.1 ?_)
  by_cases p : pv s = 1
  · exact br_t p h
  · rcases hr.2 with z | c
    · exact absurd z p
    · exact br_f p (br_f (Int32.not_le.mpr c) h)
theorem sy_fail_f {post : SY → Prop} (hm : m ≤ 8) (hs : s < m) (hn : n ≤ 12) (hj : j < n) (ha : ss (s * 12 + j) = 1) (hr : ¬ (st s = 1 ∧ (pv s = 1 ∨ ta (s * 12 + j) < sM j))) (hst : st s = 1 ∨ st s = 2)
    (h : wpY_settle post (nI m, cp, nI n, ev, ck, rc, du, sS, sM, sT, sF, upd st s 2, sg, pv, upd ss (s * 12 + j) 3, ta, dy, dr, ur, jK, jA, jB, jC) (nI s)) : wpY_applyFail post (nI m, cp, nI n, ev, ck, rc, du, sS, sM, sT, sF, st, sg, pv, ss, ta, dy, dr, ur, jK, jA, jB, jC) (nI s) (nI j) := by
  unfold wpY_applyFail
  refine br_f (nI_pos (by omega)) (br_f (nI_ge hs (by omega)) (br_f (nI_pos (by omega)) (br_t (nI_lt hj (by omega)) ?_)))
  simp (disch := omega) only [wY_applyFail_111, wY_applyFail_135, forall_eq, sq_ci, nI_clamp, sq_vin, true_and, nI_1]
  refine br_t ha ?_
  by_cases b : st s = 1
  · exact br_t b (br_f (fun z => hr ⟨b, Or.inl z⟩) (br_t (Int32.not_lt.mp (fun z => hr ⟨b, Or.inr z⟩)) (br_t b h)))
  · rcases hst with z | e
    · exact absurd z b
    · rw [sq_ui e] at h
      exact br_f b (br_f b h)
end YA
end
section
/-! the steps of one slot on both sides: where they lead, alike -/
section OPS
variable {n m s j : Nat} {ck : Int32} {sS sM sT sF st sg pv ss ta dx dy dr ur : Nat → Int32}
theorem so_nextUndo (hI : sq_iv n sS st sg pv ss ta dx dy dr ur) (hs : s < 8) (hn : n ≤ 12) (hx : st s = 3 ∨ st s = 5) :
    ∃ st' sg' pv' ss' ta' dx' dy' dr' ur' : Nat → Int32, sq_iv n sS st' sg' pv' ss' ta' dx' dy' dr' ur' ∧
      (∀ (ev cp rc du : Int32) (jK jA jB jC : Nat → Int32) (post : SX → Prop), post (nI n, ev, nI m, ck, cp, rc, du, sS, sM, sT, sF, st', sg', pv', ss', ta', dx', dr', ur', jK, jA, jB, jC) → wpX_nextUndo post (nI n, ev, nI m, ck, cp, rc, du, sS, sM, sT, sF, st, sg, pv, ss, ta, dx, dr, ur, jK, jA, jB, jC) (nI s)) ∧
      (∀ (ev cp rc du : Int32) (jK jA jB jC : Nat → Int32) (post : SY → Prop), post (nI m, cp, nI n, ev, ck, rc, du, sS, sM, sT, sF, st', sg', pv', ss', ta', dy', dr', ur', jK, jA, jB, jC) → wpY_nextUndo post (nI m, cp, nI n, ev, ck, rc, du, sS, sM, sT, sF, st, sg, pv, ss, ta, dy, dr, ur, jK, jA, jB, jC) (nI s)) := by
  rcases sq_nuP (ss := ss) (dr := dr) (sF := sF) (s := s) n with e | ⟨b, hb, e⟩
  · exact ⟨upd st s 5, sg, pv, ss, ta, dx, dy, dr, ur, sq_iRoll hI hs hn (sq_iDn hI hn hx),
      fun _ _ _ _ _ _ _ _ _ h => sx_nextUndo_a hs hn (by rw [e]) h,
      fun _ _ _ _ _ _ _ _ _ h => sy_nextUndo_a hs hn (fun i hi h2 => sq_iC hI hn hi h2) (by rw [e]) h⟩
  · exact ⟨st, sg, pv, upd ss (s * 12 + b) 4, upd ta (s * 12 + b) 1, upd dx (s * 12 + b) (ck + sT b), upd dy (s * 12 + b) (ck + sT b), dr, ur,
      sq_iUndo hI hs (by omega) hx,
      fun _ _ _ _ _ _ _ _ _ h => sx_nextUndo_b hs hn (by omega) e h,
      fun _ _ _ _ _ _ _ _ _ h => sy_nextUndo_b hs hn (fun i hi h2 => sq_iC hI hn hi h2) (by omega) e h⟩
theorem so_settle (hI : sq_iv n sS st sg pv ss ta dx dy dr ur) (hs : s < 8) (hn : n ≤ 12) (h2 : st s = 2) :
    ∃ st' sg' pv' ss' ta' dx' dy' dr' ur' : Nat → Int32, sq_iv n sS st' sg' pv' ss' ta' dx' dy' dr' ur' ∧
      (∀ (ev cp rc du : Int32) (jK jA jB jC : Nat → Int32) (post : SX → Prop), post (nI n, ev, nI m, ck, cp, rc, du, sS, sM, sT, sF, st', sg', pv', ss', ta', dx', dr', ur', jK, jA, jB, jC) → wpX_settle post (nI n, ev, nI m, ck, cp, rc, du, sS, sM, sT, sF, st, sg, pv, ss, ta, dx, dr, ur, jK, jA, jB, jC) (nI s)) ∧
      (∀ (ev cp rc du : Int32) (jK jA jB jC : Nat → Int32) (post : SY → Prop), post (nI m, cp, nI n, ev, ck, rc, du, sS, sM, sT, sF, st', sg', pv', ss', ta', dy', dr', ur', jK, jA, jB, jC) → wpY_settle post (nI m, cp, nI n, ev, ck, rc, du, sS, sM, sT, sF, st, sg, pv, ss, ta, dy, dr, ur, jK, jA, jB, jC) (nI s)) := by
  by_cases q : ∀ i, i < n → ¬ ss (s * 12 + i) = 1
  · obtain ⟨st', sg', pv', ss', ta', dx', dy', dr', ur', hI', hX, hY⟩ := so_nextUndo (m := m) (ck := ck) (sM := sM) (sT := sT) (sF := sF) (sq_iComp hI hs hn h2 q) hs hn (Or.inl pk_us)
    exact ⟨st', sg', pv', ss', ta', dx', dy', dr', ur', hI', fun _ _ _ _ _ _ _ _ _ h => sx_settle_n hs hn q (hX _ _ _ _ _ _ _ _ _ h), fun _ _ _ _ _ _ _ _ _ h => sy_settle_n hs hn q (hY _ _ _ _ _ _ _ _ _ h)⟩
  · exact ⟨st, sg, pv, ss, ta, dx, dy, dr, ur, hI, fun _ _ _ _ _ _ _ _ _ h => sx_settle_a hs hn q h, fun _ _ _ _ _ _ _ _ _ h => sy_settle_a hs hn q h⟩
theorem so_fail (hI : sq_iv n sS st sg pv ss ta dx dy dr ur) (hm : m ≤ 8) (hs : s < m) (hn : n ≤ 12) (hj : j < n) (ha : ss (s * 12 + j) = 1 ∨ ss (s * 12 + j) = 4) :
    ∃ st' sg' pv' ss' ta' dx' dy' dr' ur' : Nat → Int32, sq_iv n sS st' sg' pv' ss' ta' dx' dy' dr' ur' ∧
      (∀ (ev cp rc du : Int32) (jK jA jB jC : Nat → Int32) (post : SX → Prop), post (nI n, ev, nI m, ck, cp, rc, du, sS, sM, sT, sF, st', sg', pv', ss', ta', dx', dr', ur', jK, jA, jB, jC) → wpX_applyFail post (nI n, ev, nI m, ck, cp, rc, du, sS, sM, sT, sF, st, sg, pv, ss, ta, dx, dr, ur, jK, jA, jB, jC) (nI s) (nI j)) ∧
      (∀ (ev cp rc du : Int32) (jK jA jB jC : Nat → Int32) (post : SY → Prop), post (nI m, cp, nI n, ev, ck, rc, du, sS, sM, sT, sF, st', sg', pv', ss', ta', dy', dr', ur', jK, jA, jB, jC) → wpY_applyFail post (nI m, cp, nI n, ev, ck, rc, du, sS, sM, sT, sF, st, sg, pv, ss, ta, dy, dr, ur, jK, jA, jB, jC) (nI s) (nI j)) := by
  have hs8 : s < 8 := by omega
  rcases ha with h1 | h4
  · by_cases r : st s = 1 ∧ (pv s = 1 ∨ ta (s * 12 + j) < sM j)
    · exact ⟨st, sg, pv, ss, upd ta (s * 12 + j) (ta (s * 12 + j) + 1), upd dx (s * 12 + j) (ck + sT j), upd dy (s * 12 + j) (ck + sT j), dr, ur,
        sq_iRetry hI hs8 hj hn (Or.inl h1),
        fun _ _ _ _ _ _ _ _ _ h => sx_fail_r hm hs hn hj (Or.inr r) h,
        fun _ _ _ _ _ _ _ _ _ h => sy_fail_r hm hs hn hj h1 r h⟩
    · obtain ⟨st', sg', pv', ss', ta', dx', dy', dr', ur', hI', hX, hY⟩ := so_settle (m := m) (ck := ck) (sM := sM) (sT := sT) (sF := sF) (sq_iFail hI hs8 hj hn h1) hs8 hn pk_us
      exact ⟨st', sg', pv', ss', ta', dx', dy', dr', ur', hI',
        fun _ _ _ _ _ _ _ _ _ h => sx_fail_f hm hs hn hj (fun z => absurd (h1.symm.trans z) (by decide)) r (hX _ _ _ _ _ _ _ _ _ h),
        fun _ _ _ _ _ _ _ _ _ h => sy_fail_f hm hs hn hj h1 r (sq_iB hI hn hj h1) (hY _ _ _ _ _ _ _ _ _ h)⟩
  · exact ⟨st, sg, pv, ss, upd ta (s * 12 + j) (ta (s * 12 + j) + 1), upd dx (s * 12 + j) (ck + sT j), upd dy (s * 12 + j) (ck + sT j), dr, ur,
      sq_iRetry hI hs8 hj hn (Or.inr h4),
      fun _ _ _ _ _ _ _ _ _ h => sx_fail_r hm hs hn hj (Or.inl h4) h,
      fun _ _ _ _ _ _ _ _ _ h => sy_fail_u hm hs hn hj h4 h⟩
theorem so_ok (hI : sq_iv n sS st sg pv ss ta dx dy dr ur) (hm : m ≤ 8) (hs : s < m) (hn : n ≤ 12) (hj : j < n) (ha : ss (s * 12 + j) = 1 ∨ ss (s * 12 + j) = 4) :
    ∃ st' sg' pv' ss' ta' dx' dy' dr' ur' : Nat → Int32, sq_iv n sS st' sg' pv' ss' ta' dx' dy' dr' ur' ∧
      (∀ (ev cp rc du : Int32) (jK jA jB jC : Nat → Int32) (post : SX → Prop), post (nI n, ev, nI m, ck, cp, rc, du, sS, sM, sT, sF, st', sg', pv', ss', ta', dx', dr', ur', jK, jA, jB, jC) → wpX_applyOk post (nI n, ev, nI m, ck, cp, rc, du, sS, sM, sT, sF, st, sg, pv, ss, ta, dx, dr, ur, jK, jA, jB, jC) (nI s) (nI j)) ∧
      (∀ (ev cp rc du : Int32) (jK jA jB jC : Nat → Int32) (post : SY → Prop), post (nI m, cp, nI n, ev, ck, rc, du, sS, sM, sT, sF, st', sg', pv', ss', ta', dy', dr', ur', jK, jA, jB, jC) → wpY_applyOk post (nI m, cp, nI n, ev, ck, rc, du, sS, sM, sT, sF, st, sg, pv, ss, ta, dy, dr, ur, jK, jA, jB, jC) (nI s) (nI j)) := by
  have hs8 : s < 8 := by omega
  rcases ha with h1 | h4
  · have hI1 := sq_iDone (r := nI (1 + sq_rn dr s n)) (pv' := sq_pv (sF j) pv s) hI hs8 hj hn h1 (sq_rk hn) (fun t e => sq_pvO e)
    have h14 : ¬ ss (s * 12 + j) = 4 := fun z => absurd (h1.symm.trans z) (by decide)
    rcases sq_iB hI hn hj h1 with hr | hr
    · by_cases q : ∀ i, i < n → sS i = sg s → upd ss (s * 12 + j) 2 (s * 12 + i) = 2
      · by_cases q2 : sg s = sS (n - 1)
        · exact ⟨upd st s 4, sg, sq_pv (sF j) pv s, upd ss (s * 12 + j) 2, ta, upd dx (s * 12 + j) 0, dy, upd dr (s * 12 + j) (nI (1 + sq_rn dr s n)), ur,
            sq_iCommit hI1 hs8 hn hr q,
            fun _ _ _ _ _ _ _ _ _ h => sx_ok_fr hm hs hn hj h14 hr (sx_adv_c hs8 hn (by omega) q q2 h),
            fun _ _ _ _ _ _ _ _ _ h => sy_ok_c hm hs hn hj h1 hr q q2 h⟩
        · exact ⟨st, upd sg s (sg s + 1), sq_pv (sF j) pv s, sq_mx (fun i => decide (sS i = sg s + 1)) (fun _ => 1) s n (upd ss (s * 12 + j) 2), sq_mx (fun i => decide (sS i = sg s + 1)) (fun _ => 1) s n ta,
            sq_mx (fun i => decide (sS i = sg s + 1)) (fun i => ck + sT i) s n (upd dx (s * 12 + j) 0), sq_mx (fun i => decide (sS i = sg s + 1)) (fun i => ck + sT i) s n dy, upd dr (s * 12 + j) (nI (1 + sq_rn dr s n)), ur,
            sq_iIssue hI1 hs8 hn hr (sq_iNoAct hI1 hn q) (fun i h => of_decide_eq_true h),
            fun _ _ _ _ _ _ _ _ _ h => sx_ok_fr hm hs hn hj h14 hr (sx_adv_i hs8 hn (by omega) q q2 h),
            fun _ _ _ _ _ _ _ _ _ h => sy_ok_i hm hs hn hj h1 hr q q2 h⟩
      · exact ⟨st, sg, sq_pv (sF j) pv s, upd ss (s * 12 + j) 2, ta, upd dx (s * 12 + j) 0, dy, upd dr (s * 12 + j) (nI (1 + sq_rn dr s n)), ur, hI1,
          fun _ _ _ _ _ _ _ _ _ h => sx_ok_fr hm hs hn hj h14 hr (sx_adv_n hs8 hn q h),
          fun _ _ _ _ _ _ _ _ _ h => sy_ok_n hm hs hn hj h1 hr q h⟩
    · obtain ⟨st', sg', pv', ss', ta', dx', dy', dr', ur', hI', hX, hY⟩ := so_settle (m := m) (ck := ck) (sM := sM) (sT := sT) (sF := sF) hI1 hs8 hn hr
      exact ⟨st', sg', pv', ss', ta', dx', dy', dr', ur', hI',
        fun _ _ _ _ _ _ _ _ _ h => sx_ok_fs hm hs hn hj h14 (fun z => absurd (hr.symm.trans z) (by decide)) (hX _ _ _ _ _ _ _ _ _ h),
        fun _ _ _ _ _ _ _ _ _ h => sy_ok_s hm hs hn hj h1 hr (hY _ _ _ _ _ _ _ _ _ h)⟩
  · obtain ⟨st', sg', pv', ss', ta', dx', dy', dr', ur', hI', hX, hY⟩ := so_nextUndo (m := m) (ck := ck) (sM := sM) (sT := sT) (sF := sF) (sq_iUndone (r := nI (1 + sq_rn ur s n)) hI hs8 hj hn h4) hs8 hn (sq_iD hI hn hj h4)
    exact ⟨st', sg', pv', ss', ta', dx', dy', dr', ur', hI',
      fun _ _ _ _ _ _ _ _ _ h => sx_ok_u hm hs hn hj h4 (hX _ _ _ _ _ _ _ _ _ h),
      fun _ _ _ _ _ _ _ _ _ h => sy_ok_u hm hs hn hj h4 (hY _ _ _ _ _ _ _ _ _ h)⟩
theorem so_start (hI : sq_iv n sS st sg pv ss ta dx dy dr ur) (hm : m ≤ 8) (hs : s < m) (hn : n ≤ 12) (h0 : st s = 0) :
    ∃ st' sg' pv' ss' ta' dx' dy' dr' ur' : Nat → Int32, sq_iv n sS st' sg' pv' ss' ta' dx' dy' dr' ur' ∧
      (∀ (ev cp rc du : Int32) (jK jA jB jC : Nat → Int32) (post : SX → Prop), post (nI n, ev, nI m, ck, cp, rc, du, sS, sM, sT, sF, st', sg', pv', ss', ta', dx', dr', ur', jK, jA, jB, jC) → wpX_applyStart post (nI n, ev, nI m, ck, cp, rc, du, sS, sM, sT, sF, st, sg, pv, ss, ta, dx, dr, ur, jK, jA, jB, jC) (nI s)) ∧
      (∀ (ev cp rc du : Int32) (jK jA jB jC : Nat → Int32) (post : SY → Prop), post (nI m, cp, nI n, ev, ck, rc, du, sS, sM, sT, sF, st', sg', pv', ss', ta', dy', dr', ur', jK, jA, jB, jC) → wpY_doStart post (nI m, cp, nI n, ev, ck, rc, du, sS, sM, sT, sF, st, sg, pv, ss, ta, dy, dr, ur, jK, jA, jB, jC) (nI s)) := by
  have hs8 : s < 8 := by omega
  obtain ⟨z1, z2, z3, z4, z5, z6, z7⟩ := sq_iZ hI h0
  exact ⟨upd st s 1, upd sg s 0, upd pv s 0, sq_mx (fun i => decide (sS i = 0)) (fun _ => 1) s n ss, sq_mx (fun i => decide (sS i = 0)) (fun _ => 1) s n ta,
    sq_mx (fun i => decide (sS i = 0)) (fun i => ck + sT i) s n dx, sq_mx (fun i => decide (sS i = 0)) (fun i => ck + sT i) s n dy, dr, ur,
    sq_iStart hI hs8 hn h0 (fun i h => of_decide_eq_true h),
    fun _ _ _ _ _ _ _ _ _ h => sx_start hs8 hn h,
    fun _ _ _ _ _ _ _ _ _ h => sy_start hm hs hn z3 z4 z5 z6 z7 h⟩
theorem so_free (hI : sq_iv n sS st sg pv ss ta dx dy dr ur) (hs : s < 8) :
    ∃ st' sg' pv' ss' ta' dx' dy' dr' ur' : Nat → Int32, sq_iv n sS st' sg' pv' ss' ta' dx' dy' dr' ur' ∧ st' = upd st s 0 ∧
      (∀ (ev cp rc du : Int32) (jK jA jB jC : Nat → Int32) (post : SX → Prop), post (nI n, ev, nI m, ck, cp, rc, du, sS, sM, sT, sF, st', sg', pv', ss', ta', dx', dr', ur', jK, jA, jB, jC) → wpX_freeSlot post (nI n, ev, nI m, ck, cp, rc, du, sS, sM, sT, sF, st, sg, pv, ss, ta, dx, dr, ur, jK, jA, jB, jC) (nI s)) ∧
      (∀ (ev cp rc du : Int32) (jK jA jB jC : Nat → Int32) (post : SY → Prop), post (nI m, cp, nI n, ev, ck, rc, du, sS, sM, sT, sF, st', sg', pv', ss', ta', dy', dr', ur', jK, jA, jB, jC) → wpY_resetSlot post (nI m, cp, nI n, ev, ck, rc, du, sS, sM, sT, sF, st, sg, pv, ss, ta, dy, dr, ur, jK, jA, jB, jC) (nI s)) :=
  ⟨_, _, _, _, _, _, _, _, _, sq_iFree hI hs, rfl, fun _ _ _ _ _ _ _ _ _ h => sx_free hs h, fun _ _ _ _ _ _ _ _ _ h => sy_free hs h⟩
end OPS
end
section
/-! a tick on both sides -/
section TICK
variable {n m : Nat} {ck : Int32} {sS sM sT sF : Nat → Int32}
theorem so_tickI {t : Nat} (hm : m ≤ 8) (hn : n ≤ 12) (ht : t < m) : ∀ (d i : Nat) (st sg pv ss ta dx dy dr ur : Nat → Int32) (c : Int32), i + d = n → sq_iv n sS st sg pv ss ta dx dy dr ur →
    ∃ (st' sg' pv' ss' ta' dx' dy' dr' ur' : Nat → Int32) (c' : Int32), sq_iv n sS st' sg' pv' ss' ta' dx' dy' dr' ur' ∧ ((∀ k, ¬ (ss k = 1 ∨ ss k = 4)) → st' = st ∧ sg' = sg ∧ pv' = pv ∧ ss' = ss ∧ ta' = ta ∧ dx' = dx ∧ dy' = dy ∧ dr' = dr ∧ ur' = ur) ∧
      (∀ (ev cp rc du : Int32) (jK jA jB jC : Nat → Int32) (post : Int32 → SX → Prop) (J : Int32 → Int32 → Int32 → Int32 → Int32 → Int32 → Int32 → Int32 → Int32 → (Nat → Int32) → (Nat → Int32) → (Nat → Int32) → (Nat → Int32) → (Nat → Int32) → (Nat → Int32) → (Nat → Int32) → (Nat → Int32) → (Nat → Int32) → (Nat → Int32) → (Nat → Int32) → (Nat → Int32) → (Nat → Int32) → (Nat → Int32) → (Nat → Int32) → (Nat → Int32) → Prop), J c' (nI (t + 1)) (nI n) ev (nI m) ck cp rc du sS sM sT sF st' sg' pv' ss' ta' dx' dr' ur' jK jA jB jC → wX_applyTick_25 post J (nI t) (d + 1) c (nI i) (nI n) ev (nI m) ck cp rc du sS sM sT sF st sg pv ss ta dx dr ur jK jA jB jC) ∧
      (∀ (ev cp rc du : Int32) (jK jA jB jC : Nat → Int32) (post : Int32 → SY → Prop) (J : Int32 → Int32 → Int32 → Int32 → Int32 → Int32 → Int32 → Int32 → Int32 → (Nat → Int32) → (Nat → Int32) → (Nat → Int32) → (Nat → Int32) → (Nat → Int32) → (Nat → Int32) → (Nat → Int32) → (Nat → Int32) → (Nat → Int32) → (Nat → Int32) → (Nat → Int32) → (Nat → Int32) → (Nat → Int32) → (Nat → Int32) → (Nat → Int32) → (Nat → Int32) → Prop), J c' (nI (t + 1)) (nI m) cp (nI n) ev ck rc du sS sM sT sF st' sg' pv' ss' ta' dy' dr' ur' jK jA jB jC → wY_doTick_25 post J (nI t) (d + 1) c (nI i) (nI m) cp (nI n) ev ck rc du sS sM sT sF st sg pv ss ta dy dr ur jK jA jB jC) := by
  intro d
  induction d with
  | zero =>
    intro i st sg pv ss ta dx dy dr ur c hi hI
    exact ⟨st, sg, pv, ss, ta, dx, dy, dr, ur, c, hI, fun _ => ⟨rfl, rfl, rfl, rfl, rfl, rfl, rfl, rfl, rfl⟩,
      fun _ _ _ _ _ _ _ _ _ _ h => br_t (nI_le (by omega) (by omega)) (nm_r (nI_1 t) h),
      fun _ _ _ _ _ _ _ _ _ _ h => br_t (nI_le (by omega) (by omega)) (nm_r (nI_1 t) h)⟩
  | succ d ih =>
    intro i st sg pv ss ta dx dy dr ur c hi hI
    have hk : t * 12 + i < 96 := by omega
    have hv : vp_in (nI (t * 12 + i)) 96 := vp_in_nI hk (by omega)
    have hg : ¬ nI n ≤ nI i := nI_ge (by omega) (by omega)
    by_cases q : ss (t * 12 + i) = 1 ∨ ss (t * 12 + i) = 4
    · have hE := sq_iE hI (by omega) q
      by_cases q2 : ck < dx (t * 12 + i)
      · obtain ⟨st', sg', pv', ss', ta', dx', dy', dr', ur', c', hI', hid, hX, hY⟩ := ih (i + 1) st sg pv ss ta dx dy dr ur c (by omega) hI
        refine ⟨st', sg', pv', ss', ta', dx', dy', dr', ur', c', hI', hid, fun ev cp rc du jK jA jB jC post J h => ?_, fun ev cp rc du jK jA jB jC post J h => ?_⟩
        · refine br_f hg (nm_r (sq_ci t i) (sx_infl_t hk q (br_f (by decide) ⟨hv, ?_⟩)))
          rw [nI_clamp (n := t * 12 + i) (by omega)]
          exact br_t q2 (nm_r (nI_1 i) (hX ev cp rc du jK jA jB jC post J h))
        · refine br_f hg (nm_r (sq_ci t i) ⟨hv, ?_⟩)
          rw [nI_clamp (n := t * 12 + i) (by omega)]
          have w : wY_doTick_65 post J (wY_doTick_25 post J (nI t) (d + 1)) c (nI t) (nI i) (nI (t * 12 + i)) (nI m) cp (nI n) ev ck rc du sS sM sT sF st sg pv ss ta dy dr ur jK jA jB jC := by
            refine And.intro hv ?_
            rw [nI_clamp (n := t * 12 + i) (by omega), ← hE]
            exact br_t q2 (nm_r (nI_1 i) (hY ev cp rc du jK jA jB jC post J h))
          rcases q with a | a
          · exact br_t a w
          · exact br_f (fun z => absurd (a.symm.trans z) (by decide)) ⟨hv, br_t a w⟩
      · obtain ⟨st1, sg1, pv1, ss1, ta1, dx1, dy1, dr1, ur1, hI1, hX1, hY1⟩ := so_fail (m := m) (ck := ck) (sM := sM) (sT := sT) (sF := sF) hI hm ht hn (show i < n by omega) q
        obtain ⟨st', sg', pv', ss', ta', dx', dy', dr', ur', c', hI', hid, hX, hY⟩ := ih (i + 1) st1 sg1 pv1 ss1 ta1 dx1 dy1 dr1 ur1 (c + 1) (by omega) hI1
        refine ⟨st', sg', pv', ss', ta', dx', dy', dr', ur', c', hI', fun z => absurd q (z _), fun ev cp rc du jK jA jB jC post J h => ?_, fun ev cp rc du jK jA jB jC post J h => ?_⟩
        · refine br_f hg (nm_r (sq_ci t i) (sx_infl_t hk q (br_f (by decide) ⟨hv, ?_⟩)))
          rw [nI_clamp (n := t * 12 + i) (by omega)]
          exact br_f q2 (hX1 ev cp rc du jK jA jB jC _ (nm_e (nm_r (nI_1 i) (hX ev cp rc du jK jA jB jC post J h))))
        · refine br_f hg (nm_r (sq_ci t i) ⟨hv, ?_⟩)
          rw [nI_clamp (n := t * 12 + i) (by omega)]
          have w : wY_doTick_65 post J (wY_doTick_25 post J (nI t) (d + 1)) c (nI t) (nI i) (nI (t * 12 + i)) (nI m) cp (nI n) ev ck rc du sS sM sT sF st sg pv ss ta dy dr ur jK jA jB jC := by
            refine And.intro hv ?_
            rw [nI_clamp (n := t * 12 + i) (by omega), ← hE]
            exact br_f q2 (hY1 ev cp rc du jK jA jB jC _ (nm_e (nm_r (nI_1 i) (hY ev cp rc du jK jA jB jC post J h))))
          rcases q with a | a
          · exact br_t a w
          · exact br_f (fun z => absurd (a.symm.trans z) (by decide)) ⟨hv, br_t a w⟩
    · obtain ⟨st', sg', pv', ss', ta', dx', dy', dr', ur', c', hI', hid, hX, hY⟩ := ih (i + 1) st sg pv ss ta dx dy dr ur c (by omega) hI
      refine ⟨st', sg', pv', ss', ta', dx', dy', dr', ur', c', hI', hid, fun ev cp rc du jK jA jB jC post J h => ?_, fun ev cp rc du jK jA jB jC post J h => ?_⟩
      · exact br_f hg (nm_r (sq_ci t i) (sx_infl_f hk q (br_t rfl (nm_r (nI_1 i) (hX ev cp rc du jK jA jB jC post J h)))))
      · refine br_f hg (nm_r (sq_ci t i) ⟨hv, ?_⟩)
        rw [nI_clamp (n := t * 12 + i) (by omega)]
        exact br_f (fun z => q (Or.inl z)) ⟨hv, br_f (fun z => q (Or.inr z)) (nm_r (nI_1 i) (hY ev cp rc du jK jA jB jC post J h))⟩
theorem so_tickO (hm : m ≤ 8) (hn : n ≤ 12) : ∀ (d t : Nat) (st sg pv ss ta dx dy dr ur : Nat → Int32) (c : Int32), t + d = m → sq_iv n sS st sg pv ss ta dx dy dr ur →
    ∃ (st' sg' pv' ss' ta' dx' dy' dr' ur' : Nat → Int32) (c' : Int32), sq_iv n sS st' sg' pv' ss' ta' dx' dy' dr' ur' ∧ ((∀ k, ¬ (ss k = 1 ∨ ss k = 4)) → st' = st ∧ sg' = sg ∧ pv' = pv ∧ ss' = ss ∧ ta' = ta ∧ dx' = dx ∧ dy' = dy ∧ dr' = dr ∧ ur' = ur) ∧
      (∀ (ev cp rc du : Int32) (jK jA jB jC : Nat → Int32) (post : Int32 → SX → Prop), post c' (nI n, ev, nI m, ck, cp, rc, du, sS, sM, sT, sF, st', sg', pv', ss', ta', dx', dr', ur', jK, jA, jB, jC) → wX_applyTick_14 post (d + 1) c (nI t) (nI n) ev (nI m) ck cp rc du sS sM sT sF st sg pv ss ta dx dr ur jK jA jB jC) ∧
      (∀ (ev cp rc du : Int32) (jK jA jB jC : Nat → Int32) (post : Int32 → SY → Prop), post c' (nI m, cp, nI n, ev, ck, rc, du, sS, sM, sT, sF, st', sg', pv', ss', ta', dy', dr', ur', jK, jA, jB, jC) → wY_doTick_14 post (d + 1) c (nI t) (nI m) cp (nI n) ev ck rc du sS sM sT sF st sg pv ss ta dy dr ur jK jA jB jC) := by
  intro d
  induction d with
  | zero =>
    intro t st sg pv ss ta dx dy dr ur c hi hI
    exact ⟨st, sg, pv, ss, ta, dx, dy, dr, ur, c, hI, fun _ => ⟨rfl, rfl, rfl, rfl, rfl, rfl, rfl, rfl, rfl⟩,
      fun _ _ _ _ _ _ _ _ _ h => br_t (nI_le (by omega) (by omega)) h,
      fun _ _ _ _ _ _ _ _ _ h => br_t (nI_le (by omega) (by omega)) h⟩
  | succ d ih =>
    intro t st sg pv ss ta dx dy dr ur c hi hI
    have hg : ¬ nI m ≤ nI t := nI_ge (by omega) (by omega)
    obtain ⟨st1, sg1, pv1, ss1, ta1, dx1, dy1, dr1, ur1, c1, hI1, hid1, hX1, hY1⟩ := so_tickI (m := m) (ck := ck) (sM := sM) (sT := sT) (sF := sF) hm hn (show t < m by omega) n 0 st sg pv ss ta dx dy dr ur c (by omega) hI
    obtain ⟨st', sg', pv', ss', ta', dx', dy', dr', ur', c', hI', hid, hX, hY⟩ := ih (t + 1) st1 sg1 pv1 ss1 ta1 dx1 dy1 dr1 ur1 c1 (by omega) hI1
    refine ⟨st', sg', pv', ss', ta', dx', dy', dr', ur', c', hI', fun z => ?_, fun ev cp rc du jK jA jB jC post h => ?_, fun ev cp rc du jK jA jB jC post h => ?_⟩
    · obtain ⟨rfl, rfl, rfl, rfl, rfl, rfl, rfl, rfl, rfl⟩ := hid1 z
      exact hid z
    · exact br_f hg ⟨n + 1, hX1 ev cp rc du jK jA jB jC post (wX_applyTick_14 post (d + 1)) (hX ev cp rc du jK jA jB jC post h)⟩
    · exact br_f hg ⟨n + 1, hY1 ev cp rc du jK jA jB jC post (wY_doTick_14 post (d + 1)) (hY ev cp rc du jK jA jB jC post h)⟩
theorem so_tick {st sg pv ss ta dx dy dr ur : Nat → Int32} (a : Int32) (hm : m ≤ 8) (hn : n ≤ 12) (hI : sq_iv n sS st sg pv ss ta dx dy dr ur) :
    ∃ (st' sg' pv' ss' ta' dx' dy' dr' ur' : Nat → Int32) (c' : Int32), sq_iv n sS st' sg' pv' ss' ta' dx' dy' dr' ur' ∧ ((∀ k, ¬ (ss k = 1 ∨ ss k = 4)) → st' = st ∧ sg' = sg ∧ pv' = pv ∧ ss' = ss ∧ ta' = ta ∧ dx' = dx ∧ dy' = dy ∧ dr' = dr ∧ ur' = ur) ∧
      (∀ (ev cp rc du : Int32) (jK jA jB jC : Nat → Int32) (post : Int32 → SX → Prop), post c' (nI n, ev, nI m, ck + a, cp, rc, du, sS, sM, sT, sF, st', sg', pv', ss', ta', dx', dr', ur', jK, jA, jB, jC) → wpX_applyTick post (nI n, ev, nI m, ck, cp, rc, du, sS, sM, sT, sF, st, sg, pv, ss, ta, dx, dr, ur, jK, jA, jB, jC) a) ∧
      (∀ (ev cp rc du : Int32) (jK jA jB jC : Nat → Int32) (post : Int32 → SY → Prop), post c' (nI m, cp, nI n, ev, ck + a, rc, du, sS, sM, sT, sF, st', sg', pv', ss', ta', dy', dr', ur', jK, jA, jB, jC) → wpY_doTick post (nI m, cp, nI n, ev, ck, rc, du, sS, sM, sT, sF, st, sg, pv, ss, ta, dy, dr, ur, jK, jA, jB, jC) a) := by
  obtain ⟨st', sg', pv', ss', ta', dx', dy', dr', ur', c', hI', hid, hX, hY⟩ := so_tickO (m := m) (ck := ck + a) (sM := sM) (sT := sT) (sF := sF) hm hn m 0 st sg pv ss ta dx dy dr ur 0 (by omega) hI
  exact ⟨st', sg', pv', ss', ta', dx', dy', dr', ur', c', hI', hid, fun ev cp rc du jK jA jB jC post h => nm_e ⟨m + 1, hX ev cp rc du jK jA jB jC post h⟩, fun ev cp rc du jK jA jB jC post h => nm_e ⟨m + 1, hY ev cp rc du jK jA jB jC post h⟩⟩
end TICK
end
section
/-! the journal's chain: each record leads from one state of the slots to the next, on both sides alike -/
abbrev so_P : Type := (Nat → Int32) × (Nat → Int32) × (Nat → Int32) × (Nat → Int32) × (Nat → Int32) × (Nat → Int32) × (Nat → Int32) × (Nat → Int32) × (Nat → Int32) × Int32
def so_X (n m : Nat) (sS sM sT sF : Nat → Int32) (p : so_P) (ev cp rc du : Int32) (jK jA jB jC : Nat → Int32) : SX :=
  (nI n, ev, nI m, p.2.2.2.2.2.2.2.2.2, cp, rc, du, sS, sM, sT, sF, p.1, p.2.1, p.2.2.1, p.2.2.2.1, p.2.2.2.2.1, p.2.2.2.2.2.1, p.2.2.2.2.2.2.2.1, p.2.2.2.2.2.2.2.2.1, jK, jA, jB, jC)
def so_Y (n m : Nat) (sS sM sT sF : Nat → Int32) (p : so_P) (ev cp rc du : Int32) (jK jA jB jC : Nat → Int32) : SY :=
  (nI m, cp, nI n, ev, p.2.2.2.2.2.2.2.2.2, rc, du, sS, sM, sT, sF, p.1, p.2.1, p.2.2.1, p.2.2.2.1, p.2.2.2.2.1, p.2.2.2.2.2.2.1, p.2.2.2.2.2.2.2.1, p.2.2.2.2.2.2.2.2.1, jK, jA, jB, jC)
def so_I (n : Nat) (sS : Nat → Int32) (p : so_P) : Prop :=
  sq_iv n sS p.1 p.2.1 p.2.2.1 p.2.2.2.1 p.2.2.2.2.1 p.2.2.2.2.2.1 p.2.2.2.2.2.2.1 p.2.2.2.2.2.2.2.1 p.2.2.2.2.2.2.2.2.1
def so_Z (x : Int32) : so_P := (fun _ => 0, fun _ => 0, fun _ => 0, fun _ => 0, fun _ => 0, fun _ => 0, fun _ => 0, fun _ => 0, fun _ => 0, x)
def so_R (n m : Nat) (sS sM sT sF : Nat → Int32) (p p' : so_P) (wx : (SX → Prop) → SX → Prop) (wy : (SY → Prop) → SY → Prop) : Prop :=
  (∀ (ev cp rc du : Int32) (jK jA jB jC : Nat → Int32) (post : SX → Prop), post (so_X n m sS sM sT sF p' ev cp rc du jK jA jB jC) → wx post (so_X n m sS sM sT sF p ev cp rc du jK jA jB jC)) ∧
  (∀ (ev cp rc du : Int32) (jK jA jB jC : Nat → Int32) (post : SY → Prop), post (so_Y n m sS sM sT sF p' ev cp rc du jK jA jB jC) → wy post (so_Y n m sS sM sT sF p ev cp rc du jK jA jB jC))
/-- a record: what it does -/
def so_S (n m : Nat) (sS sM sT sF : Nat → Int32) (k a b : Int32) (p p' : so_P) : Prop :=
  (k = 1 ∧ ∃ s, s < m ∧ a = nI s ∧ p.1 s = 0 ∧ (∀ t, t < s → ¬ p.1 t = 0) ∧ so_R n m sS sM sT sF p p' (fun q u => wpX_applyStart q u (nI s)) (fun q v => wpY_doStart q v (nI s))) ∨
  (k = 2 ∧ so_R n m sS sM sT sF p p' (fun q u => wpX_applyOk q u a b) (fun q v => wpY_applyOk q v a b)) ∨
  (k = 3 ∧ so_R n m sS sM sT sF p p' (fun q u => wpX_applyFail q u a b) (fun q v => wpY_applyFail q v a b)) ∨
  (k = 4 ∧ so_R n m sS sM sT sF p p' (fun q u => wpX_applyTick (fun _ u' => q u') u a) (fun q v => wpY_doTick (fun _ v' => q v') v a)) ∨
  (k = 5 ∧ ∃ s, s < m ∧ a = nI s ∧ so_R n m sS sM sT sF p p' (fun q u => wpX_freeSlot q u (nI s)) (fun q v => wpY_resetSlot q v (nI s)))
def so_C (n m : Nat) (sS sM sT sF jK jA jB : Nat → Int32) (r : Nat) (C : Nat → so_P) : Prop :=
  C 0 = so_Z 0 ∧ (∀ i, i ≤ r → so_I n sS (C i)) ∧ ∀ i, i < r → so_S n m sS sM sT sF (jK i) (jA i) (jB i) (C i) (C (i + 1))
theorem so_Ccut {n m : Nat} {sS sM sT sF jK jA jB : Nat → Int32} {r d : Nat} {C : Nat → so_P} (h : so_C n m sS sM sT sF jK jA jB r C) (hd : d ≤ r) : so_C n m sS sM sT sF jK jA jB d C :=
  ⟨h.1, fun i hi => h.2.1 i (by omega), fun i hi => h.2.2 i (by omega)⟩
theorem so_Cext {n m : Nat} {sS sM sT sF jK jA jB : Nat → Int32} {r : Nat} {C : Nat → so_P} {k a b : Int32} {p : so_P} (h : so_C n m sS sM sT sF jK jA jB r C) (hI : so_I n sS p)
    (hS : so_S n m sS sM sT sF k a b (C r) p) : so_C n m sS sM sT sF (upd jK r k) (upd jA r a) (upd jB r b) (r + 1) (fun i => if i ≤ r then C i else p) := by
  refine ⟨?_, fun i hi => ?_, fun i hi => ?_⟩
  · show (if 0 ≤ r then C 0 else p) = so_Z 0
    rw [if_pos (Nat.zero_le r)]; exact h.1
  · show so_I n sS (if i ≤ r then C i else p)
    by_cases e : i ≤ r
    · rw [if_pos e]; exact h.2.1 i e
    · rw [if_neg e]; exact hI
  · show so_S n m sS sM sT sF (upd jK r k i) (upd jA r a i) (upd jB r b i) (if i ≤ r then C i else p) (if i + 1 ≤ r then C (i + 1) else p)
    by_cases e : i = r
    · subst e
      rw [pk_us, pk_us, pk_us, if_pos (Nat.le_refl i), if_neg (by omega)]
      exact hS
    · rw [pk_un e, pk_un e, pk_un e, if_pos (by omega), if_pos (by omega)]
      exact h.2.2 i (by omega)
theorem so_IZ {n : Nat} {sS : Nat → Int32} {x : Int32} : so_I n sS (so_Z x) := sq_iv0
theorem so_tickZ {n m : Nat} {sS sM sT sF : Nat → Int32} {x a : Int32} (hm : m ≤ 8) (hn : n ≤ 12) : so_R n m sS sM sT sF (so_Z x) (so_Z (x + a)) (fun q u => wpX_applyTick (fun _ u' => q u') u a) (fun q v => wpY_doTick (fun _ v' => q v') v a) := by
  obtain ⟨st', sg', pv', ss', ta', dx', dy', dr', ur', c', hI', hid, hX, hY⟩ := so_tick (m := m) (n := n) (sS := sS) (ck := x) (sM := sM) (sT := sT) (sF := sF) a hm hn sq_iv0
  obtain ⟨rfl, rfl, rfl, rfl, rfl, rfl, rfl, rfl, rfl⟩ := hid (fun k z => by
    rcases z with z | z
    · exact absurd (show (0 : Int32) = 1 from z) (by decide)
    · exact absurd (show (0 : Int32) = 4 from z) (by decide))
  exact ⟨fun ev cp rc du jK jA jB jC post h => hX ev cp rc du jK jA jB jC (fun _ u' => post u') h, fun ev cp rc du jK jA jB jC post h => hY ev cp rc du jK jA jB jC (fun _ v' => post v') h⟩
/-- before the first start the journal holds ticks alone, over free slots -/
theorem so_C0 {n m : Nat} {sS sM sT sF jK jA jB : Nat → Int32} {r : Nat} (hm : m ≤ 8) (hn : n ≤ 12) (h : ∀ i, i < r → jK i = 4) : so_C n m sS sM sT sF jK jA jB r (fun i => so_Z (sq_cs jA i)) :=
  ⟨rfl, fun _ _ => so_IZ, fun i hi => Or.inr (Or.inr (Or.inr (Or.inl ⟨h i hi, so_tickZ hm hn⟩)))⟩
/-- the relation's two cases -/
def so_J (n m : Nat) (sS sM sT sF jK jA jB : Nat → Int32) (r : Nat) (ev : Int32) (p : so_P) : Prop :=
  (ev = 0 ∧ p = so_Z (sq_cs jA r) ∧ ∀ i, i < r → jK i = 4) ∨ (¬ ev = 0 ∧ ∃ C, so_C n m sS sM sT sF jK jA jB r C ∧ C r = p)
theorem so_Jc {n m : Nat} {sS sM sT sF jK jA jB : Nat → Int32} {r : Nat} {ev : Int32} {p : so_P} (hm : m ≤ 8) (hn : n ≤ 12) (h : so_J n m sS sM sT sF jK jA jB r ev p) : ∃ C, so_C n m sS sM sT sF jK jA jB r C ∧ C r = p := by
  rcases h with ⟨_, e, h4⟩ | ⟨_, h⟩
  · exact ⟨_, so_C0 hm hn h4, e.symm⟩
  · exact h
/-- a record more, once a start has been -/
theorem so_Jx {n m : Nat} {sS sM sT sF jK jA jB : Nat → Int32} {r : Nat} {ev ev' : Int32} {p p' : so_P} {k a b : Int32} (hm : m ≤ 8) (hn : n ≤ 12) (h : so_J n m sS sM sT sF jK jA jB r ev p) (he : ¬ ev' = 0) (hI : so_I n sS p')
    (hS : so_S n m sS sM sT sF k a b p p') : so_J n m sS sM sT sF (upd jK r k) (upd jA r a) (upd jB r b) (r + 1) ev' p' := by
  obtain ⟨C, hC, e⟩ := so_Jc hm hn h
  subst e
  refine Or.inr ⟨he, _, so_Cext hC hI hS, ?_⟩
  show (if r + 1 ≤ r then C (r + 1) else p') = p'
  rw [if_neg (by omega)]
end
section
/-! a crash on both sides: all slots freed, then the kept records once more -/
section CRASH
variable {n m : Nat} {ck : Int32} {sS sM sT sF : Nat → Int32}
theorem so_crA : ∀ (d i : Nat) (st sg pv ss ta dx dy dr ur : Nat → Int32), i + d = 8 → sq_iv n sS st sg pv ss ta dx dy dr ur → (∀ t, t < i → st t = 0) →
      (∀ (ev cp rc du : Int32) (jK jA jB jC : Nat → Int32) (post : Int32 → SX → Prop) (x : Int32), (∃ N, wX_crash_49 post x du N 0 (nI n) ev (nI m) (((so_Z ck)).2.2.2.2.2.2.2.2.2) cp rc du sS sM sT sF (((so_Z ck)).1) (((so_Z ck)).2.1) (((so_Z ck)).2.2.1) (((so_Z ck)).2.2.2.1) (((so_Z ck)).2.2.2.2.1) (((so_Z ck)).2.2.2.2.2.1) (((so_Z ck)).2.2.2.2.2.2.2.1) (((so_Z ck)).2.2.2.2.2.2.2.2.1) jK jA jB jC) → wX_crash_25 post x (d + 1) (nI i) (nI n) ev (nI m) ck cp rc du sS sM sT sF st sg pv ss ta dx dr ur jK jA jB jC) ∧
      (∀ (ev cp rc du : Int32) (jK jA jB jC : Nat → Int32) (post : Int32 → SY → Prop) (x : Int32), (∃ N, wY_crash_44 post x N 0 (nI m) cp (nI n) ev (((so_Z ck)).2.2.2.2.2.2.2.2.2) rc du sS sM sT sF (((so_Z ck)).1) (((so_Z ck)).2.1) (((so_Z ck)).2.2.1) (((so_Z ck)).2.2.2.1) (((so_Z ck)).2.2.2.2.1) (((so_Z ck)).2.2.2.2.2.2.1) (((so_Z ck)).2.2.2.2.2.2.2.1) (((so_Z ck)).2.2.2.2.2.2.2.2.1) jK jA jB jC) → wY_crash_25 post x (d + 1) (nI i) (nI m) cp (nI n) ev ck rc du sS sM sT sF st sg pv ss ta dy dr ur jK jA jB jC) := by
  intro d
  induction d with
  | zero =>
    intro i st sg pv ss ta dx dy dr ur hi hI hk
    have hz : ∀ t, st t = 0 := fun t => by
      by_cases e : t < i
      · exact hk t e
      · exact (hI t).1 (by omega)
    obtain ⟨rfl, rfl, rfl, rfl, rfl, rfl, rfl, rfl, rfl⟩ := sq_iAll hI hz
    exact ⟨fun _ _ _ _ _ _ _ _ _ _ h => br_t (nI_le (a := 8) (by omega) (by omega)) h, fun _ _ _ _ _ _ _ _ _ _ h => br_t (nI_le (a := 8) (by omega) (by omega)) h⟩
  | succ d ih =>
    intro i st sg pv ss ta dx dy dr ur hi hI hk
    obtain ⟨st', sg', pv', ss', ta', dx', dy', dr', ur', hI', e, hX, hY⟩ := so_free (m := m) (ck := ck) (sM := sM) (sT := sT) (sF := sF) hI (show i < 8 by omega)
    have hk' : ∀ t, t < i + 1 → st' t = 0 := fun t ht => by
      rw [e]
      by_cases q : t = i
      · rw [q, pk_us]
      · rw [pk_un q]; exact hk t (by omega)
    obtain ⟨jX, jY⟩ := ih (i + 1) st' sg' pv' ss' ta' dx' dy' dr' ur' (by omega) hI' hk'
    have hg : ¬ (8 : Int32) ≤ nI i := nI_ge (b := 8) (by omega) (by omega)
    exact ⟨fun ev cp rc du jK jA jB jC post x h => br_f hg (hX ev cp rc du jK jA jB jC _ (nm_r (nI_1 i) (jX ev cp rc du jK jA jB jC post x h))),
      fun ev cp rc du jK jA jB jC post x h => br_f hg (hY ev cp rc du jK jA jB jC _ (nm_r (nI_1 i) (jY ev cp rc du jK jA jB jC post x h)))⟩
theorem so_crX {jK jA jB : Nat → Int32} {D : Nat} {C : Nat → so_P} (hD : D ≤ 128) (hC : so_C n m sS sM sT sF jK jA jB D C) (ev cp rc du : Int32) (jC : Nat → Int32) (post : Int32 → SX → Prop) (x : Int32)
    (h : post x (so_X n m sS sM sT sF (C D) ev cp rc du jK jA jB jC)) : ∀ d i, i + d = D → wX_crash_49 post x (nI D) (d + 1) (nI i) (nI n) ev (nI m) (((C i)).2.2.2.2.2.2.2.2.2) cp rc du sS sM sT sF (((C i)).1) (((C i)).2.1) (((C i)).2.2.1) (((C i)).2.2.2.1) (((C i)).2.2.2.2.1) (((C i)).2.2.2.2.2.1) (((C i)).2.2.2.2.2.2.2.1) (((C i)).2.2.2.2.2.2.2.2.1) jK jA jB jC := by
  intro d
  induction d with
  | zero =>
    intro i hi
    have e : i = D := by omega
    rw [e]
    exact br_t (nI_le (Nat.le_refl D) (by omega)) h
  | succ d ih =>
    intro i hi
    have t := ih (i + 1) (by omega)
    have hv : vp_in (nI i) 128 := vp_in_nI (by omega) (by omega)
    refine br_f (nI_ge (by omega) (by omega)) ⟨hv, ?_⟩
    rw [nI_clamp (n := i) (by omega)]
    refine nm_e ⟨hv, nm_e ⟨hv, nm_e ?_⟩⟩
    rcases hC.2.2 i (by omega) with ⟨k, s, hs, ha, h0, hl, hR⟩ | ⟨k, hR⟩ | ⟨k, hR⟩ | ⟨k, hR⟩ | ⟨k, s, hs, ha, hR⟩
    · rw [ha]
      exact br_t k (hR.1 ev cp rc du jK jA jB jC _ (nm_r (nI_1 i) t))
    · rw [k]
      exact br_f (by decide) (br_t rfl (hR.1 ev cp rc du jK jA jB jC _ (nm_r (nI_1 i) t)))
    · rw [k]
      exact br_f (by decide) (br_f (by decide) (br_t rfl (hR.1 ev cp rc du jK jA jB jC _ (nm_r (nI_1 i) t))))
    · rw [k]
      exact br_f (by decide) (br_f (by decide) (br_f (by decide) (br_t rfl (hR.1 ev cp rc du jK jA jB jC _ (nm_r (nI_1 i) t)))))
    · rw [k, ha]
      exact br_f (by decide) (br_f (by decide) (br_f (by decide) (br_f (by decide) (hR.1 ev cp rc du jK jA jB jC _ (nm_r (nI_1 i) t)))))
theorem so_crY {jK jA jB : Nat → Int32} {D : Nat} {C : Nat → so_P} (hm : m ≤ 8) (hD : D ≤ 128) (hC : so_C n m sS sM sT sF jK jA jB D C) (ev cp du : Int32) (jC : Nat → Int32) (post : Int32 → SY → Prop) (x : Int32)
    (h : post x (so_Y n m sS sM sT sF (C D) ev cp (nI D) du jK jA jB jC)) : ∀ d i, i + d = D → wY_crash_44 post x (d + 1) (nI i) (nI m) cp (nI n) ev (((C i)).2.2.2.2.2.2.2.2.2) (nI D) du sS sM sT sF (((C i)).1) (((C i)).2.1) (((C i)).2.2.1) (((C i)).2.2.2.1) (((C i)).2.2.2.2.1) (((C i)).2.2.2.2.2.2.1) (((C i)).2.2.2.2.2.2.2.1) (((C i)).2.2.2.2.2.2.2.2.1) jK jA jB jC := by
  intro d
  induction d with
  | zero =>
    intro i hi
    have e : i = D := by omega
    rw [e]
    exact br_t (nI_le (Nat.le_refl D) (by omega)) h
  | succ d ih =>
    intro i hi
    have t := ih (i + 1) (by omega)
    have hv : vp_in (nI i) 128 := vp_in_nI (by omega) (by omega)
    refine br_f (nI_ge (by omega) (by omega)) (br_f (nI_ge (b := 128) (by omega) (by omega)) ⟨hv, ?_⟩)
    rw [nI_clamp (n := i) (by omega)]
    refine nm_e ?_
    rcases hC.2.2 i (by omega) with ⟨k, s, hs, ha, h0, hl, hR⟩ | ⟨k, hR⟩ | ⟨k, hR⟩ | ⟨k, hR⟩ | ⟨k, s, hs, ha, hR⟩
    · exact br_t k (sy_lf_s hm hs h0 hl (br_f (nI_pos (by omega)) (hR.2 ev cp (nI D) du jK jA jB jC _ (nm_r (nI_1 i) t))))
    · rw [k]
      exact br_f (by decide) (br_t rfl ⟨hv, hv, hR.2 ev cp (nI D) du jK jA jB jC _ (nm_r (nI_1 i) t)⟩)
    · rw [k]
      exact br_f (by decide) (br_f (by decide) (br_t rfl ⟨hv, hv, hR.2 ev cp (nI D) du jK jA jB jC _ (nm_r (nI_1 i) t)⟩))
    · rw [k]
      exact br_f (by decide) (br_f (by decide) (br_f (by decide) (br_t rfl ⟨hv, hR.2 ev cp (nI D) du jK jA jB jC _ (nm_r (nI_1 i) t)⟩)))
    · rw [k, ha]
      exact br_f (by decide) (br_f (by decide) (br_f (by decide) (br_f (by decide) (br_t rfl ⟨hv, br_f (nI_pos (by omega)) ⟨hv, br_f (nI_ge hs (by omega)) ⟨hv, hR.2 ev cp (nI D) du jK jA jB jC _ (nm_r (nI_1 i) t)⟩⟩⟩))))
theorem so_crashX {jK jA jB jC : Nat → Int32} {D : Nat} {C : Nat → so_P} {p : so_P} {ev cp rc : Int32} {post : Int32 → SX → Prop} (hD : D ≤ 128) (hI : so_I n sS p) (hC : so_C n m sS sM sT sF jK jA jB D C)
    (h : post (rc - nI D) (so_X n m sS sM sT sF (C D) ev cp (nI D) (nI D) jK jA jB jC)) : wpX_crash post (so_X n m sS sM sT sF p ev cp rc (nI D) jK jA jB jC) := by
  have t := so_crX hD hC ev cp (nI D) (nI D) jC post (rc - nI D) h D 0 (by omega)
  rw [hC.1] at t
  exact nm_e ⟨8 + 1, (so_crA (m := m) (ck := 0) (sM := sM) (sT := sT) (sF := sF) 8 0 _ _ _ _ _ _ _ _ _ (by omega) hI (fun t h => absurd h (by omega))).1 ev cp (nI D) (nI D) jK jA jB jC post (rc - nI D) ⟨D + 1, t⟩⟩
theorem so_crashY {jK jA jB jC : Nat → Int32} {D : Nat} {C : Nat → so_P} {p : so_P} {ev cp rc : Int32} {post : Int32 → SY → Prop} (hm : m ≤ 8) (hD : D ≤ 128) (hI : so_I n sS p) (hC : so_C n m sS sM sT sF jK jA jB D C)
    (h : post (rc - nI D) (so_Y n m sS sM sT sF (C D) ev cp (nI D) (nI D) jK jA jB jC)) : wpY_crash post (so_Y n m sS sM sT sF p ev cp rc (nI D) jK jA jB jC) := by
  have t := so_crY hm hD hC ev cp (nI D) jC post (rc - nI D) h D 0 (by omega)
  rw [hC.1] at t
  exact nm_e ⟨8 + 1, (so_crA (m := m) (ck := 0) (sM := sM) (sT := sT) (sF := sF) 8 0 _ _ _ _ _ _ _ _ _ (by omega) hI (fun t h => absurd h (by omega))).2 ev cp (nI D) (nI D) jK jA jB jC post (rc - nI D) ⟨D + 1, t⟩⟩
end CRASH
end
section
/-! a step defined, on both sides -/
section DEFS
variable {n m : Nat} {ev ck cp rc du v1 v2 v3 v4 : Int32} {sS sM sT sF st sg pv ss ta dx dy dr ur jK jA jB jC : Nat → Int32}
theorem sx_ord0 {post : Int32 → Prop} (h1 : v1 = 0 → post 1) (h0 : ¬ v1 = 0 → post 0) : wpX_isStageInOrder post (nI 0, ev, nI m, ck, cp, rc, du, sS, sM, sT, sF, st, sg, pv, ss, ta, dx, dr, ur, jK, jA, jB, jC) v1 :=
  br_t rfl (br_c h1 h0)
theorem sx_ordS {k : Nat} {post : Int32 → Prop} (hk : k < 12) (h1 : (v1 = sS k ∨ v1 = sS k + 1) → post 1) (h0 : ¬ (v1 = sS k ∨ v1 = sS k + 1) → post 0) : wpX_isStageInOrder post (nI (k + 1), ev, nI m, ck, cp, rc, du, sS, sM, sT, sF, st, sg, pv, ss, ta, dx, dr, ur, jK, jA, jB, jC) v1 := by
  unfold wpX_isStageInOrder
  refine br_f (nI_ne0 (by omega) (by omega)) ?_
  simp (disch := omega) only [nI_pred, forall_eq, sq_ci, nI_clamp, sq_vin, true_and, nI_1]
  by_cases a : v1 = sS k
  · exact br_t a (h1 (Or.inl a))
  · refine br_f a ?_
    by_cases b : v1 = sS k + 1
    · exact br_t b (h1 (Or.inr b))
    · exact br_f b (h0 (fun z => by rcases z with z | z; exact a z; exact b z))
theorem sx_br0 {post : Int32 → Prop} (h : post 0) : wpX_breaksPivotRule post (nI 0, ev, nI m, ck, cp, rc, du, sS, sM, sT, sF, st, sg, pv, ss, ta, dx, dr, ur, jK, jA, jB, jC) v1 v4 := br_t rfl h
theorem sx_brN {k : Nat} {post : Int32 → Prop} (hk : k < 12) (hq : ¬ sS k = v1) (h : post 0) : wpX_breaksPivotRule post (nI (k + 1), ev, nI m, ck, cp, rc, du, sS, sM, sT, sF, st, sg, pv, ss, ta, dx, dr, ur, jK, jA, jB, jC) v1 v4 := by
  unfold wpX_breaksPivotRule
  refine br_f (nI_ne0 (by omega) (by omega)) ?_
  simp (disch := omega) only [nI_pred, forall_eq, sq_ci, nI_clamp, sq_vin, true_and, nI_1]
  exact br_f hq h
theorem sx_brS {k : Nat} {post : Int32 → Prop} (hk : k < 12) (hq : sS k = v1) (h0 : (v4 &&& 2) = 0 → (sF k &&& 2) = 0 → post 0) (h1 : ¬ ((v4 &&& 2) = 0 ∧ (sF k &&& 2) = 0) → post 1) : wpX_breaksPivotRule post (nI (k + 1), ev, nI m, ck, cp, rc, du, sS, sM, sT, sF, st, sg, pv, ss, ta, dx, dr, ur, jK, jA, jB, jC) v1 v4 := by
  unfold wpX_breaksPivotRule
  refine br_f (nI_ne0 (by omega) (by omega)) ?_
  simp (disch := omega) only [nI_pred, forall_eq, sq_ci, nI_clamp, sq_vin, true_and, nI_1]
  refine br_t hq ?_
  by_cases a : (v4 &&& 2) = 0
  · refine br_t a ?_
    by_cases b : (sF k &&& 2) = 0
    · exact br_t b (h0 a b)
    · exact br_f b (h1 (fun z => b z.2))
  · exact br_f a (h1 (fun z => a z.1))
theorem sy_ds {post : Int32 → SY → Prop} (hn : n ≤ 12) (h : wY_defineStep_109 post v1 v2 v3 v4 (nI m) cp (nI n) ev ck rc du sS sM sT sF st sg pv ss ta dy dr ur jK jA jB jC 1 (nI (sq_ct sS v1 n)) (sq_hp sS sF v1 n) (nI n)) : ∃ N, wY_defineStep_109 post v1 v2 v3 v4 (nI m) cp (nI n) ev ck rc du sS sM sT sF st sg pv ss ta dy dr ur jK jA jB jC N 0 0 0 := by
  have key : ∀ d i, i + d = n → wY_defineStep_109 post v1 v2 v3 v4 (nI m) cp (nI n) ev ck rc du sS sM sT sF st sg pv ss ta dy dr ur jK jA jB jC (d + 1) (nI (sq_ct sS v1 i)) (sq_hp sS sF v1 i) (nI i) := by
    intro d
    induction d with
    | zero =>
      intro i hi
      have e : i = n := by omega
      rw [e]
      exact h
    | succ d ih =>
      intro i hi
      have t := ih (i + 1) (by omega)
      refine br_f (nI_ge (by omega) (by omega)) ⟨vp_in_nI (by omega) (by omega), ?_⟩
      rw [nI_clamp (n := i) (by omega)]
      by_cases a : sS i = v1
      · refine br_t a (nm_r (nI_1 _) ⟨vp_in_nI (by omega) (by omega), ?_⟩)
        rw [sq_ctS, if_pos a] at t
        by_cases b : (sF i &&& 2) = 0
        · rw [sq_hpS, if_neg (fun z => z.2 b)] at t
          exact br_t b (nm_r (nI_1 i) t)
        · rw [sq_hpS, if_pos ⟨a, b⟩] at t
          exact br_f b (nm_r (nI_1 i) t)
      · rw [sq_ctS, if_neg a, sq_hpS, if_neg (fun z => a z.1)] at t
        exact br_f a (nm_r (nI_1 i) t)
  exact ⟨n + 1, key n 0 (by omega)⟩
theorem sy_dsA {post : Int32 → SY → Prop} (hn : n < 12) (hp : sq_hp sS sF v1 n = 0) (hc : (v4 &&& 2) = 0 ∨ sq_ct sS v1 n = 0)
    (h : post (nI n) (nI m, cp, nI (n + 1), ev, ck, rc, du, upd sS n v1, upd sM n v2, upd sT n v3, upd sF n v4, st, sg, pv, ss, ta, dy, dr, ur, jK, jA, jB, jC)) : ∃ N, wY_defineStep_109 post v1 v2 v3 v4 (nI m) cp (nI n) ev ck rc du sS sM sT sF st sg pv ss ta dy dr ur jK jA jB jC N 0 0 0 := by
  have w : wY_defineStep_167 post v1 v2 v3 v4 (sq_hp sS sF v1 n) (nI m) cp (nI n) ev ck rc du sS sM sT sF st sg pv ss ta dy dr ur jK jA jB jC := by
    refine br_t hp ?_
    simp (disch := omega) only [nI_pred, forall_eq, sq_ci, nI_clamp, sq_vin, true_and, nI_1]
    exact h
  refine sy_ds (by omega) (br_t (nI_le (Nat.le_refl n) (by omega)) ?_)
  by_cases a : (v4 &&& 2) = 0
  · exact br_t a w
  · refine br_f a (br_t ?_ w)
    rcases hc with z | z
    · exact absurd z a
    · rw [z]; exact nI_le (a := 0) (b := 0) (by omega) (by omega)
theorem sy_dsR {post : Int32 → SY → Prop} (hn : n < 12) (hb : (¬ (v4 &&& 2) = 0 ∧ 0 < sq_ct sS v1 n) ∨ ((v4 &&& 2) = 0 ∧ ¬ sq_hp sS sF v1 n = 0))
    (h : post (-1) (nI m, cp, nI n, ev, ck, rc, du, sS, sM, sT, sF, st, sg, pv, ss, ta, dy, dr, ur, jK, jA, jB, jC)) : ∃ N, wY_defineStep_109 post v1 v2 v3 v4 (nI m) cp (nI n) ev ck rc du sS sM sT sF st sg pv ss ta dy dr ur jK jA jB jC N 0 0 0 := by
  refine sy_ds (by omega) (br_t (nI_le (Nat.le_refl n) (by omega)) ?_)
  rcases hb with ⟨a, b⟩ | ⟨a, b⟩
  · exact br_f a (br_f (nI_ge (b := sq_ct sS v1 n) (a := 0) b (by have := sq_ctL (sS := sS) (v := v1) n; omega)) h)
  · exact br_t a (br_f b h)
end DEFS
end
section
/-! the relation, and the methods that only read -/
def i_Rel (k : Nat) (u : SX) (v : SY) : Prop :=
  ∃ (n m c r d : Nat) (sS sM sT sF st sg pv ss ta dx dy dr ur jK jA jB jC : Nat → Int32) (ev ck : Int32), n ≤ 12 ∧ m ≤ 8 ∧ c ≤ 128 ∧ r ≤ c ∧ d ≤ r ∧ sq_tp n sS sF ∧ sq_iv n sS st sg pv ss ta dx dy dr ur ∧
    so_J n m sS sM sT sF jK jA jB r ev (st, sg, pv, ss, ta, dx, dy, dr, ur, ck) ∧ u = (nI n, ev, nI m, ck, nI c, nI r, nI d, sS, sM, sT, sF, st, sg, pv, ss, ta, dx, dr, ur, jK, jA, jB, jC) ∧ v = (nI m, nI c, nI n, ev, ck, nI r, nI d, sS, sM, sT, sF, st, sg, pv, ss, ta, dy, dr, ur, jK, jA, jB, jC)
theorem sr_mk {k n m c r d : Nat} {sS sM sT sF st sg pv ss ta dx dy dr ur jK jA jB jC : Nat → Int32} {ev ck : Int32} (hn : n ≤ 12) (hm : m ≤ 8) (hc : c ≤ 128) (hr : r ≤ c) (hd : d ≤ r) (hT : sq_tp n sS sF) (hI : sq_iv n sS st sg pv ss ta dx dy dr ur)
    (hJ : so_J n m sS sM sT sF jK jA jB r ev (st, sg, pv, ss, ta, dx, dy, dr, ur, ck)) : i_Rel k (nI n, ev, nI m, ck, nI c, nI r, nI d, sS, sM, sT, sF, st, sg, pv, ss, ta, dx, dr, ur, jK, jA, jB, jC) (nI m, nI c, nI n, ev, ck, nI r, nI d, sS, sM, sT, sF, st, sg, pv, ss, ta, dy, dr, ur, jK, jA, jB, jC) :=
  ⟨n, m, c, r, d, sS, sM, sT, sF, st, sg, pv, ss, ta, dx, dy, dr, ur, jK, jA, jB, jC, ev, ck, hn, hm, hc, hr, hd, hT, hI, hJ, rfl, rfl⟩
theorem i_up {k : Nat} {u : SX} {v : SY} (h : i_Rel k u v) : i_Rel (k + 5) u v := h
theorem sr_0 {m c : Nat} (hm : m ≤ 8) (hc : c ≤ 128) : i_Rel 2 (0, 0, nI m, 0, nI c, 0, 0, (fun _ => 0), (fun _ => 0), (fun _ => 0), (fun _ => 0), (fun _ => 0), (fun _ => 0), (fun _ => 0), (fun _ => 0), (fun _ => 0), (fun _ => 0), (fun _ => 0), (fun _ => 0), (fun _ => 0), (fun _ => 0), (fun _ => 0), (fun _ => 0))
    (nI m, nI c, 0, 0, 0, 0, 0, (fun _ => 0), (fun _ => 0), (fun _ => 0), (fun _ => 0), (fun _ => 0), (fun _ => 0), (fun _ => 0), (fun _ => 0), (fun _ => 0), (fun _ => 0), (fun _ => 0), (fun _ => 0), (fun _ => 0), (fun _ => 0), (fun _ => 0), (fun _ => 0)) :=
  sr_mk (k := 2) (n := 0) (m := m) (c := c) (r := 0) (d := 0) (by omega) hm hc (by omega) (by omega) sq_tp0 sq_iv0 (Or.inl ⟨rfl, rfl, fun i h => absurd h (by omega)⟩)
theorem sr_1 {m : Nat} (hm : m ≤ 8) {k0 k1 : Int32} (hY : ∀ post : SY → Prop, wY_init_158 post k1 (nI m) 0 0 0 0 0 0 0 (fun _ => 0) (fun _ => 0) (fun _ => 0) (fun _ => 0) (fun _ => 0) (fun _ => 0) (fun _ => 0) (fun _ => 0) (fun _ => 0) (fun _ => 0) (fun _ => 0) (fun _ => 0) (fun _ => 0) (fun _ => 0) (fun _ => 0) (fun _ => 0) → wpY_init post k0 k1) :
    wpX_clamp (fun r_2 => wpY_init (fun v => i_Rel 2 (0, 0, nI m, 0, r_2, 0, 0, (fun _ => 0), (fun _ => 0), (fun _ => 0), (fun _ => 0), (fun _ => 0), (fun _ => 0), (fun _ => 0), (fun _ => 0), (fun _ => 0), (fun _ => 0), (fun _ => 0), (fun _ => 0), (fun _ => 0), (fun _ => 0), (fun _ => 0), (fun _ => 0)) v) k0 k1) k1 8 128 := by
  by_cases a : 8 ≤ k1
  · by_cases b : k1 ≤ 128
    · obtain ⟨c, hc, e⟩ := nI_of2 (x := k1) (M := 128) (n := 128) (by decide) (Int32.not_lt.mpr (Int32.le_trans (by decide) a)) b
      refine br_t a (br_t b (hY _ (br_t a (br_t b ?_))))
      rw [e]
      exact sr_0 hm hc
    · exact br_t a (br_f b (hY _ (br_t a (br_f b (sr_0 (c := 128) hm (by omega))))))
  · exact br_f a (hY _ (br_f a (sr_0 (c := 8) hm (by omega))))
theorem i_vc0 (k0 : Int32) (k1 : Int32) : wpX_init (fun u => wpY_init (fun v => i_Rel 2 u v) k0 k1) k0 k1 := by
  unfold wpX_init
  by_cases a : 1 ≤ k0
  · by_cases b : k0 ≤ 8
    · obtain ⟨m, hm, e⟩ := nI_of2 (x := k0) (M := 8) (n := 8) (by decide) (Int32.not_lt.mpr (Int32.le_trans (by decide) a)) b
      refine br_t a (br_t b ?_)
      subst e
      exact sr_1 hm (fun post h => br_t a (br_t b h))
    · exact br_t a (br_f b (sr_1 (m := 8) (by omega) (fun post h => br_t a (br_f b h))))
  · exact br_f a (sr_1 (m := 1) (by omega) (fun post h => br_f a h))
theorem i_vc_stepCount {k : Nat} {u : SX} {v : SY} (I : i_Rel k u v) (hk : k + 5 ≤ 2562) : wpX_stepCount (fun r => wpY_stepCount (fun r' => r' = r ∧ i_Rel (k + 5) u v) v) u := by
  have I' := I
  obtain ⟨n, m, c, r, d, sS, sM, sT, sF, st, sg, pv, ss, ta, dx, dy, dr, ur, jK, jA, jB, jC, ev, ck, hn, hm, hc, hr, hd, hT, hI, hJ, rfl, rfl⟩ := I'
  exact And.intro rfl (i_up I)
theorem i_vc_clock {k : Nat} {u : SX} {v : SY} (I : i_Rel k u v) (hk : k + 5 ≤ 2562) : wpX_clock (fun r => wpY_clock (fun r' => r' = r ∧ i_Rel (k + 5) u v) v) u := by
  have I' := I
  obtain ⟨n, m, c, r, d, sS, sM, sT, sF, st, sg, pv, ss, ta, dx, dy, dr, ur, jK, jA, jB, jC, ev, ck, hn, hm, hc, hr, hd, hT, hI, hJ, rfl, rfl⟩ := I'
  exact And.intro rfl (i_up I)
theorem i_vc_journalLength {k : Nat} {u : SX} {v : SY} (I : i_Rel k u v) (hk : k + 5 ≤ 2562) : wpX_journalLength (fun r => wpY_journalLength (fun r' => r' = r ∧ i_Rel (k + 5) u v) v) u := by
  have I' := I
  obtain ⟨n, m, c, r, d, sS, sM, sT, sF, st, sg, pv, ss, ta, dx, dy, dr, ur, jK, jA, jB, jC, ev, ck, hn, hm, hc, hr, hd, hT, hI, hJ, rfl, rfl⟩ := I'
  exact And.intro rfl (i_up I)
theorem i_vc_durableLength {k : Nat} {u : SX} {v : SY} (I : i_Rel k u v) (hk : k + 5 ≤ 2562) : wpX_durableLength (fun r => wpY_durableLength (fun r' => r' = r ∧ i_Rel (k + 5) u v) v) u := by
  have I' := I
  obtain ⟨n, m, c, r, d, sS, sM, sT, sF, st, sg, pv, ss, ta, dx, dy, dr, ur, jK, jA, jB, jC, ev, ck, hn, hm, hc, hr, hd, hT, hI, hJ, rfl, rfl⟩ := I'
  exact And.intro rfl (i_up I)
theorem i_vc_flush {k : Nat} {u : SX} {v : SY} (I : i_Rel k u v) (hk : k + 5 ≤ 2562) : wpX_flush (fun r u' => wpY_flush (fun r' v' => r' = r ∧ i_Rel (k + 5) u' v') v) u := by
  have I' := I
  obtain ⟨n, m, c, r, d, sS, sM, sT, sF, st, sg, pv, ss, ta, dx, dy, dr, ur, jK, jA, jB, jC, ev, ck, hn, hm, hc, hr, hd, hT, hI, hJ, rfl, rfl⟩ := I'
  exact And.intro rfl (sr_mk hn hm hc hr (Nat.le_refl r) hT hI hJ)
theorem i_vc_instanceInfo {k : Nat} {u : SX} {v : SY} (I : i_Rel k u v) (hk : k + 5 ≤ 2562) (v1 : Int32) (v2 : Int32) : wpX_instanceInfo (fun r => wpY_instanceInfo (fun r' => r' = r ∧ i_Rel (k + 5) u v) v v1 v2) u v1 v2 := by
  have J := i_up I
  have I' := I
  obtain ⟨n, m, c, r, d, sS, sM, sT, sF, st, sg, pv, ss, ta, dx, dy, dr, ur, jK, jA, jB, jC, ev, ck, hn, hm, hc, hr, hd, hT, hI, hJ, rfl, rfl⟩ := I'
  unfold wpX_instanceInfo
  rcases pk_ix v1 (n := m) (by omega) with a | a | ⟨s, hs, rfl⟩
  · exact sx_isSlot_f (Or.inl a) (br_t rfl (br_t a ⟨rfl, J⟩))
  · refine sx_isSlot_f (Or.inr a) (br_t rfl ?_)
    by_cases b : v1 < 0
    · exact br_t b ⟨rfl, J⟩
    · exact br_f b (br_t a ⟨rfl, J⟩)
  · have hv : vp_in (nI s) 8 := vp_in_nI (by omega) (by omega)
    have h1 : ¬ nI s < 0 := nI_pos (by omega)
    have h2 : ¬ nI m ≤ nI s := nI_ge hs (by omega)
    refine sx_isSlot_t hm hs (br_f (by decide) ?_)
    by_cases e0 : v2 = 0
    · subst e0
      exact br_t rfl ⟨hv, br_f h1 (br_f h2 (br_f (by decide) (br_t (by decide) (br_t rfl ⟨hv, rfl, J⟩))))⟩
    by_cases e1 : v2 = 1
    · subst e1
      exact br_f e0 (br_t rfl ⟨hv, br_f h1 (br_f h2 (br_f (by decide) (br_t (by decide) (br_f e0 (br_t rfl ⟨hv, rfl, J⟩)))))⟩)
    by_cases e2 : v2 = 2
    · subst e2
      exact br_f e0 (br_f e1 (br_t rfl ⟨hv, br_f h1 (br_f h2 (br_f (by decide) (br_t (by decide) (br_f e0 (br_f e1 ⟨hv, rfl, J⟩)))))⟩))
    refine br_f e0 (br_f e1 (br_f e2 (br_f h1 (br_f h2 ?_))))
    by_cases z : v2 < 0
    · exact br_t z ⟨rfl, J⟩
    · refine br_f z (br_f (fun w => ?_) ⟨rfl, J⟩)
      obtain ⟨j, hj, e⟩ := nI_of2 (M := 2) (n := 2) (by decide) z w
      have hj3 : j = 0 ∨ j = 1 ∨ j = 2 := by omega
      rcases hj3 with rfl | rfl | rfl
      · exact e0 e
      · exact e1 e
      · exact e2 e
theorem i_vc_journalField {k : Nat} {u : SX} {v : SY} (I : i_Rel k u v) (hk : k + 5 ≤ 2562) (v1 : Int32) (v2 : Int32) : wpX_journalField (fun r => wpY_journalField (fun r' => r' = r ∧ i_Rel (k + 5) u v) v v1 v2) u v1 v2 := by
  have J := i_up I
  have I' := I
  obtain ⟨n, m, c, r, d, sS, sM, sT, sF, st, sg, pv, ss, ta, dx, dy, dr, ur, jK, jA, jB, jC, ev, ck, hn, hm, hc, hr, hd, hT, hI, hJ, rfl, rfl⟩ := I'
  rcases pk_ix v1 (n := r) (by omega) with a | a | ⟨s, hs, rfl⟩
  · exact br_t a (br_t a ⟨rfl, J⟩)
  · by_cases b : v1 < 0
    · exact br_t b (br_t b ⟨rfl, J⟩)
    · exact br_f b (br_f (Int32.not_lt.mpr a) (br_f b (br_t a ⟨rfl, J⟩)))
  · have hv : vp_in (nI s) 128 := vp_in_nI (by omega) (by omega)
    have h1 : ¬ nI s < 0 := nI_pos (by omega)
    have h2 : ¬ nI r ≤ nI s := nI_ge hs (by omega)
    refine br_f h1 (br_t (nI_lt hs (by omega)) ?_)
    by_cases e0 : v2 = 0
    · subst e0
      exact br_t rfl ⟨hv, br_f h1 (br_f h2 (br_f (by decide) (br_t (by decide) (br_t rfl ⟨hv, rfl, J⟩))))⟩
    by_cases e1 : v2 = 1
    · subst e1
      exact br_f e0 (br_t rfl ⟨hv, br_f h1 (br_f h2 (br_f (by decide) (br_t (by decide) (br_f e0 (br_t rfl ⟨hv, rfl, J⟩)))))⟩)
    by_cases e2 : v2 = 2
    · subst e2
      exact br_f e0 (br_f e1 (br_t rfl ⟨hv, br_f h1 (br_f h2 (br_f (by decide) (br_t (by decide) (br_f e0 (br_f e1 (br_t rfl ⟨hv, rfl, J⟩))))))⟩))
    by_cases e3 : v2 = 3
    · subst e3
      exact br_f e0 (br_f e1 (br_f e2 (br_t rfl ⟨hv, br_f h1 (br_f h2 (br_f (by decide) (br_t (by decide) (br_f e0 (br_f e1 (br_f e2 ⟨hv, rfl, J⟩))))))⟩)))
    refine br_f e0 (br_f e1 (br_f e2 (br_f e3 (br_f h1 (br_f h2 ?_)))))
    by_cases z : v2 < 0
    · exact br_t z ⟨rfl, J⟩
    · refine br_f z (br_f (fun w => ?_) ⟨rfl, J⟩)
      obtain ⟨j, hj, e⟩ := nI_of2 (M := 3) (n := 3) (by decide) z w
      have hj3 : j = 0 ∨ j = 1 ∨ j = 2 ∨ j = 3 := by omega
      rcases hj3 with rfl | rfl | rfl | rfl
      · exact e0 e
      · exact e1 e
      · exact e2 e
      · exact e3 e
end
section
/-! stepInfo, tick, start, release, crash -/
theorem i_vc_stepInfo {k : Nat} {u : SX} {v : SY} (I : i_Rel k u v) (hk : k + 5 ≤ 2562) (v1 : Int32) (v2 : Int32) (v3 : Int32) : wpX_stepInfo (fun r => wpY_stepInfo (fun r' => r' = r ∧ i_Rel (k + 5) u v) v v1 v2 v3) u v1 v2 v3 := by
  have J := i_up I
  have I' := I
  obtain ⟨n, m, c, r, d, sS, sM, sT, sF, st, sg, pv, ss, ta, dx, dy, dr, ur, jK, jA, jB, jC, ev, ck, hn, hm, hc, hr, hd, hT, hI, hJ, rfl, rfl⟩ := I'
  unfold wpX_stepInfo
  rcases pk_ix v1 (n := m) (by omega) with a | a | ⟨s, hs, rfl⟩
  · exact sx_isSlot_f (Or.inl a) (br_t rfl (br_t a ⟨rfl, J⟩))
  · refine sx_isSlot_f (Or.inr a) (br_t rfl ?_)
    by_cases b : v1 < 0
    · exact br_t b ⟨rfl, J⟩
    · exact br_f b (br_t a ⟨rfl, J⟩)
  · have h1 : ¬ nI s < 0 := nI_pos (by omega)
    have h2 : ¬ nI m ≤ nI s := nI_ge hs (by omega)
    refine sx_isSlot_t hm hs (br_f (by decide) ?_)
    rcases pk_ix v2 (n := n) (by omega) with a | a | ⟨j, hj, rfl⟩
    · exact sx_isStep_f (Or.inl a) (br_t rfl (br_f h1 (br_f h2 (br_t a ⟨rfl, J⟩))))
    · refine sx_isStep_f (Or.inr a) (br_t rfl (br_f h1 (br_f h2 ?_)))
      by_cases b : v2 < 0
      · exact br_t b ⟨rfl, J⟩
      · exact br_f b (br_t a ⟨rfl, J⟩)
    · have h3 : ¬ nI j < 0 := nI_pos (by omega)
      have h4 : ¬ nI n ≤ nI j := nI_ge hj (by omega)
      have hv : vp_in (nI (s * 12 + j)) 96 := vp_in_nI (by omega) (by omega)
      refine sx_isStep_t hn hj (br_f (by decide) (nm_r (sq_ci s j) ?_))
      have Y0 : ∀ Q : Int32 → Prop, ¬ v3 < 0 → v3 ≤ 4 → ((v3 = 0 → Q (ss (s * 12 + j))) ∧ (v3 = 1 → Q (ta (s * 12 + j))) ∧ (v3 = 2 → Q (dx (s * 12 + j))) ∧ (v3 = 3 → Q (dr (s * 12 + j))) ∧ (v3 = 4 → Q (ur (s * 12 + j)))) →
          wpY_stepInfo Q (nI m, nI c, nI n, ev, ck, nI r, nI d, sS, sM, sT, sF, st, sg, pv, ss, ta, dy, dr, ur, jK, jA, jB, jC) (nI s) (nI j) v3 := by
        intro Q p0 p4 hQ
        obtain ⟨q0, q1, q2, q3, q4⟩ := hQ
        unfold wpY_stepInfo
        refine br_f h1 (br_f h2 (br_f h3 (br_f h4 (br_f p0 (br_t p4 (nm_r (sq_ci s j) ?_))))))
        rw [nI_clamp (n := s * 12 + j) (by omega)]
        refine br_c (fun e => ⟨hv, q0 e⟩) (fun e0 => br_c (fun e => ⟨hv, q1 e⟩) (fun e1 => br_c (fun e => ⟨hv, ?_⟩) (fun e2 => br_c (fun e => ⟨hv, q3 e⟩) (fun e3 => ⟨hv, q4 ?_⟩))))
        · by_cases w : ss (s * 12 + j) = 1 ∨ ss (s * 12 + j) = 4
          · have hE := sq_iE hI (by omega) w
            rw [hE] at q2
            rcases w with w | w
            · exact br_t w ⟨hv, q2 e⟩
            · exact br_f (fun z => absurd (w.symm.trans z) (by decide)) ⟨hv, br_t w ⟨hv, q2 e⟩⟩
          · have hE := sq_iE0 hI (by omega) w
            rw [hE] at q2
            exact br_f (fun z => w (Or.inl z)) ⟨hv, br_f (fun z => w (Or.inr z)) (q2 e)⟩
        · obtain ⟨i, hi, e⟩ := nI_of2 (M := 4) (n := 4) (by decide) p0 p4
          have hi5 : i = 0 ∨ i = 1 ∨ i = 2 ∨ i = 3 ∨ i = 4 := by omega
          rcases hi5 with rfl | rfl | rfl | rfl | rfl
          · exact absurd e e0
          · exact absurd e e1
          · exact absurd e e2
          · exact absurd e e3
          · exact e
      rw [nI_clamp (n := s * 12 + j) (by omega)]
      by_cases e0 : v3 = 0
      · subst e0
        exact br_t rfl ⟨hv, Y0 _ (by decide) (by decide) ⟨fun _ => ⟨rfl, J⟩, fun z => absurd z (by decide), fun z => absurd z (by decide), fun z => absurd z (by decide), fun z => absurd z (by decide)⟩⟩
      by_cases e1 : v3 = 1
      · subst e1
        exact br_f e0 (br_t rfl ⟨hv, Y0 _ (by decide) (by decide) ⟨fun z => absurd z (by decide), fun _ => ⟨rfl, J⟩, fun z => absurd z (by decide), fun z => absurd z (by decide), fun z => absurd z (by decide)⟩⟩)
      by_cases e2 : v3 = 2
      · subst e2
        exact br_f e0 (br_f e1 (br_t rfl ⟨hv, Y0 _ (by decide) (by decide) ⟨fun z => absurd z (by decide), fun z => absurd z (by decide), fun _ => ⟨rfl, J⟩, fun z => absurd z (by decide), fun z => absurd z (by decide)⟩⟩))
      by_cases e3 : v3 = 3
      · subst e3
        exact br_f e0 (br_f e1 (br_f e2 (br_t rfl ⟨hv, Y0 _ (by decide) (by decide) ⟨fun z => absurd z (by decide), fun z => absurd z (by decide), fun z => absurd z (by decide), fun _ => ⟨rfl, J⟩, fun z => absurd z (by decide)⟩⟩)))
      by_cases e4 : v3 = 4
      · subst e4
        exact br_f e0 (br_f e1 (br_f e2 (br_f e3 (br_t rfl ⟨hv, Y0 _ (by decide) (by decide) ⟨fun z => absurd z (by decide), fun z => absurd z (by decide), fun z => absurd z (by decide), fun z => absurd z (by decide), fun _ => ⟨rfl, J⟩⟩⟩))))
      refine br_f e0 (br_f e1 (br_f e2 (br_f e3 (br_f e4 (br_f h1 (br_f h2 (br_f h3 (br_f h4 ?_))))))))
      by_cases z : v3 < 0
      · exact br_t z ⟨rfl, J⟩
      · refine br_f z (br_f (fun w => ?_) ⟨rfl, J⟩)
        obtain ⟨i, hi, e⟩ := nI_of2 (M := 4) (n := 4) (by decide) z w
        have hi5 : i = 0 ∨ i = 1 ∨ i = 2 ∨ i = 3 ∨ i = 4 := by omega
        rcases hi5 with rfl | rfl | rfl | rfl | rfl
        · exact e0 e
        · exact e1 e
        · exact e2 e
        · exact e3 e
        · exact e4 e
theorem i_vc_tick {k : Nat} {u : SX} {v : SY} (I : i_Rel k u v) (hk : k + 5 ≤ 2562) (v1 : Int32) : wpX_tick (fun r u' => wpY_tick (fun r' v' => r' = r ∧ i_Rel (k + 5) u' v') v v1) u v1 := by
  have J := i_up I
  have I' := I
  obtain ⟨n, m, c, r, d, sS, sM, sT, sF, st, sg, pv, ss, ta, dx, dy, dr, ur, jK, jA, jB, jC, ev, ck, hn, hm, hc, hr, hd, hT, hI, hJ, rfl, rfl⟩ := I'
  by_cases a : v1 < 1
  · exact br_t a (br_t a ⟨rfl, J⟩)
  by_cases b : v1 ≤ 16
  · by_cases q : r < c
    · obtain ⟨st', sg', pv', ss', ta', dx', dy', dr', ur', c', hI', hid, hX, hY⟩ := so_tick (m := m) (ck := ck) (sM := sM) (sT := sT) (sF := sF) v1 hm hn hI
      have hJ' : so_J n m sS sM sT sF (upd jK r 4) (upd jA r v1) (upd jB r 0) (r + 1) ev (st', sg', pv', ss', ta', dx', dy', dr', ur', ck + v1) := by
        by_cases he : ev = 0
        · rcases hJ with ⟨_, ep, h4⟩ | ⟨h1, _⟩
          · injection ep with ep1 ep
            injection ep with ep2 ep
            injection ep with ep3 ep
            injection ep with ep4 ep
            injection ep with ep5 ep
            injection ep with ep6 ep
            injection ep with ep7 ep
            injection ep with ep8 ep
            injection ep with ep9 ep10
            obtain ⟨x1, x2, x3, x4, x5, x6, x7, x8, x9⟩ := hid (fun i z => by
              rw [ep4] at z
              rcases z with z | z
              · exact absurd (show (0 : Int32) = 1 from z) (by decide)
              · exact absurd (show (0 : Int32) = 4 from z) (by decide))
            refine Or.inl ⟨he, ?_, fun i hi => ?_⟩
            · rw [x1, x2, x3, x4, x5, x6, x7, x8, x9, ep1, ep2, ep3, ep4, ep5, ep6, ep7, ep8, ep9, ep10]
              show so_Z (sq_cs jA r + v1) = so_Z (sq_cs (upd jA r v1) r + upd jA r v1 r)
              rw [sq_csU r (Nat.le_refl r), pk_us]
            · by_cases e : i = r
              · rw [e, pk_us]
              · rw [pk_un e]; exact h4 i (by omega)
          · exact absurd he h1
        · exact so_Jx hm hn hJ he hI' (Or.inr (Or.inr (Or.inr (Or.inl ⟨rfl, ⟨fun ev cp rc du jK jA jB jC post h => hX ev cp rc du jK jA jB jC (fun _ u' => post u') h, fun ev cp rc du jK jA jB jC post h => hY ev cp rc du jK jA jB jC (fun _ v' => post v') h⟩⟩))))
      have R : i_Rel (k + 5) (nI n, ev, nI m, ck + v1, nI c, nI (r + 1), nI d, sS, sM, sT, sF, st', sg', pv', ss', ta', dx', dr', ur', upd jK r 4, upd jA r v1, upd jB r 0, upd jC r 0) (nI m, nI c, nI n, ev, ck + v1, nI (r + 1), nI d, sS, sM, sT, sF, st', sg', pv', ss', ta', dy', dr', ur', upd jK r 4, upd jA r v1, upd jB r 0, upd jC r 0) :=
        sr_mk hn hm hc (by omega) (by omega) hT hI' hJ'
      have hlt : nI r < nI c := nI_lt q (by omega)
      refine br_f a (br_t b (br_t hlt (sx_append (by omega) (hX ev (nI c) (nI (r + 1)) (nI d) (upd jK r 4) (upd jA r v1) (upd jB r 0) (upd jC r 0) _ ?_))))
      exact br_f a (br_t b (br_t hlt (sy_append q hc (hY ev (nI c) (nI (r + 1)) (nI d) (upd jK r 4) (upd jA r v1) (upd jB r 0) (upd jC r 0) _ ⟨rfl, R⟩))))
    · have hlt : ¬ nI r < nI c := nI_nlt (by omega) (by omega)
      exact br_f a (br_t b (br_f hlt (br_f a (br_t b (br_f hlt ⟨rfl, J⟩)))))
  · exact br_f a (br_f b (br_f a (br_f b ⟨rfl, J⟩)))
theorem sr_least {st : Nat → Int32} {m : Nat} : ∀ s, s < m → st s = 0 → ∃ s, s < m ∧ st s = 0 ∧ ∀ t, t < s → ¬ st t = 0 := by
  intro s
  induction s using Nat.strongRecOn with
  | ind s ih =>
    intro hs h0
    by_cases q : ∀ t, t < s → ¬ st t = 0
    · exact ⟨s, hs, h0, q⟩
    · by_cases q2 : ∃ t, t < s ∧ st t = 0
      · obtain ⟨t, ht, ht0⟩ := q2
        exact ih t ht (by omega) ht0
      · exact absurd (fun t ht h => q2 ⟨t, ht, h⟩) q
theorem i_vc_start {k : Nat} {u : SX} {v : SY} (I : i_Rel k u v) (hk : k + 5 ≤ 2562) : wpX_start (fun r u' => wpY_start (fun r' v' => r' = r ∧ i_Rel (k + 5) u' v') v) u := by
  have J := i_up I
  have I' := I
  obtain ⟨n, m, c, r, d, sS, sM, sT, sF, st, sg, pv, ss, ta, dx, dy, dr, ur, jK, jA, jB, jC, ev, ck, hn, hm, hc, hr, hd, hT, hI, hJ, rfl, rfl⟩ := I'
  by_cases z : n = 0
  · subst z
    exact br_t rfl (br_t rfl ⟨rfl, J⟩)
  have hz : ¬ nI n = 0 := nI_ne0 (by omega) (by omega)
  by_cases q : ∀ t, t < m → ¬ st t = 0
  · exact br_f hz (sx_lf_n hm q (br_t rfl (br_f hz (sy_lf_n hm q (br_f (by decide) ⟨rfl, J⟩)))))
  · by_cases q2 : ∃ t, t < m ∧ st t = 0
    · obtain ⟨t, ht, ht0⟩ := q2
      obtain ⟨s, hs, h0, hl⟩ := sr_least t ht ht0
      have n1 : ¬ nI s = -1 := sq_ne1 (by omega)
      have p1 : (0 : Int32) ≤ nI s := nI_pos' (by omega)
      by_cases w : r < c
      · obtain ⟨st', sg', pv', ss', ta', dx', dy', dr', ur', hI', hX, hY⟩ := so_start (m := m) (ck := ck) (sM := sM) (sT := sT) (sF := sF) hI hm hs hn h0
        have hJ' : so_J n m sS sM sT sF (upd jK r 1) (upd jA r (nI s)) (upd jB r 0) (r + 1) 1 (st', sg', pv', ss', ta', dx', dy', dr', ur', ck) := so_Jx hm hn hJ (by decide) hI' (Or.inl ⟨rfl, s, hs, rfl, h0, hl, ⟨hX, hY⟩⟩)
        have R : i_Rel (k + 5) (nI n, 1, nI m, ck, nI c, nI (r + 1), nI d, sS, sM, sT, sF, st', sg', pv', ss', ta', dx', dr', ur', upd jK r 1, upd jA r (nI s), upd jB r 0, upd jC r 0) (nI m, nI c, nI n, 1, ck, nI (r + 1), nI d, sS, sM, sT, sF, st', sg', pv', ss', ta', dy', dr', ur', upd jK r 1, upd jA r (nI s), upd jB r 0, upd jC r 0) :=
          sr_mk hn hm hc (by omega) (by omega) hT hI' hJ'
        have hlt : nI r < nI c := nI_lt w (by omega)
        refine br_f hz (sx_lf_s hm hs h0 hl (br_f n1 (br_t hlt (sx_append (by omega) (hX 1 (nI c) (nI (r + 1)) (nI d) (upd jK r 1) (upd jA r (nI s)) (upd jB r 0) (upd jC r 0) _ ?_)))))
        exact br_f hz (sy_lf_s hm hs h0 hl (br_t p1 (br_t hlt (sy_append w hc (hY 1 (nI c) (nI (r + 1)) (nI d) (upd jK r 1) (upd jA r (nI s)) (upd jB r 0) (upd jC r 0) _ ⟨rfl, R⟩)))))
      · have hlt : ¬ nI r < nI c := nI_nlt (by omega) (by omega)
        exact br_f hz (sx_lf_s hm hs h0 hl (br_f n1 (br_f hlt (br_f hz (sy_lf_s hm hs h0 hl (br_t p1 (br_f hlt ⟨rfl, J⟩)))))))
    · exact absurd (fun t ht h => q2 ⟨t, ht, h⟩) q
/-- before the first start no slot runs -/
theorem sr_ev {n m : Nat} {sS sM sT sF jK jA jB st sg pv ss ta dx dy dr ur : Nat → Int32} {r : Nat} {ev ck : Int32} (hJ : so_J n m sS sM sT sF jK jA jB r ev (st, sg, pv, ss, ta, dx, dy, dr, ur, ck)) (h : (∃ t, ¬ st t = 0) ∨ ∃ t, ¬ ss t = 0) : ¬ ev = 0 := by
  intro he
  rcases hJ with ⟨_, ep, h4⟩ | ⟨h1, _⟩
  · injection ep with ep1 ep
    injection ep with ep2 ep
    injection ep with ep3 ep
    injection ep with ep4 ep
    rcases h with ⟨t, ht⟩ | ⟨t, ht⟩
    · exact ht (by rw [ep1])
    · exact ht (by rw [ep4])
  · exact h1 he
theorem i_vc_release {k : Nat} {u : SX} {v : SY} (I : i_Rel k u v) (hk : k + 5 ≤ 2562) (v1 : Int32) : wpX_release (fun r u' => wpY_release (fun r' v' => r' = r ∧ i_Rel (k + 5) u' v') v v1) u v1 := by
  have J := i_up I
  have I' := I
  obtain ⟨n, m, c, r, d, sS, sM, sT, sF, st, sg, pv, ss, ta, dx, dy, dr, ur, jK, jA, jB, jC, ev, ck, hn, hm, hc, hr, hd, hT, hI, hJ, rfl, rfl⟩ := I'
  unfold wpX_release
  rcases pk_ix v1 (n := m) (by omega) with a | a | ⟨s, hs, rfl⟩
  · exact sx_isSlot_f (Or.inl a) (br_t rfl (br_t a ⟨rfl, J⟩))
  · refine sx_isSlot_f (Or.inr a) (br_t rfl ?_)
    by_cases b : v1 < 0
    · exact br_t b ⟨rfl, J⟩
    · exact br_f b (br_f (Int32.not_lt.mpr a) ⟨rfl, J⟩)
  · have hv : vp_in (nI s) 8 := vp_in_nI (by omega) (by omega)
    have h1 : ¬ nI s < 0 := nI_pos (by omega)
    have h2 : nI s < nI m := nI_lt hs (by omega)
    refine sx_isSlot_t hm hs (br_f (by decide) ⟨hv, ?_⟩)
    by_cases q : st s = 4 ∨ st s = 5
    · have hev : ¬ ev = 0 := sr_ev hJ (Or.inl ⟨s, fun z => by
        rcases q with q | q
        · exact absurd (q.symm.trans z) (by decide)
        · exact absurd (q.symm.trans z) (by decide)⟩)
      have w : wX_release_32 (fun y u' => wpY_release (fun r' v' => r' = y ∧ i_Rel (k + 5) u' v') (nI m, nI c, nI n, ev, ck, nI r, nI d, sS, sM, sT, sF, st, sg, pv, ss, ta, dy, dr, ur, jK, jA, jB, jC) (nI s)) (nI s) (nI n) ev (nI m) ck (nI c) (nI r) (nI d) sS sM sT sF st sg pv ss ta dx dr ur jK jA jB jC := by
        have wy : ∀ Q : Int32 → SY → Prop, wY_release_36 Q (nI s) (nI m) (nI c) (nI n) ev ck (nI r) (nI d) sS sM sT sF st sg pv ss ta dy dr ur jK jA jB jC → wpY_release Q (nI m, nI c, nI n, ev, ck, nI r, nI d, sS, sM, sT, sF, st, sg, pv, ss, ta, dy, dr, ur, jK, jA, jB, jC) (nI s) := by
          intro Q h
          refine br_f h1 (br_t h2 ⟨hv, ?_⟩)
          rw [nI_clamp (n := s) (by omega)]
          rcases q with q | q
          · exact br_t q h
          · exact br_f (fun z => absurd (q.symm.trans z) (by decide)) ⟨hv, br_t q h⟩
        by_cases w : r < c
        · have hlt : nI r < nI c := nI_lt w (by omega)
          obtain ⟨st', sg', pv', ss', ta', dx', dy', dr', ur', hI', _, hX, hY⟩ := so_free (m := m) (ck := ck) (sM := sM) (sT := sT) (sF := sF) hI (show s < 8 by omega)
          have hJ' : so_J n m sS sM sT sF (upd jK r 5) (upd jA r (nI s)) (upd jB r 0) (r + 1) ev (st', sg', pv', ss', ta', dx', dy', dr', ur', ck) := so_Jx hm hn hJ hev hI' (Or.inr (Or.inr (Or.inr (Or.inr ⟨rfl, s, hs, rfl, ⟨hX, hY⟩⟩))))
          have R : i_Rel (k + 5) (nI n, ev, nI m, ck, nI c, nI (r + 1), nI d, sS, sM, sT, sF, st', sg', pv', ss', ta', dx', dr', ur', upd jK r 5, upd jA r (nI s), upd jB r 0, upd jC r 0) (nI m, nI c, nI n, ev, ck, nI (r + 1), nI d, sS, sM, sT, sF, st', sg', pv', ss', ta', dy', dr', ur', upd jK r 5, upd jA r (nI s), upd jB r 0, upd jC r 0) :=
            sr_mk hn hm hc (by omega) (by omega) hT hI' hJ'
          refine br_t hlt (sx_append (by omega) (hX ev (nI c) (nI (r + 1)) (nI d) (upd jK r 5) (upd jA r (nI s)) (upd jB r 0) (upd jC r 0) _ (wy _ ?_)))
          exact br_t hlt (sy_append w hc (hY ev (nI c) (nI (r + 1)) (nI d) (upd jK r 5) (upd jA r (nI s)) (upd jB r 0) (upd jC r 0) _ ⟨rfl, R⟩))
        · have hlt : ¬ nI r < nI c := nI_nlt (by omega) (by omega)
          exact br_f hlt (wy _ (br_f hlt ⟨rfl, J⟩))
      rw [nI_clamp (n := s) (by omega)]
      rcases q with q | q
      · exact br_t q w
      · exact br_f (fun z => absurd (q.symm.trans z) (by decide)) ⟨hv, br_t q w⟩
    · rw [nI_clamp (n := s) (by omega)]
      refine br_f (fun z => q (Or.inl z)) ⟨hv, br_f (fun z => q (Or.inr z)) (br_f h1 (br_t h2 ⟨hv, ?_⟩))⟩
      rw [nI_clamp (n := s) (by omega)]
      exact br_f (fun z => q (Or.inl z)) ⟨hv, br_f (fun z => q (Or.inr z)) ⟨rfl, J⟩⟩
theorem i_vc_crash {k : Nat} {u : SX} {v : SY} (I : i_Rel k u v) (hk : k + 5 ≤ 2562) : wpX_crash (fun r u' => wpY_crash (fun r' v' => r' = r ∧ i_Rel (k + 5) u' v') v) u := by
  have I' := I
  obtain ⟨n, m, c, r, d, sS, sM, sT, sF, st, sg, pv, ss, ta, dx, dy, dr, ur, jK, jA, jB, jC, ev, ck, hn, hm, hc, hr, hd, hT, hI, hJ, rfl, rfl⟩ := I'
  have fin : ∀ C : Nat → so_P, so_C n m sS sM sT sF jK jA jB d C → so_J n m sS sM sT sF jK jA jB d ev (C d) →
      wpX_crash (fun y u' => wpY_crash (fun r' v' => r' = y ∧ i_Rel (k + 5) u' v') (nI m, nI c, nI n, ev, ck, nI r, nI d, sS, sM, sT, sF, st, sg, pv, ss, ta, dy, dr, ur, jK, jA, jB, jC)) (nI n, ev, nI m, ck, nI c, nI r, nI d, sS, sM, sT, sF, st, sg, pv, ss, ta, dx, dr, ur, jK, jA, jB, jC) := by
    intro C hC hJ'
    exact so_crashX (p := (st, sg, pv, ss, ta, dx, dy, dr, ur, ck)) (by omega) hI hC (so_crashY (p := (st, sg, pv, ss, ta, dx, dy, dr, ur, ck)) hm (by omega) hI hC ⟨rfl, sr_mk hn hm hc (by omega) (Nat.le_refl d) hT (hC.2.1 d (Nat.le_refl d)) hJ'⟩)
  rcases hJ with ⟨he, ep, h4⟩ | ⟨he, C, hC, eC⟩
  · exact fin _ (so_C0 hm hn (fun i hi => h4 i (by omega))) (Or.inl ⟨he, rfl, fun i hi => h4 i (by omega)⟩)
  · exact fin C (so_Ccut hC hd) (Or.inr ⟨he, C, so_Ccut hC hd, rfl⟩)
end
section
/-! report -/
theorem i_vc_report {k : Nat} {u : SX} {v : SY} (I : i_Rel k u v) (hk : k + 5 ≤ 2562) (v1 : Int32) (v2 : Int32) (v3 : Int32) (v4 : Int32) : wpX_report (fun r u' => wpY_report (fun r' v' => r' = r ∧ i_Rel (k + 5) u' v') v v1 v2 v3 (lw_bz v4)) u v1 v2 v3 (lw_bz v4) := by
  have J := i_up I
  generalize lw_bz v4 = b
  have I' := I
  obtain ⟨n, m, c, r, d, sS, sM, sT, sF, st, sg, pv, ss, ta, dx, dy, dr, ur, jK, jA, jB, jC, ev, ck, hn, hm, hc, hr, hd, hT, hI, hJ, rfl, rfl⟩ := I'
  unfold wpX_report
  rcases pk_ix v1 (n := m) (by omega) with a | a | ⟨s, hs, rfl⟩
  · exact sx_isSlot_f (Or.inl a) (br_t rfl (br_t a ⟨rfl, J⟩))
  · refine sx_isSlot_f (Or.inr a) (br_t rfl ?_)
    by_cases b : v1 < 0
    · exact br_t b ⟨rfl, J⟩
    · exact br_f b (br_f (Int32.not_lt.mpr a) ⟨rfl, J⟩)
  · have h1 : ¬ nI s < 0 := nI_pos (by omega)
    have h2 : nI s < nI m := nI_lt hs (by omega)
    refine sx_isSlot_t hm hs (br_f (by decide) ?_)
    rcases pk_ix v2 (n := n) (by omega) with a | a | ⟨j, hj, rfl⟩
    · exact sx_isStep_f (Or.inl a) (br_t rfl (br_f h1 (br_t h2 (br_t a ⟨rfl, J⟩))))
    · refine sx_isStep_f (Or.inr a) (br_t rfl (br_f h1 (br_t h2 ?_)))
      by_cases b : v2 < 0
      · exact br_t b ⟨rfl, J⟩
      · exact br_f b (br_f (Int32.not_lt.mpr a) ⟨rfl, J⟩)
    · have h3 : ¬ nI j < 0 := nI_pos (by omega)
      have h4 : nI j < nI n := nI_lt hj (by omega)
      have hk9 : s * 12 + j < 96 := by omega
      have hv : vp_in (nI (s * 12 + j)) 96 := vp_in_nI hk9 (by omega)
      refine sx_isStep_t hn hj (br_f (by decide) (nm_r (sq_ci s j) ?_))
      by_cases q : ss (s * 12 + j) = 1 ∨ ss (s * 12 + j) = 4
      · have hev : ¬ ev = 0 := sr_ev hJ (Or.inr ⟨s * 12 + j, fun z => by
          rcases q with q | q
          · exact absurd (q.symm.trans z) (by decide)
          · exact absurd (q.symm.trans z) (by decide)⟩)
        have wy : ∀ Q : Int32 → SY → Prop, wY_report_61 Q (nI s) (nI j) v3 b (nI (s * 12 + j)) (nI m) (nI c) (nI n) ev ck (nI r) (nI d) sS sM sT sF st sg pv ss ta dy dr ur jK jA jB jC → wpY_report Q (nI m, nI c, nI n, ev, ck, nI r, nI d, sS, sM, sT, sF, st, sg, pv, ss, ta, dy, dr, ur, jK, jA, jB, jC) (nI s) (nI j) v3 b := by
          intro Q h
          refine br_f h1 (br_t h2 (br_f h3 (br_t h4 (nm_r (sq_ci s j) ⟨hv, ?_⟩))))
          rw [nI_clamp (n := s * 12 + j) (by omega)]
          rcases q with q | q
          · exact br_t q h
          · exact br_f (fun z => absurd (q.symm.trans z) (by decide)) ⟨hv, br_t q h⟩
        refine sx_infl_t hk9 q (br_f (by decide) ⟨hv, ?_⟩)
        rw [nI_clamp (n := s * 12 + j) (by omega)]
        by_cases e : v3 = ta (s * 12 + j)
        · by_cases w : r < c
          · have hlt : nI r < nI c := nI_lt w (by omega)
            by_cases z : b = 0
            · obtain ⟨st', sg', pv', ss', ta', dx', dy', dr', ur', hI', hX, hY⟩ := so_fail (m := m) (ck := ck) (sM := sM) (sT := sT) (sF := sF) hI hm hs hn hj q
              have hJ' : so_J n m sS sM sT sF (upd jK r 3) (upd jA r (nI s)) (upd jB r (nI j)) (r + 1) ev (st', sg', pv', ss', ta', dx', dy', dr', ur', ck) := so_Jx hm hn hJ hev hI' (Or.inr (Or.inr (Or.inl ⟨rfl, ⟨hX, hY⟩⟩)))
              have R : i_Rel (k + 5) (nI n, ev, nI m, ck, nI c, nI (r + 1), nI d, sS, sM, sT, sF, st', sg', pv', ss', ta', dx', dr', ur', upd jK r 3, upd jA r (nI s), upd jB r (nI j), upd jC r v3) (nI m, nI c, nI n, ev, ck, nI (r + 1), nI d, sS, sM, sT, sF, st', sg', pv', ss', ta', dy', dr', ur', upd jK r 3, upd jA r (nI s), upd jB r (nI j), upd jC r v3) :=
                sr_mk hn hm hc (by omega) (by omega) hT hI' hJ'
              refine br_t e (br_t hlt (br_t z (sx_append (by omega) (hX ev (nI c) (nI (r + 1)) (nI d) (upd jK r 3) (upd jA r (nI s)) (upd jB r (nI j)) (upd jC r v3) _ ⟨hv, wy _ (And.intro hv ?_)⟩))))
              rw [nI_clamp (n := s * 12 + j) (by omega)]
              refine br_t e.symm (br_t hlt (br_t z ?_))
              unfold wY_report_100
              exact sy_append w hc (br_t z (hY ev (nI c) (nI (r + 1)) (nI d) (upd jK r 3) (upd jA r (nI s)) (upd jB r (nI j)) (upd jC r v3) _ ⟨hv, congrArg ss' (nI_clamp (by omega)), R⟩))
            · obtain ⟨st', sg', pv', ss', ta', dx', dy', dr', ur', hI', hX, hY⟩ := so_ok (m := m) (ck := ck) (sM := sM) (sT := sT) (sF := sF) hI hm hs hn hj q
              have hJ' : so_J n m sS sM sT sF (upd jK r 2) (upd jA r (nI s)) (upd jB r (nI j)) (r + 1) ev (st', sg', pv', ss', ta', dx', dy', dr', ur', ck) := so_Jx hm hn hJ hev hI' (Or.inr (Or.inl ⟨rfl, ⟨hX, hY⟩⟩))
              have R : i_Rel (k + 5) (nI n, ev, nI m, ck, nI c, nI (r + 1), nI d, sS, sM, sT, sF, st', sg', pv', ss', ta', dx', dr', ur', upd jK r 2, upd jA r (nI s), upd jB r (nI j), upd jC r v3) (nI m, nI c, nI n, ev, ck, nI (r + 1), nI d, sS, sM, sT, sF, st', sg', pv', ss', ta', dy', dr', ur', upd jK r 2, upd jA r (nI s), upd jB r (nI j), upd jC r v3) :=
                sr_mk hn hm hc (by omega) (by omega) hT hI' hJ'
              refine br_t e (br_t hlt (br_f z (sx_append (by omega) (hX ev (nI c) (nI (r + 1)) (nI d) (upd jK r 2) (upd jA r (nI s)) (upd jB r (nI j)) (upd jC r v3) _ ⟨hv, wy _ (And.intro hv ?_)⟩))))
              rw [nI_clamp (n := s * 12 + j) (by omega)]
              refine br_t e.symm (br_t hlt (br_f z ?_))
              unfold wY_report_100
              exact sy_append w hc (br_f z (hY ev (nI c) (nI (r + 1)) (nI d) (upd jK r 2) (upd jA r (nI s)) (upd jB r (nI j)) (upd jC r v3) _ ⟨hv, congrArg ss' (nI_clamp (by omega)), R⟩))
          · have hlt : ¬ nI r < nI c := nI_nlt (by omega) (by omega)
            refine br_t e (br_f hlt (wy _ (And.intro hv ?_)))
            rw [nI_clamp (n := s * 12 + j) (by omega)]
            exact br_t e.symm (br_f hlt ⟨rfl, J⟩)
        · refine br_f e (wy _ (And.intro hv ?_))
          rw [nI_clamp (n := s * 12 + j) (by omega)]
          exact br_f (fun z => e z.symm) ⟨rfl, J⟩
      · refine sx_infl_f hk9 q (br_t rfl (br_f h1 (br_t h2 (br_f h3 (br_t h4 (nm_r (sq_ci s j) ⟨hv, ?_⟩))))))
        rw [nI_clamp (n := s * 12 + j) (by omega)]
        exact br_f (fun z => q (Or.inl z)) ⟨hv, br_f (fun z => q (Or.inr z)) ⟨rfl, J⟩⟩
end
section
/-! defineStep -/
theorem sr_ch {v2 v3 v4 : Int32} {R M : Prop} (hb : ¬ (¬ v2 < 1 ∧ v2 ≤ 4 ∧ ¬ v3 < 1 ∧ v3 ≤ 15 ∧ ¬ v4 < 0 ∧ v4 ≤ 3) → R) (hm : (¬ v2 < 1 ∧ v2 ≤ 4 ∧ ¬ v3 < 1 ∧ v3 ≤ 15 ∧ ¬ v4 < 0 ∧ v4 ≤ 3) → M) :
    (v2 < 1 → R) ∧ (¬ v2 < 1 → (v2 ≤ 4 → (v3 < 1 → R) ∧ (¬ v3 < 1 → (v3 ≤ 15 → (v4 < 0 → R) ∧ (¬ v4 < 0 → (v4 ≤ 3 → M) ∧ (¬ v4 ≤ 3 → R))) ∧ (¬ v3 ≤ 15 → R))) ∧ (¬ v2 ≤ 4 → R)) :=
  br_c (fun a => hb (fun z => z.1 a)) (fun a => br_c (fun b => br_c (fun x => hb (fun z => z.2.2.1 x)) (fun x => br_c (fun y => br_c (fun e => hb (fun z => z.2.2.2.2.1 e)) (fun e => br_c (fun f => hm ⟨a, b, x, y, e, f⟩) (fun f => hb (fun z => f z.2.2.2.2.2))))
    (fun y => hb (fun z => y z.2.2.2.1)))) (fun b => hb (fun z => b z.2.1)))
theorem i_vc_defineStep {k : Nat} {u : SX} {v : SY} (I : i_Rel k u v) (hk : k + 5 ≤ 2562) (v1 : Int32) (v2 : Int32) (v3 : Int32) (v4 : Int32) : wpX_defineStep (fun r u' => wpY_defineStep (fun r' v' => r' = r ∧ i_Rel (k + 5) u' v') v v1 v2 v3 v4) u v1 v2 v3 v4 := by
  have J := i_up I
  have I' := I
  obtain ⟨n, m, c, r, d, sS, sM, sT, sF, st, sg, pv, ss, ta, dx, dy, dr, ur, jK, jA, jB, jC, ev, ck, hn, hm, hc, hr, hd, hT, hI, hJ, rfl, rfl⟩ := I'
  by_cases he : ev = 0
  · by_cases h12 : n = 12
    · have e12 : nI n = 12 := by rw [h12]; rfl
      exact br_t he (br_t e12 (br_t he (br_t e12 ⟨rfl, J⟩)))
    · have n12 : ¬ nI n = 12 := fun z => h12 ((nI_eq (b := 12) (by omega) (by omega)).mp z)
      have hn' : n < 12 := by omega
      rcases hJ with ⟨_, ep, h4⟩ | ⟨hx, _⟩
      · injection ep with ep1 ep
        injection ep with ep2 ep
        injection ep with ep3 ep
        injection ep with ep4 ep
        injection ep with ep5 ep
        injection ep with ep6 ep
        injection ep with ep7 ep
        injection ep with ep8 ep
        injection ep with ep9 ep10
        subst ep1 ep2 ep3 ep4 ep5 ep6 ep7 ep8 ep9 ep10
        have acc : sq_tp (n + 1) (upd sS n v1) (upd sF n v4) → sq_hp sS sF v1 n = 0 → ((v4 &&& 2) = 0 ∨ sq_ct sS v1 n = 0) → (¬ v2 < 1 ∧ v2 ≤ 4 ∧ ¬ v3 < 1 ∧ v3 ≤ 15 ∧ ¬ v4 < 0 ∧ v4 ≤ 3) →
            wY_defineStep_62 (fun r' v' => r' = nI n ∧ i_Rel (k + 5) (nI (n + 1), ev, nI m, (so_Z (sq_cs jA r)).2.2.2.2.2.2.2.2.2, nI c, nI r, nI d, upd sS n v1, upd sM n v2, upd sT n v3, upd sF n v4, (so_Z (sq_cs jA r)).1, (so_Z (sq_cs jA r)).2.1, (so_Z (sq_cs jA r)).2.2.1, (so_Z (sq_cs jA r)).2.2.2.1, (so_Z (sq_cs jA r)).2.2.2.2.1, (so_Z (sq_cs jA r)).2.2.2.2.2.1, (so_Z (sq_cs jA r)).2.2.2.2.2.2.2.1, (so_Z (sq_cs jA r)).2.2.2.2.2.2.2.2.1, jK, jA, jB, jC) v') v1 v2 v3 v4 (nI m) (nI c) (nI n) ev ((so_Z (sq_cs jA r)).2.2.2.2.2.2.2.2.2) (nI r) (nI d) sS sM sT sF ((so_Z (sq_cs jA r)).1) ((so_Z (sq_cs jA r)).2.1) ((so_Z (sq_cs jA r)).2.2.1) ((so_Z (sq_cs jA r)).2.2.2.1) ((so_Z (sq_cs jA r)).2.2.2.2.1) ((so_Z (sq_cs jA r)).2.2.2.2.2.2.1) ((so_Z (sq_cs jA r)).2.2.2.2.2.2.2.1) ((so_Z (sq_cs jA r)).2.2.2.2.2.2.2.2.1) jK jA jB jC :=
          fun hT' hp hq ok => sr_ch (fun z => absurd ok z) (fun _ => sy_dsA hn' hp hq ⟨rfl, sr_mk (by omega) hm hc hr hd hT' sq_iv0 (Or.inl ⟨he, rfl, h4⟩)⟩)
        have ref : ((¬ (v4 &&& 2) = 0 ∧ 0 < sq_ct sS v1 n) ∨ ((v4 &&& 2) = 0 ∧ ¬ sq_hp sS sF v1 n = 0)) → (¬ v2 < 1 ∧ v2 ≤ 4 ∧ ¬ v3 < 1 ∧ v3 ≤ 15 ∧ ¬ v4 < 0 ∧ v4 ≤ 3) →
            wY_defineStep_62 (fun r' v' => r' = -1 ∧ i_Rel (k + 5) (nI n, ev, nI m, (so_Z (sq_cs jA r)).2.2.2.2.2.2.2.2.2, nI c, nI r, nI d, sS, sM, sT, sF, (so_Z (sq_cs jA r)).1, (so_Z (sq_cs jA r)).2.1, (so_Z (sq_cs jA r)).2.2.1, (so_Z (sq_cs jA r)).2.2.2.1, (so_Z (sq_cs jA r)).2.2.2.2.1, (so_Z (sq_cs jA r)).2.2.2.2.2.1, (so_Z (sq_cs jA r)).2.2.2.2.2.2.2.1, (so_Z (sq_cs jA r)).2.2.2.2.2.2.2.2.1, jK, jA, jB, jC) v') v1 v2 v3 v4 (nI m) (nI c) (nI n) ev ((so_Z (sq_cs jA r)).2.2.2.2.2.2.2.2.2) (nI r) (nI d) sS sM sT sF ((so_Z (sq_cs jA r)).1) ((so_Z (sq_cs jA r)).2.1) ((so_Z (sq_cs jA r)).2.2.1) ((so_Z (sq_cs jA r)).2.2.2.1) ((so_Z (sq_cs jA r)).2.2.2.2.1) ((so_Z (sq_cs jA r)).2.2.2.2.2.2.1) ((so_Z (sq_cs jA r)).2.2.2.2.2.2.2.1) ((so_Z (sq_cs jA r)).2.2.2.2.2.2.2.2.1) jK jA jB jC :=
          fun hb ok => sr_ch (fun z => absurd ok z) (fun _ => sy_dsR hn' hb ⟨rfl, J⟩)
        have bad : ¬ (¬ v2 < 1 ∧ v2 ≤ 4 ∧ ¬ v3 < 1 ∧ v3 ≤ 15 ∧ ¬ v4 < 0 ∧ v4 ≤ 3) →
            wY_defineStep_62 (fun r' v' => r' = -1 ∧ i_Rel (k + 5) (nI n, ev, nI m, (so_Z (sq_cs jA r)).2.2.2.2.2.2.2.2.2, nI c, nI r, nI d, sS, sM, sT, sF, (so_Z (sq_cs jA r)).1, (so_Z (sq_cs jA r)).2.1, (so_Z (sq_cs jA r)).2.2.1, (so_Z (sq_cs jA r)).2.2.2.1, (so_Z (sq_cs jA r)).2.2.2.2.1, (so_Z (sq_cs jA r)).2.2.2.2.2.1, (so_Z (sq_cs jA r)).2.2.2.2.2.2.2.1, (so_Z (sq_cs jA r)).2.2.2.2.2.2.2.2.1, jK, jA, jB, jC) v') v1 v2 v3 v4 (nI m) (nI c) (nI n) ev ((so_Z (sq_cs jA r)).2.2.2.2.2.2.2.2.2) (nI r) (nI d) sS sM sT sF ((so_Z (sq_cs jA r)).1) ((so_Z (sq_cs jA r)).2.1) ((so_Z (sq_cs jA r)).2.2.1) ((so_Z (sq_cs jA r)).2.2.2.1) ((so_Z (sq_cs jA r)).2.2.2.2.1) ((so_Z (sq_cs jA r)).2.2.2.2.2.2.1) ((so_Z (sq_cs jA r)).2.2.2.2.2.2.2.1) ((so_Z (sq_cs jA r)).2.2.2.2.2.2.2.2.1) jK jA jB jC :=
          fun no => sr_ch (fun _ => ⟨rfl, J⟩) (fun z => absurd z no)
        refine br_t he (br_f n12 ?_)
        rcases n with _ | q
        · refine sx_ord0 (fun e => br_f (by decide) ?_) (fun e => br_t rfl (br_t he (br_f n12 (br_t rfl (br_f e ⟨rfl, J⟩)))))
          have ent : ∀ Q : Int32 → SY → Prop, wY_defineStep_62 Q v1 v2 v3 v4 (nI m) (nI c) (nI 0) ev ((so_Z (sq_cs jA r)).2.2.2.2.2.2.2.2.2) (nI r) (nI d) sS sM sT sF ((so_Z (sq_cs jA r)).1) ((so_Z (sq_cs jA r)).2.1) ((so_Z (sq_cs jA r)).2.2.1) ((so_Z (sq_cs jA r)).2.2.2.1) ((so_Z (sq_cs jA r)).2.2.2.2.1) ((so_Z (sq_cs jA r)).2.2.2.2.2.2.1) ((so_Z (sq_cs jA r)).2.2.2.2.2.2.2.1) ((so_Z (sq_cs jA r)).2.2.2.2.2.2.2.2.1) jK jA jB jC → wpY_defineStep Q (nI m, nI c, nI 0, ev, (so_Z (sq_cs jA r)).2.2.2.2.2.2.2.2.2, nI r, nI d, sS, sM, sT, sF, (so_Z (sq_cs jA r)).1, (so_Z (sq_cs jA r)).2.1, (so_Z (sq_cs jA r)).2.2.1, (so_Z (sq_cs jA r)).2.2.2.1, (so_Z (sq_cs jA r)).2.2.2.2.1, (so_Z (sq_cs jA r)).2.2.2.2.2.2.1, (so_Z (sq_cs jA r)).2.2.2.2.2.2.2.1, (so_Z (sq_cs jA r)).2.2.2.2.2.2.2.2.1, jK, jA, jB, jC) v1 v2 v3 v4 :=
            fun Q h => br_t he (br_f n12 (br_t rfl (br_t e h)))
          refine sr_ch (fun no => ent _ (bad no)) (fun ok => sx_br0 (br_t rfl ?_))
          have hT' : sq_tp (0 + 1) (upd sS 0 v1) (upd sF 0 v4) := by rw [e]; exact sq_tp1
          have A := ent _ (acc hT' rfl (Or.inr rfl) ok)
          simp (disch := omega) only [forall_eq, sq_ci, nI_clamp, sq_vin, true_and, nI_1]
          exact A
        · have vq : vp_in (nI q) 12 := vp_in_nI (by omega) (by omega)
          have nz : ¬ nI (q + 1) = 0 := nI_ne0 (by omega) (by omega)
          refine sx_ordS (by omega) (fun e => br_f (by decide) ?_) (fun e => br_t rfl (br_t he (br_f n12 (br_f nz ?_))))
          · have ent : ∀ Q : Int32 → SY → Prop, wY_defineStep_62 Q v1 v2 v3 v4 (nI m) (nI c) (nI (q + 1)) ev ((so_Z (sq_cs jA r)).2.2.2.2.2.2.2.2.2) (nI r) (nI d) sS sM sT sF ((so_Z (sq_cs jA r)).1) ((so_Z (sq_cs jA r)).2.1) ((so_Z (sq_cs jA r)).2.2.1) ((so_Z (sq_cs jA r)).2.2.2.1) ((so_Z (sq_cs jA r)).2.2.2.2.1) ((so_Z (sq_cs jA r)).2.2.2.2.2.2.1) ((so_Z (sq_cs jA r)).2.2.2.2.2.2.2.1) ((so_Z (sq_cs jA r)).2.2.2.2.2.2.2.2.1) jK jA jB jC → wpY_defineStep Q (nI m, nI c, nI (q + 1), ev, (so_Z (sq_cs jA r)).2.2.2.2.2.2.2.2.2, nI r, nI d, sS, sM, sT, sF, (so_Z (sq_cs jA r)).1, (so_Z (sq_cs jA r)).2.1, (so_Z (sq_cs jA r)).2.2.1, (so_Z (sq_cs jA r)).2.2.2.1, (so_Z (sq_cs jA r)).2.2.2.2.1, (so_Z (sq_cs jA r)).2.2.2.2.2.2.1, (so_Z (sq_cs jA r)).2.2.2.2.2.2.2.1, (so_Z (sq_cs jA r)).2.2.2.2.2.2.2.2.1, jK, jA, jB, jC) v1 v2 v3 v4 := by
              intro Q h
              refine br_t he (br_f n12 (br_f nz ?_))
              simp (disch := omega) only [nI_pred, forall_eq, sq_ci, nI_clamp, sq_vin, true_and, nI_1]
              by_cases a : v1 = sS q
              · exact br_t a h
              · rcases e with e | e
                · exact absurd e a
                · exact br_f a (br_t e h)
            refine sr_ch (fun no => ent _ (bad no)) (fun ok => ?_)
            by_cases a : sS q = v1
            · refine sx_brS (by omega) a (fun f4 fq => br_t rfl ?_) (fun nf => br_f (by decide) (ent _ (ref ?_ ok)))
              · have hT' : sq_tp (q + 1 + 1) (upd sS (q + 1) v1) (upd sF (q + 1) v4) := by rw [← a]; exact sq_tpA hT f4 fq
                have hp : sq_hp sS sF v1 (q + 1) = 0 := sq_hp0 (q + 1) (fun j hj ej => sq_tpS hT fq (by omega) j hj (ej.trans a.symm))
                have A := ent _ (acc hT' hp (Or.inl f4) ok)
                simp (disch := omega) only [forall_eq, sq_ci, nI_clamp, sq_vin, true_and, nI_1]
                exact A
              · by_cases f4 : (v4 &&& 2) = 0
                · refine Or.inr ⟨f4, ?_⟩
                  rw [sq_hpS, if_pos ⟨a, fun z => nf ⟨f4, z⟩⟩]
                  decide
                · refine Or.inl ⟨f4, ?_⟩
                  rw [sq_ctS, if_pos a]
                  omega
            · have e1 : v1 = sS q + 1 := by
                rcases e with e | e
                · exact absurd e.symm a
                · exact e
              have hT' : sq_tp (q + 1 + 1) (upd sS (q + 1) v1) (upd sF (q + 1) v4) := by rw [e1]; exact sq_tpB hT
              have none1 : ∀ j, j < q + 1 → ¬ sS j = v1 := by rw [e1]; exact sq_tpN hT (by omega)
              have A := ent _ (acc hT' (sq_hp0 (q + 1) (fun j hj ej => absurd ej (none1 j hj))) (Or.inr (sq_ct0 (q + 1) none1)) ok)
              refine sx_brN (by omega) a (br_t rfl ?_)
              simp (disch := omega) only [forall_eq, sq_ci, nI_clamp, sq_vin, true_and, nI_1]
              exact A
          · simp (disch := omega) only [nI_pred, forall_eq, sq_ci, nI_clamp, sq_vin, true_and, nI_1]
            exact br_f (fun z => e (Or.inl z)) (br_f (fun z => e (Or.inr z)) J)
      · exact absurd he hx
  · exact br_f he (br_f he ⟨rfl, J⟩)
end
