/-! numbers and stores (the pk_ rows begin as rows to paste) -/
theorem pk_us {f : Nat → Int32} {k : Nat} {x : Int32} : upd f k x k = x := if_pos rfl
theorem pk_un {f : Nat → Int32} {k j : Nat} {x : Int32} (h : j ≠ k) : upd f k x j = f j := if_neg h
theorem pk_sub {a b : Nat} (h : b ≤ a) : nI a - nI b = nI (a - b) := by
  obtain ⟨c, rfl⟩ : ∃ c, a = c + b := ⟨a - b, by omega⟩
  rw [← nI_add, Int32.add_sub_cancel, Nat.add_sub_cancel]
theorem pk_mul (a b : Nat) : nI a * nI b = nI (a * b) := (Int32.ofNat_mul a b).symm
theorem pk_ix (x : Int32) {n : Nat} (hn : n < 2 ^ 31) : x < 0 ∨ nI n ≤ x ∨ ∃ j : Nat, j < n ∧ x = nI j := by
  by_cases h : x < 0
  · exact Or.inl h
  · obtain ⟨j, hj, rfl⟩ := nI_of h
    by_cases h2 : j < n
    · exact Or.inr (Or.inr ⟨j, h2, rfl⟩)
    · exact Or.inr (Or.inl (nI_le (by omega) hj))
theorem pk_le {x y : Int32} {A B : Prop} (a b : Nat) (f : a ≤ b → A) (g : b < a → B) (hx : x = nI a := by rfl) (hy : y = nI b := by rfl) (ha : a < 2 ^ 31 := by omega) (hb : b < 2 ^ 31 := by omega) : (x ≤ y → A) ∧ (¬ x ≤ y → B) := by
  subst hx hy
  rw [nI_leI ha hb]
  exact ⟨f, fun z => g (by omega)⟩
theorem pk_lt {x y : Int32} {A B : Prop} (a b : Nat) (f : a < b → A) (g : b ≤ a → B) (hx : x = nI a := by rfl) (hy : y = nI b := by rfl) (ha : a < 2 ^ 31 := by omega) (hb : b < 2 ^ 31 := by omega) : (x < y → A) ∧ (¬ x < y → B) := by
  subst hx hy
  rw [nI_ltI ha hb]
  exact ⟨f, fun z => g (by omega)⟩
theorem pk_eq {x y : Int32} {A B : Prop} (a b : Nat) (f : a = b → A) (g : a ≠ b → B) (hx : x = nI a := by rfl) (hy : y = nI b := by rfl) (ha : a < 2 ^ 31 := by omega) (hb : b < 2 ^ 31 := by omega) : (x = y → A) ∧ (¬ x = y → B) := by
  subst hx hy
  rw [nI_eq ha hb]
  exact ⟨f, g⟩
theorem pk_in {x : Int32} (n N : Nat) (h : n < N) (hx : x = nI n := by rfl) (hN : N < 2 ^ 31 := by omega) : vp_in x N := by
  subst hx
  exact vp_in_nI h hN
theorem pk_cl {x : Int32} (n : Nat) (hx : x = nI n := by rfl) (h : n < 2 ^ 31 := by omega) : x.toNatClampNeg = n := by
  subst hx
  exact nI_clamp h
theorem pk_loop {σ : Type} (W : Nat → Nat → σ → Prop) (I : Nat → σ → Prop) (e i0 : Nat) (s : σ) (hi : i0 ≤ e) (h0 : I i0 s) (hx : ∀ n s, I e s → W (n + 1) e s)
    (hs : ∀ n i s, i < e → I i s → (∀ s', I (i + 1) s' → W n (i + 1) s') → W (n + 1) i s) : ∃ n, W n i0 s :=
  ⟨e + 1, loop_i W I e hx hs (e + 1) i0 s hi (by omega) h0⟩
theorem sq_ci (s j : Nat) : nI s * 12 + nI j = nI (s * 12 + j) := by
  rw [show (12 : Int32) = nI 12 from rfl, pk_mul, nI_add]
theorem sq_cl {s j : Nat} (hs : s < 8) (hj : j < 12) : (nI s * 12 + nI j).toNatClampNeg = s * 12 + j := by
  rw [sq_ci]; exact nI_clamp (by omega)
theorem sq_cn {s j : Nat} (hs : s < 8) (hj : j < 12) : vp_in (nI s * 12 + nI j) 96 := by
  rw [sq_ci]; exact vp_in_nI (by omega) (by omega)
theorem sq_ne1 {a : Nat} (h : a < 2 ^ 31) : ¬ nI a = -1 := by
  intro e
  have := nI_pos (n := a) h
  rw [e] at this
  exact this (by decide)
theorem sq_uu {a : Nat → Int32} {k : Nat} {x y : Int32} : upd (upd a k x) k y = upd a k y := by
  funext j
  by_cases e : j = k
  · subst e; rw [pk_us, pk_us]
  · rw [pk_un e, pk_un e, pk_un e]
theorem sq_ui {a : Nat → Int32} {k : Nat} {x : Int32} (h : a k = x) : upd a k x = a := by
  funext j
  by_cases e : j = k
  · subst e; rw [pk_us, h]
  · rw [pk_un e]

/-! a stretch of a slot's cells written where c holds -/
def sq_mx (c : Nat → Bool) (v : Nat → Int32) (s i : Nat) (a : Nat → Int32) : Nat → Int32 :=
  fun k => if s * 12 ≤ k ∧ k < s * 12 + i ∧ c (k - s * 12) = true then v (k - s * 12) else a k
theorem sq_mxP {c : Nat → Bool} {v : Nat → Int32} {s i k : Nat} {a : Nat → Int32} (h : s * 12 ≤ k ∧ k < s * 12 + i ∧ c (k - s * 12) = true) : sq_mx c v s i a k = v (k - s * 12) := if_pos h
theorem sq_mxN {c : Nat → Bool} {v : Nat → Int32} {s i k : Nat} {a : Nat → Int32} (h : ¬ (s * 12 ≤ k ∧ k < s * 12 + i ∧ c (k - s * 12) = true)) : sq_mx c v s i a k = a k := if_neg h
theorem sq_mx0 {c : Nat → Bool} {v : Nat → Int32} {s : Nat} {a : Nat → Int32} : sq_mx c v s 0 a = a := by
  funext k
  exact sq_mxN (fun h => by have h1 := h.1; have h2 := h.2.1; omega)
theorem sq_mxi {c : Nat → Bool} {v : Nat → Int32} {s i j : Nat} {a : Nat → Int32} (hj : j < i) : sq_mx c v s i a (s * 12 + j) = if c j = true then v j else a (s * 12 + j) := by
  have e2 : s * 12 + j - s * 12 = j := by omega
  by_cases q : c j = true
  · rw [if_pos q, sq_mxP ⟨by omega, by omega, by rw [e2]; exact q⟩, e2]
  · rw [if_neg q, sq_mxN (fun z => q (by have z2 := z.2.2; rw [e2] at z2; exact z2))]
theorem sq_mxh {c : Nat → Bool} {v : Nat → Int32} {s i j : Nat} {a : Nat → Int32} (hj : i ≤ j) : sq_mx c v s i a (s * 12 + j) = a (s * 12 + j) :=
  sq_mxN (fun z => by have := z.2.1; omega)
theorem sq_mxo {c : Nat → Bool} {v : Nat → Int32} {s t i j : Nat} {a : Nat → Int32} (hs : t ≠ s) (hj : j < 12) (hi : i ≤ 12) : sq_mx c v s i a (t * 12 + j) = a (t * 12 + j) :=
  sq_mxN (fun z => by have := z.1; have := z.2.1; omega)
theorem sq_mxt {c : Nat → Bool} {v : Nat → Int32} {s i : Nat} {a : Nat → Int32} (h : c i = true) : upd (sq_mx c v s i a) (s * 12 + i) (v i) = sq_mx c v s (i + 1) a := by
  funext k
  by_cases e : k = s * 12 + i
  · subst e
    rw [pk_us, sq_mxi (by omega), if_pos h]
  · rw [pk_un e]
    by_cases q : s * 12 ≤ k ∧ k < s * 12 + i ∧ c (k - s * 12) = true
    · rw [sq_mxP q, sq_mxP (i := i + 1) ⟨q.1, by have := q.2.1; omega, q.2.2⟩]
    · rw [sq_mxN q, sq_mxN (i := i + 1) (fun z => q ⟨z.1, by have := z.2.1; omega, z.2.2⟩)]
theorem sq_mxf {c : Nat → Bool} {v : Nat → Int32} {s i : Nat} {a : Nat → Int32} (h : ¬ c i = true) : sq_mx c v s i a = sq_mx c v s (i + 1) a := by
  funext k
  by_cases e : k = s * 12 + i
  · subst e
    rw [sq_mxh (by omega), sq_mxi (by omega), if_neg h]
  · by_cases q : s * 12 ≤ k ∧ k < s * 12 + i ∧ c (k - s * 12) = true
    · rw [sq_mxP q, sq_mxP (i := i + 1) ⟨q.1, by have := q.2.1; omega, q.2.2⟩]
    · rw [sq_mxN q, sq_mxN (i := i + 1) (fun z => q ⟨z.1, by have := z.2.1; omega, z.2.2⟩)]

/-! the view of a slot: its twelve cells -/
def sq_w (a : Nat → Int32) (s : Nat) : Nat → Int32 := fun i => if i < 12 then a (s * 12 + i) else 0
theorem sq_wi {a : Nat → Int32} {s i : Nat} (h : i < 12) : sq_w a s i = a (s * 12 + i) := if_pos h
theorem sq_wn {a : Nat → Int32} {s i : Nat} (h : ¬ i < 12) : sq_w a s i = 0 := if_neg h
theorem sq_wu {a : Nat → Int32} {s j : Nat} {x : Int32} (hj : j < 12) : sq_w (upd a (s * 12 + j) x) s = upd (sq_w a s) j x := by
  funext i
  by_cases e : i = j
  · subst e; rw [pk_us, sq_wi hj, pk_us]
  · rw [pk_un e]
    by_cases h : i < 12
    · rw [sq_wi h, sq_wi h, pk_un (by omega)]
    · rw [sq_wn h, sq_wn h]
theorem sq_wo {a : Nat → Int32} {s t j : Nat} {x : Int32} (hj : j < 12) (ht : t ≠ s) : sq_w (upd a (s * 12 + j) x) t = sq_w a t := by
  funext i
  by_cases h : i < 12
  · rw [sq_wi h, sq_wi h, pk_un (by omega)]
  · rw [sq_wn h, sq_wn h]
def sq_vm (c : Nat → Bool) (v : Nat → Int32) (m : Nat) (a : Nat → Int32) : Nat → Int32 := fun i => if i < m ∧ c i = true then v i else a i
theorem sq_vmP {c : Nat → Bool} {v : Nat → Int32} {m i : Nat} {a : Nat → Int32} (h : i < m ∧ c i = true) : sq_vm c v m a i = v i := if_pos h
theorem sq_vmN {c : Nat → Bool} {v : Nat → Int32} {m i : Nat} {a : Nat → Int32} (h : ¬ (i < m ∧ c i = true)) : sq_vm c v m a i = a i := if_neg h
theorem sq_wm {c : Nat → Bool} {v : Nat → Int32} {s m : Nat} {a : Nat → Int32} (hm : m ≤ 12) : sq_w (sq_mx c v s m a) s = sq_vm c v m (sq_w a s) := by
  funext i
  by_cases h : i < 12
  · rw [sq_wi h]
    by_cases q : i < m
    · rw [sq_mxi q]
      by_cases r : c i = true
      · rw [if_pos r, sq_vmP ⟨q, r⟩]
      · rw [if_neg r, sq_vmN (fun z => r z.2), sq_wi h]
    · rw [sq_mxh (by omega), sq_vmN (fun z => q z.1), sq_wi h]
  · rw [sq_wn h, sq_vmN (fun z => by have := z.1; omega), sq_wn h]
theorem sq_wmo {c : Nat → Bool} {v : Nat → Int32} {s t m : Nat} {a : Nat → Int32} (hm : m ≤ 12) (ht : t ≠ s) : sq_w (sq_mx c v s m a) t = sq_w a t := by
  funext i
  by_cases h : i < 12
  · rw [sq_wi h, sq_wi h, sq_mxo ht h hm]
  · rw [sq_wn h, sq_wn h]
theorem sq_w0 {s : Nat} : sq_w (fun _ => 0) s = fun _ => 0 := by
  funext i
  by_cases h : i < 12
  · exact sq_wi h
  · exact sq_wn h
/-- all twelve cells written: the view is what was written -/
theorem sq_wz {s : Nat} {a : Nat → Int32} : sq_w (sq_mx (fun _ => true) (fun _ => 0) s 12 a) s = fun _ => 0 := by
  funext i
  by_cases h : i < 12
  · rw [sq_wi h, sq_mxi h, if_pos rfl]
  · exact sq_wn h
/-- an array with a free slot's cells 0: writing 0 there changes nothing -/
theorem sq_mz {s : Nat} {a : Nat → Int32} (h : ∀ i, i < 12 → sq_w a s i = 0) : sq_mx (fun _ => true) (fun _ => 0) s 12 a = a := by
  funext k
  by_cases q : s * 12 ≤ k ∧ k < s * 12 + 12 ∧ (fun _ : Nat => true) (k - s * 12) = true
  · rw [sq_mxP q]
    have h1 := q.1
    have h2 := q.2.1
    have h3 := h (k - s * 12) (by omega)
    rw [sq_wi (by omega), show s * 12 + (k - s * 12) = k from by omega] at h3
    exact h3.symm
  · exact sq_mxN q

/-! scans -/
def sq_nu (ss dr sF : Nat → Int32) (s : Nat) : Nat → Int32 × Int32
  | 0 => (-1, 0)
  | i + 1 => if ss (s * 12 + i) = 2 ∧ ¬ (sF i &&& 1) = 0 ∧ (sq_nu ss dr sF s i).2 < dr (s * 12 + i) then (nI i, dr (s * 12 + i)) else sq_nu ss dr sF s i
theorem sq_nuS {ss dr sF : Nat → Int32} {s i : Nat} : sq_nu ss dr sF s (i + 1) = if ss (s * 12 + i) = 2 ∧ ¬ (sF i &&& 1) = 0 ∧ (sq_nu ss dr sF s i).2 < dr (s * 12 + i) then (nI i, dr (s * 12 + i)) else sq_nu ss dr sF s i := rfl
theorem sq_nuP {ss dr sF : Nat → Int32} {s : Nat} : ∀ i, sq_nu ss dr sF s i = (-1, 0) ∨ ∃ b, b < i ∧ (sq_nu ss dr sF s i).1 = nI b := by
  intro i
  induction i with
  | zero => exact Or.inl rfl
  | succ i ih =>
    rw [sq_nuS]
    by_cases h : ss (s * 12 + i) = 2 ∧ ¬ (sF i &&& 1) = 0 ∧ (sq_nu ss dr sF s i).2 < dr (s * 12 + i)
    · rw [if_pos h]; exact Or.inr ⟨i, by omega, rfl⟩
    · rw [if_neg h]
      rcases ih with h | ⟨b, hb, e⟩
      · exact Or.inl h
      · exact Or.inr ⟨b, by omega, e⟩
def sq_rn (a : Nat → Int32) (s : Nat) : Nat → Nat
  | 0 => 0
  | i + 1 => if a (s * 12 + i) = 0 then sq_rn a s i else sq_rn a s i + 1
theorem sq_rnS {a : Nat → Int32} {s i : Nat} : sq_rn a s (i + 1) = if a (s * 12 + i) = 0 then sq_rn a s i else sq_rn a s i + 1 := rfl
theorem sq_rnL {a : Nat → Int32} {s : Nat} : ∀ i, sq_rn a s i ≤ i := by
  intro i
  induction i with
  | zero => exact Nat.le_refl 0
  | succ i ih =>
    rw [sq_rnS]
    by_cases h : a (s * 12 + i) = 0
    · rw [if_pos h]; omega
    · rw [if_neg h]; omega
theorem sq_rk {a : Nat → Int32} {s n : Nat} (hn : n ≤ 12) : 0 < nI (1 + sq_rn a s n) := by
  have := sq_rnL (a := a) (s := s) n
  exact nI_lt (a := 0) (by omega) (by omega)
/-- the pivot mark of a slot once a step with flags f is done there -/
def sq_pv (f : Int32) (pv : Nat → Int32) (s : Nat) : Nat → Int32 := if (f &&& 2) = 0 then pv else upd pv s 1
theorem sq_pvO {f : Int32} {pv : Nat → Int32} {s t : Nat} (e : t ≠ s) : sq_pv f pv s t = pv t := by
  unfold sq_pv
  by_cases h : (f &&& 2) = 0
  · rw [if_pos h]
  · rw [if_neg h, pk_un e]
theorem sq_vin {n N : Nat} (h : n < N) (hN : N < 2 ^ 31) : vp_in (nI n) N ↔ True := ⟨fun _ => trivial, fun _ => vp_in_nI h hN⟩
