/-! ===== texts: where tokens begin and end, what they are ===== -/
def isd (c : Nat) : Bool := decide (48 ≤ c ∧ c ≤ 57)
def isl (c : Nat) : Bool := decide (97 ≤ c ∧ c ≤ 122)
def isb (c : Nat) : Bool := decide (c = 32)
def runF (tp : Nat → Nat) (q : Nat → Bool) : Nat → Nat → Nat
  | 0, p => p
  | k + 1, p => if q (tp p) = true then runF tp q k (p + 1) else p
/-- the first place from p on where q ends -/
def rn (n : Nat) (tp : Nat → Nat) (q : Nat → Bool) (p : Nat) : Nat := runF tp q (n - p) p
theorem rn_yes {n : Nat} {tp : Nat → Nat} {q : Nat → Bool} {p : Nat} (h : p < n) (hq : q (tp p) = true) : rn n tp q p = rn n tp q (p + 1) := by
  unfold rn
  obtain ⟨k, hk⟩ : ∃ k, n - p = k + 1 := ⟨n - p - 1, by omega⟩
  rw [hk, show n - (p + 1) = k by omega]
  show (if q (tp p) = true then runF tp q k (p + 1) else p) = _
  rw [if_pos hq]
theorem rn_no {n : Nat} {tp : Nat → Nat} {q : Nat → Bool} {p : Nat} (hq : ¬ q (tp p) = true) : rn n tp q p = p := by
  unfold rn
  cases hk : n - p with
  | zero => rfl
  | succ k =>
    show (if q (tp p) = true then runF tp q k (p + 1) else p) = _
    rw [if_neg hq]
theorem rn_end {n : Nat} {tp : Nat → Nat} {q : Nat → Bool} {p : Nat} (h : n ≤ p) : rn n tp q p = p := by
  unfold rn
  rw [show n - p = 0 by omega]
  rfl
/-- going on place by place -/
theorem rn_ind {n : Nat} {tp : Nat → Nat} {q : Nat → Bool} {C : Nat → Prop} (h0 : ∀ p, n ≤ p → C p) (h1 : ∀ p, p < n → ¬ q (tp p) = true → C p) (h2 : ∀ p, p < n → q (tp p) = true → C (p + 1) → C p) : ∀ p, C p := by
  have : ∀ k p, n - p ≤ k → C p := by
    intro k
    induction k with
    | zero => intro p hp; exact h0 p (by omega)
    | succ k ih =>
      intro p hp
      by_cases h : n ≤ p
      · exact h0 p h
      · by_cases hq : q (tp p) = true
        · exact h2 p (by omega) hq (ih (p + 1) (by omega))
        · exact h1 p (by omega) hq
  exact fun p => this _ p (Nat.le_refl _)
theorem rn_ge {n : Nat} {tp : Nat → Nat} {q : Nat → Bool} : ∀ p, p ≤ rn n tp q p :=
  rn_ind (n := n) (tp := tp) (q := q) (fun p h => by rw [rn_end h]; exact Nat.le_refl _) (fun p _ h => by rw [rn_no h]; exact Nat.le_refl _) (fun p h hq ih => by rw [rn_yes h hq]; omega)
theorem rn_le {n : Nat} {tp : Nat → Nat} {q : Nat → Bool} : ∀ p, p ≤ n → rn n tp q p ≤ n :=
  rn_ind (n := n) (tp := tp) (q := q) (fun p h hp => by rw [rn_end h]; exact hp) (fun p _ h hp => by rw [rn_no h]; exact hp) (fun p h hq ih hp => by rw [rn_yes h hq]; exact ih h)
theorem rn_stop {n : Nat} {tp : Nat → Nat} {q : Nat → Bool} : ∀ p, rn n tp q p < n → ¬ q (tp (rn n tp q p)) = true :=
  rn_ind (n := n) (tp := tp) (q := q) (fun p h hp => by rw [rn_end h] at hp; omega) (fun p _ h hp => by rw [rn_no h]; exact h) (fun p h hq ih hp => by rw [rn_yes h hq] at hp ⊢; exact ih hp)
theorem rn_in {n : Nat} {tp : Nat → Nat} {q : Nat → Bool} : ∀ p i, p ≤ i → i < rn n tp q p → q (tp i) = true :=
  rn_ind (n := n) (tp := tp) (q := q) (fun p h i h1 h2 => by rw [rn_end h] at h2; omega) (fun p _ h i h1 h2 => by rw [rn_no h] at h2; omega) (fun p h hq ih i h1 h2 => by
    rw [rn_yes h hq] at h2
    by_cases e : i = p
    · rw [e]; exact hq
    · exact ih i (by omega) h2)
theorem rn_idem {n : Nat} {tp : Nat → Nat} {q : Nat → Bool} (p : Nat) : rn n tp q (rn n tp q p) = rn n tp q p := by
  by_cases h : rn n tp q p < n
  · exact rn_no (rn_stop p h)
  · exact rn_end (by omega)
/-- the number that grows digit by digit, as long as it is not above all -/
def nvF (tp : Nat → Nat) : Nat → Nat → Nat → Nat
  | 0, _, v => v
  | k + 1, p, v => nvF tp k (p + 1) (if 9999 < v then v else v * 10 + tp p - 48)
def cvl (n : Nat) (tp : Nat → Nat) (p : Nat) : Nat := nvF tp (rn n tp isd p - p) p 0
theorem nvF_lt (tp : Nat → Nat) : ∀ k p v, v < 100000 → (∀ i, i < k → isd (tp (p + i)) = true) → nvF tp k p v < 100000
  | 0, _, _, hv, _ => hv
  | k + 1, p, v, hv, h => by
    have h0 := of_decide_eq_true (h 0 (by omega))
    refine nvF_lt tp k (p + 1) _ ?_ (fun i hi => by have := h (i + 1) (by omega); rwa [show p + (i + 1) = p + 1 + i by omega] at this)
    rw [Nat.add_zero] at h0
    split <;> omega
theorem cvl_lt (n : Nat) (tp : Nat → Nat) (p : Nat) : cvl n tp p < 100000 := nvF_lt tp _ p 0 (by omega) (fun i hi => rn_in (n := n) p (p + i) (by omega) (by omega))
def txL (tp : Nat → Nat) (p e : Nat) : List Int32 := (List.range (e - p)).map fun k => nI (tp (p + k))
def twF (x : List Int32) : Nat → Nat → Nat
  | 0, _ => 1
  | k + 1, i => if wTx (i + 1) = x then i + 1 else twF x k (i + 1)
/-- the WORD by its bytes -/
def twL (x : List Int32) : Nat := twF x 23 0
theorem twF_rng (x : List Int32) : ∀ k i, i + k ≤ 23 → 1 ≤ twF x k i ∧ twF x k i ≤ 23
  | 0, _, _ => ⟨Nat.le_refl _, by show 1 ≤ 23; omega⟩
  | k + 1, i, h => by
    unfold twF
    split
    · omega
    · exact twF_rng x k (i + 1) (by omega)
theorem twL_rng (x : List Int32) : 1 ≤ twL x ∧ twL x ≤ 23 := twF_rng x 23 0 (by omega)
theorem twF_tx (x : List Int32) : ∀ k i, i + k ≤ 23 → twF x k i = 1 ∨ wTx (twF x k i) = x
  | 0, _, _ => Or.inl rfl
  | k + 1, i, h => by
    unfold twF
    split
    · exact Or.inr (by assumption)
    · exact twF_tx x k (i + 1) (by omega)
def tk (n : Nat) (tp : Nat → Nat) (p : Nat) : Nat := if n ≤ p then 0 else if isd (tp p) = true then 1 else if isl (tp p) = true then 2 else 3
def te (n : Nat) (tp : Nat → Nat) (p : Nat) : Nat := if isd (tp p) = true then rn n tp isd p else if isl (tp p) = true then rn n tp isl p else p + 1
def tw (n : Nat) (tp : Nat → Nat) (p : Nat) : Nat := twL (txL tp p (rn n tp isl p))
/-- where the next token begins -/
def nx (n : Nat) (tp : Nat → Nat) (p : Nat) : Nat := rn n tp isb (te n tp p)
/-- where the i-th token begins -/
def tb (n : Nat) (tp : Nat → Nat) : Nat → Nat
  | 0 => rn n tp isb 0
  | i + 1 => nx n tp (tb n tp i)
theorem te_gt {n : Nat} {tp : Nat → Nat} {p : Nat} (h : p < n) : p < te n tp p ∧ te n tp p ≤ n := by
  unfold te
  split
  · rename_i hd
    rw [rn_yes h hd]
    exact ⟨rn_ge (p + 1), rn_le (p + 1) h⟩
  · split
    · rename_i hd
      rw [rn_yes h hd]
      exact ⟨rn_ge (p + 1), rn_le (p + 1) h⟩
    · omega
theorem nx_gt {n : Nat} {tp : Nat → Nat} {p : Nat} (h : p < n) : p < nx n tp p ∧ nx n tp p ≤ n := by
  have h1 := te_gt (tp := tp) h
  exact ⟨Nat.lt_of_lt_of_le h1.1 (rn_ge _), rn_le _ h1.2⟩
theorem nx_nb {n : Nat} {tp : Nat → Nat} {p : Nat} : rn n tp isb (nx n tp p) = nx n tp p := rn_idem _
theorem tb_nb {n : Nat} {tp : Nat → Nat} : ∀ i, rn n tp isb (tb n tp i) = tb n tp i
  | 0 => rn_idem _
  | _ + 1 => nx_nb
theorem tk_lt {n : Nat} {tp : Nat → Nat} {p : Nat} (h : ¬ tk n tp p = 0) : p < n := by
  unfold tk at h
  split at h
  · exact absurd rfl h
  · omega
theorem tk_end {n : Nat} {tp : Nat → Nat} {p : Nat} (h : n ≤ p) : tk n tp p = 0 := if_pos h
