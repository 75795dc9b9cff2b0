/-! ===== a DAY, as a pure function ===== -/
theorem nI_neg {k : Nat} (h : k < 2 ^ 31) : ¬ nI k = -1 := fun e => by
  have h1 := nI_toInt h
  rw [e] at h1
  have h2 : ((-1 : Int32)).toInt = -1 := rfl
  omega
theorem nI_sub {a b : Nat} (h : b ≤ a) : nI a - nI b = nI (a - b) := by
  have e : nI a = nI (a - b) + nI b := by rw [nI_add, Nat.sub_add_cancel h]
  rw [e, Int32.add_sub_cancel]
theorem nI_sub_neg {a b : Nat} (h : a < b) (hb : b < 2 ^ 31) : nI a - nI b < 0 := by
  rw [Int32.lt_iff_toInt_lt, Int32.toInt_sub, nI_toInt (by omega), nI_toInt hb]
  show Int.bmod ((a : Int) - b) (2 ^ 32) < 0
  rw [Int.bmod_eq_of_le (by omega) (by omega)]
  omega
theorem nI_60 {m : Nat} (h : m < 1000) : nI m / 60 = nI (m / 60) := by
  have h1 : ∀ m, m < 1000 → nI m / 60 = nI (m / 60) := by decide +kernel
  exact h1 m h
theorem bit_get {s p : Nat} (hs : s < 256) (hp : p < 8) : ((nI s >>> (nI p &&& 31)) &&& 1) = (if s.testBit p then 1 else 0) := by
  have h : ∀ s, s < 256 → ∀ p, p < 8 → ((nI s >>> (nI p &&& 31)) &&& 1) = (if s.testBit p then 1 else 0) := by decide +kernel
  exact h s hs p hp
theorem bit_set {s p : Nat} (hs : s < 256) (hp : p < 8) : nI s ||| (1 <<< (nI p &&& 31)) = nI (s ||| 2 ^ p) ∧ s ||| 2 ^ p < 256 := by
  have h : ∀ s, s < 256 → ∀ p, p < 8 → nI s ||| (1 <<< (nI p &&& 31)) = nI (s ||| 2 ^ p) ∧ s ||| 2 ^ p < 256 := by decide +kernel
  exact h s hs p hp
/-- row, who is there, MINUTE, OFFERS, who goes, end, unasked -/
abbrev CR : Type := List Nat × Int32 × Nat × Nat × Int32 × Int32 × Bool
abbrev cr0 : CR := ([], 0, 0, 0, 0, 0, false)
abbrev PR : Type := Nat × Nat × Int32 × Int32
abbrev pr0 : PR := (0, 0, 0, 0)
/-- calls, passes, served, ends, the free minute, endless, plan used, who went -/
abbrev Sg : Type := List CR × List PR × Nat × (Nat → Int32) × Nat × Bool × Nat × List Nat
def g_cs (s : Sg) : List CR := s.1
def g_ps (s : Sg) : List PR := s.2.1
def g_sv (s : Sg) : Nat := s.2.2.1
def g_eo (s : Sg) : Nat → Int32 := s.2.2.2.1
def g_fr (s : Sg) : Nat := s.2.2.2.2.1
def g_el (s : Sg) : Bool := s.2.2.2.2.2.1
def g_u (s : Sg) : Nat := s.2.2.2.2.2.2.1
def g_gs (s : Sg) : List Nat := s.2.2.2.2.2.2.2
def g0 : Sg := ([], [], 0, fun _ => -1, 0, false, 0, [])
/-- how a DAY is to go: persons, facts, by minutes, numbers in force, must, worth; planner, plan, who turns, from when, to what; ways -/
abbrev Cf : Type := Nat × (Nat → Nat → Nat) × (Nat → Nat) × (Nat → Int32) × (Nat → Nat → Nat → Bool) × (Nat → Nat → Nat → Int32) × Option Nat × Int32 × Option Nat × Int32 × Nat × (Nat → Nat)
def c_n (c : Cf) : Nat := c.1
def c_F (c : Cf) : Nat → Nat → Nat := c.2.1
def c_by (c : Cf) : Nat → Nat := c.2.2.1
def c_nu (c : Cf) : Nat → Int32 := c.2.2.2.1
def c_mu (c : Cf) : Nat → Nat → Nat → Bool := c.2.2.2.2.1
def c_wo (c : Cf) : Nat → Nat → Nat → Int32 := c.2.2.2.2.2.1
def c_pl (c : Cf) : Option Nat := c.2.2.2.2.2.2.1
def c_pb (c : Cf) : Int32 := c.2.2.2.2.2.2.2.1
def c_tu (c : Cf) : Option Nat := c.2.2.2.2.2.2.2.2.1
def c_tc (c : Cf) : Int32 := c.2.2.2.2.2.2.2.2.2.1
def c_tw (c : Cf) : Nat := c.2.2.2.2.2.2.2.2.2.2.1
def c_wy (c : Cf) : Nat → Nat := c.2.2.2.2.2.2.2.2.2.2.2
def oN : Option Nat → Int32
  | none => -1
  | some k => nI k
/-- the facts as ints -/
def c_f (c : Cf) : Nat → Nat → Int32 := fun p w => nI (c_F c p w)
def okN (c : Cf) (mm sv p : Nat) : Bool := decide (sv.testBit p = false ∧ c_F c p 0 ≤ mm ∧ mm - c_F c p 0 ≤ c_F c p 4)
/-- who stands there at a MINUTE -/
def thN (c : Cf) (mm sv : Nat) : Nat → List Nat
  | 0 => []
  | i + 1 => if okN c mm sv (c_by c i) = true then thN c mm sv i ++ [c_by c i] else thN c mm sv i
def thBits (L : List Nat) : Int32 := L.foldl (fun b p => b ||| (1 <<< (nI p &&& 31))) 0
def nextN (c : Cf) (mm i : Nat) : Nat → Option Nat
  | 0 => none
  | k + 1 => if c_F c (c_by c i) 0 ≤ mm then nextN c mm (i + 1) k else some (c_F c (c_by c i) 0)
/-- a PERSON's WAY at the k-th CALL -/
def wyAt (c : Cf) (k p : Nat) : Nat := if c_tu c = some p ∧ c_tc c ≤ nI k then c_tw c else c_wy c p
def p_g (ps : List PR) (i : Nat) : Nat := (ps.getD i pr0).1
def p_t (ps : List PR) (i : Nat) : Nat := (ps.getD i pr0).2.1
def p_w (ps : List PR) (i : Nat) : Int32 := (ps.getD i pr0).2.2.1
def p_m (ps : List PR) (i : Nat) : Int32 := (ps.getD i pr0).2.2.2
def balL (ps : List PR) (mm : Nat) (lapse : Int32) (p : Nat) : Int32 := balS (p_g ps) (p_t ps) (p_w ps) (p_m ps) (nI mm) lapse p ps.length
/-- who is due, of the first i in the row -/
def dueX (bal : Nat → Int32) (due : Int32) (L : List Nat) : Nat → Option Nat
  | 0 => none
  | i + 1 => if bal (L.getD i 0) < due then dueX bal due L i else match dueX bal due L i with
    | none => some i
    | some b => if bal (L.getD i 0) ≤ bal (L.getD b 0) then some b else some i
def stopS (c : Cf) (L : List Nat) (mm r : Nat) : Bool := decide (L.length = 1 ∨ (¬ c_nu c 3 = -1 ∧ c_nu c 3 ≤ nI r) ∨ (¬ c_nu c 4 = -1 ∧ ¬ nI mm < c_nu c 4))
def wayOff (c : Cf) (k : Nat) (bal : Nat → Int32) (p q : Nat) : Bool :=
  if wyAt c k p = 1 then decide (((c_f c p 7 >>> (nI q &&& 31)) &&& 1) = 1) else if wyAt c k p = 2 then decide (bal p < c_f c p 6) else if wyAt c k p = 3 then decide (c_f c p 1 < c_f c q 1) else decide (wyAt c k p = 4)
def planOff (c : Cf) (u : Nat) : Bool := decide (u < 10 ∧ ((c_pb c >>> (nI u &&& 31)) &&& 1) = 1)
def offS (c : Cf) (k : Nat) (bal : Nat → Int32) (h p q u : Nat) : Bool × Nat :=
  if c_mu c p q h = true then (true, u) else if c_pl c = some p then (planOff c u, u + 1) else (wayOff c k bal p q, u)
def offT (c : Cf) (k : Nat) (bal : Nat → Int32) (L : List Nat) (mm t u : Nat) : Bool × Nat :=
  if stopS c L mm (t / L.length) = true then (false, u) else offS c k bal (mm / 60) (L.getD (t % L.length) 0) (L.getD ((t % L.length + 1) % L.length) 0) u
/-- handing along, from the t-th holder on -/
def handS (off : Nat → Nat → Bool × Nat) : Nat → Nat → Nat → Option Nat × Nat
  | 0, _, u => (none, u)
  | q + 1, t, u => if (off t u).1 = true then handS off q (t + 1) (off t u).2 else (some t, (off t u).2)
/-- so many holders at most: without times one round, else one round more than times -/
def fuelS (c : Cf) (L : List Nat) : Nat := if c_nu c 3 = -1 then L.length else ((c_nu c 3).toNatClampNeg + 1) * L.length
/-- the CALL is over: who goes has the g-th place -/
def endS (c : Cf) (s : Sg) (mm : Nat) (L : List Nat) (un : Bool) (off g u : Nat) : Sg :=
  let p := L.getD g 0
  let e := nI mm + c_nu c 6 * nI off + c_f c p 3
  (g_cs s ++ [(L, thBits L, mm, off, nI p, e, un)], g_ps s ++ (if un then [] else (L.take g).map (fun q => (q, p, c_wo c q p (mm / 60), nI mm))), g_sv s ||| 2 ^ p, fun q => if q = p then e else g_eo s q, mm + (c_nu c 6).toNatClampNeg * off + c_F c p 3, false, u, g_gs s ++ [p])
def calS (c : Cf) (s : Sg) (mm : Nat) (L : List Nat) : Sg :=
  match (if c_nu c 2 = -1 then none else dueX (balL (g_ps s) mm (c_nu c 7)) (c_nu c 2) L L.length) with
  | some g => endS c s mm L true 0 g (g_u s)
  | none => match handS (offT c (g_cs s).length (balL (g_ps s) mm (c_nu c 7)) L mm) (fuelS c L) 0 (g_u s) with
    | (some t, u) => endS c s mm L false t (t % L.length) u
    | (none, u) => (g_cs s ++ [(L, thBits L, mm, L.length, -1, -1, false)], g_ps s, g_sv s, g_eo s, mm, true, u, g_gs s)
/-- the minute of the next CALL -/
def minS (c : Cf) (s : Sg) : Option Nat :=
  if nI (g_fr s) < c_nu c 5 then (if thN c (g_fr s) (g_sv s) (c_n c) = [] then (match nextN c (g_fr s) 0 (c_n c) with
    | none => none
    | some m => if nI m < c_nu c 5 then some m else none) else some (g_fr s)) else none
def dayS (c : Cf) : Nat → Sg → Sg
  | 0, s => s
  | k + 1, s => if g_el s = true then s else match minS c s with
    | none => s
    | some mm => dayS c k (calS c s mm (thN c mm (g_sv s) (c_n c)))
/-- the numbers are such as a text can tell -/
def cfOK (c : Cf) : Prop := c_n c ≤ 8 ∧ (∀ i, i < c_n c → c_by c i < c_n c) ∧ (∀ i j, i < c_n c → j < c_n c → c_by c i = c_by c j → i = j) ∧
  (∀ p, p < c_n c → c_F c p 0 ≤ 999 ∧ c_F c p 1 ≤ 99 ∧ 1 ≤ c_F c p 3 ∧ c_F c p 3 ≤ 60 ∧ 1 ≤ c_F c p 4 ∧ c_F c p 4 ≤ 999 ∧ c_F c p 6 ≤ 99) ∧
  (∃ s, s ≤ 999 ∧ c_nu c 5 = nI s) ∧ (∃ b, b ≤ 9 ∧ c_nu c 6 = nI b) ∧ (c_nu c 3 = -1 ∨ ∃ t, 1 ≤ t ∧ t ≤ 9 ∧ c_nu c 3 = nI t) ∧
  (∀ p, c_pl c = some p → p < c_n c) ∧ (∀ p, c_tu c = some p → p < c_n c ∧ ¬ c_tc c < 0 ∧ c_tw c ≤ 4) ∧ (∀ p, p < c_n c → c_wy c p ≤ 4) ∧
  ∀ i j, i < j → j < c_n c → c_F c (c_by c i) 0 ≤ c_F c (c_by c j) 0
theorem okN_T {c : Cf} (hc : cfOK c) {mm sv p : Nat} (hp : p < c_n c) (hm : mm < 2000) (hs : sv < 256) : okT (c_f c) (nI mm) (nI sv) p ↔ okN c mm sv p = true := by
  obtain ⟨n8, -, -, hF, -⟩ := hc
  obtain ⟨f0, -, -, -, f4, f4', -⟩ := hF p hp
  unfold okN okT
  rw [bit_get hs (by omega), decide_eq_true_eq]
  have e1 : ((if sv.testBit p = true then (1 : Int32) else 0) = 0) ↔ sv.testBit p = false := by
    cases sv.testBit p <;> simp
  rw [e1]
  refine and_congr_right fun _ => ?_
  show (¬ nI mm - nI (c_F c p 0) < 0 ∧ ¬ nI (c_F c p 4) < nI mm - nI (c_F c p 0)) ↔ _
  by_cases h : c_F c p 0 ≤ mm
  · rw [nI_sub h, nI_ltI (by omega) (by omega)]
    have : ¬ nI (mm - c_F c p 0) < 0 := nI_pos (by omega)
    constructor
    · intro q; omega
    · intro q; exact ⟨this, by omega⟩
  · have : nI mm - nI (c_F c p 0) < 0 := nI_sub_neg (by omega) (by omega)
    constructor
    · intro q; exact absurd this q.1
    · intro q; exact absurd q.1 h
theorem th_eq {c : Cf} (hc : cfOK c) {mm sv : Nat} (hm : mm < 2000) (hs : sv < 256) : ∀ i, i ≤ c_n c → thL (c_f c) (c_by c) (nI mm) (nI sv) i = thN c mm sv i ∧ thB (c_f c) (c_by c) (nI mm) (nI sv) i = thBits (thN c mm sv i)
  | 0, _ => ⟨rfl, rfl⟩
  | i + 1, hi => by
    obtain ⟨a, b⟩ := th_eq hc hm hs i (by omega)
    have hb := hc.2.1 i (by omega)
    have e := okN_T hc hb hm hs
    unfold thL thB thN
    by_cases h : okN c mm sv (c_by c i) = true
    · rw [if_pos (e.mpr h), if_pos h, if_pos (e.mpr h), a, b]
      refine ⟨rfl, ?_⟩
      unfold thBits
      rw [List.foldl_append]
      rfl
    · rw [if_neg (fun q => h (e.mp q)), if_neg h, if_neg (fun q => h (e.mp q)), a, b]
      exact ⟨rfl, rfl⟩
theorem next_eq {c : Cf} (hc : cfOK c) {mm : Nat} (hm : mm < 2000) : ∀ k i, i + k ≤ c_n c → nextS (c_f c) (c_by c) (nI mm) i k = oN (nextN c mm i k)
  | 0, _, _ => rfl
  | k + 1, i, hi => by
    have hb := hc.2.1 i (by omega)
    have f0 := (hc.2.2.2.1 _ hb).1
    unfold nextS nextN
    have e : (c_f c (c_by c i) 0 ≤ nI mm) ↔ c_F c (c_by c i) 0 ≤ mm := nI_leI (by omega) (by omega)
    by_cases h : c_F c (c_by c i) 0 ≤ mm
    · rw [if_pos (e.mpr h), if_pos h]
      exact next_eq hc hm k (i + 1) (by omega)
    · rw [if_neg (fun q => h (e.mp q)), if_neg h]
      rfl
theorem next_le {c : Cf} (hc : cfOK c) {mm : Nat} : ∀ k i m, i + k ≤ c_n c → nextN c mm i k = some m → m ≤ 999 ∧ mm < m ∧ ∃ p, p < c_n c ∧ c_F c p 0 = m
  | 0, _, _, _, h => by cases h
  | k + 1, i, m, hi, h => by
    have hb := hc.2.1 i (by omega)
    have f0 := (hc.2.2.2.1 _ hb).1
    unfold nextN at h
    by_cases h1 : c_F c (c_by c i) 0 ≤ mm
    · rw [if_pos h1] at h
      exact next_le hc k (i + 1) m (by omega) h
    · rw [if_neg h1] at h
      cases h
      exact ⟨f0, by omega, _, hb, rfl⟩
theorem thN_mem {c : Cf} {mm sv : Nat} : ∀ i p, p ∈ thN c mm sv i ↔ (∃ j, j < i ∧ c_by c j = p) ∧ okN c mm sv p = true
  | 0, p => by simp [thN]
  | i + 1, p => by
    unfold thN
    have ih := thN_mem (c := c) (mm := mm) (sv := sv) i p
    by_cases h : okN c mm sv (c_by c i) = true
    · rw [if_pos h, List.mem_append, ih, List.mem_singleton]
      constructor
      · rintro (⟨⟨j, a, b⟩, q⟩ | q)
        · exact ⟨⟨j, by omega, b⟩, q⟩
        · exact ⟨⟨i, by omega, q.symm⟩, by rw [q]; exact h⟩
      · rintro ⟨⟨j, a, b⟩, q⟩
        by_cases e : j = i
        · subst e; exact Or.inr b.symm
        · exact Or.inl ⟨⟨j, by omega, b⟩, q⟩
    · rw [if_neg h, ih]
      constructor
      · rintro ⟨⟨j, a, b⟩, q⟩
        exact ⟨⟨j, by omega, b⟩, q⟩
      · rintro ⟨⟨j, a, b⟩, q⟩
        by_cases e : j = i
        · subst e; rw [← b] at q; exact absurd q h
        · exact ⟨⟨j, by omega, b⟩, q⟩
theorem thN_nodup {c : Cf} (hc : cfOK c) {mm sv : Nat} : ∀ i, i ≤ c_n c → (thN c mm sv i).Nodup
  | 0, _ => List.nodup_nil
  | i + 1, hi => by
    have ih := thN_nodup hc (mm := mm) (sv := sv) i (by omega)
    unfold thN
    by_cases h : okN c mm sv (c_by c i) = true
    · rw [if_pos h, List.nodup_append]
      refine ⟨ih, by simp, ?_⟩
      intro a ha b hb
      rw [List.mem_singleton] at hb
      obtain ⟨⟨j, h1, h2⟩, -⟩ := (thN_mem i a).mp ha
      intro e
      have := hc.2.2.1 j i (by omega) (by omega) (by rw [h2, e, hb])
      omega
    · rw [if_neg h]
      exact ih
theorem nodup_le : ∀ (m : Nat) (l : List Nat), l.Nodup → (∀ x ∈ l, x < m) → l.length ≤ m
  | 0, l, _, h => by
    cases l with
    | nil => exact Nat.le_refl _
    | cons a r => exact absurd (h a (List.mem_cons_self ..)) (Nat.not_lt_zero a)
  | m + 1, l, hn, h => by
    have h1 := nodup_le m (l.erase m) (hn.erase m) (fun x hx => by
      have := (hn.mem_erase_iff).mp hx
      have := h x this.2
      omega)
    have h2 := List.length_erase (a := m) (l := l)
    split at h2 <;> omega
