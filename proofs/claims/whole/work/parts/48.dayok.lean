/-! ===== what holds all through a DAY ===== -/
def tri : Nat → Nat
  | 0 => 0
  | m + 1 => tri m + m
def SOK (c : Cf) (s : Sg) : Prop := (g_gs s).Nodup ∧ (∀ p ∈ g_gs s, p < c_n c ∧ c_F c p 0 ≤ g_fr s) ∧ (g_cs s).length = (g_gs s).length + (if g_el s = true then 1 else 0) ∧ g_sv s < 256 ∧
  (∀ p, p < 8 → ((g_sv s).testBit p = true ↔ p ∈ g_gs s)) ∧ (g_ps s).length + tri (8 - (g_gs s).length) ≤ 28 ∧ (∀ x ∈ g_ps s, x.1 < c_n c ∧ x.2.1 < c_n c ∧ x.1 ≠ x.2.1) ∧ g_fr s < 2000 ∧ g_u s ≤ 100 * (g_cs s).length ∧
  (∀ p, p < 8 → (g_eo s p = -1 ↔ p ∉ g_gs s)) ∧ (g_cs s).length ≤ 8 ∧ ∀ r ∈ g_cs s, r.2.2.2.1 ≤ 80 ∧ r.1.length ≤ 8
theorem SOK.zero (c : Cf) : SOK c g0 :=
  ⟨List.nodup_nil, (fun p h => by cases h), rfl, by decide, fun p _ => by simp [g_sv, g_gs, g0], by decide, (fun p h => by cases h), by decide, Nat.le_refl _, fun p _ => by simp [g_eo, g_gs, g0], by decide, (fun p h => by cases h)⟩
theorem getD_mem {L : List Nat} {j : Nat} (h : j < L.length) : L.getD j 0 ∈ L := by
  rw [List.getD_eq_getElem?_getD, List.getElem?_eq_getElem h]
  exact List.getElem_mem h
theorem SOK.th {c : Cf} {s : Sg} (h : SOK c s) (hc : cfOK c) (mm : Nat) : (∀ p ∈ thN c mm (g_sv s) (c_n c), p ∉ g_gs s ∧ p < c_n c ∧ c_F c p 0 ≤ mm) ∧ (g_gs s ++ thN c mm (g_sv s) (c_n c)).Nodup ∧ (g_gs s).length + (thN c mm (g_sv s) (c_n c)).length ≤ 8 := by
  have n8 := hc.1
  obtain ⟨h1, h2, h3, h4, h5, -⟩ := h
  have hm : ∀ p ∈ thN c mm (g_sv s) (c_n c), p ∉ g_gs s ∧ p < c_n c ∧ c_F c p 0 ≤ mm := fun p hp => by
    obtain ⟨⟨j, j1, j2⟩, j3⟩ := (thN_mem _ p).mp hp
    have hpn := hc.2.1 j j1
    rw [j2] at hpn
    unfold okN at j3
    rw [decide_eq_true_eq] at j3
    refine ⟨fun q => ?_, hpn, j3.2.1⟩
    have := (h5 p (by omega)).mpr q
    rw [j3.1] at this
    cases this
  have hn : (g_gs s ++ thN c mm (g_sv s) (c_n c)).Nodup := by
    rw [List.nodup_append]
    exact ⟨h1, thN_nodup hc _ (Nat.le_refl _), fun a ha b hb e => (hm b hb).1 (e ▸ ha)⟩
  refine ⟨hm, hn, ?_⟩
  rw [← List.length_append]
  refine nodup_le 8 _ hn (fun x hx => ?_)
  rcases List.mem_append.mp hx with q | q
  · have := (h2 x q).1; omega
  · have := (hm x q).2.1; omega
theorem SOK.lok {c : Cf} {s : Sg} (h : SOK c s) (hc : cfOK c) (mm : Nat) (hne : thN c mm (g_sv s) (c_n c) ≠ []) : LOK c (thN c mm (g_sv s) (c_n c)) := by
  obtain ⟨a1, a2, a3⟩ := h.th hc mm
  refine ⟨List.length_pos_iff.mpr hne, by omega, fun j hj => (a1 _ (getD_mem hj)).2.1, thN_nodup hc _ (Nat.le_refl _)⟩
theorem next_by {c : Cf} {mm : Nat} : ∀ k i m, nextN c mm i k = some m → mm < m ∧ ∃ j, j < i + k ∧ c_F c (c_by c j) 0 = m
  | 0, _, _, h => by cases h
  | k + 1, i, m, h => by
    unfold nextN at h
    by_cases h1 : c_F c (c_by c i) 0 ≤ mm
    · rw [if_pos h1] at h
      obtain ⟨a, j, b, e⟩ := next_by k (i + 1) m h
      exact ⟨a, j, by omega, e⟩
    · rw [if_neg h1] at h
      cases h
      exact ⟨by omega, i, by omega, rfl⟩
theorem SOK.min {c : Cf} {s : Sg} (h : SOK c s) (hc : cfOK c) {mm : Nat} (hm : minS c s = some mm) : g_fr s ≤ mm ∧ mm < 999 ∧ LOK c (thN c mm (g_sv s) (c_n c)) := by
  obtain ⟨sh, s1, s2⟩ := hc.2.2.2.2.1
  have hfr := h.2.2.2.2.2.2.2.1
  unfold minS at hm
  rw [s2] at hm
  by_cases q1 : nI (g_fr s) < nI sh
  · rw [if_pos q1] at hm
    have q1' := (nI_ltI (by omega) (by omega)).mp q1
    by_cases q2 : thN c (g_fr s) (g_sv s) (c_n c) = []
    · rw [if_pos q2] at hm
      cases q3 : nextN c (g_fr s) 0 (c_n c) with
      | none => rw [q3] at hm; cases hm
      | some m =>
        rw [q3] at hm
        obtain ⟨a1, a2, -⟩ := next_le hc _ _ _ (by omega) q3
        obtain ⟨b1, j, b2, b3⟩ := next_by _ _ _ q3
        by_cases q4 : nI m < nI sh
        · simp only [if_pos q4] at hm
          cases hm
          have q4' := (nI_ltI (by omega) (by omega)).mp q4
          refine ⟨by omega, by omega, h.lok hc _ (fun e => ?_)⟩
          have hjn : c_by c j < c_n c := hc.2.1 j (by omega)
          have n8 := hc.1
          have hmem : c_by c j ∈ thN c mm (g_sv s) (c_n c) := by
            refine (thN_mem _ _).mpr ⟨⟨j, by omega, rfl⟩, ?_⟩
            unfold okN
            rw [decide_eq_true_eq]
            refine ⟨?_, by omega, by omega⟩
            cases ht : (g_sv s).testBit (c_by c j) with
            | false => rfl
            | true =>
              have := (h.2.1 _ ((h.2.2.2.2.1 _ (by omega)).mp ht)).2
              omega
          rw [e] at hmem
          cases hmem
        · simp only [if_neg q4] at hm
          cases hm
    · rw [if_neg q2] at hm
      cases hm
      exact ⟨Nat.le_refl _, by omega, h.lok hc _ q2⟩
  · rw [if_neg q1] at hm
    cases hm
theorem bow_eq {c : Cf} (hc : cfOK c) (mm off p : Nat) : nI mm + c_nu c 6 * nI off + c_f c p 3 = nI (mm + (c_nu c 6).toNatClampNeg * off + c_F c p 3) := by
  obtain ⟨b, b1, b2⟩ := hc.2.2.2.2.2.1
  rw [b2, nI_clamp (by omega), pk_mul, nI_add]
  show _ + nI (c_F c p 3) = _
  rw [nI_add]
theorem SOK.fin {c : Cf} {s : Sg} (h : SOK c s) (hc : cfOK c) (hel : g_el s = false) {mm : Nat} (hfr : g_fr s ≤ mm) (hmm : mm < 999) {L : List Nat} (hL : LOK c L) (hLm : ∀ p ∈ L, p ∉ g_gs s ∧ p < c_n c ∧ c_F c p 0 ≤ mm) (hlen : (g_gs s).length + L.length ≤ 8) (un : Bool) (off g u : Nat) (hg : g < L.length) (hoff : off ≤ 80) (hu : u ≤ g_u s + 100) : SOK c (endS c s mm L un off g u) := by
  have n8 := hc.1
  obtain ⟨l1, l8, lp, ln⟩ := hL
  obtain ⟨h1, h2, h3, h4, h5, h6, h7, h8, h9, h10, h11, h12⟩ := h
  rw [if_neg (by rw [hel]; decide), Nat.add_zero] at h3
  have hpm := getD_mem hg
  generalize hp : L.getD g 0 = p at hpm
  obtain ⟨p1, p2, p3⟩ := hLm p hpm
  obtain ⟨b, b1, b2⟩ := hc.2.2.2.2.2.1
  have hF := hc.2.2.2.1 p p2
  have hb : b * off ≤ 720 := Nat.le_trans (Nat.mul_le_mul b1 hoff) (by omega)
  have ebow : (c_nu c 6).toNatClampNeg = b := by rw [b2, nI_clamp (by omega)]
  have hset := bit_set (s := g_sv s) (p := p) h4 (by omega)
  have e1 : g_gs (endS c s mm L un off g u) = g_gs s ++ [p] := by rw [← hp]; rfl
  have e2 : g_cs (endS c s mm L un off g u) = g_cs s ++ [(L, thBits L, mm, off, nI p, nI mm + c_nu c 6 * nI off + c_f c p 3, un)] := by rw [← hp]; rfl
  have e3 : g_ps (endS c s mm L un off g u) = g_ps s ++ (if un then [] else (L.take g).map (fun q => (q, p, c_wo c q p (mm / 60), nI mm))) := by rw [← hp]; rfl
  have e4 : g_sv (endS c s mm L un off g u) = g_sv s ||| 2 ^ p := by rw [← hp]; rfl
  have e5 : g_fr (endS c s mm L un off g u) = mm + b * off + c_F c p 3 := by rw [← hp, ← ebow]; rfl
  have e6 : g_eo (endS c s mm L un off g u) = fun q => if q = p then nI mm + c_nu c 6 * nI off + c_f c p 3 else g_eo s q := by rw [← hp]; rfl
  have htake : ∀ q ∈ L.take g, q ∈ L ∧ q ≠ p := fun q hq => by
    refine ⟨List.mem_of_mem_take hq, fun e => ?_⟩
    obtain ⟨i, hi, hqi⟩ := List.mem_iff_getElem.mp hq
    rw [List.length_take] at hi
    rw [List.getElem_take] at hqi
    have hpg : L[g] = p := by
      rw [← hp, List.getD_eq_getElem?_getD, List.getElem?_eq_getElem hg]
      rfl
    exact (List.pairwise_iff_getElem.mp ln) i g (by omega) hg (by omega) (hqi.trans (e.trans hpg.symm))
  have hel' : g_el (endS c s mm L un off g u) = false := rfl
  unfold SOK
  rw [e1, e2, e3, e4, e5, e6, hel']
  refine ⟨?_, ?_, ?_, hset.2, ?_, ?_, ?_, by omega, ?_, ?_, ?_, ?_⟩
  · rw [List.nodup_append]
    exact ⟨h1, by simp, fun a ha x hx e => by rw [List.mem_singleton] at hx; rw [e, hx] at ha; exact p1 ha⟩
  · intro q hq
    rcases List.mem_append.mp hq with z | z
    · have := h2 q z
      omega
    · rw [List.mem_singleton] at z
      rw [z]
      omega
  · simp [h3]
  · intro q hq
    rw [Nat.testBit_or, Nat.testBit_two_pow, Bool.or_eq_true, decide_eq_true_eq, h5 q hq, List.mem_append, List.mem_singleton]
    exact or_congr_right ⟨Eq.symm, Eq.symm⟩
  · rw [List.length_append, List.length_append]
    have hl : (if un = true then ([] : List PR) else (L.take g).map (fun q => (q, p, c_wo c q p (mm / 60), nI mm))).length ≤ g := by
      split
      · exact Nat.zero_le _
      · rw [List.length_map, List.length_take]; omega
    have ht : tri (8 - (g_gs s).length) = tri (8 - ((g_gs s).length + 1)) + (7 - (g_gs s).length) := by
      rw [show 8 - (g_gs s).length = (8 - ((g_gs s).length + 1)) + 1 by omega]
      show tri _ + _ = _
      omega
    show _ + _ + tri (8 - ((g_gs s).length + 1)) ≤ 28
    omega
  · intro x hx
    rcases List.mem_append.mp hx with z | z
    · exact h7 x z
    · split at z
      · cases z
      · obtain ⟨q, q1, q2⟩ := List.mem_map.mp z
        obtain ⟨r1, r2⟩ := htake q q1
        rw [← q2]
        exact ⟨(hLm q r1).2.1, p2, r2⟩
  · rw [List.length_append]
    show u ≤ 100 * (_ + 1)
    omega
  · intro q hq
    show (if q = p then _ else _) = _ ↔ _
    rw [List.mem_append, List.mem_singleton]
    by_cases z : q = p
    · rw [if_pos z, bow_eq hc, ebow]
      constructor
      · intro y; exact absurd y (nI_neg (by omega))
      · intro y; exact absurd (Or.inr z) y
    · rw [if_neg z, h10 q hq]
      constructor
      · intro y y2; exact y2.elim y z
      · intro y y2; exact y (Or.inl y2)
  · rw [List.length_append]
    show _ + 1 ≤ 8
    omega
  · intro r hr
    rcases List.mem_append.mp hr with z | z
    · exact h12 r z
    · rw [List.mem_singleton] at z
      rw [z]
      exact ⟨hoff, l8⟩
theorem fuel_le {c : Cf} (hc : cfOK c) {L : List Nat} (hL : L.length ≤ 8) : fuelS c L ≤ 80 := by
  unfold fuelS
  rcases hc.2.2.2.2.2.2.1 with q | ⟨t, t1, t2, t3⟩
  · rw [if_pos q]; omega
  · rw [if_neg (by rw [t3]; exact nI_neg (by omega)), t3, nI_clamp (by omega)]
    exact Nat.mul_le_mul (show t + 1 ≤ 10 by omega) hL
theorem SOK.cal {c : Cf} {s : Sg} (h : SOK c s) (hc : cfOK c) (hel : g_el s = false) {mm : Nat} (hm : minS c s = some mm) : SOK c (calS c s mm (thN c mm (g_sv s) (c_n c))) := by
  obtain ⟨a1, a2, a3⟩ := h.min hc hm
  obtain ⟨b1, b2, b3⟩ := h.th hc mm
  generalize hL : thN c mm (g_sv s) (c_n c) = L at *
  unfold calS
  cases hq : (if c_nu c 2 = -1 then none else dueX (balL (g_ps s) mm (c_nu c 7)) (c_nu c 2) L L.length) with
  | some g =>
    have hg : g < L.length := by
      split at hq
      · cases hq
      · exact dueX_lt _ _ hq
    exact h.fin hc hel a1 a2 a3 b1 b3 true 0 g _ hg (by omega) (by omega)
  | none =>
    have hf := fuel_le hc a3.2.1
    have hu := handS_u (offT c (g_cs s).length (balL (g_ps s) mm (c_nu c 7)) L mm) (offT_u c _ _ L mm) (fuelS c L) 0 (g_u s)
    cases hr : handS (offT c (g_cs s).length (balL (g_ps s) mm (c_nu c 7)) L mm) (fuelS c L) 0 (g_u s) with
    | mk o u =>
      rw [hr] at hu
      have hu' : u ≤ g_u s + fuelS c L := hu
      cases o with
      | some t =>
        have := handS_t _ _ _ _ _ _ hr
        exact h.fin hc hel a1 a2 a3 b1 b3 false t _ u (Nat.mod_lt _ a3.1) (by omega) (by omega)
      | none =>
        obtain ⟨h1, h2, h3, h4, h5, h6, h7, h8, h9, h10, h11, h12⟩ := h
        rw [if_neg (by rw [hel]; decide), Nat.add_zero] at h3
        have l1 := a3.1
        refine ⟨h1, fun p hp => ⟨(h2 p hp).1, Nat.le_trans (h2 p hp).2 a1⟩, ?_, h4, h5, h6, h7, ?_, ?_, h10, ?_, ?_⟩
        · show (g_cs s ++ [_]).length = _
          rw [List.length_append, h3]
          rfl
        · show mm < 2000
          omega
        · show u ≤ 100 * (g_cs s ++ [_]).length
          rw [List.length_append]
          show u ≤ 100 * (_ + 1)
          omega
        · show (g_cs s ++ [_]).length ≤ 8
          rw [List.length_append]
          show _ + 1 ≤ 8
          omega
        · intro r hr2
          rcases List.mem_append.mp hr2 with z | z
          · exact h12 r z
          · rw [List.mem_singleton] at z
            rw [z]
            have := a3.2.1
            exact ⟨by show L.length ≤ 80; omega, a3.2.1⟩
