/-! ===== the best plan: only how many 1s stand below the first 0 tells plans apart ===== -/
theorem handS_plan {off off' : Nat → Nat → Bool × Nat} {L : List Nat} {p T : Nat} (hL : 1 ≤ L.length) (H1 : ∀ t u, L.getD (t % L.length) 0 = p → u ≤ T → off t u = off' t u ∧ ((off t u).1 = true → (off t u).2 ≤ T)) (H2 : ∀ t u, L.getD (t % L.length) 0 ≠ p → off t u = off' t u ∧ (off t u).2 = u) (fuel : Nat) :
    ∀ t u, (u ≤ T ∨ p ∉ L) → handS off fuel t u = handS off' fuel t u ∧ ((handS off fuel t u).2 ≤ T ∨ (p ∉ L ∧ (handS off fuel t u).2 = u) ∨ ∃ t', (handS off fuel t u).1 = some t' ∧ L.getD (t' % L.length) 0 = p) := by
  induction fuel with
  | zero => intro t u h; exact ⟨rfl, h.elim Or.inl (fun z => Or.inr (Or.inl ⟨z, rfl⟩))⟩
  | succ fuel ih =>
    intro t u h
    have hi : t % L.length < L.length := Nat.mod_lt _ (by omega)
    rw [handS_succ, handS_succ]
    by_cases hp : L.getD (t % L.length) 0 = p
    · have hu : u ≤ T := h.elim id (fun z => absurd (hp ▸ getD_mem hi) z)
      obtain ⟨e1, e2⟩ := H1 t u hp hu
      rw [← e1]
      by_cases q : (off t u).1 = true
      · rw [if_pos q, if_pos q]
        have := ih (t + 1) _ (Or.inl (e2 q))
        exact ⟨this.1, this.2.elim Or.inl (fun y => y.elim (fun z => absurd (hp ▸ getD_mem hi) z.1) (fun z => Or.inr (Or.inr z)))⟩
      · rw [if_neg q, if_neg q]
        exact ⟨rfl, Or.inr (Or.inr ⟨t, rfl, hp⟩)⟩
    · obtain ⟨e1, e2⟩ := H2 t u hp
      rw [← e1]
      by_cases q : (off t u).1 = true
      · rw [if_pos q, if_pos q, e2]
        exact ih (t + 1) u h
      · rw [if_neg q, if_neg q, e2]
        exact ⟨rfl, h.elim Or.inl (fun z => Or.inr (Or.inl ⟨z, rfl⟩))⟩
theorem offT_plan {c c' : Cf} {p T : Nat} (hpl : c_pl c = some p) (hpl' : c_pl c' = some p) (hst : ∀ L mm r, stopS c L mm r = stopS c' L mm r) (hmu : c_mu c = c_mu c') (hwy : ∀ k bal p q, wayOff c k bal p q = wayOff c' k bal p q) (hag : ∀ u, u ≤ T → planOff c u = planOff c' u) (hz : planOff c T = false) (k : Nat) (bal : Nat → Int32) (L : List Nat) (mm : Nat) :
    (∀ t u, L.getD (t % L.length) 0 = p → u ≤ T → offT c k bal L mm t u = offT c' k bal L mm t u ∧ ((offT c k bal L mm t u).1 = true → (offT c k bal L mm t u).2 ≤ T)) ∧ (∀ t u, L.getD (t % L.length) 0 ≠ p → offT c k bal L mm t u = offT c' k bal L mm t u ∧ (offT c k bal L mm t u).2 = u) := by
  refine ⟨fun t u hp hu => ?_, fun t u hp => ?_⟩
  · unfold offT offS
    rw [hp, hst, hmu, hpl, hpl', if_pos rfl, if_pos rfl, hag u hu]
    refine ⟨rfl, ?_⟩
    split
    · intro q; cases q
    · split
      · intro _; exact hu
      · intro q
        have : u ≠ T := fun e => by rw [e, ← hag T (Nat.le_refl _), hz] at q; cases q
        show u + 1 ≤ T
        omega
  · unfold offT offS
    rw [hst, hmu, hpl, hpl', if_neg (fun y => hp (Option.some.inj y).symm), if_neg (fun y => hp (Option.some.inj y).symm), hwy]
    refine ⟨rfl, ?_⟩
    split
    · rfl
    · split <;> rfl
theorem dayS_plan {n : Nat} {F : Nat → Nat → Nat} {b : Nat → Nat} {nu : Nat → Int32} {mu : Nat → Nat → Nat → Bool} {wo : Nat → Nat → Nat → Int32} {p : Nat} {pb pb' : Int32} {tu : Option Nat} {tc : Int32} {tw : Nat} {wy : Nat → Nat} {T : Nat} (hc : cfOK (n, F, b, nu, mu, wo, some p, pb, tu, tc, tw, wy))
    (hag : ∀ u, u ≤ T → planOff (n, F, b, nu, mu, wo, some p, pb, tu, tc, tw, wy) u = planOff (n, F, b, nu, mu, wo, some p, pb', tu, tc, tw, wy) u) (hz : planOff (n, F, b, nu, mu, wo, some p, pb, tu, tc, tw, wy) T = false) :
    ∀ j s, SOK (n, F, b, nu, mu, wo, some p, pb, tu, tc, tw, wy) s → (g_u s ≤ T ∨ p ∈ g_gs s ∨ g_el s = true) → dayS (n, F, b, nu, mu, wo, some p, pb, tu, tc, tw, wy) j s = dayS (n, F, b, nu, mu, wo, some p, pb', tu, tc, tw, wy) j s
  | 0, _, _, _ => rfl
  | j + 1, s, hS, hJ => by
    cases hel : g_el s with
    | true => rw [dayS_el _ j hel, dayS_el _ j hel]
    | false =>
      have hmin : minS (n, F, b, nu, mu, wo, some p, pb, tu, tc, tw, wy) s = minS (n, F, b, nu, mu, wo, some p, pb', tu, tc, tw, wy) s := by refine minS_cg ?_ ?_ ?_ ?_ s <;> intros <;> rfl
      cases hm : minS (n, F, b, nu, mu, wo, some p, pb, tu, tc, tw, wy) s with
      | none =>
        rw [dayS_none _ j hel hm]
        rw [hmin] at hm
        rw [dayS_none _ j hel hm]
      | some mm =>
        have hth : thN (n, F, b, nu, mu, wo, some p, pb', tu, tc, tw, wy) mm (g_sv s) n = thN (n, F, b, nu, mu, wo, some p, pb, tu, tc, tw, wy) mm (g_sv s) n := by refine thN_cg ?_ ?_ mm (g_sv s) n <;> intros <;> rfl
        have hcal := hS.cal hc hel hm
        obtain ⟨-, -, hL⟩ := hS.min hc hm
        have hLm := (hS.th hc mm).1
        rw [dayS_some _ j hel hm]
        rw [hmin] at hm
        rw [dayS_some _ j hel hm]
        show dayS _ j (calS _ s mm (thN (n, F, b, nu, mu, wo, some p, pb, tu, tc, tw, wy) mm (g_sv s) n)) = dayS _ j (calS _ s mm (thN (n, F, b, nu, mu, wo, some p, pb', tu, tc, tw, wy) mm (g_sv s) n))
        rw [hth]
        replace hL : LOK (n, F, b, nu, mu, wo, some p, pb, tu, tc, tw, wy) (thN (n, F, b, nu, mu, wo, some p, pb, tu, tc, tw, wy) mm (g_sv s) n) := hL
        replace hLm : ∀ q ∈ thN (n, F, b, nu, mu, wo, some p, pb, tu, tc, tw, wy) mm (g_sv s) n, _ := hLm
        replace hcal : SOK (n, F, b, nu, mu, wo, some p, pb, tu, tc, tw, wy) (calS (n, F, b, nu, mu, wo, some p, pb, tu, tc, tw, wy) s mm (thN (n, F, b, nu, mu, wo, some p, pb, tu, tc, tw, wy) mm (g_sv s) n)) := hcal
        generalize thN (n, F, b, nu, mu, wo, some p, pb, tu, tc, tw, wy) mm (g_sv s) n = L at *
        have hJ' : g_u s ≤ T ∨ p ∉ L := hJ.elim Or.inl (fun z => z.elim (fun z => Or.inr (fun y => (hLm p y).1 z)) (fun z => by rw [hel] at z; cases z))
        have ho := offT_plan (c := (n, F, b, nu, mu, wo, some p, pb, tu, tc, tw, wy)) (c' := (n, F, b, nu, mu, wo, some p, pb', tu, tc, tw, wy)) rfl rfl (fun _ _ _ => rfl) rfl (fun _ _ _ _ => rfl) hag hz (g_cs s).length (balL (g_ps s) mm (nu 7)) L mm
        have hh := handS_plan hL.1 ho.1 ho.2 (fuelS (n, F, b, nu, mu, wo, some p, pb, tu, tc, tw, wy) L) 0 (g_u s) hJ'
        cases hdo : dueO (n, F, b, nu, mu, wo, some p, pb, tu, tc, tw, wy) s mm L with
        | some g =>
          have hdo' : dueO (n, F, b, nu, mu, wo, some p, pb', tu, tc, tw, wy) s mm L = some g := hdo
          rw [calS_due hdo] at hcal ⊢
          rw [calS_due hdo']
          refine dayS_plan hc hag hz j _ hcal ?_
          rcases hJ with z | z | z
          · exact Or.inl z
          · exact Or.inr (Or.inl (List.mem_append.mpr (Or.inl z)))
          · rw [hel] at z; cases z
        | none =>
          have hdo' : dueO (n, F, b, nu, mu, wo, some p, pb', tu, tc, tw, wy) s mm L = none := hdo
          have e1 : handO (n, F, b, nu, mu, wo, some p, pb, tu, tc, tw, wy) s mm L = handO (n, F, b, nu, mu, wo, some p, pb', tu, tc, tw, wy) s mm L := hh.1
          have e2 : (handO (n, F, b, nu, mu, wo, some p, pb, tu, tc, tw, wy) s mm L).2 ≤ T ∨ (p ∉ L ∧ (handO (n, F, b, nu, mu, wo, some p, pb, tu, tc, tw, wy) s mm L).2 = g_u s) ∨ ∃ t', (handO (n, F, b, nu, mu, wo, some p, pb, tu, tc, tw, wy) s mm L).1 = some t' ∧ L.getD (t' % L.length) 0 = p := hh.2
          cases hho : handO (n, F, b, nu, mu, wo, some p, pb, tu, tc, tw, wy) s mm L with
          | mk o u =>
          have hho' := e1.symm.trans hho
          rw [hho] at e2
          cases o with
          | none =>
            rw [calS_el hdo hho] at hcal ⊢
            rw [calS_el hdo' hho']
            exact dayS_plan hc hag hz j _ hcal (Or.inr (Or.inr rfl))
          | some t =>
            rw [calS_go hdo hho] at hcal ⊢
            rw [calS_go hdo' hho']
            refine dayS_plan hc hag hz j _ hcal ?_
            rcases e2 with z | ⟨z1, z2⟩ | ⟨t', z1, z2⟩
            · exact Or.inl z
            · rcases hJ with y | y | y
              · exact Or.inl (by show u ≤ T; rw [show u = g_u s from z2]; exact y)
              · exact Or.inr (Or.inl (List.mem_append.mpr (Or.inl y)))
              · rw [hel] at y; cases y
            · cases z1
              exact Or.inr (Or.inl (List.mem_append.mpr (Or.inr (by rw [z2]; exact List.mem_singleton.mpr rfl))))
/-- how many 1s stand below the first 0 -/
def t1N : Nat → Nat → Nat
  | 0, _ => 0
  | k + 1, b => if b % 2 = 1 then t1N k (b / 2) + 1 else 0
theorem t1_sp {b : Nat} (hb : b < 1024) : t1N 10 b ≤ 10 ∧ 2 ^ t1N 10 b - 1 ≤ b ∧ (∀ u, u < 10 → u ≤ t1N 10 b → b.testBit u = (2 ^ t1N 10 b - 1).testBit u) ∧ (t1N 10 b < 10 → b.testBit (t1N 10 b) = false) := by
  have h : ∀ b, b < 1024 → t1N 10 b ≤ 10 ∧ 2 ^ t1N 10 b - 1 ≤ b ∧ (∀ u, u < 10 → u ≤ t1N 10 b → b.testBit u = (2 ^ t1N 10 b - 1).testBit u) ∧ (t1N 10 b < 10 → b.testBit (t1N 10 b) = false) := by decide +kernel
  exact h b hb
theorem planV_t1 {w : Wd} (hw : WOK w) {p : Nat} (hp : p < w_n w) {b : Nat} (hb : b < 1024) : planV w p (nI b) = planV w p (nI (2 ^ t1N 10 b - 1)) := by
  obtain ⟨h1, h2, h3, h4⟩ := t1_sp hb
  have hpb : ∀ (v u : Nat), v < 1024 → planOff (cW w 0 (some p) (nI v) none 0 0 (fun q => w_F w q 5)) u = decide (u < 10 ∧ v.testBit u = true) := fun v u hv => by
    unfold planOff
    show decide (u < 10 ∧ ((nI v >>> (nI u &&& 31)) &&& 1) = 1) = _
    by_cases q : u < 10
    · rw [bit_get10 hv q]
      cases v.testBit u <;> simp
    · rw [decide_eq_false (fun z => q z.1), decide_eq_false (fun z => q z.1)]
  have hb2 : 2 ^ t1N 10 b - 1 < 1024 := by omega
  unfold planV dyW
  rw [show dayS (cW w 0 (some p) (nI b) none 0 0 (fun q => w_F w q 5)) 8 g0 = dayS (cW w 0 (some p) (nI (2 ^ t1N 10 b - 1)) none 0 0 (fun q => w_F w q 5)) 8 g0 from dayS_plan (T := t1N 10 b) (cW_ok hw (fun q e => by cases e; exact hp) (fun p q => by cases q) (fun q hq => (hw.2.1 q hq).2.2.2.2.2.1)).1 (fun u hu => by
    refine (hpb b u hb).trans (Eq.trans ?_ (hpb _ u hb2).symm)
    by_cases q : u < 10
    · rw [h3 u q hu]
    · rw [decide_eq_false (fun z => q z.1), decide_eq_false (fun z => q z.1)]) ((hpb b _ hb).trans (decide_eq_false (fun z => by rw [h4 z.1] at z; exact absurd z.2 (by decide)))) 8 g0 (SOK.zero _) (Or.inl (Nat.zero_le _))]
/-- the first of the least -/
def bstN (v : Nat → Nat) : Nat → Nat
  | 0 => 0
  | k + 1 => if v (k + 1) < v (bstN v k) then k + 1 else bstN v k
theorem bstN_sp (v : Nat → Nat) : ∀ k, bstN v k ≤ k ∧ (∀ j, j < bstN v k → v (bstN v k) < v j) ∧ ∀ j, j ≤ k → v (bstN v k) ≤ v j
  | 0 => ⟨Nat.le_refl _, fun j h => absurd h (Nat.not_lt_zero j), fun j h => by rw [show j = 0 by omega]; exact Nat.le_refl _⟩
  | k + 1 => by
    obtain ⟨h1, h2, h3⟩ := bstN_sp v k
    unfold bstN
    by_cases q : v (k + 1) < v (bstN v k)
    · rw [if_pos q]
      refine ⟨Nat.le_refl _, fun j hj => ?_, fun j hj => ?_⟩
      · have := h3 j (by omega); omega
      · by_cases z : j = k + 1
        · rw [z]; exact Nat.le_refl _
        · have := h3 j (by omega); omega
    · rw [if_neg q]
      refine ⟨by omega, h2, fun j hj => ?_⟩
      by_cases z : j = k + 1
      · rw [z]; omega
      · exact h3 j (by omega)
theorem bstN_t1 (v : Nat → Nat) (hv : ∀ b, b < 1024 → v b = v (2 ^ t1N 10 b - 1)) : bstN v 1023 = 2 ^ bstN (fun t => v (2 ^ t - 1)) 10 - 1 := by
  obtain ⟨a1, a2, a3⟩ := bstN_sp v 1023
  obtain ⟨b1, b2, b3⟩ := bstN_sp (fun t => v (2 ^ t - 1)) 10
  generalize bstN v 1023 = m at *
  generalize bstN (fun t => v (2 ^ t - 1)) 10 = t at *
  obtain ⟨c1, c2, -, -⟩ := t1_sp (b := m) (by omega)
  have em : m = 2 ^ t1N 10 m - 1 := by
    have := hv m (by omega)
    by_cases z : 2 ^ t1N 10 m - 1 < m
    · have := a2 _ z; omega
    · omega
  generalize t1N 10 m = s at *
  have hpow : ∀ a c : Nat, a < c → 2 ^ a - 1 < 2 ^ c - 1 := fun a c h => by
    have := Nat.pow_lt_pow_right (a := 2) (by omega) h
    have : 0 < 2 ^ a := Nat.two_pow_pos a
    omega
  have h10 : ∀ a : Nat, a ≤ 10 → 2 ^ a - 1 ≤ 1023 := fun a h => by
    have := Nat.pow_le_pow_right (n := 2) (by omega) h
    omega
  rw [em]
  rcases Nat.lt_trichotomy s t with q | q | q
  · have h1 := b2 s q
    have h2 := a3 (2 ^ t - 1) (h10 t b1)
    rw [em] at h2
    omega
  · rw [q]
  · have h1 := a2 (2 ^ t - 1) (by rw [em]; exact hpow t s q)
    have h2 := b3 s c1
    rw [em] at h1
    omega
