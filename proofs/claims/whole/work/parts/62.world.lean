/-! ===== the world: what class and reference both stand for ===== -/
/-- ways, untils, SERVED ROW, its size -/
abbrev Imz : Type := (Nat → Nat) × (Nat → Nat) × (Nat → Int32) × Nat
/-- persons, facts, by minutes, RULES, tape's size, tape, fault's place, SERVED ROW, its size, images, each image -/
abbrev Wd : Type := Nat × (Nat → Nat → Nat) × (Nat → Nat) × List RU × Nat × (Nat → Nat) × Int32 × (Nat → Int32) × Nat × Nat × (Nat → Imz)
def w_n (w : Wd) : Nat := w.1
def w_F (w : Wd) : Nat → Nat → Nat := w.2.1
def w_by (w : Wd) : Nat → Nat := w.2.2.1
def w_R (w : Wd) : List RU := w.2.2.2.1
def w_T (w : Wd) : Nat := w.2.2.2.2.1
def w_tp (w : Wd) : Nat → Nat := w.2.2.2.2.2.1
def w_fp (w : Wd) : Int32 := w.2.2.2.2.2.2.1
def w_sr (w : Wd) : Nat → Int32 := w.2.2.2.2.2.2.2.1
def w_ss (w : Wd) : Nat := w.2.2.2.2.2.2.2.2.1
def w_ic (w : Wd) : Nat := w.2.2.2.2.2.2.2.2.2.1
def w_im (w : Wd) : Nat → Imz := w.2.2.2.2.2.2.2.2.2.2
def w_f (w : Wd) : Nat → Nat → Int32 := fun p k => nI (w_F w p k)
def w_nu (w : Wd) (out : Nat) : Nat → Int32 := nuS (w_R w) out (w_R w).length
def FAok (F : Nat → Nat → Nat) (p : Nat) : Prop := F p 0 ≤ 999 ∧ F p 1 ≤ 99 ∧ F p 2 ≤ 9 ∧ (1 ≤ F p 3 ∧ F p 3 ≤ 60) ∧ (1 ≤ F p 4 ∧ F p 4 ≤ 999) ∧ F p 5 ≤ 4 ∧ F p 6 ≤ 99 ∧ F p 7 < 256
def BYok (n : Nat) (F : Nat → Nat → Nat) (b : Nat → Nat) : Prop := (∀ i, i < n → b i < n) ∧ (∀ p, p < n → ∃ j, j < n ∧ b j = p) ∧ ∀ i j, i < j → j < n → F (b i) 0 < F (b j) 0 ∨ (F (b i) 0 = F (b j) 0 ∧ b i < b j)
def IMok (n : Nat) (m : Imz) : Prop := (∀ p, p < n → m.1 p ≤ 4 ∧ m.2.1 p ≤ 99) ∧ m.2.2.2 ≤ 8
def WOK (w : Wd) : Prop := w_n w ≤ 8 ∧ (∀ p, p < w_n w → FAok (w_F w) p) ∧ BYok (w_n w) (w_F w) (w_by w) ∧ (w_R w).length ≤ 10 ∧ (∀ r ∈ w_R w, RUok r) ∧ w_T w ≤ 500 ∧ (∀ i, i < 500 → w_tp w i < 256) ∧ w_ss w ≤ 8 ∧ w_ic w ≤ 3 ∧ ∀ i, i < w_ic w → IMok (w_n w) (w_im w i)
/-- how a DAY goes there: RULES left out; planner, plan; who turns, when, to what; ways -/
def cW (w : Wd) (out : Nat) (pl : Option Nat) (pb : Int32) (tu : Option Nat) (tc : Int32) (tw : Nat) (wy : Nat → Nat) : Cf := (w_n w, w_F w, w_by w, w_nu w out, mustF (w_R w) (w_nu w out) (w_f w), worthF (w_R w) (w_nu w out) (w_f w), pl, pb, tu, tc, tw, wy)
theorem nuS_kind {R : List RU} {out k : Nat} (hk : k < 8) : ∀ i, i ≤ R.length → nuS R out i k = nuS R out 0 k ∨ ∃ r, r ∈ R ∧ r.1 = k ∧ nuS R out i k = nI r.2.1
  | 0, _ => Or.inl rfl
  | i + 1, hi => by
    have ih := nuS_kind (R := R) (out := out) hk i (by omega)
    show (if out.testBit i = true then nuS R out i k else if (R.getD i ru0).1 = k then (if k = 8 ∨ k = 9 then nI i else nI (R.getD i ru0).2.1) else nuS R out i k) = _ ∨ ∃ r, r ∈ R ∧ r.1 = k ∧ (if out.testBit i = true then nuS R out i k else if (R.getD i ru0).1 = k then (if k = 8 ∨ k = 9 then nI i else nI (R.getD i ru0).2.1) else nuS R out i k) = nI r.2.1
    by_cases q1 : out.testBit i = true
    · rw [if_pos q1]; exact ih
    · rw [if_neg q1]
      by_cases q2 : (R.getD i ru0).1 = k
      · rw [if_pos q2, if_neg (by omega)]
        refine Or.inr ⟨R.getD i ru0, ?_, q2, rfl⟩
        rw [List.getD_eq_getElem?_getD, List.getElem?_eq_getElem (show i < R.length by omega)]
        exact List.getElem_mem _
      · rw [if_neg q2]; exact ih
theorem cW_ok {w : Wd} (hw : WOK w) {out : Nat} {pl : Option Nat} {pb : Int32} {tu : Option Nat} {tc : Int32} {tw : Nat} {wy : Nat → Nat} (h1 : ∀ p, pl = some p → p < w_n w) (h2 : ∀ p, tu = some p → p < w_n w ∧ ¬ tc < 0 ∧ tw ≤ 4) (h3 : ∀ p, p < w_n w → wy p ≤ 4) : cfOK (cW w out pl pb tu tc tw wy) ∧ cfST (cW w out pl pb tu tc tw wy) := by
  obtain ⟨n8, hF, ⟨b1, b2, b3⟩, hR, hRok, -⟩ := hw
  have inj : ∀ i j, i < w_n w → j < w_n w → w_by w i = w_by w j → i = j := fun i j hi hj e => by
    rcases Nat.lt_trichotomy i j with q | q | q
    · have := b3 i j q hj; rw [e] at this; omega
    · exact q
    · have := b3 j i q hi; rw [e] at this; omega
  refine ⟨⟨n8, b1, inj, fun p hp => ?_, ?_, ?_, ?_, h1, h2, h3, fun i j hij hj => ?_⟩, b2, b3⟩
  · obtain ⟨f0, f1, f2, f3, f4, f5, f6, f7⟩ := hF p hp
    exact ⟨f0, f1, f3.1, f3.2, f4.1, f4.2, f6⟩
  · rcases nuS_kind (R := w_R w) (out := out) (k := 5) (by omega) _ (Nat.le_refl _) with q | ⟨r, r1, r2, r3⟩
    · exact ⟨999, by omega, q⟩
    · exact ⟨r.2.1, (hRok r r1).2.2.1.2.2.2.2, r3⟩
  · rcases nuS_kind (R := w_R w) (out := out) (k := 6) (by omega) _ (Nat.le_refl _) with q | ⟨r, r1, r2, r3⟩
    · exact ⟨0, by omega, q⟩
    · exact ⟨r.2.1, (hRok r r1).2.2.1.2.2.1 r2, r3⟩
  · rcases nuS_kind (R := w_R w) (out := out) (k := 3) (by omega) _ (Nat.le_refl _) with q | ⟨r, r1, r2, r3⟩
    · exact Or.inl q
    · have := (hRok r r1).2.2.1.2.1 r2
      exact Or.inr ⟨r.2.1, this.1, this.2, r3⟩
  · have := b3 i j hij hj
    show w_F w (w_by w i) 0 ≤ w_F w (w_by w j) 0
    omega
/-! ===== who is let pass is SERVED before ===== -/
def RK (s : Sg) : Prop := ∀ x ∈ g_ps s, x.2.1 ∈ g_gs s ∧ (g_gs s).idxOf x.2.1 < (g_gs s).idxOf x.1 ∧ ∃ v, v ≤ 99 ∧ x.2.2.1 = nI v
theorem held_nat (v : Int32) : ∃ m, m ≤ 99 ∧ heldS v = nI m := by
  rw [held_ref]
  by_cases h : 0 ≤ v
  · rw [if_pos h]
    by_cases h2 : v ≤ 99
    · rw [if_pos h2]
      have e1 : 0 ≤ v.toInt := Int32.le_iff_toInt_le.mp h
      have e2 : v.toInt ≤ 99 := Int32.le_iff_toInt_le.mp h2
      refine ⟨v.toInt.toNat, by omega, ?_⟩
      apply Int32.toInt_inj.mp
      rw [nI_toInt (by omega)]
      omega
    · rw [if_neg h2]; exact ⟨99, by omega, rfl⟩
  · rw [if_neg h]; exact ⟨0, by omega, rfl⟩
theorem worth_rng (R : List RU) (nu : Nat → Int32) (f : Nat → Nat → Int32) (g o h : Nat) : ∃ m, m ≤ 99 ∧ worthF R nu f g o h = nI m := by
  unfold worthF
  split
  · exact ⟨1, by omega, rfl⟩
  · exact held_nat _
theorem idx_one {a y : Nat} (h : ¬ a = y) : [a].idxOf y = 1 := by
  rw [List.idxOf_cons, beq_false_of_ne h]
  rfl
theorem RK.zero : RK g0 := fun x h => by cases h
theorem RK.fin {c : Cf} {s : Sg} (h : RK s) (hwo : ∀ g o t, ∃ m, m ≤ 99 ∧ c_wo c g o t = nI m) {mm : Nat} {L : List Nat} (hL : LOK c L) (hLm : ∀ p ∈ L, p ∉ g_gs s) (un : Bool) (off g u : Nat) (hg : g < L.length) : RK (endS c s mm L un off g u) := by
  intro x hx
  have hgs : g_gs (endS c s mm L un off g u) = g_gs s ++ [L.getD g 0] := rfl
  have hps : g_ps (endS c s mm L un off g u) = g_ps s ++ (if un then [] else (L.take g).map (fun q => (q, L.getD g 0, c_wo c q (L.getD g 0) (mm / 60), nI mm))) := rfl
  rw [hps] at hx
  rw [hgs]
  have hp := hLm _ (getD_mem hg)
  rcases List.mem_append.mp hx with q | q
  · obtain ⟨a, b, e⟩ := h x q
    refine ⟨List.mem_append.mpr (Or.inl a), ?_, e⟩
    rw [List.idxOf_append, List.idxOf_append, if_pos a]
    by_cases z : x.1 ∈ g_gs s
    · rw [if_pos z]; exact b
    · rw [if_neg z]
      have := List.idxOf_lt_length_of_mem a
      omega
  · cases un with
    | true => cases q
    | false =>
      obtain ⟨y, y1, y2⟩ := List.mem_map.mp (show x ∈ (L.take g).map _ from q)
      have hyL : y ∈ L := List.mem_of_mem_take y1
      have hy := hLm _ hyL
      have hne : ¬ L.getD g 0 = y := fun e => by
        obtain ⟨i, i1, i2⟩ := List.getElem_of_mem y1
        rw [List.length_take] at i1
        rw [List.getElem_take] at i2
        have hn := List.pairwise_iff_getElem.mp hL.2.2.2 i g (by omega) hg (by omega)
        rw [List.getD_eq_getElem?_getD, List.getElem?_eq_getElem hg] at e
        exact hn (i2.trans e.symm)
      rw [← y2]
      refine ⟨List.mem_append.mpr (Or.inr (List.mem_singleton.mpr rfl)), ?_, hwo _ _ _⟩
      show (g_gs s ++ [L.getD g 0]).idxOf (L.getD g 0) < (g_gs s ++ [L.getD g 0]).idxOf y
      have e1 : [L.getD g 0].idxOf y = 1 := idx_one hne
      rw [List.idxOf_append, List.idxOf_append, if_neg hp, if_neg hy, List.idxOf_cons_self, e1]
      omega
theorem RK.cal {c : Cf} {s : Sg} (h : RK s) (hwo : ∀ g o t, ∃ m, m ≤ 99 ∧ c_wo c g o t = nI m) {mm : Nat} {L : List Nat} (hL : LOK c L) (hLm : ∀ p ∈ L, p ∉ g_gs s) : RK (calS c s mm L) := by
  cases hdo : dueO c s mm L with
  | some g =>
    rw [calS_due hdo]
    refine h.fin hwo hL hLm true 0 g _ ?_
    unfold dueO at hdo
    by_cases q : c_nu c 2 = -1
    · rw [if_pos q] at hdo; cases hdo
    · rw [if_neg q] at hdo; exact dueX_lt _ _ hdo
  | none =>
    cases hho : handO c s mm L with
    | mk o u =>
    cases o with
    | none => rw [calS_el hdo hho]; exact h
    | some t =>
      rw [calS_go hdo hho]
      exact h.fin hwo hL hLm false t _ u (Nat.mod_lt _ (by have := hL.1; omega))
theorem RK.day {c : Cf} (hc : cfOK c) (hwo : ∀ g o t, ∃ m, m ≤ 99 ∧ c_wo c g o t = nI m) : ∀ j s, SOK c s → RK s → SOK c (dayS c j s) ∧ RK (dayS c j s)
  | 0, s, h, h2 => ⟨h, h2⟩
  | j + 1, s, h, h2 => by
    cases hel : g_el s with
    | true => rw [dayS_el c j hel]; exact ⟨h, h2⟩
    | false =>
      cases hm : minS c s with
      | none => rw [dayS_none c j hel hm]; exact ⟨h, h2⟩
      | some mm =>
        rw [dayS_some c j hel hm]
        exact RK.day hc hwo j _ (h.cal hc hel hm) (h2.cal hwo (h.min hc hm).2.2 (fun p hp => ((h.th hc mm).1 p hp).1))
/-- the DAY of a world -/
def dyW (w : Wd) (out : Nat) (pl : Option Nat) (pb : Int32) (tu : Option Nat) (tc : Int32) (tw : Nat) (wy : Nat → Nat) : Sg := dayS (cW w out pl pb tu tc tw wy) 8 g0
theorem dyW_ok {w : Wd} (hw : WOK w) {out : Nat} {pl : Option Nat} {pb : Int32} {tu : Option Nat} {tc : Int32} {tw : Nat} {wy : Nat → Nat} (h1 : ∀ p, pl = some p → p < w_n w) (h2 : ∀ p, tu = some p → p < w_n w ∧ ¬ tc < 0 ∧ tw ≤ 4) (h3 : ∀ p, p < w_n w → wy p ≤ 4) : SOK (cW w out pl pb tu tc tw wy) (dyW w out pl pb tu tc tw wy) ∧ RK (dyW w out pl pb tu tc tw wy) :=
  RK.day (cW_ok hw h1 h2 h3).1 (fun g o t => worth_rng _ _ _ g o t) 8 g0 (SOK.zero _) RK.zero
/-- as it is -/
def day0W (w : Wd) : Sg := dyW w 0 none 0 none 0 0 (fun p => w_F w p 5)
theorem RK.acy {s : Sg} (h : RK s) : ACY (g_ps s) (fun p => (g_gs s).idxOf p) := fun x hx => ⟨(h x hx).2.1, (h x hx).2.2⟩
