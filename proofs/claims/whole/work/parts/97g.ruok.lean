/-! ===== what is read fits: types and depth of the steps ===== -/
def tyL : List Int32 → List Bool → Option (List Bool)
  | [], w => some w
  | x :: S, w => if -17 ≤ x ∧ x ≤ 9999 then (if x < -7 then (if x = -8 then (match w with
      | true :: r => tyL S (true :: r)
      | _ => none) else (match w with
      | b :: a :: r => if x < -15 then (if a = true ∧ b = true then tyL S (true :: r) else none) else (if a = false ∧ b = false then tyL S (decide (x < -12) :: r) else none)
      | _ => none)) else tyL S (false :: w)) else none
def dpL (m : Nat) : List Int32 → Nat → Option Nat
  | [], k => some k
  | x :: S, k => if x < -7 then (if x = -8 then (if 1 ≤ k then dpL m S k else none) else (if 2 ≤ k then dpL m S (k - 1) else none)) else (if k < m then dpL m S (k + 1) else none)
theorem tyL_app : ∀ (S T : List Int32) (w : List Bool), tyL (S ++ T) w = (tyL S w).bind (tyL T)
  | [], T, w => rfl
  | x :: S, T, w => by
    have ih := tyL_app S T
    show tyL (x :: (S ++ T)) w = _
    unfold tyL
    split
    · split
      · split
        · split
          · exact ih _
          · rfl
        · split
          · split
            · split
              · exact ih _
              · rfl
            · split
              · exact ih _
              · rfl
          · rfl
      · exact ih _
    · rfl
theorem dpL_app (m : Nat) : ∀ (S T : List Int32) (k : Nat), dpL m (S ++ T) k = (dpL m S k).bind (dpL m T)
  | [], T, k => rfl
  | x :: S, T, k => by
    have ih := dpL_app m S T
    show dpL m (x :: (S ++ T)) k = _
    unfold dpL
    split
    · split
      · split
        · exact ih _
        · rfl
      · split
        · exact ih _
        · rfl
    · split
      · exact ih _
      · rfl
theorem stL_c {x : Int32} {S : List Int32} {j : Nat} : stL (x :: S) (j + 1) = stL S j := rfl
theorem tyD_of (s : Nat → Int32) : ∀ (S : List Int32) (i : Nat) (w e : List Bool), (∀ j, j < S.length → s (i + j) = stL S j) → tyL S w = some e → tyD s i S.length w e
  | [], i, w, e, _, h => Option.some.inj h
  | x :: S, i, w, e, hs, h => by
    have hx : s i = x := hs 0 (by show 0 < S.length + 1; omega)
    have ih := fun w' h' => tyD_of s S (i + 1) w' e (fun j hj => by rw [show i + 1 + j = i + (j + 1) by omega, hs (j + 1) (by show j + 1 < S.length + 1; omega)]; rfl) h'
    show tyD s i (S.length + 1) w e
    rw [tyD_succ, hx]
    unfold tyL at h
    split at h
    · refine ⟨by assumption, ?_⟩
      split at h
      · rename_i c2
        rw [if_pos c2]
        split at h
        · rename_i c3
          rw [if_pos c3]
          split at h
          · exact ih _ h
          · cases h
        · rename_i c3
          rw [if_neg c3]
          split at h
          · split at h
            · rename_i c4
              dsimp only
              rw [if_pos c4]
              split at h
              · exact ⟨by assumption, ih _ h⟩
              · cases h
            · rename_i c4
              dsimp only
              rw [if_neg c4]
              split at h
              · exact ⟨by assumption, ih _ h⟩
              · cases h
          · cases h
      · rename_i c2
        rw [if_neg c2]
        exact ih _ h
    · cases h
theorem okD_of (s : Nat → Int32) : ∀ (S : List Int32) (i k : Nat), (∀ j, j < S.length → s (i + j) = stL S j) → dpL 64 S k = some 1 → okD s i S.length k
  | [], i, k, _, h => Option.some.inj h
  | x :: S, i, k, hs, h => by
    have hx : s i = x := hs 0 (by show 0 < S.length + 1; omega)
    have ih := fun k' h' => okD_of s S (i + 1) k' (fun j hj => by rw [show i + 1 + j = i + (j + 1) by omega, hs (j + 1) (by show j + 1 < S.length + 1; omega)]; rfl) h'
    show if s i < -7 then (if s i = -8 then 1 ≤ k ∧ okD s (i + 1) S.length k else 2 ≤ k ∧ okD s (i + 1) S.length (k - 1)) else k < 64 ∧ okD s (i + 1) S.length (k + 1)
    rw [hx]
    unfold dpL at h
    split at h
    · rename_i c1
      rw [if_pos c1]
      split at h
      · rename_i c2
        rw [if_pos c2]
        split at h
        · exact ⟨by assumption, ih _ h⟩
        · cases h
      · rename_i c2
        rw [if_neg c2]
        split at h
        · exact ⟨by assumption, ih _ h⟩
        · cases h
    · rename_i c1
      rw [if_neg c1]
      split at h
      · exact ⟨by assumption, ih _ h⟩
      · cases h
/-- the steps S put one operand (true: 0 or 1) on top, with at most D more waiting -/
def GD (S : List Int32) (b : Bool) (D : Nat) : Prop := (∀ w, tyL S w = some (b :: w)) ∧ ∀ m k, k + D ≤ m → dpL m S k = some (k + 1)
theorem GD.up {S : List Int32} {b : Bool} {D D' : Nat} (h : GD S b D) (hD : D ≤ D') : GD S b D' := ⟨h.1, fun m k hk => h.2 m k (by omega)⟩
theorem GD.leaf {x : Int32} (h1 : -17 ≤ x ∧ x ≤ 9999) (h2 : ¬ x < -7) : GD [x] false 1 := by
  refine ⟨fun w => ?_, fun m k hk => ?_⟩
  · unfold tyL
    rw [if_pos h1, if_neg h2]
    rfl
  · unfold dpL
    rw [if_neg h2, if_pos (by omega)]
    rfl
theorem GD.op {S T : List Int32} {a b : Bool} {D E : Nat} {x : Int32} (hS : GD S a D) (hT : GD T a E) (hx : (x < -7 ∧ ¬ x = -8) ∧ -17 ≤ x ∧ x ≤ 9999) (hab : (x < -15 ∧ a = true ∧ b = true) ∨ (¬ x < -15 ∧ a = false ∧ b = decide (x < -12))) (hE : E + 1 ≤ D) : GD (S ++ T ++ [x]) b D := by
  refine ⟨fun w => ?_, fun m k hk => ?_⟩
  · rw [tyL_app, tyL_app, hS.1]
    show (tyL T (a :: w)).bind (tyL [x]) = _
    rw [hT.1]
    show tyL [x] (a :: a :: w) = _
    unfold tyL
    rw [if_pos hx.2, if_pos hx.1.1, if_neg hx.1.2]
    rcases hab with ⟨h1, h2, h3⟩ | ⟨h1, h2, h3⟩
    · dsimp only
      rw [if_pos h1, if_pos ⟨h2, h2⟩, h3]
      rfl
    · dsimp only
      rw [if_neg h1, if_pos ⟨h2, h2⟩, h3]
      rfl
  · rw [dpL_app, dpL_app, hS.2 m k hk]
    show (dpL m T (k + 1)).bind (dpL m [x]) = _
    rw [hT.2 m (k + 1) (by omega)]
    show dpL m [x] (k + 1 + 1) = _
    unfold dpL
    rw [if_pos hx.1.1, if_neg hx.1.2, if_pos (by omega)]
    rfl
theorem GD.not {S : List Int32} {D : Nat} (hS : GD S true D) : GD (S ++ [-8]) true D := by
  refine ⟨fun w => ?_, fun m k hk => ?_⟩
  · rw [tyL_app, hS.1]
    show tyL [-8] (true :: w) = _
    unfold tyL
    rw [if_pos (by decide), if_pos (by decide), if_pos rfl]
    rfl
  · rw [dpL_app, hS.2 m k hk]
    show dpL m [-8] (k + 1) = _
    unfold dpL
    rw [if_pos (by decide), if_pos rfl, if_pos (by omega)]
    rfl
/-- a reader whose steps fit -/
def GR (f : Nat → Pr) (b : Bool) (D : Nat) : Prop := ∀ p, (f p).1 = 0 → GD (f p).2.2 b D
theorem joinL_ok {n : Nat} {tp : Nat → Nat} {op : Nat → Bool} {st : Nat → Int32} {f : Nat → Pr} {b : Bool} {D : Nat} (hf : GR f b D) (hst : ∀ p, op p = true → ((st p < -7 ∧ ¬ st p = -8) ∧ -17 ≤ st p ∧ st p ≤ 9999) ∧ ((st p < -15 ∧ b = true ∧ b = true) ∨ (¬ st p < -15 ∧ b = false ∧ b = decide (st p < -12)))) : ∀ k p S, GD S b (D + 1) → (joinL n tp op st f k p S).1 = 0 → GD (joinL n tp op st f k p S).2.2 b (D + 1)
  | 0, p, S, h, _ => h
  | k + 1, p, S, h, h0 => by
    have e : joinL n tp op st f (k + 1) p S = if op p = true then (if (f (nx n tp p)).1 = 0 then joinL n tp op st f k (f (nx n tp p)).2.1 (S ++ (f (nx n tp p)).2.2 ++ [st p]) else ((f (nx n tp p)).1, (f (nx n tp p)).2.1, [])) else (0, p, S) := rfl
    rw [e] at h0 ⊢
    by_cases z : op p = true
    · rw [if_pos z] at h0 ⊢
      by_cases y : (f (nx n tp p)).1 = 0
      · rw [if_pos y] at h0 ⊢
        exact joinL_ok hf hst k _ _ (GD.op h (hf _ y) (hst p z).1 (hst p z).2 (by omega)) h0
      · rw [if_neg y] at h0; exact absurd h0 y
    · rw [if_neg z]; exact h
theorem joinF_ok {n : Nat} {tp : Nat → Nat} {op : Nat → Bool} {st : Nat → Int32} {f : Nat → Pr} {b : Bool} {D : Nat} (hf : GR f b D) (hst : ∀ p, op p = true → ((st p < -7 ∧ ¬ st p = -8) ∧ -17 ≤ st p ∧ st p ≤ 9999) ∧ ((st p < -15 ∧ b = true ∧ b = true) ∨ (¬ st p < -15 ∧ b = false ∧ b = decide (st p < -12)))) : GR (joinF n tp op st f) b (D + 1) := fun p h0 => by
  unfold joinF at h0 ⊢
  by_cases z : (f p).1 = 0
  · rw [if_pos z] at h0 ⊢
    exact joinL_ok hf hst 500 _ _ ((hf p z).up (by omega)) h0
  · rw [if_neg z] at h0; exact absurd h0 z
theorem sum_ok {n : Nat} {tp : Nat → Nat} {u : Nat → Pr} {D : Nat} (hu : GR u false D) : GR (sumF n tp u) false (D + 2) := by
  have hs : ∀ a b, (a = 42 ∧ b = 47) ∨ (a = 43 ∧ b = 45) → ∀ p, isO n tp a b p = true → ((stF (sg n tp p) < -7 ∧ ¬ stF (sg n tp p) = -8) ∧ -17 ≤ stF (sg n tp p) ∧ stF (sg n tp p) ≤ 9999) ∧ ((stF (sg n tp p) < -15 ∧ false = true ∧ false = true) ∨ (¬ stF (sg n tp p) < -15 ∧ false = false ∧ false = decide (stF (sg n tp p) < -12))) := fun a b hab p hp => by
    have := of_decide_eq_true hp
    have h4 : sg n tp p = 42 ∨ sg n tp p = 43 ∨ sg n tp p = 45 ∨ sg n tp p = 47 := by omega
    rcases h4 with e | e | e | e <;> rw [e] <;> decide
  exact joinF_ok (joinF_ok hu (hs 42 47 (Or.inl ⟨rfl, rfl⟩))) (hs 43 45 (Or.inr ⟨rfl, rfl⟩))
theorem clo_ok {n : Nat} {tp : Nat → Nat} {c : Nat} {r : Pr} {b : Bool} {D : Nat} (h : r.1 = 0 → GD r.2.2 b D) (h0 : (cloP n tp c r).1 = 0) : GD (cloP n tp c r).2.2 b D := by
  unfold cloP at h0 ⊢
  by_cases z : r.1 = 0
  · rw [if_pos z] at h0 ⊢
    by_cases y : sg n tp r.2.1 = c
    · rw [if_pos y]; exact h z
    · rw [if_neg y] at h0; exact absurd h0 (by show ¬ 1 = 0; decide)
  · rw [if_neg z] at h0; exact absurd h0 z
def nmB (w : Nat) : Bool := decide (0 ≤ wM w) || (decide (-17 ≤ wM w) && decide (wM w ≤ 9999) && decide (¬ wM w < -7))
theorem nmB_ok : ∀ w, (1 ≤ w ∧ w ≤ 23) → nmB w = true := w_all (p := nmB) (by decide +kernel)
theorem nm_ok (w : Nat) (hw : 1 ≤ w ∧ w ≤ 23) (h : wM w < 0) : (-17 ≤ wM w ∧ wM w ≤ 9999) ∧ ¬ wM w < -7 := by
  have k := nmB_ok w hw
  unfold nmB at k
  simp only [Bool.or_eq_true, Bool.and_eq_true, decide_eq_true_eq] at k
  rcases k with k | k
  · exact absurd h (Int32.not_lt.mpr k)
  · exact k
theorem num_ok {v : Nat} (h : v < 10000) : (-17 ≤ nI v ∧ nI v ≤ 9999) ∧ ¬ nI v < -7 := by
  have e : (nI v).toInt = (v : Int) := nI_toInt (by omega)
  refine ⟨⟨?_, nI_le (b := 9999) (by omega) (by omega)⟩, ?_⟩
  · rw [Int32.le_iff_toInt_le, e]
    exact Int.le_trans (by decide) (Int.natCast_nonneg v)
  · rw [Int32.lt_iff_toInt_lt, e]
    intro q
    have := Int.lt_of_le_of_lt (Int.natCast_nonneg v) q
    exact absurd this (by decide)
theorem unit_ok {n : Nat} {tp : Nat → Nat} {hi : Bool} {sm : Nat → Pr} {D : Nat} (hD : 1 ≤ D) (hs : hi = true → GR sm false D) : GR (unitF n tp hi sm) false D := fun p h0 => by
  unfold unitF at h0 ⊢
  by_cases z1 : sg n tp p = 40
  · rw [if_pos z1] at h0 ⊢
    by_cases z2 : hi = true
    · rw [if_pos z2] at h0 ⊢
      exact clo_ok (hs z2 _) h0
    · rw [if_neg z2] at h0; exact absurd h0 (by show ¬ 3 = 0; decide)
  · rw [if_neg z1] at h0 ⊢
    by_cases z2 : wM (wd n tp p) < 0
    · rw [if_pos z2]
      have := nm_ok _ (wd_rng n tp p) z2
      exact (GD.leaf this.1 this.2).up hD
    · rw [if_neg z2] at h0 ⊢
      by_cases z3 : nOK n tp 0 10000 p
      · rw [if_pos z3]
        have := num_ok z3.2.2
        exact (GD.leaf this.1 this.2).up hD
      · rw [if_neg z3] at h0; exact absurd h0 (fcd_ne _ _ _)
theorem op_ok (n : Nat) (tp : Nat → Nat) : ∀ o, GR (opS n tp o) false (2 * o + 1)
  | 0 => unit_ok (by omega) (fun z => absurd z (by decide))
  | o + 1 => unit_ok (by omega) (fun _ => sum_ok (op_ok n tp o))
theorem sums_ok (n : Nat) (tp : Nat → Nat) (o : Nat) : GR (sumS n tp o) false (2 * o + 3) := sum_ok (op_ok n tp o)
theorem or_ok {n : Nat} {tp : Nat → Nat} {f : Nat → Pr} {D : Nat} (hf : GR f true D) : GR (orF n tp f) true (D + 2) :=
  joinF_ok (joinF_ok hf (fun _ _ => by decide)) (fun _ _ => by decide)
theorem clm_ok {n : Nat} {tp : Nat → Nat} {hi : Bool} {sm cl : Nat → Pr} {D : Nat} (hs : GR sm false D) (hc : hi = true → GR cl true (D - 1)) (hD : 1 ≤ D) : GR (clmF n tp hi sm cl) true (D + 1) := fun p h0 => by
  unfold clmF at h0 ⊢
  by_cases z1 : wd n tp p = 16 ∨ sg n tp p = 91
  · rw [if_pos z1] at h0 ⊢
    by_cases z2 : hi = true
    · rw [if_pos z2] at h0 ⊢
      by_cases z3 : wd n tp p = 16
      · rw [if_pos z3] at h0 ⊢
        unfold notP at h0 ⊢
        by_cases z4 : (cl (nx n tp p)).1 = 0
        · rw [if_pos z4]
          exact ((hc z2 _ z4).up (by omega)).not
        · rw [if_neg z4] at h0; exact absurd h0 z4
      · rw [if_neg z3] at h0 ⊢
        exact clo_ok (fun e => (or_ok (hc z2) _ e).up (by omega)) h0
    · rw [if_neg z2] at h0; exact absurd h0 (by show ¬ 3 = 0; decide)
  · rw [if_neg z1] at h0 ⊢
    unfold cmpP at h0 ⊢
    by_cases z2 : (sm p).1 = 0
    · rw [if_pos z2] at h0 ⊢
      by_cases z3 : sg n tp (sm p).2.1 = 60 ∨ sg n tp (sm p).2.1 = 62 ∨ sg n tp (sm p).2.1 = 61
      · rw [if_pos z3] at h0 ⊢
        by_cases z4 : (sm (nx n tp (sm p).2.1)).1 = 0
        · rw [if_pos z4]
          have k : ((stF (sg n tp (sm p).2.1) < -7 ∧ ¬ stF (sg n tp (sm p).2.1) = -8) ∧ -17 ≤ stF (sg n tp (sm p).2.1) ∧ stF (sg n tp (sm p).2.1) ≤ 9999) ∧ (¬ stF (sg n tp (sm p).2.1) < -15 ∧ false = false ∧ true = decide (stF (sg n tp (sm p).2.1) < -12)) := by
            rcases z3 with e | e | e <;> rw [e] <;> decide
          exact GD.op ((hs p z2).up (by omega)) (hs _ z4) k.1 (Or.inr k.2) (by omega)
        · rw [if_neg z4] at h0; exact absurd h0 z4
      · rw [if_neg z3] at h0; exact absurd h0 (by show ¬ 1 = 0; decide)
    · rw [if_neg z2] at h0; exact absurd h0 z2
theorem clms_ok (n : Nat) (tp : Nat → Nat) : ∀ o, GR (clmS n tp o) true (2 * o + 4)
  | 0 => clm_ok (sums_ok n tp 0) (fun z => absurd z (by decide)) (by omega)
  | o + 1 => clm_ok (sums_ok n tp (o + 1)) (fun _ => clms_ok n tp o) (by omega)
