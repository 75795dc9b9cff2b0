/-! ===== the reference: words ===== -/
def RA (M : Mm) (n : Nat) (tp : Nat → Nat) (q : Nat) : Prop := RT M n tp ∧ m_i M 206 4 = nI q ∧ q ≤ n ∧ m_i M 206 5 = 0
theorem RA.x4 {M M' : Mm} {n : Nat} {tp : Nat → Nat} {q q' : Nat} (h : RA M n tp q) (hF : FrS X4 M M') (h4 : m_i M' 206 4 = nI q') (hq : q' ≤ n) : RA M' n tp q' :=
  ⟨h.1.fr hF (by unfold X4; omega) (fun j => by unfold X4; omega), h4, hq, by rw [hF.1 _ _ (by unfold X4; omega)]; exact h.2.2.2⟩
/-- letters as digits of 27 -/
def kN (dg : Nat → Nat) : Nat → Nat
  | 0 => 0
  | c + 1 => 27 * kN dg c + dg c
theorem kN_inj (dg eg : Nat → Nat) : ∀ c c', (∀ i, i < c → 1 ≤ dg i ∧ dg i ≤ 26) → (∀ i, i < c' → 1 ≤ eg i ∧ eg i ≤ 26) → kN dg c = kN eg c' → c = c' ∧ ∀ i, i < c → dg i = eg i
  | 0, 0, _, _, _ => ⟨rfl, fun i h => absurd h (by omega)⟩
  | 0, c' + 1, _, h2, h => by
    have := h2 c' (by omega)
    have h' : 0 = 27 * kN eg c' + eg c' := h
    omega
  | c + 1, 0, h1, _, h => by
    have := h1 c (by omega)
    have h' : 27 * kN dg c + dg c = 0 := h
    omega
  | c + 1, c' + 1, h1, h2, h => by
    have a := h1 c (by omega)
    have b := h2 c' (by omega)
    have h' : 27 * kN dg c + dg c = 27 * kN eg c' + eg c' := h
    obtain ⟨e1, e2⟩ := kN_inj dg eg c c' (fun i hi => h1 i (by omega)) (fun i hi => h2 i (by omega)) (by omega)
    subst e1
    refine ⟨rfl, fun i hi => ?_⟩
    by_cases z : i = c
    · rw [z]; omega
    · exact e2 i (by omega)
theorem kN_lt (dg : Nat → Nat) : ∀ c, c ≤ 9 → (∀ i, i < c → dg i ≤ 26) → kN dg c < 27 ^ c
  | 0, _, _ => by show 0 < 1; omega
  | c + 1, hc, h => by
    have := kN_lt dg c (by omega) (fun i hi => h i (by omega))
    have := h c (by omega)
    show 27 * kN dg c + dg c < 27 ^ (c + 1)
    rw [Nat.pow_succ]
    omega
def dgT (tp : Nat → Nat) (p : Nat) : Nat → Nat := fun i => tp (p + i) - 96
/-- the word at p, as the reference reads it -/
def wv (n : Nat) (tp : Nat → Nat) (p : Nat) : Int64 := if rn n tp isl p - p ≤ 9 then lN (kN (dgT tp p) (rn n tp isl p - p)) else -1
theorem lg_cmp0 {x y : Int64} : lg_cmp x y = 0 ↔ x = y := by
  unfold lg_cmp
  constructor
  · intro h
    split at h
    · exact absurd h (by decide)
    · split at h
      · assumption
      · exact absurd h (by decide)
  · intro h
    rw [h, if_neg (by intro z; exact absurd z (Int64.lt_irrefl)), if_pos rfl]
section RWD
variable {l : Launch} {G : Gx} {d : Nat} {bc bs : Nat} {Φ : OutV → Mm → Prop}
theorem ct_blanksA (M : Mm) {n : Nat} {tp : Nat → Nat} {q : Nat} (hA : RA M n tp q) (hd : 0 < d) (h : ∀ M', FrS X4 M M' → RA M' n tp (rn n tp isb q) → Φ (.inl none) M') : Ct l G d mRe_blanks bc bs [.ref 206] M Φ :=
  Ct.of rfl (Nat.le_of_ble_eq_true rfl) (ct_blanks M hA.1 hd q M hA.2.2.1 (FrS.rf _ _) hA.2.1 (fun M' F e => h M' F (hA.x4 F e (rn_le _ hA.2.2.1))))
theorem bt_lo {n : Nat} {tp : Nat → Nat} {p : Nat} (hb : ∀ j, j < n → tp j < 256) {c : Nat} (hc : c < 256) : (bt n tp p < nI c ↔ ¬ (p < n ∧ c ≤ tp p)) ∧ (nI c < bt n tp p ↔ (p < n ∧ c < tp p)) := by
  unfold bt
  by_cases z : p < n
  · have := hb p z
    rw [if_pos z, nI_ltI (by omega) (by omega), nI_ltI (by omega) (by omega)]
    omega
  · rw [if_neg z]
    refine ⟨⟨fun _ k => z k.1, fun _ => ?_⟩, ⟨fun k => ?_, fun k => absurd k.1 z⟩⟩
    · rw [Int32.lt_iff_toInt_lt, nI_toInt (by omega)]
      exact Int.lt_of_lt_of_le (by decide) (Int.natCast_nonneg c)
    · rw [Int32.lt_iff_toInt_lt, nI_toInt (by omega)] at k
      exact absurd (Int.lt_of_le_of_lt (Int.natCast_nonneg c) k) (by decide)
end RWD
