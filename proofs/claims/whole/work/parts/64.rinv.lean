/-! ===== the reference at rest ===== -/
def RIN (M : Mm) (w : Wd) (out : Nat) (pl : Option Nat) (pb : Int32) (tu : Option Nat) (tc : Int32) (tw : Nat) : Prop := RS M ∧ RPrep M (w_n w) (w_f w) ∧ RRrep M (w_R w) ∧ m_i M 206 33 = nI out ∧ m_i M 206 34 = oN pl ∧ (∀ p, pl = some p → m_i M 206 35 = pb) ∧ m_i M 206 37 = oN tu ∧ ∀ p, tu = some p → m_i M 206 38 = tc ∧ m_i M 206 39 = nI tw
def RKp (M : Mm) (n i : Nat) (m : Imz) : Prop := m_i M (258 + i) 0 = nI m.2.2.2 ∧ (∀ j, j < 8 → m_i M (258 + i) (1 + j) = m.2.2.1 j) ∧ ∀ p, p < n → m_i M (258 + i) (9 + p) = nI (m.1 p) ∧ m_i M (258 + i) (17 + p) = nI (m.2.1 p)
def RINV (M : Mm) (w : Wd) : Prop := RS M ∧ RPrep M (w_n w) (w_f w) ∧ RRrep M (w_R w) ∧ (m_i M 206 33 = 0 ∧ m_i M 206 34 = -1 ∧ m_i M 206 37 = -1) ∧ (m_i M 206 1 = nI (w_T w) ∧ ∀ i, i < w_T w → m_i M 207 i = nI (w_tp w i)) ∧ m_i M 206 3 = w_fp w ∧ (m_i M 206 27 = nI (w_ss w) ∧ ∀ j, j < 8 → m_i M 256 j = w_sr w j) ∧ m_i M 206 28 = nI (w_ic w) ∧ ∀ i, i < w_ic w → RKp M (w_n w) i (w_im w i)
/-- what a question may write -/
def QR : Nat → Nat → Prop := fun a j => (a = 206 ∧ ¬ (j = 1 ∨ j = 3 ∨ j = 11 ∨ j = 15 ∨ j = 27 ∨ j = 28 ∨ j = 33 ∨ j = 34 ∨ j = 37)) ∨ (206 < a ∧ a < 3483 ∧ ¬ (a = 207 ∨ (218 ≤ a ∧ a < 218 + 8) ∨ a = 227 ∨ a = 229 ∨ a = 231 ∨ (244 ≤ a ∧ a < 244 + 10) ∨ a = 256 ∨ (258 ≤ a ∧ a < 258 + 3)))
/-- what the reference may write -/
def RF : Nat → Nat → Prop := fun a _ => 206 ≤ a ∧ a < 3483
theorem QR.f : ∀ a j, QR a j → RF a j := fun a j h => by unfold QR at h; unfold RF; omega
theorem QD.r : ∀ a j, QD a j → QR a j := fun a j h => by unfold QD at h; unfold QR; omega
theorem RKp.fr {M M' : Mm} {n i : Nat} {m : Imz} {Q : Nat → Nat → Prop} (h : RKp M n i m) (hF : FrS Q M M') (h0 : ∀ j, ¬ Q (258 + i) j) : RKp M' n i m := by
  obtain ⟨a1, a2, a3⟩ := h
  exact ⟨by rw [hF.1 _ _ (h0 _)]; exact a1, fun j hj => by rw [hF.1 _ _ (h0 _)]; exact a2 j hj, fun p hp => by rw [hF.1 _ _ (h0 _), hF.1 _ _ (h0 _)]; exact a3 p hp⟩
theorem RINV.fr {M M' : Mm} {w : Wd} (hw : WOK w) (h : RINV M w) (hF : FrS QR M M') : RINV M' w := by
  obtain ⟨a1, a2, a3, ⟨a4, a5, a6⟩, ⟨a7, a8⟩, a9, ⟨a10, a11⟩, a12, a13⟩ := h
  have hT := hw.2.2.2.2.2.1
  have hi := hw.2.2.2.2.2.2.2.2.1
  refine ⟨a1.fr hF, a2.fr hF (by unfold QR; omega) (fun p j hp => by unfold QR; omega), a3.fr hF (by unfold QR; omega) (fun j => by unfold QR; omega) (fun j => by unfold QR; omega) (fun j => by unfold QR; omega) (fun i j hi => by unfold QR; omega), ⟨?_, ?_, ?_⟩, ⟨?_, fun i hi => ?_⟩, ?_, ⟨?_, fun j hj => ?_⟩, ?_, fun i hi2 => (a13 i hi2).fr hF (fun j => by unfold QR; omega)⟩
  · rw [hF.1 _ _ (by unfold QR; omega)]; exact a4
  · rw [hF.1 _ _ (by unfold QR; omega)]; exact a5
  · rw [hF.1 _ _ (by unfold QR; omega)]; exact a6
  · rw [hF.1 _ _ (by unfold QR; omega)]; exact a7
  · rw [hF.1 _ _ (by unfold QR; omega)]; exact a8 i hi
  · rw [hF.1 _ _ (by unfold QR; omega)]; exact a9
  · rw [hF.1 _ _ (by unfold QR; omega)]; exact a10
  · rw [hF.1 _ _ (by unfold QR; omega)]; exact a11 j hj
  · rw [hF.1 _ _ (by unfold QR; omega)]; exact a12
theorem RINV.rin {M : Mm} {w : Wd} (h : RINV M w) : RIN M w 0 none 0 none 0 0 :=
  ⟨h.1, h.2.1, h.2.2.1, h.2.2.2.1.1, h.2.2.2.1.2.1, (fun p q => by cases q), h.2.2.2.1.2.2, (fun p q => by cases q)⟩
/-- an answer of the reference -/
def RPost (M : Mm) (a : An) (Φ : OutV → Mm → Prop) : Prop := ∀ M', FrS RF M M' → RINV M' a.2.2 → m_i M' 206 0 = nI a.1 → Φ (.inl (some (.int a.2.1))) M'
theorem RINV.t0 {M : Mm} {w : Wd} (hw : WOK w) (h : RINV M w) : FrS QR M (m_si M 206 0 0) ∧ RINV (m_si M 206 0 0) w ∧ m_i (m_si M 206 0 0) 206 0 = 0 := by
  have hF : FrS QR M (m_si M 206 0 0) := FrS.si (by unfold QR; omega) _
  exact ⟨hF, h.fr hw hF, by rw [m_i_si, if_pos ⟨rfl, rfl⟩]⟩
theorem RPost.fail {M M0 : Mm} {w : Wd} (hw : WOK w) {a : An} {Φ : OutV → Mm → Prop} (h : RPost M a Φ) (hF : FrS QR M M0) (hI : RINV M0 w) {code : Nat} {cc : Int32} (hc : cc = nI code) (e : a = (code, 0, w)) : Φ (.inl (some (.int 0))) (m_si M0 206 0 cc) := by
  subst e
  have hF2 : FrS QR M0 (m_si M0 206 0 cc) := FrS.si (by unfold QR; omega) _
  exact h _ ((hF.tr hF2).mono QR.f) (hI.fr hw hF2) (by rw [m_i_si, if_pos ⟨rfl, rfl⟩]; exact hc)
theorem RPost.done {M M0 : Mm} {w : Wd} (hw : WOK w) {a : An} {Φ : OutV → Mm → Prop} (h : RPost M a Φ) (hF : FrS QR M M0) (hI : RINV M0 w) (t0 : m_i M0 206 0 = 0) {v : Int32} (e : a = (0, v, w)) : Φ (.inl (some (.int v))) M0 := by
  subst e
  exact h _ (hF.mono QR.f) hI t0
section SRQ
variable {l : Launch} {G : Gx} {d : Nat} {bc bs : Nat} {Φ : OutV → Mm → Prop}
theorem ct_bad0 (M : Mm) (x2 : Int32) (hS : RS M) (t0 : m_i M 206 0 = 0) (h : Φ (.inl (some (.int 0))) M) : Ct l G d mRe_bad bc bs [.ref 206, .int 0, .int x2] M Φ := by
  refine Ct.of rfl (Nat.le_of_ble_eq_true rfl) ?_
  exact bRe_bad_0 M 206 _ _ ⟨fun _ => bRe_bad_16 M 206 _ _ ⟨hS.c, fun _ => h, fun z => absurd t0 z⟩, fun z => absurd rfl z⟩
theorem ct_bad1 (M : Mm) (x2 : Int32) (hS : RS M) (t0 : m_i M 206 0 = 0) (h2 : ¬ x2 = 0) (h : Φ (.inl (some (.int 1))) (m_si M 206 0 x2)) : Ct l G d mRe_bad bc bs [.ref 206, .int 1, .int x2] M Φ := by
  refine Ct.of rfl (Nat.le_of_ble_eq_true rfl) ?_
  refine bRe_bad_0 M 206 _ _ ⟨fun z => absurd z (by decide), fun _ => ⟨hS.c, fun z => absurd t0 z, fun _ => ?_⟩⟩
  refine bRe_bad_16 _ 206 _ _ ⟨hS.c, fun z => ?_, fun _ => h⟩
  rw [m_i_si, if_pos ⟨rfl, rfl⟩] at z
  exact absurd z h2
theorem nI_pred_lt {n : Nat} (hn : n < 2 ^ 31) {x : Int32} (hx : ¬ x < 0) : ¬ nI n - 1 < x ↔ x < nI n := by
  obtain ⟨v, v1, rfl⟩ := i32_nat hx
  cases n with
  | zero =>
    constructor
    · intro z
      exfalso
      apply z
      show nI 0 - 1 < nI v
      rw [Int32.lt_iff_toInt_lt, nI_toInt v1]
      show (-1 : Int) < v
      omega
    · intro z
      have := (nI_ltI (by omega) (by omega)).mp z
      omega
  | succ m =>
    rw [nI_pred, nI_ltI (by omega) (by omega), nI_ltI (by omega) (by omega)]
    omega
theorem if_eq01 {p q : Prop} (e : p ↔ q) {h1 : Decidable p} {h2 : Decidable q} {a b : Int32} : (if p then a else b) = if q then a else b := by
  by_cases z : p
  · rw [if_pos z, if_pos (e.mp z)]
  · rw [if_neg z, if_neg (fun y => z (e.mpr y))]
theorem ct_isPerson (M : Mm) (w : Wd) (hw : WOK w) (hI : RINV M w) (x : Int32) (hd : 0 < d) (h1 : pIn w x → Φ (.inl (some (.int 1))) M) (h0 : ¬ pIn w x → Φ (.inl (some (.int 0))) M) : Ct l G d mRe_isPerson bc bs [.ref 206, .int x] M Φ := by
  have n8 := hw.1
  refine Ct.of rfl (Nat.le_of_ble_eq_true rfl) ?_
  refine bRe_isPerson_0 M 206 _ ⟨hI.1.c, CallVC.cps0 hd ?_⟩
  refine ct_rIn M _ _ _ ?_
  rw [hI.2.1.1]
  by_cases z : ¬ x < 0 ∧ ¬ nI (w_n w) - 1 < x
  · rw [if_pos z]
    exact bRe_isPerson_11 M 206 _ _ ⟨by decide, h1 ⟨z.1, (nI_pred_lt (by omega) z.1).mp z.2⟩⟩
  · rw [if_neg z]
    exact bRe_isPerson_11 M 206 _ _ ⟨by decide, h0 (fun y => z ⟨y.1, (nI_pred_lt (by omega) y.1).mpr y.2⟩)⟩
theorem ct_inV (M : Mm) (k : Nat) (x : Int32) (h1 : vIn k x → Φ (.inl (some (.int 1))) M) (h0 : ¬ vIn k x → Φ (.inl (some (.int 0))) M) : Ct l G d mRe_in bc bs [.int x, .int 0, .int (nI k)] M Φ := by
  refine ct_rIn M _ _ _ ?_
  by_cases z : ¬ x < 0 ∧ ¬ nI k < x
  · rw [if_pos z]; exact h1 z
  · rw [if_neg z]; exact h0 z
/-- a DAY -/
theorem ct_day0W (M : Mm) (w : Wd) (hw : WOK w) (out : Nat) (ho : out < 1024) (pl : Option Nat) (pb : Int32) (tu : Option Nat) (tc : Int32) (tw : Nat) (wy : Nat → Nat) (hI : RIN M w out pl pb tu tc tw) (h1 : ∀ p, pl = some p → p < w_n w) (h2 : ∀ p, tu = some p → p < w_n w ∧ ¬ tc < 0 ∧ tw ≤ 4) (h3 : ∀ p, p < w_n w → wy p ≤ 4) (hwy : ∀ p, p < w_n w → m_i M 262 p = nI (wy p)) (hd : 5 < d)
    (h : ∀ M', FrS (fun a j => QD a j ∨ a = 261) M M' → RDs M' (dyW w out pl pb tu tc tw wy) → RDc M' (cW w out pl pb tu tc tw wy) (w_R w) out → Φ (.inl none) M') : Ct l G d mRe_day0 bc bs [.ref 206] M Φ := by
  obtain ⟨a1, a2, a3, a4, a5, a6, a7, a8⟩ := hI
  obtain ⟨hc, hs⟩ := cW_ok hw (out := out) (pb := pb) h1 h2 h3
  refine ct_day0 M (cW w out pl pb tu tc tw wy) hc hs (w_R w) out ho a4 a1 a3 hw.2.2.2.2.1 (fun M' hF hL => ?_) hd (fun M' hF hD hC hS => h M' hF hD hC)
  refine ⟨a1.fr hF, a2.fr hF (by omega) (fun p j hp => by omega), a3.fr hF (by omega) (fun j => by omega) (fun j => by omega) (fun j => by omega) (fun i j hi => by omega), hw.2.2.2.2.1, hL, fun _ => rfl, rfl, rfl, by rw [hF.1 _ _ (by omega)]; exact a5, fun p hp => by rw [hF.1 _ _ (by omega)]; exact a6 p hp, by rw [hF.1 _ _ (by omega)]; exact a7, fun p hp => by rw [hF.1 _ _ (by omega), hF.1 _ _ (by omega)]; exact a8 p hp, fun p hp => by rw [hF.1 _ _ (by omega)]; exact hwy p hp⟩
def QY : Nat → Nat → Prop := fun a j => QD a j ∨ a = 261 ∨ a = 262
theorem QY.r : ∀ a j, QY a j → QR a j := fun a j h => by unfold QY QD at h; unfold QR; omega
theorem ct_asItIsW (M : Mm) (w : Wd) (hw : WOK w) (out : Nat) (ho : out < 1024) (pl : Option Nat) (pb : Int32) (tu : Option Nat) (tc : Int32) (tw : Nat) (hI : RIN M w out pl pb tu tc tw) (h1 : ∀ p, pl = some p → p < w_n w) (h2 : ∀ p, tu = some p → p < w_n w ∧ ¬ tc < 0 ∧ tw ≤ 4) (hd : 6 < d)
    (h : ∀ M', FrS QY M M' → RDs M' (dyW w out pl pb tu tc tw (fun p => w_F w p 5)) → RDc M' (cW w out pl pb tu tc tw (fun p => w_F w p 5)) (w_R w) out → Φ (.inl none) M') : Ct l G d mRe_asItIs bc bs [.ref 206] M Φ := by
  obtain ⟨a1, a2, a3, a4, a5, a6, a7, a8⟩ := id hI
  have n8 := hw.1
  refine Ct.of rfl (Nat.le_of_ble_eq_true rfl) ?_
  refine bRe_asItIs_0 M 206 ⟨a1.c, CallVC.cps0 (by omega) (ct_layWays M a1 (fun M1 hF1 hy1 => ?_))⟩
  refine bRe_asItIs_4 M1 206 ⟨(a1.fr hF1).c, CallVC.cps0 (by omega) ?_⟩
  refine ct_day0W M1 w hw out ho pl pb tu tc tw (fun p => w_F w p 5) ⟨a1.fr hF1, a2.fr hF1 (by omega) (fun p j hp => by omega), a3.fr hF1 (by omega) (fun j => by omega) (fun j => by omega) (fun j => by omega) (fun i j hi => by omega), by rw [hF1.1 _ _ (by omega)]; exact a4, by rw [hF1.1 _ _ (by omega)]; exact a5, fun p hp => by rw [hF1.1 _ _ (by omega)]; exact a6 p hp, by rw [hF1.1 _ _ (by omega)]; exact a7, fun p hp => by rw [hF1.1 _ _ (by omega), hF1.1 _ _ (by omega)]; exact a8 p hp⟩ h1 h2 (fun p hp => (hw.2.1 p hp).2.2.2.2.2.1) (fun p hp => by rw [hy1 p (by omega)]; exact a2.2.2 p 5 hp (by omega)) (by omega) (fun M2 hF2 hD2 hC2 => ?_)
  exact bRe_asItIs_8 M2 206 (h M2 ((hF1.mono (fun a j q => Or.inr (Or.inr q))).tr (hF2.mono (fun a j q => q.elim Or.inl (fun z => Or.inr (Or.inl z))))) hD2 hC2)
end SRQ
