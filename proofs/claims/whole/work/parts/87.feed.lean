/-! ===== the tape ===== -/
def byt (v : Int32) (j : Nat) : Nat := v.toBitVec.toNat / 2 ^ (24 - 8 * j) % 256
def sel5 (a b c d e : Int32) (k : Nat) : Int32 := if k < 4 then a else if k < 8 then b else if k < 12 then c else if k < 16 then d else e
def fedN (w : Wd) (a b c d e : Int32) : Nat → Nat := fun i => if w_T w ≤ i ∧ i < w_T w + 20 then byt (sel5 a b c d e (i - w_T w)) ((i - w_T w) % 4) else w_tp w i
def aFeed (w : Wd) (a b c d e : Int32) : An := if 500 < w_T w + 20 then (0, -1, w) else (0, nI (w_T w + 20), ws_T w (w_T w + 20) (fedN w a b c d e))
theorem byt_lt (v : Int32) (j : Nat) : byt v j < 256 := Nat.mod_lt _ (by omega)
theorem shr_b (v s : Int32) (k : Nat) (hs : (s.toBitVec.smod 32).toNat = k) (hk : k = 24 ∨ k = 16 ∨ k = 8 ∨ k = 0) : (v >>> s) &&& 255 = nI (v.toBitVec.toNat / 2 ^ k % 256) := by
  rw [pk_and (v >>> s) 8 (by decide)]
  congr 1
  have h1 := pk_shr v s k hs
  have e1 : (v >>> s).toInt = (v >>> s).toBitVec.toInt := rfl
  have e2 : v.toInt = v.toBitVec.toInt := rfl
  rw [e1, e2, BitVec.toInt_eq_toNat_cond, BitVec.toInt_eq_toNat_cond, Int.shiftRight_eq_div_pow] at h1
  have b1 := (v >>> s).toBitVec.isLt
  have b2 := v.toBitVec.isLt
  generalize (v >>> s).toBitVec.toNat = X at *
  generalize v.toBitVec.toNat = N at *
  rcases hk with rfl | rfl | rfl | rfl <;> split at h1 <;> split at h1 <;> omega
theorem nar_b (u : Int32) : vp_nar .byte (u.toInt8.toInt32) = sb (u.toBitVec.toNat % 256) := by
  have e : u.toInt8 = Int8.ofNat (u.toBitVec.toNat % 256) := by
    apply Int8.toBitVec_inj.mp
    apply BitVec.eq_of_toNat_eq
    show (u.toBitVec.signExtend 8).toNat = (BitVec.ofNat 8 (u.toBitVec.toNat % 256)).toNat
    rw [BitVec.signExtend_eq_setWidth_of_le _ (by omega), BitVec.toNat_setWidth, BitVec.toNat_ofNat]
    omega
  have h : ∀ b, b < 256 → vp_nar .byte ((Int8.ofNat b).toInt32) = sb b := by decide +kernel
  rw [e]
  exact h _ (Nat.mod_lt _ (by omega))
theorem ushr_b (x s : Int32) (k : Nat) (hs : ((s.toUInt32 &&& Int32.toUInt32 31).toBitVec % 32).toNat = k) : vp_nar .byte (((x.toUInt32 >>> (s.toUInt32 &&& Int32.toUInt32 31)).toInt32).toInt8.toInt32) = sb (x.toBitVec.toNat / 2 ^ k % 256) := by
  rw [nar_b, pk_ushr x s k hs]
section SFD
variable {l : Launch} {G : Gx} {d : Nat} {bc bs : Nat} {Φ : OutV → Mm → Prop}
theorem ct_r_feed (M : Mm) (w : Wd) (hw : WOK w) (hI : RINV M w) (a b c e f : Int32) (h : RPost M (aFeed w a b c e f) Φ) : Ct l G d mRe_feed bc bs [.ref 206, .int a, .int b, .int c, .int e, .int f] M Φ := by
  refine Ct.of rfl (Nat.le_of_ble_eq_true rfl) ?_
  have n8 := hw.1
  obtain ⟨hF0, hI0, t0⟩ := hI.t0 hw
  have hS0 := hI0.1
  have hT := hw.2.2.2.2.2.1
  have e1 := hI0.2.2.2.2.1.1
  refine bRe_feed_0 _ _ _ _ _ _ _ ⟨hI.1.c, ?_⟩
  have eT : nI (w_T w) + 20 ≤ 500 ↔ w_T w + 20 ≤ 500 := by rw [show (20 : Int32) = nI 20 from rfl, nI_add]; exact nI_leI (b := 500) (by omega) (by omega)
  rw [e1, eT]
  generalize m_si M 206 0 0 = M0 at *
  refine ⟨fun z => ?_, fun z => h.done hw hF0 hI0 t0 (if_pos (by omega))⟩
  have ha : aFeed w a b c e f = (0, nI (w_T w + 20), ws_T w (w_T w + 20) (fedN w a b c e f)) := if_neg (by omega)
  rw [ha] at h
  obtain ⟨a1, a2, a3, a4, a5, a6, a7, a8, a9⟩ := id hI0
  have hsh : ∀ k, k < 20 → (((24 - (8 * (nI k - nI k / 4 * 4))) &&& 31 : Int32).toBitVec.smod 32).toNat = 24 - 8 * (k % 4) := by decide +kernel
  have loop : ∀ n k (u7 : Value) M', k + n = 20 → FrS (fun a j => a = 207 ∨ (a = 206 ∧ j = 1)) M0 M' → m_i M' 206 1 = nI (w_T w + k) → (∀ i, i < w_T w + k → m_i M' 207 i = nI (fedN w a b c e f i)) → Ev l G d mRe_feed 23 [.ref 206, .int a, .int b, .int c, .int e, .int f, .int (nI k), u7] [] M' bc bs Φ := by
    intro n
    induction n with
    | zero =>
      intro k u7 M' hk hF h1 hf
      obtain rfl : k = 20 := by omega
      refine bRe_feed_23 _ _ _ _ _ _ _ _ _ ⟨fun _ => ⟨(hS0.fr hF).c, ?_⟩, fun z => absurd (nI_le (a := 20) (Nat.le_refl _) (by omega)) z⟩
      rw [h1]
      refine h M' ((hF0.mono QR.f).tr (hF.mono (fun a j q => by unfold RF; omega))) ?_ (by rw [hF.1 _ _ (by omega)]; exact t0)
      exact ⟨a1.fr hF, a2.fr hF (by omega) (fun p j hp => by omega), a3.fr hF (by omega) (fun j => by omega) (fun j => by omega) (fun j => by omega) (fun i j hi => by omega), ⟨by rw [hF.1 _ _ (by omega)]; exact a4.1, by rw [hF.1 _ _ (by omega)]; exact a4.2.1, by rw [hF.1 _ _ (by omega)]; exact a4.2.2⟩, ⟨h1, hf⟩, by rw [hF.1 _ _ (by omega)]; exact a6, ⟨by rw [hF.1 _ _ (by omega)]; exact a7.1, fun j hj => by rw [hF.1 _ _ (by omega)]; exact a7.2 j hj⟩, by rw [hF.1 _ _ (by omega)]; exact a8, fun i hi2 => (a9 i hi2).fr hF (fun j => by omega)⟩
    | succ n ih =>
      intro k u7 M' hk hF h1 hf
      have hS' := hS0.fr hF
      have step : ∀ v, v = sel5 a b c e f k → (m_sh M' 206).1 = 11 ∧ (m_sh M' (m_r M' 206 9)).1 = 20 ∧ vp_in (m_i M' 206 1) (m_sh M' (m_r M' 206 9)).2 ∧ Ev l G d mRe_feed 114 [.ref 206, .int a, .int b, .int c, .int e, .int f, .int (nI k), .int v] [] (m_si (m_si M' (m_r M' 206 9) (m_i M' 206 1).toNatClampNeg ((v >>> ((24 - (8 * (nI k - nI k / 4 * 4))) &&& 31)) &&& 255)) 206 1 ((m_i (m_si M' (m_r M' 206 9) (m_i M' 206 1).toNatClampNeg ((v >>> ((24 - (8 * (nI k - nI k / 4 * 4))) &&& 31)) &&& 255)) 206 1) + 1)) bc bs Φ := fun v ev => by
        rw [h1, hS'.r_fed, hS'.s_fed, nI_clamp (by omega), shr_b v _ _ (hsh k (by omega)) (by omega)]
        refine ⟨hS'.c, rfl, vp_in_nI (by omega) (by omega), ?_⟩
        rw [m_i_si, if_neg (by omega), h1, nI_1]
        refine bRe_feed_114 _ _ _ _ _ _ _ _ _ ?_
        rw [nI_1]
        refine ih (k + 1) _ _ (by omega) ((hF.tr (FrS.si (Or.inl rfl) _)).tr (FrS.si (Or.inr ⟨rfl, rfl⟩) _)) (by rw [m_i_si, if_pos ⟨rfl, rfl⟩]; rfl) (fun i hi => ?_)
        rw [m_i_si, if_neg (by omega), m_i_si]
        by_cases z2 : i = w_T w + k
        · rw [if_pos ⟨rfl, z2⟩]
          unfold fedN
          rw [if_pos (by omega), show i - w_T w = k by omega, ← ev]
          rfl
        · rw [if_neg (fun q => z2 q.2)]; exact hf i (by omega)
      have c20 : ∀ j, j ≤ 20 → (nI j ≤ nI k ↔ j ≤ k) := fun j hj => nI_leI (by omega) (by omega)
      refine bRe_feed_23 _ _ _ _ _ _ _ _ _ ⟨fun z => absurd z (nI_not_le (b := 20) (by omega) (by omega)), fun _ => ⟨fun z4 => ⟨fun z8 => ⟨fun z12 => ⟨fun z16 => step f ?_, fun z16 => step e ?_⟩, fun z12 => step c ?_⟩, fun z8 => step b ?_⟩, fun z4 => step a ?_⟩⟩
      · have := (c20 16 (by omega)).mp z16
        unfold sel5; rw [if_neg (by omega), if_neg (by omega), if_neg (by omega), if_neg (by omega)]
      · have := (c20 12 (by omega)).mp z12
        have : ¬ 16 ≤ k := fun q => z16 ((c20 16 (by omega)).mpr q)
        unfold sel5; rw [if_neg (by omega), if_neg (by omega), if_neg (by omega), if_pos (by omega)]
      · have := (c20 8 (by omega)).mp z8
        have : ¬ 12 ≤ k := fun q => z12 ((c20 12 (by omega)).mpr q)
        unfold sel5; rw [if_neg (by omega), if_neg (by omega), if_pos (by omega)]
      · have := (c20 4 (by omega)).mp z4
        have : ¬ 8 ≤ k := fun q => z8 ((c20 8 (by omega)).mpr q)
        unfold sel5; rw [if_neg (by omega), if_pos (by omega)]
      · have : ¬ 4 ≤ k := fun q => z4 ((c20 4 (by omega)).mpr q)
        unfold sel5; rw [if_pos (by omega)]
  refine loop 20 0 _ M0 (by omega) (FrS.rf _ _) a5.1 (fun i hi => ?_)
  unfold fedN
  rw [if_neg (by omega)]
  exact a5.2 i hi
theorem ct_putOnTape (M : Mm) (hC : CS0 M) (T : Nat) (hT : T + 4 ≤ 500) (h1 : m_i M 100 1 = nI T) (v : Int32) (h : ∀ M', FrS (fun a j => a = 101 ∨ (a = 100 ∧ j = 1)) M M' → m_i M' 100 1 = nI (T + 4) → (∀ i, m_i M' 101 i = if T ≤ i ∧ i < T + 4 then sb (byt v (i - T)) else m_i M 101 i) → Φ (.inl none) M') : Ct l G d mBo_putOnTape bc bs [.ref 100, .int v] M Φ := by
  refine Ct.of rfl (Nat.le_of_ble_eq_true rfl) ?_
  refine bBo_putOnTape_0 _ _ _ ?_
  have hus : ∀ k, k < 4 → ((Int32.toUInt32 (nI (24 - 8 * k)) &&& Int32.toUInt32 31).toBitVec % 32).toNat = 24 - 8 * k := by decide +kernel
  have hend : ∀ (x2 : Int32) M', x2 < 0 → FrS (fun a j => a = 101 ∨ (a = 100 ∧ j = 1)) M M' → m_i M' 100 1 = nI (T + 4) → (∀ i, m_i M' 101 i = if T ≤ i ∧ i < T + 4 then sb (byt v (i - T)) else m_i M 101 i) → Ev l G d mBo_putOnTape 3 [.ref 100, .int v, .int x2] [] M' bc bs Φ := fun x2 M' hx hF e1 ei => bBo_putOnTape_3 _ _ _ _ ⟨fun _ => h M' hF e1 ei, fun z => absurd hx z⟩
  have loop : ∀ n k M', k + n = 4 → FrS (fun a j => a = 101 ∨ (a = 100 ∧ j = 1)) M M' → m_i M' 100 1 = nI (T + k) → (∀ i, m_i M' 101 i = if T ≤ i ∧ i < T + k then sb (byt v (i - T)) else m_i M 101 i) → 0 < n → Ev l G d mBo_putOnTape 3 [.ref 100, .int v, .int (nI (24 - 8 * k))] [] M' bc bs Φ := by
    intro n
    induction n with
    | zero => intro k M' _ _ _ _ h0; omega
    | succ n ih =>
      intro k M' hk hF e1 ei _
      have hC' : CS0 M' := hC.ag (fun a j _ _ _ => hF.2.1 a j) (fun a _ _ => hF.2.2.2.1 a)
      have r0 : m_r M' 100 0 = 101 := hC'.2.1
      have s0 : m_sh M' 101 = (21, 500) := hC'.2.2.1
      have e500 : (500 : Int32) ≤ nI (T + k) ↔ 500 ≤ T + k := nI_leI (a := 500) (by omega) (by omega)
      refine bBo_putOnTape_3 _ _ _ _ ⟨fun z => absurd z (nI_pos (by omega)), fun _ => ⟨hC'.1, ?_⟩⟩
      rw [e1, e500, r0, s0, nI_clamp (by omega), ushr_b v _ _ (hus k (by omega))]
      refine ⟨fun z => by omega, fun _ => ⟨rfl, vp_in_nI (by omega) (by omega), ?_⟩⟩
      rw [m_i_si, if_neg (by omega), e1, nI_1]
      refine bBo_putOnTape_40 _ _ _ _ ?_
      have hF2 : FrS (fun a j => a = 101 ∨ (a = 100 ∧ j = 1)) M (m_si (m_si M' 101 (T + k) (sb (v.toBitVec.toNat / 2 ^ (24 - 8 * k) % 256))) 100 1 (nI (T + k + 1))) := (hF.tr (FrS.si (Or.inl rfl) _)).tr (FrS.si (Or.inr ⟨rfl, rfl⟩) _)
      have g1 : m_i (m_si (m_si M' 101 (T + k) (sb (v.toBitVec.toNat / 2 ^ (24 - 8 * k) % 256))) 100 1 (nI (T + k + 1))) 100 1 = nI (T + (k + 1)) := by rw [m_i_si, if_pos ⟨rfl, rfl⟩]; rfl
      have gi : ∀ i, m_i (m_si (m_si M' 101 (T + k) (sb (v.toBitVec.toNat / 2 ^ (24 - 8 * k) % 256))) 100 1 (nI (T + k + 1))) 101 i = if T ≤ i ∧ i < T + (k + 1) then sb (byt v (i - T)) else m_i M 101 i := fun i => by
        rw [m_i_si, if_neg (by omega), m_i_si]
        by_cases z : i = T + k
        · rw [if_pos ⟨rfl, z⟩, if_pos (by omega), show i - T = k by omega]
          rfl
        · rw [if_neg (fun q => z q.2), ei i]
          by_cases y : T ≤ i ∧ i < T + k
          · rw [if_pos y, if_pos (show T ≤ i ∧ i < T + (k + 1) by omega)]
          · rw [if_neg y, if_neg (show ¬ (T ≤ i ∧ i < T + (k + 1)) by omega)]
      generalize m_si (m_si M' 101 (T + k) (sb (v.toBitVec.toNat / 2 ^ (24 - 8 * k) % 256))) 100 1 (nI (T + k + 1)) = M2 at *
      by_cases z3 : k = 3
      · subst z3
        exact hend _ M2 (by decide) hF2 g1 gi
      · have e8 : nI (24 - 8 * k) + (-8) = nI (24 - 8 * (k + 1)) := by
          have : ∀ k, k < 3 → nI (24 - 8 * k) + (-8) = nI (24 - 8 * (k + 1)) := by decide +kernel
          exact this k (by omega)
        rw [e8]
        exact ih (k + 1) M2 (by omega) hF2 g1 gi (by omega)
  refine loop 4 0 M (by omega) (FrS.rf _ _) h1 (fun i => ?_) (by omega)
  rw [if_neg (by omega)]
theorem ct_c_feed (M : Mm) (w : Wd) (hw : WOK w) {P A E len : Nat} (hI : CINV M w P A E len) (a b c e f : Int32) (ex : Nat → String) (hd : 0 < d) (h : CPost M len (aFeed w a b c e f) ex Φ) : Ct l G d mBo_feed bc bs [.ref 100, .int a, .int b, .int c, .int e, .int f] M Φ := by
  have hT := hw.2.2.2.2.2.1
  have c0 := hI.1.1
  obtain ⟨⟨e1, et⟩, e3⟩ := hI.2.2.2.2.2.2.2.2.1
  refine Ct.of rfl (Nat.le_of_ble_eq_true rfl) ?_
  refine bBo_feed_0 _ _ _ _ _ _ _ ⟨c0.1, ?_⟩
  have eT : nI (w_T w) + 20 ≤ 500 ↔ w_T w + 20 ≤ 500 := by rw [show (20 : Int32) = nI 20 from rfl, nI_add]; exact nI_leI (b := 500) (by omega) (by omega)
  rw [e1, eT]
  refine ⟨fun z => CallVC.cps0 hd ?_, fun z => h.done (KR.rf M) hI (if_pos (by omega))⟩
  have ha : aFeed w a b c e f = (0, nI (w_T w + 20), ws_T w (w_T w + 20) (fedN w a b c e f)) := if_neg (by omega)
  rw [ha] at h
  refine ct_putOnTape M c0 (w_T w) (by omega) e1 a (fun M1 hF1 k1 i1 => ?_)
  have c1 : CS0 M1 := c0.ag (fun a j _ _ _ => hF1.2.1 a j) (fun a _ _ => hF1.2.2.2.1 a)
  refine bBo_feed_20 _ _ _ _ _ _ _ ⟨c1.1, CallVC.cps0 hd (ct_putOnTape M1 c1 (w_T w + 4) (by omega) k1 b (fun M2 hF2 k2 i2 => ?_))⟩
  have c2 : CS0 M2 := c1.ag (fun a j _ _ _ => hF2.2.1 a j) (fun a _ _ => hF2.2.2.2.1 a)
  refine bBo_feed_25 _ _ _ _ _ _ _ ⟨c2.1, CallVC.cps0 hd (ct_putOnTape M2 c2 (w_T w + 4 + 4) (by omega) k2 c (fun M3 hF3 k3 i3 => ?_))⟩
  have c3 : CS0 M3 := c2.ag (fun a j _ _ _ => hF3.2.1 a j) (fun a _ _ => hF3.2.2.2.1 a)
  refine bBo_feed_30 _ _ _ _ _ _ _ ⟨c3.1, CallVC.cps0 hd (ct_putOnTape M3 c3 (w_T w + 4 + 4 + 4) (by omega) k3 e (fun M4 hF4 k4 i4 => ?_))⟩
  have c4 : CS0 M4 := c3.ag (fun a j _ _ _ => hF4.2.1 a j) (fun a _ _ => hF4.2.2.2.1 a)
  refine bBo_feed_36 _ _ _ _ _ _ _ ⟨c4.1, CallVC.cps0 hd (ct_putOnTape M4 c4 (w_T w + 4 + 4 + 4 + 4) (by omega) k4 f (fun M5 hF5 k5 i5 => ?_))⟩
  have hF : FrS (fun a j => a = 101 ∨ (a = 100 ∧ j = 1)) M M5 := (((hF1.tr hF2).tr hF3).tr hF4).tr hF5
  refine bBo_feed_42 _ _ _ _ _ _ _ ⟨by rw [hF.2.2.2.1]; exact c0.1, ?_⟩
  rw [k5, show w_T w + 4 + 4 + 4 + 4 + 4 = w_T w + 20 by omega]
  have hcd : CDY M5 (ws_T w (w_T w + 20) (fedN w a b c e f)) P A E len := (hI.cd.fr hw hF (fun a j q => by omega)).cg
  refine (h M5 P A E (KR.of (FrX.of (Q := fun _ _ => False) hF) (fun a j q => by omega) (fun a j q => q.elim)) (hcd.inv ⟨⟨by rw [k5]; rfl, fun i hi => ?_⟩, by rw [hF.1 _ _ (by omega)]; exact e3⟩ (CSv.ag (w := w) hw hI.2.2.2.2.2.2.2.2.2 (hF.1 _ _ (by omega)) (hF.1 _ _ (by omega)) (fun a h1 h2 j => hF.1 a j (by omega))))).1 rfl
  replace hi : i < w_T w + 20 := hi
  show _ = sb (fedN w a b c e f i)
  unfold fedN sel5
  rw [i5]
  by_cases z5 : w_T w + 4 + 4 + 4 + 4 ≤ i ∧ i < w_T w + 4 + 4 + 4 + 4 + 4
  · rw [if_pos z5, if_pos (by omega), if_neg (by omega), if_neg (by omega), if_neg (by omega), if_neg (by omega), show (i - w_T w) % 4 = i - (w_T w + 4 + 4 + 4 + 4) by omega]
  · rw [if_neg z5, i4]
    by_cases z4 : w_T w + 4 + 4 + 4 ≤ i ∧ i < w_T w + 4 + 4 + 4 + 4
    · rw [if_pos z4, if_pos (by omega), if_neg (by omega), if_neg (by omega), if_neg (by omega), if_pos (by omega), show (i - w_T w) % 4 = i - (w_T w + 4 + 4 + 4) by omega]
    · rw [if_neg z4, i3]
      by_cases z3 : w_T w + 4 + 4 ≤ i ∧ i < w_T w + 4 + 4 + 4
      · rw [if_pos z3, if_pos (by omega), if_neg (by omega), if_neg (by omega), if_pos (by omega), show (i - w_T w) % 4 = i - (w_T w + 4 + 4) by omega]
      · rw [if_neg z3, i2]
        by_cases z2 : w_T w + 4 ≤ i ∧ i < w_T w + 4 + 4
        · rw [if_pos z2, if_pos (by omega), if_neg (by omega), if_pos (by omega), show (i - w_T w) % 4 = i - (w_T w + 4) by omega]
        · rw [if_neg z2, i1]
          by_cases z1 : w_T w ≤ i ∧ i < w_T w + 4
          · rw [if_pos z1, if_pos (by omega), if_pos (by omega), show (i - w_T w) % 4 = i - w_T w by omega]
          · rw [if_neg z1, if_neg (by omega)]
            exact et i (by omega)
end SFD
