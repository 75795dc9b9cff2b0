/-! ===== Tokens: a text is cut ===== -/
/-- the token at index i is the one that begins at p -/
def TKp (M : Mm) (n : Nat) (tp : Nat → Nat) (i p : Nat) : Prop := m_i M 105 i = nI p ∧ m_i M 103 i = nI (tk n tp p) ∧ (tk n tp p = 1 → m_i M 104 i = nI (cvl n tp p)) ∧ (tk n tp p = 3 → m_i M 104 i = sb (tp p)) ∧ (tk n tp p = 2 → m_r M 106 i = tw n tp p)
theorem TKp.fx {M M' : Mm} {n : Nat} {tp : Nat → Nat} {i p : Nat} {X Y : Nat → Nat → Prop} (h : TKp M n tp i p) (hF : FrX X Y M M') (h3 : ¬ X 103 i) (h4 : ¬ X 104 i) (h5 : ¬ X 105 i) (h6 : ¬ Y 106 i) : TKp M' n tp i p := by
  unfold TKp
  rw [hF.1 _ _ h3, hF.1 _ _ h4, hF.1 _ _ h5, hF.2.1 _ _ h6]
  exact h
def XC (s : Nat) : Nat → Nat → Prop := fun a j => (a = 102 ∧ j = 4) ∨ ((a = 103 ∨ a = 104 ∨ a = 105) ∧ j = s)
def YC (s : Nat) : Nat → Nat → Prop := fun a j => a = 106 ∧ j = s
theorem TKok.fx {M M' : Mm} {X Y : Nat → Nat → Prop} (h : TKok M 102) (hF : FrX X Y M M') (hY : ∀ j, ¬ Y 102 j) : TKok M' 102 := h.ag (fun j => hF.2.1 _ _ (hY j)) (fun a _ _ => hF.2.2.2.1 a)
section CUT
variable {l : Launch} {G : Gx} {d : Nat} {bc bs : Nat} {Φ : OutV → Mm → Prop}
theorem cut_num (M : Mm) (n : Nat) (tp : Nat → Nat) (hn : n ≤ 500) (hs : m_sh M 101 = (21, 500)) (hb : ∀ i, i < n → m_i M 101 i = sb (tp i) ∧ tp i < 256) (x3 : Int32) (hd : 4 < d) : ∀ q v, v < 100000 → q ≤ n →
    Ev l G d mTo_cutOne 75 [.ref 102, .ref 101, .int (nI n), .int x3, .int (nI (rn n tp isd q)), .int (nI (nvF tp (rn n tp isd q - q) q v))] [] M bc bs Φ → Ev l G d mTo_cutOne 25 [.ref 102, .ref 101, .int (nI n), .int x3, .int (nI q), .int (nI v)] [] M bc bs Φ := by
  refine rn_ind (n := n) (tp := tp) (q := isd) (fun q hq v hv hqn h => ?_) (fun q hq hnd v hv hqn h => ?_) (fun q hq hdq ih v hv hqn h => ?_)
  · rw [rn_end hq, Nat.sub_self] at h
    exact bTo_cutOne_25 M _ _ _ _ _ _ ⟨fun _ => h, fun c => absurd (nI_le hq (by omega)) c⟩
  · rw [rn_no hnd, Nat.sub_self] at h
    refine bTo_cutOne_25 M _ _ _ _ _ _ ⟨fun c => absurd c (nI_not_le hq (by omega)), fun _ => ⟨by rw [hs], by rw [hs]; exact vp_in_nI (by omega) (by omega), CallVC.cps0 (by omega) ?_⟩⟩
    rw [nI_clamp (by omega), (hb q hq).1]
    refine ct_isDigit M _ (hb q hq).2 ?_
    rw [if_neg hnd]
    exact bTo_cutOne_38 M _ _ _ _ _ _ _ ⟨fun _ => h, fun c => absurd rfl c⟩
  · rw [rn_yes hq hdq] at h
    obtain ⟨k, hk⟩ : ∃ k, rn n tp isd (q + 1) - q = k + 1 := ⟨rn n tp isd (q + 1) - q - 1, by have := rn_ge (n := n) (tp := tp) (q := isd) (q + 1); omega⟩
    rw [hk] at h
    have hk2 : rn n tp isd (q + 1) - (q + 1) = k := by omega
    rw [hk2] at ih
    have hdd := isd_lt hdq
    refine bTo_cutOne_25 M _ _ _ _ _ _ ⟨fun c => absurd c (nI_not_le hq (by omega)), fun _ => ⟨by rw [hs], by rw [hs]; exact vp_in_nI (by omega) (by omega), CallVC.cps0 (by omega) ?_⟩⟩
    rw [nI_clamp (by omega), (hb q hq).1]
    refine ct_isDigit M _ (hb q hq).2 ?_
    rw [if_pos hdq]
    refine bTo_cutOne_38 M _ _ _ _ _ _ _ ⟨fun c => absurd c (by decide), fun _ => ⟨fun c => ⟨by rw [hs], by rw [hs]; exact vp_in_nI (by omega) (by omega), ?_⟩, fun c => ?_⟩⟩
    · have c' : v ≤ 9999 := (nI_leI (a := v) (b := 9999) (by omega) (by omega)).mp c
      rw [nI_1, nI_clamp (by omega), (hb q hq).1, sb_l (by omega), show nI v * 10 + nI (tp q) - 48 = nI (v * 10 + tp q - 48) by
        rw [show (10 : Int32) = nI 10 from rfl, pk_mul, nI_add, show (48 : Int32) = nI 48 from rfl, pk_sub (by omega)]]
      refine ih _ (by omega) (by omega) ?_
      have h' : Ev l G d mTo_cutOne 75 [.ref 102, .ref 101, .int (nI n), .int x3, .int (nI (rn n tp isd (q + 1))), .int (nI (nvF tp k (q + 1) (if 9999 < v then v else v * 10 + tp q - 48)))] [] M bc bs Φ := h
      rw [if_neg (by omega)] at h'
      exact h'
    · have c' : ¬ v ≤ 9999 := fun z => c ((nI_leI (a := v) (b := 9999) (by omega) (by omega)).mpr z)
      rw [nI_1]
      refine ih _ hv (by omega) ?_
      have h' : Ev l G d mTo_cutOne 75 [.ref 102, .ref 101, .int (nI n), .int x3, .int (nI (rn n tp isd (q + 1))), .int (nI (nvF tp k (q + 1) (if 9999 < v then v else v * 10 + tp q - 48)))] [] M bc bs Φ := h
      rw [if_pos (by omega)] at h'
      exact h'
theorem cut_let (M : Mm) (n : Nat) (tp : Nat → Nat) (hn : n ≤ 500) (hs : m_sh M 101 = (21, 500)) (hb : ∀ i, i < n → m_i M 101 i = sb (tp i) ∧ tp i < 256) (x3 : Int32) (u : Value) (hd : 4 < d) : ∀ q, q ≤ n →
    Ev l G d mTo_cutOne 130 [.ref 102, .ref 101, .int (nI n), .int x3, .int (nI (rn n tp isl q)), u] [] M bc bs Φ → Ev l G d mTo_cutOne 108 [.ref 102, .ref 101, .int (nI n), .int x3, .int (nI q), u] [] M bc bs Φ := by
  refine rn_ind (n := n) (tp := tp) (q := isl) (fun q hq hqn h => ?_) (fun q hq hnd hqn h => ?_) (fun q hq hdq ih hqn h => ?_)
  · rw [rn_end hq] at h
    exact bTo_cutOne_108 M _ _ _ _ _ _ ⟨fun _ => h, fun c => absurd (nI_le hq (by omega)) c⟩
  · rw [rn_no hnd] at h
    refine bTo_cutOne_108 M _ _ _ _ _ _ ⟨fun c => absurd c (nI_not_le hq (by omega)), fun _ => ⟨by rw [hs], by rw [hs]; exact vp_in_nI (by omega) (by omega), CallVC.cps0 (by omega) ?_⟩⟩
    rw [nI_clamp (by omega), (hb q hq).1]
    refine ct_isLetter M _ (hb q hq).2 ?_
    rw [if_neg hnd]
    exact bTo_cutOne_121 M _ _ _ _ _ _ _ ⟨fun _ => h, fun c => absurd rfl c⟩
  · rw [rn_yes hq hdq] at h
    refine bTo_cutOne_108 M _ _ _ _ _ _ ⟨fun c => absurd c (nI_not_le hq (by omega)), fun _ => ⟨by rw [hs], by rw [hs]; exact vp_in_nI (by omega) (by omega), CallVC.cps0 (by omega) ?_⟩⟩
    rw [nI_clamp (by omega), (hb q hq).1]
    refine ct_isLetter M _ (hb q hq).2 ?_
    rw [if_pos hdq]
    refine bTo_cutOne_121 M _ _ _ _ _ _ _ ⟨fun c => absurd c (by decide), fun _ => ?_⟩
    rw [nI_1]
    exact ih hq h
theorem ct_cutOne (M : Mm) (n : Nat) (tp : Nat → Nat) (hn : n ≤ 500) (hT : TKok M 102) (hs : m_sh M 101 = (21, 500)) (hb : ∀ i, i < n → m_i M 101 i = sb (tp i) ∧ tp i < 256) (s p : Nat) (hp : p < n) (hsp : s ≤ p) (h4 : m_i M 102 4 = nI s) (hd : 4 < d)
    (h : ∀ M', FrX (XC s) (YC s) M M' → m_i M' 102 4 = nI (s + 1) → TKp M' n tp s p → Φ (.inl (some (.int (nI (te n tp p))))) M') : Ct l G d mTo_cutOne bc bs [.ref 102, .ref 101, .int (nI n), .int (nI p)] M Φ := by
  obtain ⟨t0, t1, t2, t3, t4, s1, s2, s3, s4⟩ := id hT
  have ec : (nI s).toNatClampNeg = s := nI_clamp (by omega)
  have ep : (nI p).toNatClampNeg = p := nI_clamp (by omega)
  have hin : vp_in (nI s) 501 := vp_in_nI (by omega) (by omega)
  refine Ct.of rfl (Nat.le_of_ble_eq_true rfl) (bTo_cutOne_0 M _ _ _ _ ⟨t0, by rw [t3, s3], by rw [t3, s3, h4]; exact hin, by rw [hs], by rw [hs]; exact vp_in_nI (by omega) (by omega), CallVC.cps0 (by omega) ?_⟩)
  rw [t3, h4, ec, ep]
  show Ct l G _ _ _ _ [.int (m_i (m_si M 105 s (nI p)) 101 p)] (m_si M 105 s (nI p)) _
  have F1 : FrX (XC s) (YC s) M (m_si M 105 s (nI p)) := FrX.of (FrS.si (Or.inr ⟨Or.inr (Or.inr rfl), rfl⟩) _)
  have g5 : m_i (m_si M 105 s (nI p)) 105 s = nI p := by rw [m_i_si, if_pos ⟨rfl, rfl⟩]
  have g4 : m_i (m_si M 105 s (nI p)) 102 4 = nI s := by rw [m_i_si, if_neg (by omega)]; exact h4
  generalize m_si M 105 s (nI p) = M1 at F1 g5 g4 ⊢
  have hb1 : ∀ i, i < n → m_i M1 101 i = sb (tp i) ∧ tp i < 256 := fun i hi => by
    rw [F1.1 101 i (by unfold XC; omega)]; exact hb i hi
  have hs1 : m_sh M1 101 = (21, 500) := by rw [F1.2.2.2.1]; exact hs
  have hT1 : TKok M1 102 := hT.fx F1 (fun j => by unfold YC; omega)
  obtain ⟨t0, t1, t2, t3, t4, s1, s2, s3, s4⟩ := id hT1
  have htn : ¬ n ≤ p := by omega
  rw [(hb1 p hp).1]
  refine ct_isDigit M1 _ (hb1 p hp).2 ?_
  by_cases hdg : isd (tp p) = true
  · rw [if_pos hdg]
    refine bTo_cutOne_19 M1 _ _ _ _ _ _ _ ⟨fun c => absurd c (by decide), fun _ => ?_⟩
    refine cut_num M1 n tp hn hs1 hb1 _ hd p 0 (by omega) (by omega) ?_
    refine bTo_cutOne_75 M1 _ _ _ _ _ _ ⟨t0, by rw [t1, s1], by rw [t1, s1, g4]; exact hin, by rw [t2, s2], by rw [t1, t2, s2, m_i_si, if_neg (by omega), g4]; exact hin, ?_⟩
    rw [t1, t2, g4, ec, m_i_si, if_neg (by omega), g4, ec]
    refine bTo_cutOne_96 _ _ _ _ _ _ _ (bTo_cutOne_184 _ _ _ _ _ _ _ ⟨t0, ?_⟩)
    have et : te n tp p = rn n tp isd p := if_pos hdg
    have ek : tk n tp p = 1 := by unfold tk; rw [if_neg htn, if_pos hdg]
    rw [← et]
    refine h _ (F1.tr (FrX.of (((FrS.si (P := XC s) (Or.inr ⟨Or.inl rfl, rfl⟩) _).tr (FrS.si (Or.inr ⟨Or.inr (Or.inl rfl), rfl⟩) _)).tr (FrS.si (Or.inl ⟨rfl, rfl⟩) _)))) ?_ ?_
    · rw [m_i_si, if_pos ⟨rfl, rfl⟩, m_i_si, if_neg (by omega), m_i_si, if_neg (by omega), g4, nI_1]
    · unfold TKp
      rw [ek]
      refine ⟨?_, ?_, fun _ => ?_, fun z => absurd z (by decide), fun z => absurd z (by decide)⟩
      · rw [m_i_si, if_neg (by omega), m_i_si, if_neg (by omega), m_i_si, if_neg (by omega)]; exact g5
      · rw [m_i_si, if_neg (by omega), m_i_si, if_neg (by omega), m_i_si, if_pos ⟨rfl, rfl⟩]; rfl
      · rw [m_i_si, if_neg (by omega), m_i_si, if_pos ⟨rfl, rfl⟩, et]; rfl
  · rw [if_neg hdg]
    refine bTo_cutOne_19 M1 _ _ _ _ _ _ _ ⟨fun _ => ⟨by rw [hs1], by rw [hs1]; exact vp_in_nI (by omega) (by omega), CallVC.cps0 (by omega) ?_⟩, fun c => absurd rfl c⟩
    rw [ep, (hb1 p hp).1]
    refine ct_isLetter M1 _ (hb1 p hp).2 ?_
    by_cases hlt : isl (tp p) = true
    · rw [if_pos hlt]
      refine bTo_cutOne_105 M1 _ _ _ _ _ _ _ ⟨fun c => absurd c (by decide), fun _ => ?_⟩
      refine cut_let M1 n tp hn hs1 hb1 _ _ hd p (by omega) ?_
      have hgt : p < rn n tp isl p := by rw [rn_yes hp hlt]; exact rn_ge (p + 1)
      have hle := rn_le (n := n) (tp := tp) (q := isl) p (by omega)
      refine bTo_cutOne_130 M1 _ _ _ _ _ _ ⟨t0, by rw [t1, s1], by rw [t1, s1, g4]; exact hin, CallVC.cps0 (by omega) ?_⟩
      rw [t1, t4, g4, ec, m_i_si, if_neg (by omega), g4]
      have F2 : FrX (XC s) (YC s) M1 (m_si M1 103 s 2) := FrX.of (FrS.si (Or.inr ⟨Or.inl rfl, rfl⟩) _)
      have k3 : m_i (m_si M1 103 s 2) 103 s = 2 := by rw [m_i_si, if_pos ⟨rfl, rfl⟩]
      have k4 : m_i (m_si M1 103 s 2) 102 4 = nI s := by rw [m_i_si, if_neg (by omega)]; exact g4
      have k5 : m_i (m_si M1 103 s 2) 105 s = nI p := by rw [m_i_si, if_neg (by omega)]; exact g5
      generalize m_si M1 103 s 2 = M2 at F2 k3 k4 k5 ⊢
      refine ct_wordFor M2 tp p _ hgt (by omega) (by rw [F2.2.2.2.1]; exact hs1) (fun i h1 h2 => ⟨by rw [F2.1 101 i (by unfold XC; omega)]; exact (hb1 i (by omega)).1, rn_in p i h1 h2⟩) (by omega) ?_
      refine bTo_cutOne_155 M2 _ _ _ _ _ _ _ _ _ ⟨by rw [F2.2.2.2.1, s4], by rw [F2.2.2.2.1, s4]; exact hin, twL_rng _, ?_⟩
      rw [ec]
      refine bTo_cutOne_184 _ _ _ _ _ _ _ ⟨by show (m_sh M2 102).1 = 8; rw [F2.2.2.2.1]; exact t0, ?_⟩
      have et : te n tp p = rn n tp isl p := by unfold te; rw [if_neg hdg, if_pos hlt]
      have ek : tk n tp p = 2 := by unfold tk; rw [if_neg htn, if_neg hdg, if_pos hlt]
      rw [← et]
      refine h _ ((F1.tr F2).tr ((FrX.sr (P := XC s) (Q := YC s) ⟨rfl, rfl⟩ _).tr (FrX.of (FrS.si (Or.inl ⟨rfl, rfl⟩) _)))) ?_ ?_
      · rw [m_i_si, if_pos ⟨rfl, rfl⟩]
        show m_i M2 102 4 + 1 = _
        rw [k4, nI_1]
      · unfold TKp
        rw [ek]
        refine ⟨?_, ?_, fun z => absurd z (by decide), fun z => absurd z (by decide), fun _ => ?_⟩
        · rw [m_i_si, if_neg (by omega)]; exact k5
        · rw [m_i_si, if_neg (by omega)]; exact k3
        · show m_r (m_sr M2 106 s _) 106 s = _
          rw [m_r_sr, if_pos ⟨rfl, rfl⟩, et]
          rfl
    · rw [if_neg hlt]
      refine bTo_cutOne_105 M1 _ _ _ _ _ _ _ ⟨fun _ => ⟨t0, by rw [t1, s1], by rw [t1, s1, g4]; exact hin, by rw [hs1], by rw [hs1]; exact vp_in_nI (by omega) (by omega), by rw [t2, s2], by rw [t1, t2, s2, m_i_si, if_neg (by omega), g4]; exact hin, ?_⟩, fun c => absurd rfl c⟩
      rw [t1, t2, g4, ec, ep, m_i_si, if_neg (by omega), g4, ec, m_i_si, if_neg (by omega), (hb1 p hp).1]
      refine bTo_cutOne_181 _ _ _ _ _ _ _ (bTo_cutOne_184 _ _ _ _ _ _ _ ⟨t0, ?_⟩)
      have et : te n tp p = p + 1 := by unfold te; rw [if_neg hdg, if_neg hlt]
      have ek : tk n tp p = 3 := by unfold tk; rw [if_neg htn, if_neg hdg, if_neg hlt]
      rw [nI_1, ← et]
      refine h _ (F1.tr (FrX.of (((FrS.si (P := XC s) (Or.inr ⟨Or.inl rfl, rfl⟩) _).tr (FrS.si (Or.inr ⟨Or.inr (Or.inl rfl), rfl⟩) _)).tr (FrS.si (Or.inl ⟨rfl, rfl⟩) _)))) ?_ ?_
      · rw [m_i_si, if_pos ⟨rfl, rfl⟩, m_i_si, if_neg (by omega), m_i_si, if_neg (by omega), g4, nI_1]
      · unfold TKp
        rw [ek]
        refine ⟨?_, ?_, fun z => absurd z (by decide), fun _ => ?_, fun z => absurd z (by decide)⟩
        · rw [m_i_si, if_neg (by omega), m_i_si, if_neg (by omega), m_i_si, if_neg (by omega)]; exact g5
        · rw [m_i_si, if_neg (by omega), m_i_si, if_neg (by omega), m_i_si, if_pos ⟨rfl, rfl⟩]; rfl
        · rw [m_i_si, if_neg (by omega), m_i_si, if_pos ⟨rfl, rfl⟩]
/-- all tokens -/
def TKs (M : Mm) (n : Nat) (tp : Nat → Nat) (sz : Nat) : Prop := m_i M 102 4 = nI sz ∧ sz ≤ n ∧ tb n tp sz = n ∧ (∀ i, i < sz → tb n tp i < n) ∧ ∀ i, i ≤ sz → TKp M n tp i (tb n tp i)
theorem isb_lt {b : Nat} (h : isb b = true) : b = 32 := of_decide_eq_true h
def XT : Nat → Nat → Prop := fun a _ => 102 ≤ a ∧ a ≤ 105
def YT : Nat → Nat → Prop := fun a _ => a = 106
theorem ct_cut (M : Mm) (n : Nat) (tp : Nat → Nat) (hn : n ≤ 500) (hT : TKok M 102) (hs : m_sh M 101 = (21, 500)) (hb : ∀ i, i < n → m_i M 101 i = sb (tp i) ∧ tp i < 256) (hd : 5 < d)
    (h : ∀ M' sz, FrX XT YT M M' → TKs M' n tp sz → m_i M' 102 5 = 0 → m_i M' 102 6 = 0 → m_i M' 102 7 = -1 → Φ (.inl none) M') : Ct l G d mTo_cut bc bs [.ref 102, .ref 101, .int (nI n)] M Φ := by
  have key : ∀ q, q ≤ n → ∀ M1 s i, i ≤ q → s ≤ q → FrX XT YT M M1 → m_i M1 102 4 = nI s → rn n tp isb q = tb n tp s → (∀ i, i < s → tb n tp i < n ∧ TKp M1 n tp i (tb n tp i)) → m_i M1 102 5 = 0 → m_i M1 102 6 = 0 → m_i M1 102 7 = -1 → Ev l G d mTo_cut 25 [.ref 102, .ref 101, .int (nI n), .int (nI q), .int (nI i)] [] M1 bc bs Φ := by
    have key2 : ∀ k q, n - q ≤ k → q ≤ n → ∀ M1 s i, i ≤ q → s ≤ q → FrX XT YT M M1 → m_i M1 102 4 = nI s → rn n tp isb q = tb n tp s → (∀ i, i < s → tb n tp i < n ∧ TKp M1 n tp i (tb n tp i)) → m_i M1 102 5 = 0 → m_i M1 102 6 = 0 → m_i M1 102 7 = -1 → Ev l G d mTo_cut 25 [.ref 102, .ref 101, .int (nI n), .int (nI q), .int (nI i)] [] M1 bc bs Φ := by
      intro k
      induction k with
      | zero =>
        intro q hk hq M1 s i hi hsq F h4 hr hall e5 e6 e7
        have hqn : q = n := by omega
        subst hqn
        have hT1 : TKok M1 102 := hT.fx F (fun j => by unfold YT; omega)
        obtain ⟨t0, t1, t2, t3, t4, s1, s2, s3, s4⟩ := id hT1
        have ec : (nI s).toNatClampNeg = s := nI_clamp (by omega)
        have hin : vp_in (nI s) 501 := vp_in_nI (by omega) (by omega)
        rw [rn_end (Nat.le_refl _)] at hr
        have fin : Ev l G d mTo_cut 64 [.ref 102, .ref 101, .int (nI q), .int (nI q), .int (nI i)] [] M1 bc bs Φ := by
          refine bTo_cut_64 M1 _ _ _ _ _ ⟨t0, by rw [t1, s1], by rw [t1, s1, h4]; exact hin, by rw [t3, s3], by rw [t1, t3, s3, m_i_si, if_neg (by omega), h4]; exact hin, ?_⟩
          rw [t1, t3, h4, ec, m_i_si, if_neg (by omega), h4, ec]
          refine h _ s (F.tr (FrX.of ((FrS.si (P := XT) ⟨by omega, by omega⟩ _).tr (FrS.si ⟨by omega, by omega⟩ _)))) ⟨?_, hsq, hr.symm, fun j hj => (hall j hj).1, fun j hj => ?_⟩ ?_ ?_ ?_
          · rw [m_i_si, if_neg (by omega), m_i_si, if_neg (by omega)]; exact h4
          · by_cases z : j = s
            · subst z
              rw [← hr]
              unfold TKp
              rw [tk_end (Nat.le_refl _)]
              refine ⟨?_, ?_, fun z => absurd z (by decide), fun z => absurd z (by decide), fun z => absurd z (by decide)⟩
              · rw [m_i_si, if_pos ⟨rfl, rfl⟩]
              · rw [m_i_si, if_neg (by omega), m_i_si, if_pos ⟨rfl, rfl⟩]; rfl
            · exact (hall j (by omega)).2.fx (FrX.of (Q := fun _ _ => False) ((FrS.si (P := fun a k => a = 103 ∧ k = s ∨ a = 105 ∧ k = s) (Or.inl ⟨rfl, rfl⟩) _).tr (FrS.si (Or.inr ⟨rfl, rfl⟩) _))) (by omega) (by omega) (by omega) (fun z => z)
          · rw [m_i_si, if_neg (by omega), m_i_si, if_neg (by omega)]; exact e5
          · rw [m_i_si, if_neg (by omega), m_i_si, if_neg (by omega)]; exact e6
          · rw [m_i_si, if_neg (by omega), m_i_si, if_neg (by omega)]; exact e7
        by_cases z : i = q
        · subst z
          exact bTo_cut_25 M1 _ _ _ _ _ ⟨fun _ => fin, fun c => absurd (nI_le (Nat.le_refl _) (by omega)) c⟩
        · exact bTo_cut_25 M1 _ _ _ _ _ ⟨fun _ => fin, fun _ => ⟨fun _ => fin, fun c => absurd (nI_le (Nat.le_refl _) (by omega)) c⟩⟩
      | succ k ih =>
        intro q hk hq M1 s i hi hsq F h4 hr hall e5 e6 e7
        by_cases hqn : q = n
        · exact ih q (by omega) hq M1 s i hi hsq F h4 hr hall e5 e6 e7
        have hT1 : TKok M1 102 := hT.fx F (fun j => by unfold YT; omega)
        have hb1 : ∀ i, i < n → m_i M1 101 i = sb (tp i) ∧ tp i < 256 := fun i hi => by
          rw [F.1 101 i (by unfold XT; omega)]; exact hb i hi
        have hs1 : m_sh M1 101 = (21, 500) := by rw [F.2.2.2.1]; exact hs
        have hq' : q < n := by omega
        refine bTo_cut_25 M1 _ _ _ _ _ ⟨fun c => absurd c (nI_not_le (by omega) (by omega)), fun _ => ⟨fun c => absurd c (nI_not_le hq' (by omega)), fun _ => ⟨by rw [hs1], by rw [hs1]; exact vp_in_nI (by omega) (by omega), ?_⟩⟩⟩
        rw [nI_clamp (by omega), (hb1 q hq').1]
        by_cases hbk : isb (tp q) = true
        · have e32 := isb_lt hbk
          refine ⟨fun c => absurd (by rw [e32]; rfl) c, fun _ => bTo_cut_57 M1 _ _ _ _ _ _ ?_⟩
          rw [nI_1, nI_1]
          rw [rn_yes hq' hbk] at hr
          exact ih (q + 1) (by omega) (by omega) M1 s (i + 1) (by omega) (by omega) F h4 hr hall e5 e6 e7
        · refine ⟨fun _ => ⟨hT1.1, CallVC.cps0 (by omega) ?_⟩, fun c => absurd ?_ hbk⟩
          · have ebs : tb n tp s = q := by rw [← hr, rn_no hbk]
            have hte := te_gt (tp := tp) hq'
            refine ct_cutOne M1 n tp hn hT1 hs1 hb1 s q hq' hsq h4 (by omega) (fun M2 F2 g4 gk => ?_)
            refine bTo_cut_57 M2 _ _ _ _ _ _ ?_
            rw [nI_1]
            refine ih (te n tp q) (by omega) hte.2 M2 (s + 1) (i + 1) (by omega) (by omega) (F.tr (F2.mono (fun a j z => by unfold XC at z; unfold XT; omega) (fun a j z => z.1))) g4 ?_ (fun j hj => ?_) ?_ ?_ ?_
            · show rn n tp isb (te n tp q) = nx n tp (tb n tp s)
              rw [ebs]
              rfl
            · by_cases z : j = s
              · subst z
                rw [ebs]
                exact ⟨hq', gk⟩
              · exact ⟨(hall j (by omega)).1, (hall j (by omega)).2.fx F2 (by unfold XC; omega) (by unfold XC; omega) (by unfold XC; omega) (by unfold YC; omega)⟩
            · rw [F2.1 _ _ (by unfold XC; omega)]; exact e5
            · rw [F2.1 _ _ (by unfold XC; omega)]; exact e6
            · rw [F2.1 _ _ (by unfold XC; omega)]; exact e7
          · by_cases z : tp q < 128
            · rw [sb_l z] at c
              exact decide_eq_true ((nI_eq (a := tp q) (b := 32) (by omega) (by omega)).mp c)
            · exfalso
              have hh := (hb1 q hq').2
              have := pk_sneg (a := tp q) (b := 256) (by omega) hh
              unfold sb at c
              rw [if_neg z] at c
              have e256 : nI (tp q) - nI 256 = 32 := c
              rw [e256] at this
              exact absurd this (by decide)
    exact fun q => key2 _ q (Nat.le_refl _)
  obtain ⟨t0, -⟩ := id hT
  refine Ct.of rfl (Nat.le_of_ble_eq_true rfl) (bTo_cut_0 M _ _ _ ⟨t0, bTo_cut_10 _ _ _ _ _ _ ⟨t0, bTo_cut_20 _ _ _ _ _ _ ?_⟩⟩)
  refine key 0 (by omega) _ 0 0 (by omega) (by omega) (FrX.of ((((FrS.si (P := XT) ⟨by omega, by omega⟩ _).tr (FrS.si ⟨by omega, by omega⟩ _)).tr (FrS.si ⟨by omega, by omega⟩ _)).tr (FrS.si ⟨by omega, by omega⟩ _))) ?_ rfl (fun j hj => absurd hj (by omega)) ?_ ?_ ?_
  · rw [m_i_si, if_neg (by omega), m_i_si, if_neg (by omega), m_i_si, if_neg (by omega), m_i_si, if_pos ⟨rfl, rfl⟩]; rfl
  · rw [m_i_si, if_neg (by omega), m_i_si, if_neg (by omega), m_i_si, if_pos ⟨rfl, rfl⟩]
  · rw [m_i_si, if_neg (by omega), m_i_si, if_pos ⟨rfl, rfl⟩]
  · rw [m_i_si, if_pos ⟨rfl, rfl⟩]
end CUT
