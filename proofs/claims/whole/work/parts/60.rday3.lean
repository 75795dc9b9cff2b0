/-! ===== the reference's DAY: a CALL, and the whole ===== -/
def RCr (M : Mm) (k : Nat) (r : CR) : Prop := m_i M 263 k = r.2.2.2.2.1 ∧ m_i M 264 k = nI r.2.2.1 ∧ m_i M 265 k = nI r.2.2.2.1 ∧ m_i M 266 k = r.2.1 ∧ m_i M 267 k = r.2.2.2.2.2.1 ∧ (r.2.2.2.2.2.2 = true → m_i M 268 k = 0) ∧ (r.2.2.2.2.2.2 = false → HDr M k r.1 (r.2.2.2.1 + 1))
theorem HDr.fr {M M' : Mm} {k : Nat} {L : List Nat} {t : Nat} {Q : Nat → Nat → Prop} (h : HDr M k L t) (hF : FrS Q M M') (h0 : ¬ Q 268 k) (h1 : ∀ j, ¬ Q (271 + k) j) : HDr M' k L t :=
  ⟨by rw [hF.1 _ _ h0]; exact h.1, fun j hj => by rw [hF.1 _ _ (h1 j)]; exact h.2 j hj⟩
theorem RCr.fr {M M' : Mm} {k : Nat} {r : CR} {Q : Nat → Nat → Prop} (h : RCr M k r) (hF : FrS Q M M') (h0 : ∀ a, 263 ≤ a → a ≤ 268 → ¬ Q a k) (h1 : ∀ j, ¬ Q (271 + k) j) : RCr M' k r := by
  obtain ⟨a1, a2, a3, a4, a5, a6, a7⟩ := h
  exact ⟨by rw [hF.1 _ _ (h0 _ (by omega) (by omega))]; exact a1, by rw [hF.1 _ _ (h0 _ (by omega) (by omega))]; exact a2, by rw [hF.1 _ _ (h0 _ (by omega) (by omega))]; exact a3, by rw [hF.1 _ _ (h0 _ (by omega) (by omega))]; exact a4, by rw [hF.1 _ _ (h0 _ (by omega) (by omega))]; exact a5, fun q => by rw [hF.1 _ _ (h0 _ (by omega) (by omega))]; exact a6 q, fun q => (a7 q).fr hF (h0 _ (by omega) (by omega)) h1⟩
/-- what stands of the CALLS before -/
def ROld (M : Mm) (s : Sg) (k : Nat) : Prop := RPs M (g_ps s) ∧ (∀ p, p < 8 → m_i M 269 p = g_eo s p) ∧ ∀ i, i < k → RCr M i ((g_cs s).getD i cr0)
def QK (k : Nat) : Nat → Nat → Prop := fun a j => QO a j ∨ (a = 206 ∧ (j = 40 ∨ j = 42 ∨ j = 44 ∨ j = 57)) ∨ (263 ≤ a ∧ a ≤ 268 ∧ j = k) ∨ a = 271 + k ∨ (345 ≤ a ∧ a ≤ 347)
theorem QK.d {k : Nat} (hk : k < 8) : ∀ a j, QK k a j → QD a j := fun a j h => by unfold QK QO QN at h; unfold QD; omega
theorem QA.k {k : Nat} : ∀ a j, QA k a j → QK k a j := fun a j h => by unfold QA QO QN at h; unfold QK QO QN; omega
theorem ROld.fr {M M' : Mm} {s : Sg} {k : Nat} (h : ROld M s k) (hk : k < 8) (hF : FrS (QK k) M M') : ROld M' s k := by
  obtain ⟨a1, a2, a3⟩ := h
  refine ⟨a1.fr hF (by unfold QK QO QN; omega) (fun p j hp => by unfold QK QO QN; omega), fun p hp => by rw [hF.1 _ _ (by unfold QK QO QN; omega)]; exact a2 p hp, fun i hi => (a3 i hi).fr hF (fun a h1 h2 => by unfold QK QO QN; omega) (fun j => by unfold QK QO QN; omega)⟩
def RDs0 (M : Mm) (s : Sg) : Prop := m_i M 206 40 = nI (g_cs s).length ∧ m_i M 206 42 = unaN (g_cs s) (g_cs s).length ∧ m_i M 206 44 = (if g_el s = true then 1 else 0) ∧ m_i M 206 36 = nI (g_u s) ∧ ROld M s (g_cs s).length
theorem una_app (cs : List CR) (r : CR) : ∀ i, i ≤ cs.length → unaN (cs ++ [r]) i = unaN cs i
  | 0, _ => rfl
  | i + 1, hi => by
    show unaN (cs ++ [r]) i + _ = unaN cs i + _
    rw [una_app cs r i (by omega), getD_app, if_pos (show i < cs.length by omega)]
theorem una_app1 (cs : List CR) (r : CR) : unaN (cs ++ [r]) (cs ++ [r]).length = unaN cs cs.length + (if r.2.2.2.2.2.2 = true then 1 else 0) := by
  rw [List.length_append]
  show unaN (cs ++ [r]) cs.length + _ = _
  rw [una_app cs r _ (Nat.le_refl _), getD_app, if_neg (Nat.lt_irrefl _), if_pos rfl]
theorem take_getD (L : List Nat) {j : Nat} (h : j < L.length) : L.take (j + 1) = L.take j ++ [L.getD j 0] := by
  rw [List.take_add_one, List.getD_eq_getElem?_getD, List.getElem?_eq_getElem h]
  rfl
section SR5
variable {l : Launch} {G : Gx} {d : Nat} {bc bs : Nat} {Φ : OutV → Mm → Prop}
theorem ca_el (M1 : Mm) (c : Cf) (R : List RU) (out : Nat) (hC : RDc M1 c R out) (s : Sg) (k : Nat) (hk : k < 8) (hlen : (g_cs s).length = k) (hO : ROld M1 s k) (L : List Nat) (mm u : Nat) (w40 : m_i M1 206 40 = nI (k + 1)) (wmin : m_i M1 264 k = nI mm) (wth : m_i M1 266 k = thBits L) (woff : m_i M1 265 k = nI L.length) (wh : HDr M1 k L (L.length + 1)) (wu : m_i M1 206 36 = nI u) (w42 : m_i M1 206 42 = unaN (g_cs s) k) (u4 u5 : Value)
    (h : ∀ M', FrS QD M1 M' → RDs0 M' (elS s mm L u) → Φ (.inl none) M') : Ev l G d mRe_callAt 121 [.ref 206, .int (nI mm), .int (nI k), .int (-1), u4, u5] [] M1 bc bs Φ := by
  have hS := hC.1
  refine bRe_callAt_121 M1 206 _ _ _ _ _ ⟨hS.c, fun z => absurd rfl z, fun _ => ?_⟩
  simp (disch := omega) only [hS.c, hS.r_fed, hS.s_fed, hS.r_rKind, hS.s_rKind, hS.r_kind, hS.s_kind, hS.r_rNum, hS.s_rNum, hS.r_num, hS.s_num, hS.r_rLong, hS.s_rLong, hS.r_cLong, hS.s_cLong, hS.r_stack, hS.s_stack, hS.r_names, hS.s_names, hS.r_row, hS.s_row, hS.r_ruleOf, hS.s_ruleOf, hS.r_ways, hS.s_ways, hS.r_cWho, hS.s_cWho, hS.r_cMin, hS.s_cMin, hS.r_cOff, hS.s_cOff, hS.r_cTh, hS.s_cTh, hS.r_cEnd, hS.s_cEnd, hS.r_hds, hS.s_hds, hS.r_ends, hS.s_ends, hS.r_there, hS.s_there, hS.r_offd, hS.s_offd, hS.r_had, hS.s_had, hS.r_rPer, hS.s_rPer, hS.r_rP, hS.s_rP, hS.r_per, hS.s_per, hS.r_pr, hS.s_pr, hS.r_rCode, hS.s_rCode, hS.r_rC, hS.s_rC, hS.r_code, hS.s_code, hS.r_cd, hS.s_cd, hS.r_kept, hS.s_kept, hS.r_kp, hS.s_kp, hS.r_holder, hS.s_holder, hS.r_hd, hS.s_hd, hS.r_pass, hS.s_pass, hS.r_ps, hS.s_ps, hS.r_debt, hS.s_debt, hS.r_db, hS.s_db, hS.r_endBy, hS.s_endBy, hS.r_eb, hS.s_eb, vpT, vpk0, clk0, vpk1, clk1, vpk2, clk2, vpk3, clk3, vpk4, clk4, vpk5, clk5, vpk6, clk6, vpk7, clk7, vpk8, clk8, vpk9, clk9, nI_clamp, nI_1, true_and]
  have hF2 : FrS (QK k) M1 (m_si (m_si M1 263 k (-1)) 267 k (-1)) := (FrS.si (Or.inr (Or.inr (Or.inl ⟨by omega, by omega, rfl⟩))) _).tr (FrS.si (Or.inr (Or.inr (Or.inl ⟨by omega, by omega, rfl⟩))) _)
  refine bRe_callAt_149 _ 206 _ _ _ _ _ ⟨fun z => absurd rfl z, fun _ => ⟨hS.c, ?_⟩⟩
  have g : ∀ a j, (a ≠ 206 ∨ j ≠ 44) → (a ≠ 263 ∨ j ≠ k) → (a ≠ 267 ∨ j ≠ k) → m_i (m_si (m_si (m_si M1 263 k (-1)) 267 k (-1)) 206 44 1) a j = m_i M1 a j := fun a j n1 n2 n3 => by rw [m_i_si, if_neg (by omega), m_i_si, if_neg (by omega), m_i_si, if_neg (by omega)]
  have g1 : m_i (m_si (m_si (m_si M1 263 k (-1)) 267 k (-1)) 206 44 1) 263 k = -1 := by rw [m_i_si, if_neg (by omega), m_i_si, if_neg (by omega), m_i_si, if_pos ⟨rfl, rfl⟩]
  have g2 : m_i (m_si (m_si (m_si M1 263 k (-1)) 267 k (-1)) 206 44 1) 267 k = -1 := by rw [m_i_si, if_neg (by omega), m_i_si, if_pos ⟨rfl, rfl⟩]
  have g3 : m_i (m_si (m_si (m_si M1 263 k (-1)) 267 k (-1)) 206 44 1) 206 44 = 1 := by rw [m_i_si, if_pos ⟨rfl, rfl⟩]
  have hF3 : FrS (QK k) M1 (m_si (m_si (m_si M1 263 k (-1)) 267 k (-1)) 206 44 1) := hF2.tr (FrS.si (Or.inr (Or.inl ⟨rfl, by omega⟩)) _)
  generalize m_si (m_si (m_si M1 263 k (-1)) 267 k (-1)) 206 44 1 = M3 at *
  have hO3 := hO.fr hk hF3
  refine h M3 (hF3.mono (QK.d hk)) ⟨?_, ?_, g3, ?_, hO3.1, hO3.2.1, fun i hi => ?_⟩
  · rw [g _ _ (by omega) (by omega) (by omega), w40]
    show _ = nI (g_cs s ++ [_]).length
    rw [List.length_append, hlen]; rfl
  · rw [g _ _ (by omega) (by omega) (by omega), w42]
    show _ = unaN (g_cs s ++ [_]) (g_cs s ++ [_]).length
    rw [una_app1, hlen]
    show _ = _ + 0
    rw [Int32.add_zero]
  · rw [g _ _ (by omega) (by omega) (by omega)]; exact wu
  · have hi' : i < k + 1 := by
      have : i < (g_cs s ++ [((L, thBits L, mm, L.length, -1, -1, false) : CR)]).length := hi
      rw [List.length_append, hlen] at this; exact this
    show RCr M3 i ((g_cs s ++ [((L, thBits L, mm, L.length, -1, -1, false) : CR)]).getD i cr0)
    rw [getD_app, hlen]
    by_cases z : i < k
    · rw [if_pos z]; exact hO3.2.2 i z
    · obtain rfl : i = k := by omega
      rw [if_neg z, if_pos rfl]
      refine ⟨g1, ?_, ?_, ?_, g2, (fun q => by cases q), fun _ => ⟨?_, fun j hj => ?_⟩⟩
      · rw [g _ _ (by omega) (by omega) (by omega)]; exact wmin
      · rw [g _ _ (by omega) (by omega) (by omega)]; exact woff
      · rw [g _ _ (by omega) (by omega) (by omega)]; exact wth
      · rw [g _ _ (by omega) (by omega) (by omega)]; exact wh.1
      · rw [g _ _ (by omega) (by omega) (by omega)]; exact wh.2 j hj
theorem ca_end (M1 : Mm) (c : Cf) (hc : cfOK c) (R : List RU) (out : Nat) (hC : RDc M1 c R out) (s : Sg) (hel : g_el s = false) (k : Nat) (hk : k < 8) (hlen : (g_cs s).length = k) (hO : ROld M1 s k) (L : List Nat) (hL : LOK c L) (hT : THr M1 L) (g : Nat) (hg : g < L.length) (hps : (g_ps s).length + g ≤ 28) (mm off u : Nat) (hm : mm < 999) (un : Bool) (w40 : m_i M1 206 40 = nI (k + 1)) (wmin : m_i M1 264 k = nI mm) (wth : m_i M1 266 k = thBits L) (woff : m_i M1 265 k = nI off) (wh1 : un = true → m_i M1 268 k = 0) (wh2 : un = false → HDr M1 k L (off + 1)) (wo1 : un = true → ∀ j, j < g → m_i M1 346 j = 0) (wo2 : un = false → ∀ j, j < g → ∃ m, m < 1000 ∧ m_i M1 346 j = nI (m + 1)) (wu : m_i M1 206 36 = nI u) (w42 : m_i M1 206 42 = unaN (g_cs s) k + (if un = true then 1 else 0)) (w44 : m_i M1 206 44 = 0) (u4 u5 : Value) (hd : 3 < d)
    (h : ∀ M', FrS QD M1 M' → RDs0 M' (endS c s mm L un off g u) → Φ (.inl none) M') : Ev l G d mRe_callAt 121 [.ref 206, .int (nI mm), .int (nI k), .int (nI g), u4, u5] [] M1 bc bs Φ := by
  have n8 := hc.1
  have hS := hC.1
  obtain ⟨l1, l8, lp, -⟩ := id hL
  have hpn := lp g hg
  have hgn : ¬ nI g = -1 := nI_neg (by omega)
  have eT := hT.2 g hg
  refine bRe_callAt_121 M1 206 _ _ _ _ _ ⟨hS.c, fun _ => ?_, fun z => absurd z hgn⟩
  simp (disch := omega) only [hS.c, hS.r_fed, hS.s_fed, hS.r_rKind, hS.s_rKind, hS.r_kind, hS.s_kind, hS.r_rNum, hS.s_rNum, hS.r_num, hS.s_num, hS.r_rLong, hS.s_rLong, hS.r_cLong, hS.s_cLong, hS.r_stack, hS.s_stack, hS.r_names, hS.s_names, hS.r_row, hS.s_row, hS.r_ruleOf, hS.s_ruleOf, hS.r_ways, hS.s_ways, hS.r_cWho, hS.s_cWho, hS.r_cMin, hS.s_cMin, hS.r_cOff, hS.s_cOff, hS.r_cTh, hS.s_cTh, hS.r_cEnd, hS.s_cEnd, hS.r_hds, hS.s_hds, hS.r_ends, hS.s_ends, hS.r_there, hS.s_there, hS.r_offd, hS.s_offd, hS.r_had, hS.s_had, hS.r_rPer, hS.s_rPer, hS.r_rP, hS.s_rP, hS.r_per, hS.s_per, hS.r_pr, hS.s_pr, hS.r_rCode, hS.s_rCode, hS.r_rC, hS.s_rC, hS.r_code, hS.s_code, hS.r_cd, hS.s_cd, hS.r_kept, hS.s_kept, hS.r_kp, hS.s_kp, hS.r_holder, hS.s_holder, hS.r_hd, hS.s_hd, hS.r_pass, hS.s_pass, hS.r_ps, hS.s_ps, hS.r_debt, hS.s_debt, hS.r_db, hS.s_db, hS.r_endBy, hS.s_endBy, hS.r_eb, hS.s_eb, vpT, vpk0, clk0, vpk1, clk1, vpk2, clk2, vpk3, clk3, vpk4, clk4, vpk5, clk5, vpk6, clk6, vpk7, clk7, vpk8, clk8, vpk9, clk9, nI_clamp, nI_1, true_and, eT]
  generalize hpp : L.getD g 0 = p at *
  have hF2 : FrS (QK k) M1 (m_si (m_si M1 263 k (nI p)) 267 k (-1)) := (FrS.si (Or.inr (Or.inr (Or.inl ⟨by omega, by omega, rfl⟩))) _).tr (FrS.si (Or.inr (Or.inr (Or.inl ⟨by omega, by omega, rfl⟩))) _)
  have g0 : ∀ a j, (a ≠ 263 ∨ j ≠ k) → (a ≠ 267 ∨ j ≠ k) → m_i (m_si (m_si M1 263 k (nI p)) 267 k (-1)) a j = m_i M1 a j := fun a j n2 n3 => by rw [m_i_si, if_neg (by omega), m_i_si, if_neg (by omega)]
  have g1 : m_i (m_si (m_si M1 263 k (nI p)) 267 k (-1)) 263 k = nI p := by rw [m_i_si, if_neg (by omega), m_i_si, if_pos ⟨rfl, rfl⟩]
  generalize m_si (m_si M1 263 k (nI p)) 267 k (-1) = M2 at *
  have hO2 := hO.fr hk hF2
  have hC2 := hC.fr (hF2.mono (QK.d hk))
  have hS2 := hC2.1
  have eT2 : ∀ j, j < L.length → m_i M2 345 j = nI (L.getD j 0) := fun j hj => by rw [g0 _ _ (by omega) (by omega)]; exact hT.2 j hj
  refine bRe_callAt_149 _ 206 _ _ _ _ _ ⟨fun _ => ?_, fun z => absurd z hgn⟩
  have eg2 := eT2 g hg
  rw [hpp] at eg2
  simp (disch := omega) only [hS2.c, hS2.r_fed, hS2.s_fed, hS2.r_rKind, hS2.s_rKind, hS2.r_kind, hS2.s_kind, hS2.r_rNum, hS2.s_rNum, hS2.r_num, hS2.s_num, hS2.r_rLong, hS2.s_rLong, hS2.r_cLong, hS2.s_cLong, hS2.r_stack, hS2.s_stack, hS2.r_names, hS2.s_names, hS2.r_row, hS2.s_row, hS2.r_ruleOf, hS2.s_ruleOf, hS2.r_ways, hS2.s_ways, hS2.r_cWho, hS2.s_cWho, hS2.r_cMin, hS2.s_cMin, hS2.r_cOff, hS2.s_cOff, hS2.r_cTh, hS2.s_cTh, hS2.r_cEnd, hS2.s_cEnd, hS2.r_hds, hS2.s_hds, hS2.r_ends, hS2.s_ends, hS2.r_there, hS2.s_there, hS2.r_offd, hS2.s_offd, hS2.r_had, hS2.s_had, hS2.r_rPer, hS2.s_rPer, hS2.r_rP, hS2.s_rP, hS2.r_per, hS2.s_per, hS2.r_pr, hS2.s_pr, hS2.r_rCode, hS2.s_rCode, hS2.r_rC, hS2.s_rC, hS2.r_code, hS2.s_code, hS2.r_cd, hS2.s_cd, hS2.r_kept, hS2.s_kept, hS2.r_kp, hS2.s_kp, hS2.r_holder, hS2.s_holder, hS2.r_hd, hS2.s_hd, hS2.r_pass, hS2.s_pass, hS2.r_ps, hS2.s_ps, hS2.r_debt, hS2.s_debt, hS2.r_db, hS2.s_db, hS2.r_endBy, hS2.s_endBy, hS2.r_eb, hS2.s_eb, vpT, vpk0, clk0, vpk1, clk1, vpk2, clk2, vpk3, clk3, vpk4, clk4, vpk5, clk5, vpk6, clk6, vpk7, clk7, vpk8, clk8, vpk9, clk9, nI_clamp, nI_1, true_and, eg2]
  -- the passes
  have fin : ∀ M3, FrS (fun a j => QN a j ∨ (a = 206 ∧ j = 41) ∨ (281 ≤ a ∧ a < 345)) M2 M3 → RPs M3 (g_ps s ++ (if un then [] else (L.take g).map (fun q => (q, p, c_wo c q p (mm / 60), nI mm)))) → Ev l G d mRe_callAt 171 [.ref 206, .int (nI mm), .int (nI k), .int (nI g), .int (nI p), .int (nI g)] [] M3 bc bs Φ := fun M3 hF3 hP3 => by
    have hF3' : FrS QD M1 M3 := (hF2.mono (QK.d hk)).tr (hF3.mono (fun a j q => by unfold QN at q; unfold QD; omega))
    have hC3 := hC.fr hF3'
    obtain ⟨hS3, hPr3, hR3, -, hL3, hnu3, -⟩ := id hC3
    refine bRe_callAt_171 M3 206 _ _ _ _ _ ⟨fun _ => ⟨hS3.c, CallVC.cps0 (by omega) ?_⟩, fun z => absurd (nI_le (Nat.le_refl _) (by omega)) z⟩
    refine ct_numberOf M3 hS3 R hR3 out hL3 4 (by omega) ?_
    rw [← hnu3 6, hS3.r_cEnd]
    have k0 : ∀ a j, ¬ (QN a j ∨ (a = 206 ∧ j = 41) ∨ (281 ≤ a ∧ a < 345)) → (a ≠ 263 ∨ j ≠ k) → (a ≠ 267 ∨ j ≠ k) → m_i M3 a j = m_i M1 a j := fun a j n1 n2 n3 => (hF3.1 a j n1).trans (g0 a j n2 n3)
    have x1 : m_i M3 265 k = nI off := (k0 _ _ (by unfold QN; omega) (by omega) (by omega)).trans woff
    have x2 : m_i M3 (218 + p) 3 = c_f c p 3 := hPr3.2.2 p 3 hpn (by omega)
    refine bRe_callAt_219 M3 206 _ _ _ _ _ _ _ _ _ ?_
    simp (disch := omega) only [hS3.c, hS3.r_fed, hS3.s_fed, hS3.r_rKind, hS3.s_rKind, hS3.r_kind, hS3.s_kind, hS3.r_rNum, hS3.s_rNum, hS3.r_num, hS3.s_num, hS3.r_rLong, hS3.s_rLong, hS3.r_cLong, hS3.s_cLong, hS3.r_stack, hS3.s_stack, hS3.r_names, hS3.s_names, hS3.r_row, hS3.s_row, hS3.r_ruleOf, hS3.s_ruleOf, hS3.r_ways, hS3.s_ways, hS3.r_cWho, hS3.s_cWho, hS3.r_cMin, hS3.s_cMin, hS3.r_cOff, hS3.s_cOff, hS3.r_cTh, hS3.s_cTh, hS3.r_cEnd, hS3.s_cEnd, hS3.r_hds, hS3.s_hds, hS3.r_ends, hS3.s_ends, hS3.r_there, hS3.s_there, hS3.r_offd, hS3.s_offd, hS3.r_had, hS3.s_had, hS3.r_rPer, hS3.s_rPer, hS3.r_rP, hS3.s_rP, hS3.r_per, hS3.s_per, hS3.r_pr, hS3.s_pr, hS3.r_rCode, hS3.s_rCode, hS3.r_rC, hS3.s_rC, hS3.r_code, hS3.s_code, hS3.r_cd, hS3.s_cd, hS3.r_kept, hS3.s_kept, hS3.r_kp, hS3.s_kp, hS3.r_holder, hS3.s_holder, hS3.r_hd, hS3.s_hd, hS3.r_pass, hS3.s_pass, hS3.r_ps, hS3.s_ps, hS3.r_debt, hS3.s_debt, hS3.r_db, hS3.s_db, hS3.r_endBy, hS3.s_endBy, hS3.r_eb, hS3.s_eb, vpT, vpk0, clk0, vpk1, clk1, vpk2, clk2, vpk3, clk3, vpk4, clk4, vpk5, clk5, vpk6, clk6, vpk7, clk7, vpk8, clk8, vpk9, clk9, nI_clamp, nI_1, true_and, x1, x2]
    rw [m_i_si, if_pos ⟨rfl, rfl⟩]
    generalize he : nI mm + c_nu c 6 * nI off + c_f c p 3 = e
    have y0 : ∀ a j, (a ≠ 267 ∨ j ≠ k) → (a ≠ 269 ∨ j ≠ p) → m_i (m_si (m_si M3 267 k e) 269 p e) a j = m_i M3 a j := fun a j n2 n3 => by rw [m_i_si, if_neg (by omega), m_i_si, if_neg (by omega)]
    have y1 : m_i (m_si (m_si M3 267 k e) 269 p e) 267 k = e := by rw [m_i_si, if_neg (by omega), m_i_si, if_pos ⟨rfl, rfl⟩]
    have y2 : m_i (m_si (m_si M3 267 k e) 269 p e) 269 p = e := by rw [m_i_si, if_pos ⟨rfl, rfl⟩]
    have hF4 : FrS (fun a j => (a = 267 ∧ j = k) ∨ a = 269) M3 (m_si (m_si M3 267 k e) 269 p e) := (FrS.si (Or.inl ⟨rfl, rfl⟩) _).tr (FrS.si (Or.inr rfl) _)
    generalize m_si (m_si M3 267 k e) 269 p e = M4 at *
    have z0 : ∀ a j, ¬ (QN a j ∨ (a = 206 ∧ j = 41) ∨ (281 ≤ a ∧ a < 345)) → (a ≠ 263 ∨ j ≠ k) → (a ≠ 267 ∨ j ≠ k) → (a ≠ 269 ∨ j ≠ p) → m_i M4 a j = m_i M1 a j := fun a j n1 n2 n3 n4 => (y0 a j n3 n4).trans (k0 a j n1 n2 n3)
    have hcsE : g_cs (endS c s mm L un off g u) = g_cs s ++ [(L, thBits L, mm, off, nI p, e, un)] := by
      show g_cs s ++ [(L, thBits L, mm, off, nI (L.getD g 0), nI mm + c_nu c 6 * nI off + c_f c (L.getD g 0) 3, un)] = _
      rw [hpp, he]
    have hpsE : g_ps (endS c s mm L un off g u) = g_ps s ++ (if un then [] else (L.take g).map (fun q => (q, p, c_wo c q p (mm / 60), nI mm))) := by
      show g_ps s ++ (if un then [] else (L.take g).map (fun q => (q, L.getD g 0, c_wo c q (L.getD g 0) (mm / 60), nI mm))) = _
      rw [hpp]
    have heoE : ∀ q, g_eo (endS c s mm L un off g u) q = if q = p then e else g_eo s q := fun q => by
      show (if q = L.getD g 0 then nI mm + c_nu c 6 * nI off + c_f c (L.getD g 0) 3 else g_eo s q) = _
      rw [hpp, he]
    refine h M4 (hF3'.tr (hF4.mono (fun a j q => by unfold QD; omega))) ⟨?_, ?_, ?_, ?_, ?_, fun q hq => ?_, fun i hi => ?_⟩
    · rw [z0 _ _ (by unfold QN; omega) (by omega) (by omega) (by omega), w40, hcsE, List.length_append, hlen]; rfl
    · rw [z0 _ _ (by unfold QN; omega) (by omega) (by omega) (by omega), w42, hcsE, una_app1, hlen]
    · rw [z0 _ _ (by unfold QN; omega) (by omega) (by omega) (by omega), w44]; rfl
    · rw [z0 _ _ (by unfold QN; omega) (by omega) (by omega) (by omega), wu]; rfl
    · rw [hpsE]
      exact hP3.fr hF4 (by omega) (fun p j hp => by omega)
    · rw [heoE]
      by_cases z : q = p
      · rw [if_pos z, z]; exact y2
      · rw [if_neg z, z0 _ _ (by unfold QN; omega) (by omega) (by omega) (by omega)]; exact hO.2.1 q hq
    · rw [hcsE, List.length_append, hlen] at hi
      replace hi : i < k + 1 := hi
      rw [hcsE, getD_app, hlen]
      by_cases z : i < k
      · rw [if_pos z]
        refine ((hO2.2.2 i z).fr hF3 (fun a h1 h2 => by unfold QN; omega) (fun j => by unfold QN; omega)).fr hF4 (fun a h1 h2 => by omega) (fun j => by omega)
      · obtain rfl : i = k := by omega
        rw [if_neg z, if_pos rfl]
        refine ⟨?_, ?_, ?_, ?_, y1, fun q => ?_, fun q => ⟨?_, fun j hj => ?_⟩⟩
        · rw [y0 _ _ (by omega) (by omega), hF3.1 _ _ (by unfold QN; omega)]; exact g1
        · rw [z0 _ _ (by unfold QN; omega) (by omega) (by omega) (by omega)]; exact wmin
        · rw [z0 _ _ (by unfold QN; omega) (by omega) (by omega) (by omega)]; exact woff
        · rw [z0 _ _ (by unfold QN; omega) (by omega) (by omega) (by omega)]; exact wth
        · rw [z0 _ _ (by unfold QN; omega) (by omega) (by omega) (by omega)]; exact wh1 q
        · rw [z0 _ _ (by unfold QN; omega) (by omega) (by omega) (by omega)]; exact (wh2 q).1
        · rw [z0 _ _ (by unfold QN; omega) (by omega) (by omega) (by omega)]; exact (wh2 q).2 j hj
  have loop : ∀ e j M3, j + e = g → FrS (fun a j => QN a j ∨ (a = 206 ∧ j = 41) ∨ (281 ≤ a ∧ a < 345)) M2 M3 → RPs M3 (g_ps s ++ (if un then [] else (L.take j).map (fun q => (q, p, c_wo c q p (mm / 60), nI mm)))) → Ev l G d mRe_callAt 171 [.ref 206, .int (nI mm), .int (nI k), .int (nI g), .int (nI p), .int (nI j)] [] M3 bc bs Φ := by
    intro e
    induction e with
    | zero =>
      intro j M3 hj hF3 hP3
      obtain rfl : j = g := by omega
      exact fin M3 hF3 hP3
    | succ e ih =>
      intro j M3 hj hF3 hP3
      have hF3' : FrS QD M1 M3 := (hF2.mono (QK.d hk)).tr (hF3.mono (fun a j q => by unfold QN at q; unfold QD; omega))
      have hC3 := hC.fr hF3'
      have hS3 := hC3.1
      have xo : m_i M3 346 j = m_i M1 346 j := (hF3.1 _ _ (by unfold QN; omega)).trans (g0 _ _ (by omega) (by omega))
      have xt : m_i M3 345 j = nI (L.getD j 0) := (hF3.1 _ _ (by unfold QN; omega)).trans (eT2 j (by omega))
      refine bRe_callAt_171 M3 206 _ _ _ _ _ ⟨fun z => absurd z (nI_not_le (by omega) (by omega)), fun _ => ?_⟩
      simp (disch := omega) only [hS3.c, hS3.r_fed, hS3.s_fed, hS3.r_rKind, hS3.s_rKind, hS3.r_kind, hS3.s_kind, hS3.r_rNum, hS3.s_rNum, hS3.r_num, hS3.s_num, hS3.r_rLong, hS3.s_rLong, hS3.r_cLong, hS3.s_cLong, hS3.r_stack, hS3.s_stack, hS3.r_names, hS3.s_names, hS3.r_row, hS3.s_row, hS3.r_ruleOf, hS3.s_ruleOf, hS3.r_ways, hS3.s_ways, hS3.r_cWho, hS3.s_cWho, hS3.r_cMin, hS3.s_cMin, hS3.r_cOff, hS3.s_cOff, hS3.r_cTh, hS3.s_cTh, hS3.r_cEnd, hS3.s_cEnd, hS3.r_hds, hS3.s_hds, hS3.r_ends, hS3.s_ends, hS3.r_there, hS3.s_there, hS3.r_offd, hS3.s_offd, hS3.r_had, hS3.s_had, hS3.r_rPer, hS3.s_rPer, hS3.r_rP, hS3.s_rP, hS3.r_per, hS3.s_per, hS3.r_pr, hS3.s_pr, hS3.r_rCode, hS3.s_rCode, hS3.r_rC, hS3.s_rC, hS3.r_code, hS3.s_code, hS3.r_cd, hS3.s_cd, hS3.r_kept, hS3.s_kept, hS3.r_kp, hS3.s_kp, hS3.r_holder, hS3.s_holder, hS3.r_hd, hS3.s_hd, hS3.r_pass, hS3.s_pass, hS3.r_ps, hS3.s_ps, hS3.r_debt, hS3.s_debt, hS3.r_db, hS3.s_db, hS3.r_endBy, hS3.s_endBy, hS3.r_eb, hS3.s_eb, vpT, vpk0, clk0, vpk1, clk1, vpk2, clk2, vpk3, clk3, vpk4, clk4, vpk5, clk5, vpk6, clk6, vpk7, clk7, vpk8, clk8, vpk9, clk9, nI_clamp, nI_1, true_and, xo, xt]
      cases hun : un with
      | true =>
        rw [wo1 hun j (by omega)]
        refine ⟨fun _ => bRe_callAt_201 M3 206 _ _ _ _ _ ?_, fun z => absurd (Int32.le_refl 0) z⟩
        rw [nI_1]
        refine ih (j + 1) M3 (by omega) hF3 ?_
        rw [hun] at hP3 ⊢
        exact hP3
      | false =>
        obtain ⟨m, m1, m2⟩ := wo2 hun j (by omega)
        rw [m2]
        refine ⟨fun z => absurd z (nI_not_le (a := 0) (by omega) (by omega)), fun _ => CallVC.cps0 (by omega) ?_⟩
        rw [hun] at hP3
        have elen : (g_ps s ++ (L.take j).map (fun q => ((q, p, c_wo c q p (mm / 60), nI mm) : PR))).length = (g_ps s).length + j := by
          rw [List.length_append, List.length_map, List.length_take]; omega
        refine ct_passes M3 c R out hC3 _ hP3 (by show (g_ps s ++ (L.take j).map (fun q => ((q, p, c_wo c q p (mm / 60), nI mm) : PR))).length < 28; rw [elen]; omega) (L.getD j 0) p mm (lp j (by omega)) hpn (by omega) (by omega) (fun M4 hF4 hP4 => ?_)
        refine bRe_callAt_201 M4 206 _ _ _ _ _ ?_
        rw [nI_1]
        have elen' : (g_ps s ++ (if false = true then [] else (L.take j).map (fun q => ((q, p, c_wo c q p (mm / 60), nI mm) : PR)))).length = (g_ps s).length + j := elen
        refine ih (j + 1) M4 (by omega) (hF3.tr (hF4.mono (fun a b q => ?_))) ?_
        · rw [elen'] at q; unfold QN at q ⊢; omega
        · rw [hun]
          rw [if_neg Bool.false_ne_true] at hP4 ⊢
          rw [take_getD L (show j < L.length by omega), List.map_append, ← List.append_assoc]
          exact hP4
  refine loop g 0 M2 (by omega) (FrS.rf _ _) ?_
  rw [List.take_zero, List.map_nil, ite_self, List.append_nil]
  exact hO2.1
end SR5
