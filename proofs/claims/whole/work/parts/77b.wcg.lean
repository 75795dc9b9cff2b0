/-! ===== what of a world its DAYS go by ===== -/
def cgW (w w' : Wd) : Prop := w_n w = w_n w' ∧ (∀ p k, k ≠ 5 → w_F w p k = w_F w' p k) ∧ (∀ i, w_by w i = w_by w' i) ∧ w_R w = w_R w'
theorem dyW_cg {w w' : Wd} (h : cgW w w') (out : Nat) (pl : Option Nat) (pb : Int32) (tu : Option Nat) (tc : Int32) (tw : Nat) (wy : Nat → Nat) : dyW w out pl pb tu tc tw wy = dyW w' out pl pb tu tc tw wy := by
  obtain ⟨h1, h2, h3, h4⟩ := h
  have hnu : w_nu w out = w_nu w' out := by unfold w_nu; rw [h4]
  have hf : ∀ p k, 1 ≤ k → k ≤ 3 → w_f w p k = w_f w' p k := fun p k a b => by unfold w_f; rw [h2 p k (by omega)]
  unfold dyW
  refine dayS_cg ?_ 8 g0 (by show 0 + 8 < _; omega)
  refine ⟨h1, h2, h3, fun k => by show w_nu w out k = w_nu w' out k; rw [hnu], fun p q t => ?_, fun p q t => ?_, rfl, rfl, fun _ _ _ => rfl⟩
  · show mustF (w_R w) (w_nu w out) (w_f w) p q t = mustF (w_R w') (w_nu w' out) (w_f w') p q t
    rw [hnu, h4, mustF_cg hf]
  · show worthF (w_R w) (w_nu w out) (w_f w) p q t = worthF (w_R w') (w_nu w' out) (w_f w') p q t
    rw [hnu, h4, worthF_cg hf]
theorem eB_cg {w w' : Wd} (h : cgW w w') (r p : Nat) : eB w r p = eB w' r p := by unfold eB; rw [dyW_cg h, h.1]
theorem isR_cg {w w' : Wd} (h : cgW w w') (r : Nat) : isR w r = isR w' r := by
  unfold isR
  simp only [eB_cg h, h.1]
theorem dcN_cg {w w' : Wd} (h : cgW w w') : ∀ e k, dcN w e k = dcN w' e k
  | 0, _ => rfl
  | e + 1, k => by
    show dcN w e (k + 1) + _ = dcN w' e (k + 1) + _
    rw [dcN_cg h e (k + 1), isR_cg h k]
theorem fiN_cg {w w' : Wd} (h : cgW w w') : ∀ e k, fiN w e k = fiN w' e k
  | 0, _ => rfl
  | e + 1, k => by
    show (if isR w k = true then some k else fiN w e (k + 1)) = (if isR w' k = true then some k else fiN w' e (k + 1))
    rw [fiN_cg h e (k + 1), isR_cg h k]
theorem sB_cg {w w' : Wd} (h : cgW w w') (r : Nat) : ∀ p, sB w r p = sB w' r p
  | 0 => rfl
  | p + 1 => by
    show sB w r p + eB w r p = sB w' r p + eB w' r p
    rw [sB_cg h r p, eB_cg h]
theorem sbN_cg {w w' : Wd} (h : cgW w w') : sbN w = sbN w' := by
  funext r
  unfold sbN
  rw [sB_cg h, h.1]
theorem CWr.cg {M : Mm} {w w' : Wd} (h : cgW w w') (hC : CWr M w) : CWr M w' := by
  unfold CWr at hC ⊢
  rw [← dcN_cg h, ← fiN_cg h, ← sbN_cg h, ← h.1]
  exact hC
def cgF (w w' : Wd) : Prop := cgW w w' ∧ ∀ p, w_F w p 5 = w_F w' p 5
theorem svW_cg {w w' : Wd} (h : cgF w w') (k : Nat) : svW w k = svW w' k := by
  unfold svW
  rw [dyW_cg h.1, show (fun q => w_F w q 5) = (fun q => w_F w' q 5) from funext h.2]
theorem stS_cg {w w' : Wd} (h : cgF w w') : ∀ k, stS w k = stS w' k
  | 0 => rfl
  | k + 1 => by
    show stC w (stS w k) k = stC w' (stS w' k) k
    unfold stC
    rw [stS_cg h k, svW_cg h k, h.1.1]
theorem orW_cg {w w' : Wd} (h : cgF w w') : ∀ k, orW w k = orW w' k
  | 0 => rfl
  | k + 1 => by
    show orW w k ||| svW w k = orW w' k ||| svW w' k
    rw [orW_cg h k, svW_cg h k]
theorem CSk.cg {M : Mm} {w w' : Wd} (h : cgF w w') (hC : CSk M w) : CSk M w' := by
  unfold CSk hpV at hC ⊢
  rw [← stS_cg h, ← orW_cg h, ← h.1.1, ← h.1.2.2.2]
  exact hC
theorem ICm.cg {M : Mm} {I : Nat} {R : List RU} {n : Nat} {f f' : Nat → Nat → Int32} (hf : ∀ p k, 1 ≤ k → k ≤ 3 → f p k = f' p k) (h : ICm M I R n f) : ICm M I R n f' := by
  unfold ICm at h ⊢
  simp only [valR_cg hf] at h
  exact h
theorem ICw.cg {M : Mm} {I : Nat} {R : List RU} {n : Nat} {f f' : Nat → Nat → Int32} (hf : ∀ p k, 1 ≤ k → k ≤ 3 → f p k = f' p k) (h : ICw M I R n f) : ICw M I R n f' := by
  unfold ICw at h ⊢
  simp only [valR_cg hf] at h
  exact h
/-- worlds that differ in what no DAY looks at -/
theorem cgF.rf {w w' : Wd} (h1 : w_n w = w_n w') (h2 : w_F w = w_F w') (h3 : w_by w = w_by w') (h4 : w_R w = w_R w') : cgF w w' := ⟨⟨h1, fun p k _ => by rw [h2], fun i => by rw [h3], h4⟩, fun p => by rw [h2]⟩
/-- the class's sections but tape, fault's place, SERVED ROW, images -/
def CDY (M : Mm) (w : Wd) (P A E len : Nat) : Prop := CSH M P A E len ∧ PErep M P (w_n w) (w_f w) (w_by w) ∧ LArep M A (w_R w) ∧ CIF M w A P ∧ CPT M w ∧ TD M w A P ∧ CWr M w ∧ CSk M w
theorem CDY.cg {M : Mm} {n : Nat} {F : Nat → Nat → Nat} {b : Nat → Nat} {R : List RU} {T T' : Nat} {tp tp' : Nat → Nat} {fp fp' : Int32} {sr sr' : Nat → Int32} {ss ss' ic ic' : Nat} {im im' : Nat → Imz} {P A E len : Nat} (h : CDY M (n, F, b, R, T, tp, fp, sr, ss, ic, im) P A E len) : CDY M (n, F, b, R, T', tp', fp', sr', ss', ic', im') P A E len := by
  obtain ⟨a1, a2, a3, a4, a5, a6, a7, a8⟩ := h
  have hc : cgF (n, F, b, R, T, tp, fp, sr, ss, ic, im) (n, F, b, R, T', tp', fp', sr', ss', ic', im') := cgF.rf rfl rfl rfl rfl
  exact ⟨a1, a2, a3, a4, a5, a6, a7.cg hc.1, a8.cg hc⟩
theorem CINV.cd {M : Mm} {w : Wd} {P A E len : Nat} (h : CINV M w P A E len) : CDY M w P A E len := ⟨h.1, h.2.1, h.2.2.1, h.2.2.2.1, h.2.2.2.2.1, h.2.2.2.2.2.1, h.2.2.2.2.2.2.1, h.2.2.2.2.2.2.2.1⟩
theorem CDY.inv {M : Mm} {w : Wd} {P A E len : Nat} (h : CDY M w P A E len) (h9 : CTx M w) (h10 : CSv M w) : CINV M w P A E len := ⟨h.1, h.2.1, h.2.2.1, h.2.2.2.1, h.2.2.2.2.1, h.2.2.2.2.2.1, h.2.2.2.2.2.2.1, h.2.2.2.2.2.2.2, h9, h10⟩
theorem CDY.fr {M M' : Mm} {w : Wd} {P A E len : Nat} {X : Nat → Nat → Prop} (hw : WOK w) (h : CDY M w P A E len) (hF : FrS X M M') (hX : ∀ a j, X a j → (a = 100 ∨ a = 101 ∨ (102 ≤ a ∧ a ≤ 106) ∨ (192 ≤ a ∧ a ≤ 205))) : CDY M' w P A E len := by
  obtain ⟨a1, a2, a3, a4, a5, a6, a7, a8⟩ := h
  have hP := a1.2.1
  have hA := a1.2.2.1
  have hi : ∀ a j, ¬ (a = 100 ∨ a = 101 ∨ (102 ≤ a ∧ a ≤ 106) ∨ (192 ≤ a ∧ a ≤ 205)) → m_i M' a j = m_i M a j := fun a j n => hF.1 a j (fun q => n (hX a j q))
  have b4 : CIF M' w A P := a4.ag hP hA (fun a j h1 h2 _ => hi a j (by omega)) (fun a j _ _ => hF.2.1 a j) (fun a _ _ => hF.2.2.2.1 a)
  have b1 : CSH M' P A E len := by
    obtain ⟨b1, b2, b3, b4, b5, b6, b7, b8, b9, ⟨i1, p1, b10⟩, ⟨i2, p2, b11⟩, b12, b13⟩ := a1
    exact ⟨b1.ag (fun a j _ _ _ => hF.2.1 a j) (fun a _ _ => hF.2.2.2.1 a), b2, b3, b4, by rw [hF.2.1]; exact b5, by rw [hF.2.1]; exact b6, by rw [hF.2.1]; exact b7, by rw [hF.2.1]; exact b8, b9.ag (fun j _ _ => hF.2.1 _ j) (fun a _ _ => hF.2.2.2.1 a), ⟨i1, p1, b10.of hF.2.1 hF.2.2.2.1⟩, ⟨i2, p2, b11.of hF.2.1 hF.2.2.2.1⟩, by rw [hF.2.1]; exact b12, by rw [hF.2.2.2.1]; exact b13⟩
  exact ⟨b1, a2.fx (fun a h1 h2 j => hi a j (by omega)), a3.fr (fun a h1 h2 j => hi a j (by omega)), b4, a5.ag (fun a h1 h2 j => hi a j (by omega)), a6.ag hw ⟨fun a q j => hi a j (by omega), fun a _ j => hF.2.1 a j, fun a _ => hF.2.2.2.1 a⟩ b4, a7.ag (fun j => hi _ j (by omega)), a8.ag (fun j => hi _ j (by omega))⟩
