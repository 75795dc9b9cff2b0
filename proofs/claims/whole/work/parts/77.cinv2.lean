/-! ===== the class at rest: all of it ===== -/
def TKok (M : Mm) (K : Nat) : Prop := (m_sh M K).1 = 8 ∧ m_r M K 0 = K + 1 ∧ m_r M K 1 = K + 2 ∧ m_r M K 2 = K + 3 ∧ m_r M K 3 = K + 4 ∧ m_sh M (K + 1) = (20, 501) ∧ m_sh M (K + 2) = (20, 501) ∧ m_sh M (K + 3) = (20, 501) ∧ m_sh M (K + 4) = (32, 501)
def IMsh (M : Mm) (C : Nat) : Prop := (m_sh M C).1 = 2 ∧ m_r M C 0 = C + 1 ∧ m_r M C 1 = C + 2 ∧ m_r M C 2 = C + 3 ∧ m_sh M (C + 1) = (20, 8) ∧ m_sh M (C + 2) = (20, 8) ∧ m_sh M (C + 3) = (20, 8)
/-- what never changes -/
def CS0 (M : Mm) : Prop := (m_sh M 100).1 = 10 ∧ m_r M 100 0 = 101 ∧ m_sh M 101 = (21, 500) ∧ m_r M 100 2 = 102 ∧ TKok M 102 ∧ m_r M 100 8 = 127 ∧ m_r M 100 9 = 131 ∧ m_r M 100 10 = 135 ∧ m_r M 100 11 = 162 ∧ m_r M 100 12 = 189 ∧ m_r M 100 13 = 191 ∧ m_r M 100 14 = 192 ∧ m_sh M 192 = (20, 8) ∧ m_r M 100 16 = 193 ∧ m_sh M 193 = (31, 3) ∧ (∀ i, i < 3 → m_r M 193 i = 194 + 4 * i ∧ IMsh M (194 + 4 * i)) ∧ PEok M 107 ∧ PEok M 110 ∧ LAok M 113 ∧ LAok M 120 ∧ (m_sh M 189).1 = 9 ∧ (m_sh M 191).1 = 7
def CSH (M : Mm) (P A E len : Nat) : Prop := CS0 M ∧ (P = 107 ∨ P = 110) ∧ (A = 113 ∨ A = 120) ∧ (E = 190 ∨ 3484 ≤ E) ∧ m_r M 100 4 = P ∧ m_r M 100 5 = 217 - P ∧ m_r M 100 6 = A ∧ m_r M 100 7 = 233 - A ∧ IFsh M 131 ∧ (∃ I0 P0, DAok M 135 I0 P0) ∧ (∃ I0 P0, DAok M 162 I0 P0) ∧ m_r M 189 0 = E ∧ m_sh M E = (20, len)
theorem TKok.ag {M M' : Mm} {K : Nat} (h : TKok M K) (hr : ∀ j, m_r M' K j = m_r M K j) (hs : ∀ a, K ≤ a → a ≤ K + 4 → m_sh M' a = m_sh M a) : TKok M' K := by
  obtain ⟨h0, h1, h2, h3, h4, h5, h6, h7, h8⟩ := h
  exact ⟨by rw [hs _ (by omega) (by omega)]; exact h0, by rw [hr]; exact h1, by rw [hr]; exact h2, by rw [hr]; exact h3, by rw [hr]; exact h4, by rw [hs _ (by omega) (by omega)]; exact h5, by rw [hs _ (by omega) (by omega)]; exact h6, by rw [hs _ (by omega) (by omega)]; exact h7, by rw [hs _ (by omega) (by omega)]; exact h8⟩
theorem IMsh.ag {M M' : Mm} {C : Nat} (h : IMsh M C) (hr : ∀ j, m_r M' C j = m_r M C j) (hs : ∀ a, C ≤ a → a ≤ C + 3 → m_sh M' a = m_sh M a) : IMsh M' C := by
  obtain ⟨h0, h1, h2, h3, h4, h5, h6⟩ := h
  exact ⟨by rw [hs _ (by omega) (by omega)]; exact h0, by rw [hr]; exact h1, by rw [hr]; exact h2, by rw [hr]; exact h3, by rw [hs _ (by omega) (by omega)]; exact h4, by rw [hs _ (by omega) (by omega)]; exact h5, by rw [hs _ (by omega) (by omega)]; exact h6⟩
/-- references of these cells that change: 100 4..7, InForce 1 2, Day 0 1, 189 0 -/
def RX (a j : Nat) : Prop := a = 106 ∨ (a = 100 ∧ (4 ≤ j ∧ j ≤ 7)) ∨ ((a = 127 ∨ a = 131) ∧ (j = 1 ∨ j = 2)) ∨ ((a = 135 ∨ a = 162) ∧ (j = 0 ∨ j = 1)) ∨ (a = 189 ∧ j = 0)
theorem CS0.ag {M M' : Mm} (h : CS0 M) (hr : ∀ a j, 100 ≤ a → a ≤ 205 → ¬ RX a j → m_r M' a j = m_r M a j) (hs : ∀ a, 100 ≤ a → a ≤ 205 → m_sh M' a = m_sh M a) : CS0 M' := by
  obtain ⟨a1, a2, a3, a4, a5, a6, a7, a8, a9, a10, a11, a12, a13, a14, a15, a16, a17, a18, a19, a20, a21, a22⟩ := h
  have r : ∀ j, ¬ (4 ≤ j ∧ j ≤ 7) → m_r M' 100 j = m_r M 100 j := fun j hj => hr 100 j (by omega) (by omega) (by unfold RX; omega)
  have pe : ∀ P, (P = 107 ∨ P = 110) → PEok M P → PEok M' P := fun P hP q => by
    obtain ⟨h0, h1, h2, h3, h4⟩ := q
    exact ⟨by rw [hs _ (by omega) (by omega)]; exact h0, by rw [hr _ _ (by omega) (by omega) (by unfold RX; omega)]; exact h1, by rw [hr _ _ (by omega) (by omega) (by unfold RX; omega)]; exact h2, by rw [hs _ (by omega) (by omega)]; exact h3, by rw [hs _ (by omega) (by omega)]; exact h4⟩
  exact ⟨by rw [hs _ (by omega) (by omega)]; exact a1, by rw [r _ (by omega)]; exact a2, by rw [hs _ (by omega) (by omega)]; exact a3, by rw [r _ (by omega)]; exact a4, a5.ag (fun j => hr _ _ (by omega) (by omega) (by unfold RX; omega)) (fun a h1 h2 => hs a (by omega) (by omega)), by rw [r _ (by omega)]; exact a6, by rw [r _ (by omega)]; exact a7, by rw [r _ (by omega)]; exact a8, by rw [r _ (by omega)]; exact a9, by rw [r _ (by omega)]; exact a10, by rw [r _ (by omega)]; exact a11, by rw [r _ (by omega)]; exact a12, by rw [hs _ (by omega) (by omega)]; exact a13, by rw [r _ (by omega)]; exact a14, by rw [hs _ (by omega) (by omega)]; exact a15, fun i hi => ⟨by rw [hr _ _ (by omega) (by omega) (by unfold RX; omega)]; exact (a16 i hi).1, (a16 i hi).2.ag (fun j => hr _ _ (by omega) (by omega) (by unfold RX; omega)) (fun a h1 h2 => hs a (by omega) (by omega))⟩, pe 107 (by omega) a17, pe 110 (by omega) a18, a19.ag (fun a h1 h2 j => hr _ _ (by omega) (by omega) (by unfold RX; omega)) (fun a h1 h2 => hs a (by omega) (by omega)), a20.ag (fun a h1 h2 j => hr _ _ (by omega) (by omega) (by unfold RX; omega)) (fun a h1 h2 => hs a (by omega) (by omega)), by rw [hs _ (by omega) (by omega)]; exact a21, by rw [hs _ (by omega) (by omega)]; exact a22⟩
def sb (b : Nat) : Int32 := if b < 128 then nI b else nI b - 256
/-- the DAY as it is, if it is not stale -/
def TD (M : Mm) (w : Wd) (A P : Nat) : Prop := m_i M 135 16 = 0 → DSt M (cW w 0 none 0 none 0 0 (fun p => w_F w p 5)) 135 127 A P (day0W w) ∧ BLrep M 135 (balL (g_ps (day0W w)) (g_fr (day0W w)) (w_nu w 0 7))
def CWr (M : Mm) (w : Wd) : Prop := m_i M 189 1 = 0 → w_n w ≤ 5 ∧ m_i M 189 2 = nI (dcN w (5 ^ w_n w) 0) ∧ m_i M 189 3 = oN (fiN w (5 ^ w_n w) 0) ∧ m_i M 189 4 = nI (bstN (sbN w) (5 ^ w_n w - 1)) ∧ m_i M 189 5 = nI (sbN w (bstN (sbN w) (5 ^ w_n w - 1)))
def CSk (M : Mm) (w : Wd) : Prop := m_i M 191 0 = 0 → m_i M 191 1 = oN (stS w (2 ^ (w_R w).length)) ∧ m_i M 191 2 = hpV w
def CKp (M : Mm) (n i : Nat) (m : Imz) : Prop := m_i M (194 + 4 * i) 3 = nI m.2.2.2 ∧ (∀ j, j < 8 → m_i M (197 + 4 * i) j = m.2.2.1 j) ∧ ∀ p, p < n → m_i M (195 + 4 * i) p = nI (m.1 p) ∧ m_i M (196 + 4 * i) p = nI (m.2.1 p)
def CIF (M : Mm) (w : Wd) (A P : Nat) : Prop := IFinv M 127 A P (w_n w) (w_f w) (w_by w) (w_nu w 0) (mustF (w_R w) (w_nu w 0) (w_f w)) (worthF (w_R w) (w_nu w 0) (w_f w))
def CTx (M : Mm) (w : Wd) : Prop := (m_i M 100 1 = nI (w_T w) ∧ ∀ i, i < w_T w → m_i M 101 i = sb (w_tp w i)) ∧ m_i M 100 3 = w_fp w
def CSv (M : Mm) (w : Wd) : Prop := (m_i M 100 15 = nI (w_ss w) ∧ ∀ j, j < 8 → m_i M 192 j = w_sr w j) ∧ m_i M 100 17 = nI (w_ic w) ∧ ∀ i, i < w_ic w → CKp M (w_n w) i (w_im w i)
def CPT (M : Mm) (w : Wd) : Prop := ICm M 131 (w_R w) (w_n w) (w_f w) ∧ ICw M 131 (w_R w) (w_n w) (w_f w)
def CINV (M : Mm) (w : Wd) (P A E len : Nat) : Prop := CSH M P A E len ∧ PErep M P (w_n w) (w_f w) (w_by w) ∧ LArep M A (w_R w) ∧ CIF M w A P ∧ CPT M w ∧ TD M w A P ∧ CWr M w ∧ CSk M w ∧ CTx M w ∧ CSv M w
theorem CIF.ag {M M' : Mm} {w : Wd} {A P : Nat} (h : CIF M w A P) (hP : P = 107 ∨ P = 110) (hA : A = 113 ∨ A = 120) (hi : ∀ a j, 107 ≤ a → a ≤ 130 → a ≠ A + 6 → m_i M' a j = m_i M a j) (hr : ∀ a j, 107 ≤ a → a ≤ 130 → m_r M' a j = m_r M a j) (hs : ∀ a, 107 ≤ a → a ≤ 130 → m_sh M' a = m_sh M a) : CIF M' w A P :=
  IFinv.ag h ⟨fun a q j => hi a j (by omega) (by omega) (by omega), fun a q j => hr a j (by omega) (by omega), fun a q => hs a (by omega) (by omega)⟩ (fun a h1 h2 j => hi a j (by omega) (by omega) (by omega)) (fun a h1 h2 j => hr a j (by omega) (by omega)) (fun a h1 h2 => hs a (by omega) (by omega))
theorem TD.ag {M M' : Mm} {w : Wd} {A P : Nat} (hw : WOK w) (h : TD M w A P) (hA : AG (fun a => 135 ≤ a ∧ a < 162) M M') (hI : CIF M' w A P) : TD M' w A P := fun q => by
  rw [hA.1 _ (by omega)] at q
  obtain ⟨h1, h2⟩ := h q
  exact ⟨h1.ag (day0W_ok hw).1.2.2.2.2.2.2.2.2.2.2.1 (fun a j b c _ => hA.1 a (by omega) j) (fun a b c => hA.2.1 a (by omega)) (fun a b c => hA.2.2 a (by omega)) hI, fun p hp => by rw [hA.1 _ (by omega)]; exact h2 p hp⟩
theorem CWr.ag {M M' : Mm} {w : Wd} (h : CWr M w) (hi : ∀ j, m_i M' 189 j = m_i M 189 j) : CWr M' w := by unfold CWr at h ⊢; simp only [hi]; exact h
theorem CSk.ag {M M' : Mm} {w : Wd} (h : CSk M w) (hi : ∀ j, m_i M' 191 j = m_i M 191 j) : CSk M' w := by unfold CSk at h ⊢; simp only [hi]; exact h
theorem CKp.ag {M M' : Mm} {n i : Nat} {m : Imz} (h : CKp M n i m) (hi : ∀ a, 194 + 4 * i ≤ a → a ≤ 197 + 4 * i → ∀ j, m_i M' a j = m_i M a j) : CKp M' n i m := by
  obtain ⟨h1, h2, h3⟩ := h
  exact ⟨by rw [hi _ (by omega) (by omega)]; exact h1, fun j hj => by rw [hi _ (by omega) (by omega)]; exact h2 j hj, fun p hp => by rw [hi _ (by omega) (by omega), hi _ (by omega) (by omega)]; exact h3 p hp⟩
theorem CTx.ag {M M' : Mm} {w : Wd} (h : CTx M w) (h1 : m_i M' 100 1 = m_i M 100 1) (h3 : m_i M' 100 3 = m_i M 100 3) (hi : ∀ j, m_i M' 101 j = m_i M 101 j) : CTx M' w := ⟨⟨by rw [h1]; exact h.1.1, fun i hj => by rw [hi]; exact h.1.2 i hj⟩, by rw [h3]; exact h.2⟩
theorem CSv.ag {M M' : Mm} {w : Wd} (hw : WOK w) (h : CSv M w) (h15 : m_i M' 100 15 = m_i M 100 15) (h17 : m_i M' 100 17 = m_i M 100 17) (hi : ∀ a, 192 ≤ a → a ≤ 205 → ∀ j, m_i M' a j = m_i M a j) : CSv M' w := by
  have hic := hw.2.2.2.2.2.2.2.2.1
  exact ⟨⟨by rw [h15]; exact h.1.1, fun j hj => by rw [hi _ (by omega) (by omega)]; exact h.1.2 j hj⟩, by rw [h17]; exact h.2.1, fun i hi2 => (h.2.2 i hi2).ag (fun a h1 h2 => hi a (by omega) (by omega))⟩
theorem CPT.ag {M M' : Mm} {w : Wd} (h : CPT M w) (hi : ∀ a, 131 ≤ a → a ≤ 134 → ∀ j, m_i M' a j = m_i M a j) : CPT M' w := ⟨h.1.ag (hi _ (by omega) (by omega) _) (hi _ (by omega) (by omega)), h.2.ag (hi _ (by omega) (by omega) _) (hi _ (by omega) (by omega))⟩
theorem CSH.ag {M M' : Mm} {P A E len : Nat} (h : CSH M P A E len) (hA : AG (fun a => (100 ≤ a ∧ a ≤ 205) ∨ a = E) M M') : CSH M' P A E len := by
  obtain ⟨a1, a2, a3, a4, a5, a6, a7, a8, a9, ⟨i1, p1, a10⟩, ⟨i2, p2, a11⟩, a12, a13⟩ := h
  obtain ⟨hi, hr, hs⟩ := hA
  exact ⟨a1.ag (fun a j h1 h2 _ => hr a (by omega) j) (fun a h1 h2 => hs a (by omega)), a2, a3, a4, by rw [hr _ (by omega)]; exact a5, by rw [hr _ (by omega)]; exact a6, by rw [hr _ (by omega)]; exact a7, by rw [hr _ (by omega)]; exact a8, a9.ag (fun j _ _ => hr _ (by omega) j) (fun a h1 h2 => hs a (by omega)), ⟨i1, p1, a10.ag (fun a h1 h2 => hr a (by omega)) (fun a h1 h2 => hs a (by omega))⟩, ⟨i2, p2, a11.ag (fun a h1 h2 => hr a (by omega)) (fun a h1 h2 => hs a (by omega))⟩, by rw [hr _ (by omega)]; exact a12, by rw [hs _ (by omega)]; exact a13⟩
theorem CINV.ag {M M' : Mm} {w : Wd} {P A E len : Nat} (hw : WOK w) (h : CINV M w P A E len) (hA : AG (fun a => (100 ≤ a ∧ a ≤ 205) ∨ a = E) M M') : CINV M' w P A E len := by
  obtain ⟨a1, a2, a3, a4, a5, a6, a7, a8, a9, a10⟩ := h
  have hP := a1.2.1
  have hAA := a1.2.2.1
  have hA0 := hA
  obtain ⟨hi, hr, hs⟩ := hA
  have b4 : CIF M' w A P := a4.ag hP hAA (fun a j h1 h2 _ => hi a (by omega) j) (fun a j h1 h2 => hr a (by omega) j) (fun a h1 h2 => hs a (by omega))
  exact ⟨a1.ag hA0, a2.ag (hA0.mono (fun a q => by omega)), a3.fr (fun a h1 h2 => hi a (by omega)), b4, a5.ag (fun a h1 h2 => hi a (by omega)), a6.ag hw (hA0.mono (fun a q => by omega)) b4, a7.ag (hi _ (by omega)), a8.ag (hi _ (by omega)), a9.ag (hi _ (by omega) _) (hi _ (by omega) _) (hi _ (by omega)), a10.ag hw (hi _ (by omega) _) (hi _ (by omega) _) (fun a h1 h2 => hi a (by omega))⟩
/-- what the class leaves alone -/
def KR (M M' : Mm) : Prop := AG (fun a => 206 ≤ a ∧ a ≤ 3483) M M' ∧ (∀ j, m_l M' 3483 j = m_l M 3483 j) ∧ m_nx M ≤ m_nx M'
theorem KR.rf (M : Mm) : KR M M := ⟨⟨fun _ _ _ => rfl, fun _ _ _ => rfl, fun _ _ => rfl⟩, fun _ => rfl, Nat.le_refl _⟩
theorem KR.tr {M M' M2 : Mm} (h : KR M M') (h2 : KR M' M2) : KR M M2 := ⟨h.1.tr h2.1, fun j => (h2.2.1 j).trans (h.2.1 j), Nat.le_trans h.2.2 h2.2.2⟩
theorem KR.of {X Y : Nat → Nat → Prop} {M M' : Mm} (h : FrX X Y M M') (hX : ∀ a j, X a j → a < 206 ∨ 3484 ≤ a) (hY : ∀ a j, Y a j → a < 206 ∨ 3484 ≤ a) : KR M M' := ⟨h.ag (fun a j h1 q => by have := hX a j q; omega) (fun a j h1 q => by have := hY a j q; omega), fun j => h.2.2.1 _ j, Nat.le_of_eq h.2.2.2.2.symm⟩
/-- an answer of the class: ex says what is thrown -/
def CPost (M : Mm) (len0 : Nat) (a : An) (ex : Nat → String) (Φ : OutV → Mm → Prop) : Prop := ∀ M' P A E, KR M M' → CINV M' a.2.2 P A E len0 → (a.1 = 0 → Φ (.inl (some (.int a.2.1))) M') ∧ (¬ a.1 = 0 → Φ (.inr (ex a.1)) M')
theorem CPost.done {M M0 : Mm} {w : Wd} {len : Nat} {a : An} {ex : Nat → String} {Φ : OutV → Mm → Prop} (h : CPost M len a ex Φ) {P A E : Nat} (hK : KR M M0) (hI : CINV M0 w P A E len) {v : Int32} (e : a = (0, v, w)) : Φ (.inl (some (.int v))) M0 := by
  subst e
  exact (h M0 P A E hK hI).1 rfl
theorem CPost.fail {M M0 : Mm} {w : Wd} {len : Nat} {a : An} {ex : Nat → String} {Φ : OutV → Mm → Prop} (h : CPost M len a ex Φ) {P A E : Nat} (hK : KR M M0) (hI : CINV M0 w P A E len) {c : Nat} (hc : ¬ c = 0) (e : a = (c, 0, w)) : Φ (.inr (ex c)) M0 := by
  subst e
  exact (h M0 P A E hK hI).2 hc
