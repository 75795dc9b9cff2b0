/-! ===== the class: checks, the DAY as it is ===== -/
def exN (c : Nat) : String := if c = 1 then "java/util/NoSuchElementException" else "java/lang/IllegalArgumentException"
def exI (_ : Nat) : String := "java/lang/IllegalArgumentException"
def exB (c : Nat) : String := if c = 1 then "java/lang/IndexOutOfBoundsException" else "java/lang/IllegalArgumentException"
def exS (c : Nat) : String := if c = 1 then "java/lang/IllegalArgumentException" else "java/lang/IllegalStateException"
theorem DAok.fx {M M' : Mm} {D I P : Nat} (h : DAok M D I P) (hr : ∀ a j, D ≤ a → a < D + 27 → ¬ (a = D ∧ (j = 0 ∨ j = 1)) → m_r M' a j = m_r M a j) (hs : ∀ a, D ≤ a → a < D + 27 → m_sh M' a = m_sh M a) : DAok M' D (m_r M' D 1) (m_r M' D 0) := by
  obtain ⟨h0, h1, h2, h3, h4, h5, h6, h7, h8, h9, h10, h11⟩ := h
  refine ⟨by rw [hs _ (by omega) (by omega)]; exact h0, rfl, rfl, by rw [hr _ _ (by omega) (by omega) (by omega)]; exact h3, by rw [hr _ _ (by omega) (by omega) (by omega)]; exact h4, by rw [hr _ _ (by omega) (by omega) (by omega)]; exact h5, by rw [hr _ _ (by omega) (by omega) (by omega)]; exact h6, by rw [hs _ (by omega) (by omega)]; exact h7, by rw [hs _ (by omega) (by omega)]; exact h8, by rw [hs _ (by omega) (by omega)]; exact h9, h10.ag (fun a b c j => hr a j (by omega) (by omega) (by omega)) (fun a b c => hs a (by omega) (by omega)), fun k hk => ⟨by rw [hr _ _ (by omega) (by omega) (by omega)]; exact (h11 k hk).1, (h11 k hk).2.ag (fun j => hr _ _ (by omega) (by omega) (by omega)) (fun a b c => hs a (by omega) (by omega))⟩⟩
theorem CSH.fx {M M' : Mm} {P A E len : Nat} {X Y : Nat → Nat → Prop} (h : CSH M P A E len) (hF : FrX X Y M M') (hY : ∀ a j, Y a j → ((a = 127 ∨ a = 131) ∧ (j = 1 ∨ j = 2)) ∨ ((a = 135 ∨ a = 162) ∧ (j = 0 ∨ j = 1))) : CSH M' P A E len := by
  obtain ⟨a1, a2, a3, a4, a5, a6, a7, a8, a9, ⟨i1, p1, a10⟩, ⟨i2, p2, a11⟩, a12, a13⟩ := h
  have hr : ∀ a j, ¬ (((a = 127 ∨ a = 131) ∧ (j = 1 ∨ j = 2)) ∨ ((a = 135 ∨ a = 162) ∧ (j = 0 ∨ j = 1))) → m_r M' a j = m_r M a j := fun a j n => hF.2.1 a j (fun q => n (hY a j q))
  have hs := hF.2.2.2.1
  exact ⟨a1.ag (fun a j _ _ n => hr a j (fun q => n (by unfold RX; omega))) (fun a _ _ => hs a), a2, a3, a4, by rw [hr _ _ (by omega)]; exact a5, by rw [hr _ _ (by omega)]; exact a6, by rw [hr _ _ (by omega)]; exact a7, by rw [hr _ _ (by omega)]; exact a8, a9.ag (fun j _ _ => hr _ _ (by omega)) (fun a _ _ => hs a), ⟨_, _, a10.fx (fun a j _ _ n => hr a j (by omega)) (fun a _ _ => hs a)⟩, ⟨_, _, a11.fx (fun a j _ _ n => hr a j (by omega)) (fun a _ _ => hs a)⟩, by rw [hr _ _ (by omega)]; exact a12, by rw [hs]; exact a13⟩
theorem CINV.fx {M M' : Mm} {w : Wd} {P A E len : Nat} {X Y : Nat → Nat → Prop} (hw : WOK w) (h : CINV M w P A E len) (hF : FrX X Y M M') (hY : ∀ a j, Y a j → ((a = 127 ∨ a = 131) ∧ (j = 1 ∨ j = 2)) ∨ ((a = 135 ∨ a = 162) ∧ (j = 0 ∨ j = 1))) (hX : ∀ a j, X a j → a = A + 6 ∨ (127 ≤ a ∧ a ≤ 188)) (h4 : CIF M' w A P) (h5 : CPT M' w) (h6 : TD M' w A P) : CINV M' w P A E len := by
  obtain ⟨a1, a2, a3, a4, a5, a6, a7, a8, a9, a10⟩ := h
  have hP := a1.2.1
  have hA := a1.2.2.1
  have hi : ∀ a j, ¬ (a = A + 6 ∨ (127 ≤ a ∧ a ≤ 188)) → m_i M' a j = m_i M a j := fun a j n => hF.1 a j (fun q => n (hX a j q))
  exact ⟨a1.fx hF hY, a2.fx (fun a h1 h2 j => hi a j (by omega)), a3.fr (fun a h1 h2 j => hi a j (by omega)), h4, h5, h6, a7.ag (fun j => hi _ j (by omega)), a8.ag (fun j => hi _ j (by omega)), a9.ag (hi _ _ (by omega)) (hi _ _ (by omega)) (fun j => hi _ j (by omega)), a10.ag hw (hi _ _ (by omega)) (hi _ _ (by omega)) (fun a h1 h2 j => hi a j (by omega))⟩
section SC0
variable {l : Launch} {G : Gx} {d : Nat} {bc bs : Nat} {Φ : OutV → Mm → Prop}
theorem CallVC.chk {l : Launch} {G : Gx} {d : Nat} {y : MR} {pc2 : Nat} {ls st : List Value} {z : MR} {av : List Value} {M : Mm} {bc bs : Nat} {Φ : OutV → Mm → Prop} (bc' bs' : Nat) (hd : 0 < d) (hb : bc = 1 + bc') (hs : bs = 6 + bs') (h : Ct l G (d - 1) z 1 6 av M (contΦ l G d y pc2 ls st bc' bs' Φ)) : CallVC l G d y pc2 ls st z av M bc bs Φ := by
  subst hb hs
  exact CallVC.cps (by omega) h
theorem ct_checkPerson (M : Mm) (w : Wd) (hw : WOK w) {P A E len : Nat} (hI : CINV M w P A E len) (hl : l.stackTraces = false) (x : Int32) (hd : 5 < d) (h1 : pIn w x → Φ (.inl none) M) (h0 : ¬ pIn w x → Φ (.inr "java/util/NoSuchElementException") M) : Ct l G d mBo_checkPerson 1 6 [.ref 100, .int x] M Φ := by
  have hS := hI.1
  have e4 := hS.2.2.2.2.1
  have hn := hI.2.1.1
  have hp : (m_sh M P).1 = 6 := by
    rcases hS.2.1 with q | q
    · rw [q]; exact hS.1.2.2.2.2.2.2.2.2.2.2.2.2.2.2.2.2.1.1
    · rw [q]; exact hS.1.2.2.2.2.2.2.2.2.2.2.2.2.2.2.2.2.2.1.1
  refine Ct.of rfl (Nat.le_of_ble_eq_true rfl) ?_
  have h15 : ¬ pIn w x → Ev l G d mBo_checkPerson 15 [.ref 100, .int x] [] M 1 6 Φ := fun q => bBo_checkPerson_15 _ _ _ ⟨hl, by omega, by omega, by omega, h0 q⟩
  refine bBo_checkPerson_0 _ _ _ ⟨fun z => h15 (fun q => q.1 z), fun z => ⟨hS.1.1, by rw [e4]; exact hp, ?_⟩⟩
  rw [e4, hn]
  exact ⟨fun z2 => h1 ⟨z, z2⟩, fun z2 => h15 (fun q => z2 q.2)⟩
theorem ct_checkWhat (M : Mm) (hl : l.stackTraces = false) (k : Nat) (x : Int32) (hd : 5 < d) (h1 : vIn k x → Φ (.inl none) M) (h0 : ¬ vIn k x → Φ (.inr "java/lang/IllegalArgumentException") M) : Ct l G d mBo_checkWhat 1 6 [.ref 100, .int x, .int (nI k)] M Φ := by
  refine Ct.of rfl (Nat.le_of_ble_eq_true rfl) ?_
  have h9 : ¬ vIn k x → Ev l G d mBo_checkWhat 9 [.ref 100, .int x, .int (nI k)] [] M 1 6 Φ := fun q => bBo_checkWhat_9 _ _ _ _ ⟨hl, by omega, by omega, by omega, h0 q⟩
  exact bBo_checkWhat_0 _ _ _ _ ⟨fun z => h9 (fun q => q.1 z), fun z => ⟨fun z2 => h1 ⟨z, Int32.not_lt.mpr z2⟩, fun z2 => h9 (fun q => z2 (Int32.not_lt.mp q.2))⟩⟩
/-- how a DAY may go: the settled part of it, from the class at rest -/
theorem CINV.din {M M1 : Mm} {w : Wd} {P A E len : Nat} (hw : WOK w) (h : CINV M w P A E len) {D I out : Nat} (hD : D = 135 ∨ D = 162) (hI : IFinv M1 I A P (w_n w) (w_f w) (w_by w) (w_nu w out) (mustF (w_R w) (w_nu w out) (w_f w)) (worthF (w_R w) (w_nu w out) (w_f w))) (hII : I = 127 ∨ I = 131) (hDA : DAok M1 D I P) {pl : Option Nat} {pb : Int32} {tu : Option Nat} {tc : Int32} {tw : Nat} {wy : Nat → Nat} (h3 : m_i M1 D 3 = oN pl) (h4 : ∀ p, pl = some p → m_i M1 D 4 = pb) (h6 : m_i M1 D 6 = oN tu) (h7 : ∀ p, tu = some p → m_i M1 D 7 = tc ∧ m_i M1 D 8 = nI tw) : DIN M1 (cW w out pl pb tu tc tw wy) D I A P := by
  have hP := h.1.2.1
  have hA := h.1.2.2.1
  exact ⟨hDA, hI, by omega, h3, h4, h6, h7⟩
theorem ct_dayAsItIs (M : Mm) (w : Wd) (hw : WOK w) {P A E len : Nat} (hI : CINV M w P A E len) (hd : 6 < d) (h : ∀ M', KR M M' → CINV M' w P A E len → DSt M' (cW w 0 none 0 none 0 0 (fun p => w_F w p 5)) 135 127 A P (day0W w) → BLrep M' 135 (balL (g_ps (day0W w)) (g_fr (day0W w)) (w_nu w 0 7)) → Φ (.inl (some (.ref 135))) M') : Ct l G d mBo_dayAsItIs bc bs [.ref 100] M Φ := by
  obtain ⟨a1, a2, a3, a4, a5, a6, a7, a8, a9, a10⟩ := id hI
  obtain ⟨b1, hP, hA, hE, r4, r5, r6, r7, b9, ⟨i1, p1, b10⟩, ⟨i2, p2, b11⟩, b12, b13⟩ := id a1
  have c1 := b1.1
  have r8 : m_r M 100 8 = 127 := b1.2.2.2.2.2.1
  have r10 : m_r M 100 10 = 135 := b1.2.2.2.2.2.2.2.1
  have h40 : ∀ M', KR M M' → CINV M' w P A E len → m_i M' 135 16 = 0 → Ev l G d mBo_dayAsItIs 40 [.ref 100] [] M' bc bs Φ := fun M' hK hC q => by
    obtain ⟨t1, t2⟩ := hC.2.2.2.2.2.1 q
    refine bBo_dayAsItIs_40 _ _ ⟨hC.1.1.1, ?_⟩
    rw [hC.1.1.2.2.2.2.2.2.2.1]
    exact h M' hK hC t1 t2
  refine Ct.of rfl (Nat.le_of_ble_eq_true rfl) ?_
  refine bBo_dayAsItIs_0 _ _ ⟨c1, by rw [r10]; exact b10.1, ?_⟩
  rw [r10, r4, r8]
  refine ⟨fun z => h40 M (KR.rf M) hI z, fun z => CallVC.cps0 (by omega) ?_⟩
  refine ct_prepare M 135 127 P (w_n w) (w_f w) (w_by w) i1 p1 b10 a4.2.2.1 a2 (by omega) (by omega) (fun M1 hF1 hD1 hw1 q3 q6 q7 => ?_)
  have hif1 : CIF M1 w A P := a4.ag hP hA (fun a j h1 h2 _ => hF1.1 a j (by omega)) (fun a j h1 h2 => hF1.2.1 a j (by omega)) (fun a h1 h2 => hF1.2.2.2.1 a)
  have e10 : m_r M1 100 10 = 135 := by rw [hF1.2.1 _ _ (by omega)]; exact r10
  refine bBo_dayAsItIs_25 _ _ ⟨by rw [hF1.2.2.2.1]; exact c1, by rw [e10]; exact hD1.1, CallVC.cps0 (by omega) ?_⟩
  rw [e10]
  have hc := (cW_ok hw (out := 0) (pl := none) (pb := 0) (tu := none) (tc := 0) (tw := 0) (wy := fun p => w_F w p 5) (fun p q => by cases q) (fun p q => by cases q) (fun p hp => (hw.2.1 p hp).2.2.2.2.2.1)).1
  refine ct_goThrough M1 (cW w 0 none 0 none 0 0 (fun p => w_F w p 5)) hc 135 127 A P (hI.din hw (out := 0) (Or.inl rfl) hif1 (Or.inl rfl) hD1 q3 (fun p q => by cases q) q6 (fun p q => by cases q)) hw1 (by omega) (fun M2 hF2 hDS2 hB2 hS2 => ?_)
  have e10' : m_r M2 100 10 = 135 := by rw [hF2.2.1]; exact e10
  refine bBo_dayAsItIs_32 _ _ ⟨by rw [hF2.2.2.2.1, hF1.2.2.2.1]; exact c1, by rw [e10']; exact hDS2.1.1.1.1, ?_⟩
  rw [e10']
  have hF3 : FrS (fun a j => a = 135 ∧ j = 16) M2 (m_si M2 135 16 0) := FrS.si ⟨rfl, rfl⟩ _
  have y16 : m_i (m_si M2 135 16 0) 135 16 = 0 := by rw [m_i_si, if_pos ⟨rfl, rfl⟩]
  generalize m_si M2 135 16 0 = M3 at *
  have hif2 : CIF M2 w A P := hDS2.1.1.2.1
  have hif3 : CIF M3 w A P := hif2.ag hP hA (fun a j h1 h2 _ => hF3.1 a j (by omega)) (fun a j _ _ => hF3.2.1 a j) (fun a _ _ => hF3.2.2.2.1 a)
  have hFX : FrX (fun a j => a = A + 6 ∨ (127 ≤ a ∧ a ≤ 130) ∨ (135 ≤ a ∧ a < 162)) (fun a j => a = 135 ∧ (j = 0 ∨ j = 1)) M M3 := ((hF1.mono (fun a j q => by omega) (fun a j q => q)).tr (FrX.of (hF2.mono (fun a j q => by unfold PG at q; omega)))).tr (FrX.of (hF3.mono (fun a j q => by omega)))
  have hTD : TD M3 w A P := fun _ => ⟨hDS2.ag (day0W_ok hw).1.2.2.2.2.2.2.2.2.2.2.1 (fun a j _ _ n => hF3.1 a j n) (fun a _ _ j => hF3.2.1 a j) (fun a _ _ => hF3.2.2.2.1 a) hif3, fun p hp => by rw [hF3.1 _ _ (by omega)]; exact hB2 p hp⟩
  have hC3 : CINV M3 w P A E len := hI.fx hw hFX (fun a j q => by omega) (fun a j q => by omega) hif3 (a5.ag (fun a h1 h2 j => hFX.1 a j (by omega))) hTD
  exact h40 M3 (KR.of hFX (fun a j q => by omega) (fun a j q => by omega)) hC3 y16
end SC0
