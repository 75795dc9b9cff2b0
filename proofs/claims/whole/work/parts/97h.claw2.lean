/-! ===== law: the class ===== -/
theorem GD.ru {S : List Int32} {b : Bool} {D : Nat} (h : GD S b D) (hD : D ≤ 64) : okD (stL S) 0 S.length 0 ∧ tyD (stL S) 0 S.length [] [b] :=
  ⟨okD_of (stL S) S 0 0 (fun j _ => by rw [Nat.zero_add]) (h.2 64 0 (by omega)), tyD_of (stL S) S 0 [] [b] (fun j _ => by rw [Nat.zero_add]) (h.1 [])⟩
theorem rb_ok {n : Nat} {tp : Nat → Nat} {w p : Nat} (hw : 1 ≤ w ∧ w ≤ 23) (hpos : 0 < wM w) (h0 : (rbS n tp w p).1 = 0) : RUok (rbS n tp w p).2.2 := by
  obtain ⟨⟨⟨w1, w2, w3⟩, w4, w5, w6, w7⟩, w8⟩ := kd_all w hw hpos
  unfold rbS at h0 ⊢
  by_cases z1 : w = 13
  · rw [if_pos z1] at h0 ⊢
    have k9 : kdN w = 9 := by omega
    have g := (or_ok (clms_ok n tp 6) p h0).ru (by omega)
    refine ⟨w2, w3, ⟨fun e => absurd (show kdN w = 2 from e) (by omega), fun e => absurd (show kdN w = 3 from e) (by omega), fun e => Nat.zero_le _, fun e => absurd (show kdN w = 7 from e) (by omega), Nat.zero_le _⟩, fun _ => g.1, fun _ => ?_⟩
    have e : decide ((codP w (orF n tp (clmS n tp 6) p)).2.2.1 = 9) = true := decide_eq_true k9
    rw [e]
    exact g.2
  · rw [if_neg z1] at h0 ⊢
    by_cases z2 : w = 12
    · rw [if_pos z2] at h0 ⊢
      have k8 : kdN w = 8 := by omega
      have g := (sums_ok n tp 6 p h0).ru (by omega)
      refine ⟨w2, w3, ⟨fun e => absurd (show kdN w = 2 from e) (by omega), fun e => absurd (show kdN w = 3 from e) (by omega), fun e => Nat.zero_le _, fun e => absurd (show kdN w = 7 from e) (by omega), Nat.zero_le _⟩, fun _ => g.1, fun _ => ?_⟩
      have e : decide ((codP w (sumS n tp 6 p)).2.2.1 = 9) = false := decide_eq_false (show ¬ kdN w = 9 by omega)
      rw [e]
      exact g.2
    · rw [if_neg z2] at h0 ⊢
      by_cases z3 : nOK n tp (loW w) (hiW w) p
      · rw [if_pos z3]
        have k8 : kdN w < 8 := by omega
        obtain ⟨q1, q2, q3, q4, q5⟩ := w8 k8
        have y1 := z3.2.1
        have y2 := z3.2.2
        refine ⟨w2, w3, ⟨fun e => ?_, fun e => ?_, fun e => ?_, fun e => ?_, ?_⟩, fun e => absurd (show 8 ≤ kdN w from e) (by omega), fun e => absurd (show 8 ≤ kdN w from e) (by omega)⟩
        · have := q1 e
          show 1 ≤ cvl n tp p ∧ cvl n tp p ≤ 99
          omega
        · have := q2 e
          show 1 ≤ cvl n tp p ∧ cvl n tp p ≤ 9
          omega
        · have := q3 e
          show cvl n tp p ≤ 9
          omega
        · have := q4 e
          show 1 ≤ cvl n tp p
          omega
        · show cvl n tp p ≤ 999
          omega
      · rw [if_neg z3] at h0; exact absurd h0 (fcd_ne _ _ _)
theorem ru_ok {n : Nat} {tp : Nat → Nat} {c p : Nat} (h0 : (ruS n tp c p).1 = 0) : RUok (ruS n tp c p).2.2 ∧ c < 10 := by
  unfold ruS at h0 ⊢
  by_cases z1 : 0 < wM (wd n tp p)
  · rw [if_pos z1] at h0 ⊢
    by_cases z2 : 10 ≤ c
    · rw [if_pos z2] at h0; exact absurd h0 (by show ¬ 3 = 0; decide)
    · rw [if_neg z2] at h0 ⊢
      unfold enR at h0 ⊢
      by_cases z3 : (rbS n tp (wd n tp p) (nx n tp p)).1 = 0
      · rw [if_pos z3] at h0 ⊢
        by_cases z4 : sg n tp (rbS n tp (wd n tp p) (nx n tp p)).2.1 = 59
        · rw [if_pos z4]
          exact ⟨rb_ok (wd_rng n tp p) z1 z3, by omega⟩
        · rw [if_neg z4] at h0; exact absurd h0 (by show ¬ 1 = 0; decide)
      · rw [if_neg z3] at h0; exact absurd h0 z3
  · rw [if_neg z1] at h0; exact absurd h0 (by show ¬ 1 = 0; decide)
theorem rlF_ok (n : Nat) (tp : Nat → Nat) : ∀ c p R, (R.length ≤ 10 ∧ ∀ r ∈ R, RUok r) → (rlF n tp c p R).1 = 0 → (rlF n tp c p R).2.2.length ≤ 10 ∧ ∀ r ∈ (rlF n tp c p R).2.2, RUok r
  | 0, p, R, h, _ => h
  | c + 1, p, R, h, h0 => by
    rw [rlF_succ] at h0 ⊢
    by_cases z : tk n tp p = 0
    · rw [if_pos z]; exact h
    · rw [if_neg z] at h0 ⊢
      by_cases y : (ruS n tp R.length p).1 = 0
      · rw [if_pos y] at h0 ⊢
        have k := ru_ok y
        refine rlF_ok n tp c _ _ ⟨by rw [List.length_append, List.length_singleton]; omega, fun r hr => ?_⟩ h0
        rcases List.mem_append.mp hr with q | q
        · exact h.2 r q
        · rw [List.mem_singleton.mp q]; exact k.1
      · rw [if_neg y] at h0; exact absurd h0 y
theorem rlS_ok {n : Nat} {tp : Nat → Nat} (h : (rlS n tp).1 = 0) : (rlS n tp).2.2.length ≤ 10 ∧ ∀ r ∈ (rlS n tp).2.2, RUok r := rlF_ok n tp 11 _ [] ⟨by show 0 ≤ 10; omega, fun r hr => absurd hr List.not_mem_nil⟩ h
def wLaw (w : Wd) (R : List RU) : Wd := (w.1, w.2.1, w.2.2.1, R, 0, w.2.2.2.2.2.1, -1, w.2.2.2.2.2.2.2)
def lawA (w : Wd) (r : Nat × Nat × List RU) : An := if r.1 = 0 then (0, nI r.2.2.length, wLaw w r.2.2) else (0, nI r.1 - 10, wFlt w (nI r.2.1))
def aLaw (w : Wd) (x : Int32) : An := okV 1 w (w_T w) x (lawA w (rlS (tN x) (w_tp w)))
theorem WOK.law {w : Wd} (hw : WOK w) {R : List RU} (h : R.length ≤ 10 ∧ ∀ r ∈ R, RUok r) : WOK (wLaw w R) := by
  obtain ⟨h1, h2, h3, h4, h5, h6, h7, h8, h9, h10⟩ := hw
  exact ⟨h1, h2, h3, h.1, h.2, by show 0 ≤ 500; omega, h7, h8, h9, h10⟩
section CLL
variable {l : Launch} {G : Gx} {d : Nat} {bc bs : Nat} {Φ : OutV → Mm → Prop}
theorem ct_c_law (M : Mm) (w : Wd) (hw : WOK w) {P A E len : Nat} (hI : CINV M w P A E len) (hl : l.stackTraces = false) (x : Int32) (hd : 28 < d) (h : CPost M len (aLaw w x) exI Φ) : Ct l G d mBo_law 4 24 [.ref 100, .int x] M Φ := by
  have hPP := hI.1.2.1
  have hAA := hI.1.2.2.1
  obtain ⟨c0, c1, c2, c3, c4, -⟩ := id hI.1.1
  have r6 := hI.1.2.2.2.2.2.2.1
  have r7 := hI.1.2.2.2.2.2.2.2.1
  have hLA : LAok M (233 - A) := by
    rcases hAA with e | e <;> subst e
    · exact hI.1.1.2.2.2.2.2.2.2.2.2.2.2.2.2.2.2.2.2.2.2.1
    · exact hI.1.1.2.2.2.2.2.2.2.2.2.2.2.2.2.2.2.2.2.2.1
  have h127 : IFsh M 127 := hI.2.2.2.1.1.sh
  refine Ct.of rfl (Nat.le_of_ble_eq_true rfl) ?_
  refine bBo_law_0 _ _ _ ⟨c0, CallVC.chk 3 18 (by omega) rfl rfl (ct_takeText M w hw hI hl x (by omega) (fun n hx hn M1 sz F1 hT1 e7 e1 => ?_) (fun q => h.fail (KR.rf M) hI (c := 1) (by decide) (okV_n q)))⟩
  subst hx
  have hT5 : w_T w ≤ 500 := hw.2.2.2.2.2.1
  have ha : aLaw w (nI n) = lawA w (rlS n (w_tp w)) := by
    refine (okV_y ((vIn_nI (by omega)).mpr ⟨n, hn, rfl⟩)).trans ?_
    rw [tN_nI (by omega)]
  rw [ha] at h
  unfold lawA at h
  have q7 : m_r M1 100 7 = 233 - A := by rw [F1.2.1 _ _ (by unfold YT; omega)]; exact r7
  have q2 : m_r M1 100 2 = 102 := by rw [F1.2.1 _ _ (by unfold YT; omega)]; exact c3
  have q6 : m_r M1 100 6 = A := by rw [F1.2.1 _ _ (by unfold YT; omega)]; exact r6
  have hLA1 : LAok M1 (233 - A) := hLA.fx F1 (fun j => by unfold YT; omega)
  refine bBo_law_5 _ _ _ _ _ ⟨by rw [F1.2.2.2.1]; exact c0, by rw [q7]; exact hLA1.1, CallVC.cps0 (by omega) ?_⟩
  rw [q7, q2]
  refine ct_readRules M1 hT1 hLA1 (by omega) (by omega) (fun e0 M2 F2 hLr => ?_) (fun e0 M2 F2 hfl => ?_)
  · rw [if_pos e0] at h
    have hRo := rlS_ok e0
    generalize rlS n (w_tp w) = r at e0 hLr h hRo
    have e72 : m_i M2 102 7 = -1 := by rw [F2.1 _ _ (by unfold XMs XB; omega)]; exact e7
    refine bBo_law_16 _ _ _ _ _ _ ⟨by rw [F2.2.2.2.1, F1.2.2.2.1]; exact c0, by rw [F2.2.1, F2.2.2.2.1, F1.2.2.2.1, q2]; exact c4.1, fun _ => ?_, fun z => absurd z (by decide)⟩
    rw [F2.2.1, F2.2.1, F2.2.1, q2, q6, q7, e72]
    refine bBo_law_56 _ _ _ _ _ ⟨by show (m_sh M2 100).1 = 10; rw [F2.2.2.2.1, F1.2.2.2.1]; exact c0, CallVC.cps0 (by omega) ?_⟩
    have F3 : FrX (fun a j => a = 100 ∧ j = 3) (fun a j => a = 100 ∧ (j = 6 ∨ j = 7)) M2 (m_sr (m_sr (m_si M2 100 3 (-1)) 100 6 (233 - A)) 100 7 A) :=
      ((FrX.of (FrS.si (P := fun a j => a = 100 ∧ j = 3) ⟨rfl, rfl⟩ _)).tr (FrX.sr ⟨rfl, by omega⟩ _)).tr (FrX.sr ⟨rfl, by omega⟩ _)
    have g3 : m_i (m_sr (m_sr (m_si M2 100 3 (-1)) 100 6 (233 - A)) 100 7 A) 100 3 = -1 := by rw [m_i_sr, m_i_sr, m_i_si, if_pos ⟨rfl, rfl⟩]
    have g6 : m_r (m_sr (m_sr (m_si M2 100 3 (-1)) 100 6 (233 - A)) 100 7 A) 100 6 = 233 - A := by rw [m_r_sr, if_neg (by omega), m_r_sr, if_pos ⟨rfl, rfl⟩]
    have g7 : m_r (m_sr (m_sr (m_si M2 100 3 (-1)) 100 6 (233 - A)) 100 7 A) 100 7 = A := by rw [m_r_sr, if_pos ⟨rfl, rfl⟩]
    generalize m_sr (m_sr (m_si M2 100 3 (-1)) 100 6 (233 - A)) 100 7 A = M3 at F3 g3 g6 g7 ⊢
    have FF3 : FrX (fun a j => (a = 100 ∧ (j = 1 ∨ j = 3)) ∨ (102 ≤ a ∧ a ≤ 105) ∨ (233 - A ≤ a ∧ a ≤ 238 - A)) (fun a j => a = 106 ∨ (a = 100 ∧ (j = 6 ∨ j = 7))) M M3 := ((F1.mono (fun a j z => by unfold XTT at z; omega) (fun a j z => Or.inl z)).tr (FrX.of (F2.mono (fun a j z => by unfold XMs XB at z; omega)))).tr (F3.mono (fun a j z => by omega) (fun a j z => Or.inr z))
    have hr : ∀ a j, ¬ (a = 106 ∨ (a = 100 ∧ (j = 6 ∨ j = 7))) → m_r M3 a j = m_r M a j := FF3.2.1
    have hs := FF3.2.2.2.1
    have hi := FF3.1
    obtain ⟨b1, b2, b3, b4, b5, b6, b7, b8, b9, ⟨i1, p1, b10⟩, ⟨i2, p2, b11⟩, b12, b13⟩ := id hI.1
    have hS : CSH M3 P (233 - A) E len := ⟨b1.ag (fun a j h1 h2 nn => hr a j (fun z => nn (by unfold RX; omega))) (fun a _ _ => hs a), b2, by omega, b4, by rw [hr _ _ (by omega)]; exact b5, by rw [hr _ _ (by omega)]; exact b6, g6, by rw [g7]; omega, b9.ag (fun j _ _ => hr _ j (by omega)) (fun a _ _ => hs a), ⟨i1, p1, b10.ag (fun a h1 h2 j => hr a j (by omega)) (fun a h1 h2 => hs a)⟩, ⟨i2, p2, b11.ag (fun a h1 h2 j => hr a j (by omega)) (fun a h1 h2 => hs a)⟩, by rw [hr _ _ (by omega)]; exact b12, by rw [hs]; exact b13⟩
    have hPd3 : PErep M3 P (w_n w) (w_f w) (w_by w) := by
      obtain ⟨k1, k2, k3, k4⟩ := hI.2.1
      exact ⟨by rw [hi _ _ (by omega)]; exact k1, k2, fun p k hp hk => by rw [hi _ _ (by omega)]; exact k3 p k hp hk, fun i hi2 => by rw [hi _ _ (by omega)]; exact k4 i hi2⟩
    refine ct_textChanged M3 (wLaw w r.2.2) (hw.law hRo) hS (h127.ag (fun j _ _ => hr _ _ (by omega)) (fun a _ _ => hs a)) hPd3 (hLr.fr (fun a h1 h2 j => F3.1 a j (by omega))) ⟨⟨by rw [F3.1 _ _ (by omega), F2.1 _ _ (by unfold XMs XB; omega)]; exact e1, fun i hi => absurd hi (by show ¬ i < 0; omega)⟩, g3⟩ (CSv.ag (w := w) hw hI.2.2.2.2.2.2.2.2.2 (hi _ _ (by omega)) (hi _ _ (by omega)) (fun a h4 h5 j => hi a j (by omega))) (by omega) (fun M4 hK hC => ?_)
    have hlen : m_i M4 (233 - A) 7 = nI r.2.2.length := hC.2.2.1.1
    have hA4 : (m_sh M4 (233 - A)).1 = 4 := by
      rcases hAA with e | e <;> subst e
      · exact hC.1.1.2.2.2.2.2.2.2.2.2.2.2.2.2.2.2.2.2.2.2.1.1
      · exact hC.1.1.2.2.2.2.2.2.2.2.2.2.2.2.2.2.2.2.2.2.1.1
    refine bBo_law_65 _ _ _ _ _ ⟨hC.1.1.1, by rw [hC.1.2.2.2.2.2.2.1]; exact hA4, ?_⟩
    rw [hC.1.2.2.2.2.2.2.1, hlen]
    exact (h M4 P _ E ((KR.of FF3 (fun a j z => by omega) (fun a j z => by omega)).tr hK) hC).1 rfl
  · rw [if_neg e0] at h
    generalize rlS n (w_tp w) = r at e0 hfl h
    refine bBo_law_16 _ _ _ _ _ _ ⟨by rw [F2.2.2.2.1, F1.2.2.2.1]; exact c0, by rw [F2.2.1, F2.2.2.2.1, F1.2.2.2.1, q2]; exact c4.1, fun z => absurd rfl z, fun _ => ?_⟩
    rw [F2.2.1, q2, hfl.2]
    have F3 : FrS (fun a j => a = 100 ∧ j = 3) M2 (m_si M2 100 3 (nI r.2.1)) := FrS.si (P := fun a j => a = 100 ∧ j = 3) ⟨rfl, rfl⟩ _
    have FF3 : FrX (fun a j => (a = 100 ∧ (j = 1 ∨ j = 3)) ∨ (102 ≤ a ∧ a ≤ 105) ∨ (233 - A ≤ a ∧ a ≤ 239 - A)) (fun a j => a = 106) M (m_si M2 100 3 (nI r.2.1)) := ((F1.mono (fun a j z => by unfold XTT at z; omega) (fun a j z => z)).tr (FrX.of (F2.mono (fun a j z => by unfold XMf XA at z; omega)))).tr (FrX.of (F3.mono (fun a j z => by omega)))
    rw [m_i_si, if_neg (by omega), hfl.1]
    have hC := hI.flt hw FF3 (fun a j z => by omega) (fun a j z => z) (v := nI r.2.1) (by rw [m_i_si, if_neg (by omega), F2.1 _ _ (by unfold XMf XA; omega)]; exact e1) (by rw [m_i_si, if_pos ⟨rfl, rfl⟩])
    exact (h _ P A E hC.2 hC.1).1 rfl
end CLL
