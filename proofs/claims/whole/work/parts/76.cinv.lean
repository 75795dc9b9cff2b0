/-! ===== the class at rest ===== -/
theorem opdS_cg {fg fo fg' fo' : Nat → Int32} {hr s : Int32} (h : ∀ k, 1 ≤ k → k ≤ 3 → fg k = fg' k ∧ fo k = fo' k) (hs : ¬ s < -7) : opdS fg fo hr s = opdS fg' fo' hr s := by
  unfold opdS
  by_cases h0 : s < 0
  · rw [if_pos h0, if_pos h0]
    by_cases h7 : s = -7
    · rw [if_pos h7, if_pos h7]
    · rw [if_neg h7, if_neg h7]
      have e0 : s.toInt < 0 := Int32.lt_iff_toInt_lt.mp h0
      have e7 : ¬ s.toInt < -7 := fun z => hs (Int32.lt_iff_toInt_lt.mpr z)
      have e8 : s.toInt ≠ -7 := fun z => h7 (i32_lit z (-7) rfl)
      have hc : s.toInt = -1 ∨ s.toInt = -2 ∨ s.toInt = -3 ∨ s.toInt = -4 ∨ s.toInt = -5 ∨ s.toInt = -6 := by omega
      rcases hc with e | e | e | e | e | e
      · obtain rfl := i32_lit e (-1) rfl
        rw [if_neg (by decide), if_neg (by decide)]
        exact (h 1 (by omega) (by omega)).1
      · obtain rfl := i32_lit e (-2) rfl
        rw [if_neg (by decide), if_neg (by decide)]
        exact (h 2 (by omega) (by omega)).1
      · obtain rfl := i32_lit e (-3) rfl
        rw [if_neg (by decide), if_neg (by decide)]
        exact (h 3 (by omega) (by omega)).1
      · obtain rfl := i32_lit e (-4) rfl
        rw [if_pos (by decide), if_pos (by decide)]
        exact (h 1 (by omega) (by omega)).2
      · obtain rfl := i32_lit e (-5) rfl
        rw [if_pos (by decide), if_pos (by decide)]
        exact (h 2 (by omega) (by omega)).2
      · obtain rfl := i32_lit e (-6) rfl
        rw [if_pos (by decide), if_pos (by decide)]
        exact (h 3 (by omega) (by omega)).2
  · rw [if_neg h0, if_neg h0]
theorem evS_cg {fg fo fg' fo' : Nat → Int32} {hr : Int32} (h : ∀ k, 1 ≤ k → k ≤ 3 → fg k = fg' k ∧ fo k = fo' k) (s : Nat → Int32) : ∀ c i w, evS fg fo hr s i c w = evS fg' fo' hr s i c w
  | 0, _, _ => rfl
  | c + 1, i, w => by
    rw [evS_succ, evS_succ]
    by_cases q : s i < -7
    · simp only [if_pos q]
      exact evS_cg h s c (i + 1) _
    · simp only [if_neg q]
      rw [opdS_cg h q]
      exact evS_cg h s c (i + 1) _
theorem valR_cg {f f' : Nat → Nat → Int32} (h : ∀ p k, 1 ≤ k → k ≤ 3 → f p k = f' p k) (r : RU) (g o t : Nat) : valR r f g o t = valR r f' g o t := by
  unfold valR
  rw [evS_cg (fun k h1 h2 => ⟨h g k h1 h2, h o k h1 h2⟩)]
theorem mustF_cg {f f' : Nat → Nat → Int32} (h : ∀ p k, 1 ≤ k → k ≤ 3 → f p k = f' p k) (R : List RU) (nu : Nat → Int32) : mustF R nu f = mustF R nu f' := by
  funext g o t
  unfold mustF
  rw [valR_cg h]
theorem worthF_cg {f f' : Nat → Nat → Int32} (h : ∀ p k, 1 ≤ k → k ≤ 3 → f p k = f' p k) (R : List RU) (nu : Nat → Int32) : worthF R nu f = worthF R nu f' := by
  funext g o t
  unfold worthF
  rw [valR_cg h]
/-- cells that are the same -/
def AG (S : Nat → Prop) (M M' : Mm) : Prop := (∀ a, S a → ∀ j, m_i M' a j = m_i M a j) ∧ (∀ a, S a → ∀ j, m_r M' a j = m_r M a j) ∧ ∀ a, S a → m_sh M' a = m_sh M a
theorem AG.mono {S T : Nat → Prop} {M M' : Mm} (h : AG S M M') (hT : ∀ a, T a → S a) : AG T M M' := ⟨fun a ha => h.1 a (hT a ha), fun a ha => h.2.1 a (hT a ha), fun a ha => h.2.2 a (hT a ha)⟩
theorem AG.tr {S : Nat → Prop} {M M' M2 : Mm} (h : AG S M M') (h2 : AG S M' M2) : AG S M M2 := ⟨fun a ha j => (h2.1 a ha j).trans (h.1 a ha j), fun a ha j => (h2.2.1 a ha j).trans (h.2.1 a ha j), fun a ha => (h2.2.2 a ha).trans (h.2.2 a ha)⟩
theorem FrX.ag {X Y : Nat → Nat → Prop} {M M' : Mm} (h : FrX X Y M M') {S : Nat → Prop} (hX : ∀ a j, S a → ¬ X a j) (hY : ∀ a j, S a → ¬ Y a j) : AG S M M' := ⟨fun a ha j => h.1 a j (hX a j ha), fun a ha j => h.2.1 a j (hY a j ha), fun a _ => h.2.2.2.1 a⟩
theorem FrS.ag {X : Nat → Nat → Prop} {M M' : Mm} (h : FrS X M M') {S : Nat → Prop} (hX : ∀ a j, S a → ¬ X a j) : AG S M M' := ⟨fun a ha j => h.1 a j (hX a j ha), fun a _ j => h.2.1 a j, fun a _ => h.2.2.2.1 a⟩
theorem PEok.ag {M M' : Mm} {P : Nat} (h : PEok M P) (hA : AG (fun a => P ≤ a ∧ a ≤ P + 2) M M') : PEok M' P := by
  obtain ⟨-, hr, hs⟩ := hA
  obtain ⟨h0, h1, h2, h3, h4⟩ := h
  exact ⟨by rw [hs _ (by omega)]; exact h0, by rw [hr _ (by omega)]; exact h1, by rw [hr _ (by omega)]; exact h2, by rw [hs _ (by omega)]; exact h3, by rw [hs _ (by omega)]; exact h4⟩
theorem PErep.ag {M M' : Mm} {P n : Nat} {f : Nat → Nat → Int32} {b : Nat → Nat} (h : PErep M P n f b) (hA : AG (fun a => P ≤ a ∧ a ≤ P + 2) M M') : PErep M' P n f b := h.fx (fun a h1 h2 j => hA.1 a ⟨h1, h2⟩ j)
theorem LAok.ag {M M' : Mm} {L : Nat} (h : LAok M L) (hr : ∀ a, L ≤ a → a ≤ L + 6 → ∀ j, m_r M' a j = m_r M a j) (hs : ∀ a, L ≤ a → a ≤ L + 6 → m_sh M' a = m_sh M a) : LAok M' L := by
  obtain ⟨h0, h1, h2, h3, h4, h5, h6, h7, h8, h9, h10, h11, h12⟩ := h
  exact ⟨by rw [hs _ (by omega) (by omega)]; exact h0, by rw [hr _ (by omega) (by omega)]; exact h1, by rw [hr _ (by omega) (by omega)]; exact h2, by rw [hr _ (by omega) (by omega)]; exact h3, by rw [hr _ (by omega) (by omega)]; exact h4, by rw [hr _ (by omega) (by omega)]; exact h5, by rw [hr _ (by omega) (by omega)]; exact h6, by rw [hs _ (by omega) (by omega)]; exact h7, by rw [hs _ (by omega) (by omega)]; exact h8, by rw [hs _ (by omega) (by omega)]; exact h9, by rw [hs _ (by omega) (by omega)]; exact h10, by rw [hs _ (by omega) (by omega)]; exact h11, by rw [hs _ (by omega) (by omega)]; exact h12⟩
theorem IFsh.ag {M M' : Mm} {I : Nat} (h : IFsh M I) (hr : ∀ j, j ≠ 1 → j ≠ 2 → m_r M' I j = m_r M I j) (hs : ∀ a, I ≤ a → a ≤ I + 3 → m_sh M' a = m_sh M a) : IFsh M' I := by
  obtain ⟨h0, h1, h2, h3, h4, h5, h6⟩ := h
  exact ⟨by rw [hs _ (by omega) (by omega)]; exact h0, by rw [hr _ (by omega) (by omega)]; exact h1, by rw [hr _ (by omega) (by omega)]; exact h2, by rw [hr _ (by omega) (by omega)]; exact h3, by rw [hs _ (by omega) (by omega)]; exact h4, by rw [hs _ (by omega) (by omega)]; exact h5, by rw [hs _ (by omega) (by omega)]; exact h6⟩
theorem IFok.sh {M : Mm} {I L P : Nat} (h : IFok M I L P) : IFsh M I := ⟨h.1, h.2.1, h.2.2.2.2.1, h.2.2.2.2.2.1, h.2.2.2.2.2.2.1, h.2.2.2.2.2.2.2.1, h.2.2.2.2.2.2.2.2⟩
theorem IFinv.ag {M M' : Mm} {I L P n : Nat} {f : Nat → Nat → Int32} {by_ : Nat → Nat} {nu : Nat → Int32} {must : Nat → Nat → Nat → Bool} {worth : Nat → Nat → Nat → Int32} (h : IFinv M I L P n f by_ nu must worth) (hA : AG (fun a => (I ≤ a ∧ a ≤ I + 3) ∨ (P ≤ a ∧ a ≤ P + 2)) M M') (hL : ∀ a, L ≤ a → a ≤ L + 5 → ∀ j, m_i M' a j = m_i M a j) (hLr : ∀ a, L ≤ a → a ≤ L + 6 → ∀ j, m_r M' a j = m_r M a j) (hLs : ∀ a, L ≤ a → a ≤ L + 6 → m_sh M' a = m_sh M a) : IFinv M' I L P n f by_ nu must worth := by
  obtain ⟨⟨i0, i1, i2, i3, i4, i5, t1, t2, t3⟩, a2, a3, a4, a5, a6, a7, a8, a9⟩ := h
  have hP : AG (fun a => P ≤ a ∧ a ≤ P + 2) M M' := hA.mono (fun a q => Or.inr q)
  obtain ⟨hi, hr, hs⟩ := hA
  have e3 := hL (L + 3) (by omega) (by omega)
  have e4 := hL (L + 4) (by omega) (by omega)
  have e5 := hL (L + 5) (by omega) (by omega)
  refine ⟨⟨by rw [hs _ (by omega)]; exact i0, by rw [hr _ (by omega)]; exact i1, by rw [hr _ (by omega)]; exact i2, by rw [hr _ (by omega)]; exact i3, by rw [hr _ (by omega)]; exact i4, by rw [hr _ (by omega)]; exact i5, by rw [hs _ (by omega)]; exact t1, by rw [hs _ (by omega)]; exact t2, by rw [hs _ (by omega)]; exact t3⟩, a2.ag hLr hLs, a3.ag hP, a4.ag hP, fun k hk => by rw [hi _ (by omega)]; exact a5 k hk, a6.imp id (fun ⟨r, b1, b2⟩ => ⟨r, b1, b2.fr e3 e4 e5⟩), a7.imp id (fun ⟨r, v, b1, b2, b3⟩ => ⟨r, v, b1, b2.fr e3 e4 e5, b3⟩), fun g o h b1 b2 b3 => by rw [hi _ (by omega)]; exact a8 g o h b1 b2 b3, fun g o h b1 b2 b3 => by rw [hi _ (by omega)]; exact a9 g o h b1 b2 b3⟩
theorem PBok.ag {M M' : Mm} {B : Nat} (h : PBok M B) (hr : ∀ a, B ≤ a → a ≤ B + 6 → ∀ j, m_r M' a j = m_r M a j) (hs : ∀ a, B ≤ a → a ≤ B + 6 → m_sh M' a = m_sh M a) : PBok M' B := by
  obtain ⟨h0, h1, h2, h3, h4, h5, h6, h7, h8, h9, h10, h11, h12⟩ := h
  exact ⟨by rw [hs _ (by omega) (by omega)]; exact h0, by rw [hr _ (by omega) (by omega)]; exact h1, by rw [hr _ (by omega) (by omega)]; exact h2, by rw [hr _ (by omega) (by omega)]; exact h3, by rw [hr _ (by omega) (by omega)]; exact h4, by rw [hr _ (by omega) (by omega)]; exact h5, by rw [hr _ (by omega) (by omega)]; exact h6, by rw [hs _ (by omega) (by omega)]; exact h7, by rw [hs _ (by omega) (by omega)]; exact h8, by rw [hs _ (by omega) (by omega)]; exact h9, by rw [hs _ (by omega) (by omega)]; exact h10, by rw [hs _ (by omega) (by omega)]; exact h11, by rw [hs _ (by omega) (by omega)]; exact h12⟩
theorem CAok.ag {M M' : Mm} {C : Nat} (h : CAok M C) (hr : ∀ j, m_r M' C j = m_r M C j) (hs : ∀ a, C ≤ a → a ≤ C + 1 → m_sh M' a = m_sh M a) : CAok M' C := by
  obtain ⟨h0, h1, h2⟩ := h
  exact ⟨by rw [hs _ (by omega) (by omega)]; exact h0, by rw [hr]; exact h1, by rw [hs _ (by omega) (by omega)]; exact h2⟩
theorem DAok.ag {M M' : Mm} {D I P : Nat} (h : DAok M D I P) (hr : ∀ a, D ≤ a → a < D + 27 → ∀ j, m_r M' a j = m_r M a j) (hs : ∀ a, D ≤ a → a < D + 27 → m_sh M' a = m_sh M a) : DAok M' D I P := by
  obtain ⟨h0, h1, h2, h3, h4, h5, h6, h7, h8, h9, h10, h11⟩ := h
  refine ⟨by rw [hs _ (by omega) (by omega)]; exact h0, by rw [hr _ (by omega) (by omega)]; exact h1, by rw [hr _ (by omega) (by omega)]; exact h2, by rw [hr _ (by omega) (by omega)]; exact h3, by rw [hr _ (by omega) (by omega)]; exact h4, by rw [hr _ (by omega) (by omega)]; exact h5, by rw [hr _ (by omega) (by omega)]; exact h6, by rw [hs _ (by omega) (by omega)]; exact h7, by rw [hs _ (by omega) (by omega)]; exact h8, by rw [hs _ (by omega) (by omega)]; exact h9, h10.ag (fun a b c => hr a (by omega) (by omega)) (fun a b c => hs a (by omega) (by omega)), fun k hk => ⟨by rw [hr _ (by omega) (by omega)]; exact (h11 k hk).1, (h11 k hk).2.ag (hr _ (by omega) (by omega)) (fun a b c => hs a (by omega) (by omega))⟩⟩
theorem CArep.ag {M M' : Mm} {C : Nat} {r : CR} (h : CArep M C r) (hA : AG (fun a => C ≤ a ∧ a ≤ C + 1) M M') : CArep M' C r := by
  obtain ⟨hi, hr, hs⟩ := hA
  obtain ⟨⟨a1, a2, a3, a4, a5⟩, b2, b3, b4, b5, b6⟩ := h
  exact ⟨⟨a1.ag (hr _ (by omega)) (fun a h1 h2 => hs a ⟨h1, h2⟩), by rw [hi _ (by omega)]; exact a2, fun j hj => by rw [hi _ (by omega)]; exact a3 j hj, by rw [hi _ (by omega)]; exact a4, by rw [hi _ (by omega)]; exact a5⟩, by rw [hi _ (by omega)]; exact b2, by rw [hi _ (by omega)]; exact b3, by rw [hi _ (by omega)]; exact b4, by rw [hi _ (by omega)]; exact b5, by rw [hi _ (by omega)]; exact b6⟩
theorem DSt.ag {M M' : Mm} {c : Cf} {D I A P : Nat} {s : Sg} (h : DSt M c D I A P s) (h8 : (g_cs s).length ≤ 8) (hi : ∀ a j, D ≤ a → a < D + 27 → ¬ (a = D ∧ j = 16) → m_i M' a j = m_i M a j) (hr : ∀ a, D ≤ a → a < D + 27 → ∀ j, m_r M' a j = m_r M a j) (hs : ∀ a, D ≤ a → a < D + 27 → m_sh M' a = m_sh M a) (hI : IFinv M' I A P (c_n c) (c_f c) (c_by c) (c_nu c) (c_mu c) (c_wo c)) : DSt M' c D I A P s := by
  obtain ⟨⟨⟨a1, a2, a3, a4, a5, a6, a7⟩, b2, b3, b4, b5⟩, c2, c3, c4, c5⟩ := h
  refine ⟨⟨⟨a1.ag hr hs, hI, a3, by rw [hi _ _ (by omega) (by omega) (by omega)]; exact a4, fun p hp => by rw [hi _ _ (by omega) (by omega) (by omega)]; exact a5 p hp, by rw [hi _ _ (by omega) (by omega) (by omega)]; exact a6, fun p hp => by rw [hi _ _ (by omega) (by omega) (by omega), hi _ _ (by omega) (by omega) (by omega)]; exact a7 p hp⟩, ⟨by rw [hi _ _ (by omega) (by omega) (by omega)]; exact b2.1, fun i hi2 => ?_⟩, fun p hp => by rw [hi _ _ (by omega) (by omega) (by omega)]; exact b3 p hp, by rw [hi _ _ (by omega) (by omega) (by omega)]; exact b4, fun k hk => (b5 k hk).ag ⟨fun a q j => hi a j (by omega) (by omega) (by omega), fun a q j => hr a (by omega) (by omega) j, fun a q => hs a (by omega) (by omega)⟩⟩, by rw [hi _ _ (by omega) (by omega) (by omega)]; exact c2, by rw [hi _ _ (by omega) (by omega) (by omega)]; exact c3, by rw [hi _ _ (by omega) (by omega) (by omega)]; exact c4, by rw [hi _ _ (by omega) (by omega) (by omega)]; exact c5⟩
  rw [hi _ _ (by omega) (by omega) (by omega), hi _ _ (by omega) (by omega) (by omega), hi _ _ (by omega) (by omega) (by omega), hi _ _ (by omega) (by omega) (by omega)]
  exact b2.2 i hi2
theorem ICm.ag {M M' : Mm} {I : Nat} {R : List RU} {n : Nat} {f : Nat → Nat → Int32} (h : ICm M I R n f) (h5 : m_i M' I 5 = m_i M I 5) (h2 : ∀ j, m_i M' (I + 2) j = m_i M (I + 2) j) : ICm M' I R n f := by
  unfold ICm at h ⊢
  rw [h5]
  simp only [h2]
  exact h
theorem ICw.ag {M M' : Mm} {I : Nat} {R : List RU} {n : Nat} {f : Nat → Nat → Int32} (h : ICw M I R n f) (h5 : m_i M' I 6 = m_i M I 6) (h2 : ∀ j, m_i M' (I + 3) j = m_i M (I + 3) j) : ICw M' I R n f := by
  unfold ICw at h ⊢
  rw [h5]
  simp only [h2]
  exact h
