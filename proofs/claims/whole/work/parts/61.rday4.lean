/-! ===== the reference's DAY: one CALL, all CALLS ===== -/
theorem thBits_app (L : List Nat) (p : Nat) : thBits (L ++ [p]) = thBits L ||| (1 <<< (nI p &&& 31)) := by
  unfold thBits
  rw [List.foldl_append]
  rfl
theorem all_served {c : Cf} (hc : cfOK c) {s : Sg} (hS : SOK c s) (hel : g_el s = false) (h8 : (g_cs s).length = 8) : minS c s = none := by
  have n8 := hc.1
  obtain ⟨h1, h2, h3, h4, h5, -⟩ := id hS
  rw [hel] at h3
  have hg : (g_gs s).length = 8 := by rw [h8] at h3; exact h3.symm
  have hin : ∀ p, p < c_n c → p ∈ g_gs s := fun p hp => by
    refine Classical.byContradiction (fun q => ?_)
    have := nodup_le 8 (p :: g_gs s) (List.nodup_cons.mpr ⟨q, h1⟩) (fun x hx => by
      rcases List.mem_cons.mp hx with z | z
      · rw [z]; omega
      · have := (h2 x z).1; omega)
    rw [List.length_cons] at this
    omega
  have ht : thN c (g_fr s) (g_sv s) (c_n c) = [] := by
    have := (hS.th hc (g_fr s)).2.2
    exact List.length_eq_zero_iff.mp (by omega)
  have hn : nextN c (g_fr s) 0 (c_n c) = none := by
    cases q : nextN c (g_fr s) 0 (c_n c) with
    | none => rfl
    | some m =>
      obtain ⟨a, j, j1, j2⟩ := next_by _ _ _ q
      have hb := hc.2.1 j (by omega)
      have := (h2 _ (hin _ hb)).2
      omega
  unfold minS
  rw [ht, hn, if_pos rfl]
  split <;> rfl
theorem minS_n {c : Cf} {s : Sg} (h1 : nI (g_fr s) < c_nu c 5) (h2 : thN c (g_fr s) (g_sv s) (c_n c) = []) (h3 : nextN c (g_fr s) 0 (c_n c) = none) : minS c s = none := by
  unfold minS; rw [if_pos h1, if_pos h2, h3]
theorem minS_m {c : Cf} {s : Sg} {m : Nat} (h1 : nI (g_fr s) < c_nu c 5) (h2 : thN c (g_fr s) (g_sv s) (c_n c) = []) (h3 : nextN c (g_fr s) 0 (c_n c) = some m) : minS c s = if nI m < c_nu c 5 then some m else none := by
  unfold minS; rw [if_pos h1, if_pos h2, h3]
section SR6
variable {l : Launch} {G : Gx} {d : Nat} {bc bs : Nat} {Φ : OutV → Mm → Prop}
theorem ps_room {c : Cf} {s : Sg} (hS : SOK c s) {L : List Nat} (hb : (g_gs s).length + L.length ≤ 8) {g : Nat} (hg : g < L.length) : (g_ps s).length + g ≤ 28 := by
  have h1 := hS.2.2.2.2.2.1
  have : g ≤ tri (8 - (g_gs s).length) := by
    have hk : ∃ k, 8 - (g_gs s).length = k + 1 ∧ g ≤ k := ⟨8 - (g_gs s).length - 1, by omega, by omega⟩
    obtain ⟨k, e, hk⟩ := hk
    rw [e]
    show g ≤ tri k + k
    omega
  omega
theorem ct_callAt (M : Mm) (c : Cf) (hc : cfOK c) (R : List RU) (out : Nat) (hC : RDc M c R out) (s : Sg) (hS : SOK c s) (hel : g_el s = false) (k : Nat) (hk : k < 8) (hlen : (g_cs s).length = k) (hD : RDs0 M s) (L : List Nat) (hL : LOK c L) (hT : THr M L) (hb : (g_gs s).length + L.length ≤ 8) (mm : Nat) (hm : mm < 999) (hd : 4 < d)
    (h : ∀ M', FrS QD M M' → RDs0 M' (calS c s mm L) → Φ (.inl none) M') : Ct l G d mRe_callAt bc bs [.ref 206, .int (nI mm)] M Φ := by
  have n8 := hc.1
  have hS0 := hC.1
  obtain ⟨l1, l8, lp, -⟩ := id hL
  obtain ⟨d40, d42, d44, d36, hO⟩ := hD
  rw [hlen] at d40 d42 hO
  rw [hel] at d44
  replace d44 : m_i M 206 44 = 0 := d44
  have hu2 : g_u s < 2 ^ 20 := by have := hS.2.2.2.2.2.2.2.2.1; rw [hlen] at this; omega
  refine Ct.of rfl (Nat.le_of_ble_eq_true rfl) ?_
  refine bRe_callAt_0 M 206 _ ?_
  simp (disch := omega) only [hS0.c, hS0.r_fed, hS0.s_fed, hS0.r_rKind, hS0.s_rKind, hS0.r_kind, hS0.s_kind, hS0.r_rNum, hS0.s_rNum, hS0.r_num, hS0.s_num, hS0.r_rLong, hS0.s_rLong, hS0.r_cLong, hS0.s_cLong, hS0.r_stack, hS0.s_stack, hS0.r_names, hS0.s_names, hS0.r_row, hS0.s_row, hS0.r_ruleOf, hS0.s_ruleOf, hS0.r_ways, hS0.s_ways, hS0.r_cWho, hS0.s_cWho, hS0.r_cMin, hS0.s_cMin, hS0.r_cOff, hS0.s_cOff, hS0.r_cTh, hS0.s_cTh, hS0.r_cEnd, hS0.s_cEnd, hS0.r_hds, hS0.s_hds, hS0.r_ends, hS0.s_ends, hS0.r_there, hS0.s_there, hS0.r_offd, hS0.s_offd, hS0.r_had, hS0.s_had, hS0.r_rPer, hS0.s_rPer, hS0.r_rP, hS0.s_rP, hS0.r_per, hS0.s_per, hS0.r_pr, hS0.s_pr, hS0.r_rCode, hS0.s_rCode, hS0.r_rC, hS0.s_rC, hS0.r_code, hS0.s_code, hS0.r_cd, hS0.s_cd, hS0.r_kept, hS0.s_kept, hS0.r_kp, hS0.s_kp, hS0.r_holder, hS0.s_holder, hS0.r_hd, hS0.s_hd, hS0.r_pass, hS0.s_pass, hS0.r_ps, hS0.s_ps, hS0.r_debt, hS0.s_debt, hS0.r_db, hS0.s_db, hS0.r_endBy, hS0.s_endBy, hS0.r_eb, hS0.s_eb, vpT, vpk0, clk0, vpk1, clk1, vpk2, clk2, vpk3, clk3, vpk4, clk4, vpk5, clk5, vpk6, clk6, vpk7, clk7, vpk8, clk8, vpk9, clk9, nI_clamp, nI_1, true_and, d40]
  refine bRe_callAt_22 _ 206 _ _ _ _ _ ?_
  simp only [m_sh_si, m_r_si]
  simp (disch := omega) only [hS0.c, hS0.r_fed, hS0.s_fed, hS0.r_rKind, hS0.s_rKind, hS0.r_kind, hS0.s_kind, hS0.r_rNum, hS0.s_rNum, hS0.r_num, hS0.s_num, hS0.r_rLong, hS0.s_rLong, hS0.r_cLong, hS0.s_cLong, hS0.r_stack, hS0.s_stack, hS0.r_names, hS0.s_names, hS0.r_row, hS0.s_row, hS0.r_ruleOf, hS0.s_ruleOf, hS0.r_ways, hS0.s_ways, hS0.r_cWho, hS0.s_cWho, hS0.r_cMin, hS0.s_cMin, hS0.r_cOff, hS0.s_cOff, hS0.r_cTh, hS0.s_cTh, hS0.r_cEnd, hS0.s_cEnd, hS0.r_hds, hS0.s_hds, hS0.r_ends, hS0.s_ends, hS0.r_there, hS0.s_there, hS0.r_offd, hS0.s_offd, hS0.r_had, hS0.s_had, hS0.r_rPer, hS0.s_rPer, hS0.r_rP, hS0.s_rP, hS0.r_per, hS0.s_per, hS0.r_pr, hS0.s_pr, hS0.r_rCode, hS0.s_rCode, hS0.r_rC, hS0.s_rC, hS0.r_code, hS0.s_code, hS0.r_cd, hS0.s_cd, hS0.r_kept, hS0.s_kept, hS0.r_kp, hS0.s_kp, hS0.r_holder, hS0.s_holder, hS0.r_hd, hS0.s_hd, hS0.r_pass, hS0.s_pass, hS0.r_ps, hS0.s_ps, hS0.r_debt, hS0.s_debt, hS0.r_db, hS0.s_db, hS0.r_endBy, hS0.s_endBy, hS0.r_eb, hS0.s_eb, vpT, vpk0, clk0, vpk1, clk1, vpk2, clk2, vpk3, clk3, vpk4, clk4, vpk5, clk5, vpk6, clk6, vpk7, clk7, vpk8, clk8, vpk9, clk9, nI_clamp, nI_1, true_and]
  refine bRe_callAt_36 _ 206 _ _ _ _ _ ?_
  simp only [m_sh_si, m_r_si]
  simp (disch := omega) only [hS0.c, hS0.r_fed, hS0.s_fed, hS0.r_rKind, hS0.s_rKind, hS0.r_kind, hS0.s_kind, hS0.r_rNum, hS0.s_rNum, hS0.r_num, hS0.s_num, hS0.r_rLong, hS0.s_rLong, hS0.r_cLong, hS0.s_cLong, hS0.r_stack, hS0.s_stack, hS0.r_names, hS0.s_names, hS0.r_row, hS0.s_row, hS0.r_ruleOf, hS0.s_ruleOf, hS0.r_ways, hS0.s_ways, hS0.r_cWho, hS0.s_cWho, hS0.r_cMin, hS0.s_cMin, hS0.r_cOff, hS0.s_cOff, hS0.r_cTh, hS0.s_cTh, hS0.r_cEnd, hS0.s_cEnd, hS0.r_hds, hS0.s_hds, hS0.r_ends, hS0.s_ends, hS0.r_there, hS0.s_there, hS0.r_offd, hS0.s_offd, hS0.r_had, hS0.s_had, hS0.r_rPer, hS0.s_rPer, hS0.r_rP, hS0.s_rP, hS0.r_per, hS0.s_per, hS0.r_pr, hS0.s_pr, hS0.r_rCode, hS0.s_rCode, hS0.r_rC, hS0.s_rC, hS0.r_code, hS0.s_code, hS0.r_cd, hS0.s_cd, hS0.r_kept, hS0.s_kept, hS0.r_kp, hS0.s_kp, hS0.r_holder, hS0.s_holder, hS0.r_hd, hS0.s_hd, hS0.r_pass, hS0.s_pass, hS0.r_ps, hS0.s_ps, hS0.r_debt, hS0.s_debt, hS0.r_db, hS0.s_db, hS0.r_endBy, hS0.s_endBy, hS0.r_eb, hS0.s_eb, vpT, vpk0, clk0, vpk1, clk1, vpk2, clk2, vpk3, clk3, vpk4, clk4, vpk5, clk5, vpk6, clk6, vpk7, clk7, vpk8, clk8, vpk9, clk9, nI_clamp, nI_1, true_and]
  have hF1 : FrS (QK k) M (m_si (m_si (m_si (m_si (m_si M 206 40 (nI (k + 1))) 264 k (nI mm)) 265 k 0) 266 k 0) 268 k 0) := ((((FrS.si (Or.inr (Or.inl ⟨rfl, by omega⟩)) _).tr (FrS.si (Or.inr (Or.inr (Or.inl ⟨by omega, by omega, rfl⟩))) _)).tr (FrS.si (Or.inr (Or.inr (Or.inl ⟨by omega, by omega, rfl⟩))) _)).tr (FrS.si (Or.inr (Or.inr (Or.inl ⟨by omega, by omega, rfl⟩))) _)).tr (FrS.si (Or.inr (Or.inr (Or.inl ⟨by omega, by omega, rfl⟩))) _)
  have a40 : m_i (m_si (m_si (m_si (m_si (m_si M 206 40 (nI (k + 1))) 264 k (nI mm)) 265 k 0) 266 k 0) 268 k 0) 206 40 = nI (k + 1) := by rw [m_i_si, if_neg (by omega), m_i_si, if_neg (by omega), m_i_si, if_neg (by omega), m_i_si, if_neg (by omega), m_i_si, if_pos ⟨rfl, rfl⟩]
  have amin : m_i (m_si (m_si (m_si (m_si (m_si M 206 40 (nI (k + 1))) 264 k (nI mm)) 265 k 0) 266 k 0) 268 k 0) 264 k = nI mm := by rw [m_i_si, if_neg (by omega), m_i_si, if_neg (by omega), m_i_si, if_neg (by omega), m_i_si, if_pos ⟨rfl, rfl⟩]
  have aoff : m_i (m_si (m_si (m_si (m_si (m_si M 206 40 (nI (k + 1))) 264 k (nI mm)) 265 k 0) 266 k 0) 268 k 0) 265 k = 0 := by rw [m_i_si, if_neg (by omega), m_i_si, if_neg (by omega), m_i_si, if_pos ⟨rfl, rfl⟩]
  have ath : m_i (m_si (m_si (m_si (m_si (m_si M 206 40 (nI (k + 1))) 264 k (nI mm)) 265 k 0) 266 k 0) 268 k 0) 266 k = thBits [] := by rw [m_i_si, if_neg (by omega), m_i_si, if_pos ⟨rfl, rfl⟩]; rfl
  have ahd : m_i (m_si (m_si (m_si (m_si (m_si M 206 40 (nI (k + 1))) 264 k (nI mm)) 265 k 0) 266 k 0) 268 k 0) 268 k = 0 := by rw [m_i_si, if_pos ⟨rfl, rfl⟩]
  have a36 : m_i (m_si (m_si (m_si (m_si (m_si M 206 40 (nI (k + 1))) 264 k (nI mm)) 265 k 0) 266 k 0) 268 k 0) 206 36 = nI (g_u s) := by rw [m_i_si, if_neg (by omega), m_i_si, if_neg (by omega), m_i_si, if_neg (by omega), m_i_si, if_neg (by omega), m_i_si, if_neg (by omega)]; exact d36
  have a42 : m_i (m_si (m_si (m_si (m_si (m_si M 206 40 (nI (k + 1))) 264 k (nI mm)) 265 k 0) 266 k 0) 268 k 0) 206 42 = unaN (g_cs s) k := by rw [m_i_si, if_neg (by omega), m_i_si, if_neg (by omega), m_i_si, if_neg (by omega), m_i_si, if_neg (by omega), m_i_si, if_neg (by omega)]; exact d42
  have a44 : m_i (m_si (m_si (m_si (m_si (m_si M 206 40 (nI (k + 1))) 264 k (nI mm)) 265 k 0) 266 k 0) 268 k 0) 206 44 = 0 := by rw [m_i_si, if_neg (by omega), m_i_si, if_neg (by omega), m_i_si, if_neg (by omega), m_i_si, if_neg (by omega), m_i_si, if_neg (by omega)]; exact d44
  have aT : THr (m_si (m_si (m_si (m_si (m_si M 206 40 (nI (k + 1))) 264 k (nI mm)) 265 k 0) 266 k 0) 268 k 0) L := ⟨by rw [m_i_si, if_neg (by omega), m_i_si, if_neg (by omega), m_i_si, if_neg (by omega), m_i_si, if_neg (by omega), m_i_si, if_neg (by omega)]; exact hT.1, fun j hj => by rw [m_i_si, if_neg (by omega), m_i_si, if_neg (by omega), m_i_si, if_neg (by omega), m_i_si, if_neg (by omega), m_i_si, if_neg (by omega)]; exact hT.2 j hj⟩
  generalize m_si (m_si (m_si (m_si (m_si M 206 40 (nI (k + 1))) 264 k (nI mm)) 265 k 0) 266 k 0) 268 k 0 = M1 at *
  -- who is there
  have Q45 : ∀ a j, ((a = 266 ∧ j = k) ∨ a = 346 ∨ a = 347) → QK k a j := fun a j q => by unfold QK; omega
  have main : ∀ M2 (u4 u5 : Value) (x3 : Int32), FrS (fun a j => (a = 266 ∧ j = k) ∨ a = 346 ∨ a = 347) M1 M2 → m_i M2 266 k = thBits L → (∀ j, j < L.length → m_i M2 346 j = 0) → (∀ j, j < L.length → m_i M2 347 j = 0) → CallVC l G d mRe_callAt 95 [.ref 206, .int (nI mm), .int (nI k), .int x3, u4, u5] [] mRe_dueAt [.ref 206, .int (nI mm)] M2 bc bs Φ := by
    intro M2 u4 u5 x3 hF2 b_th b_of b_ha
    have hF2' : FrS (QK k) M M2 := hF1.tr (hF2.mono Q45)
    have hC2 := hC.fr (hF2'.mono (QK.d hk))
    have hS2 := hC2.1
    have hO2 := hO.fr hk hF2'
    have bT : THr M2 L := ⟨by rw [hF2.1 _ _ (by omega)]; exact aT.1, fun j hj => by rw [hF2.1 _ _ (by omega)]; exact aT.2 j hj⟩
    have hg : ∀ a j, ¬ ((a = 266 ∧ j = k) ∨ a = 346 ∨ a = 347) → m_i M2 a j = m_i M1 a j := hF2.1
    refine CallVC.cps0 (by omega) (ct_dueAt M2 c R out hC2 (g_ps s) hO2.1 (PBL.idx hc hS) L hL bT mm hc (by omega) ?_)
    have hdue : dueO c s mm L = if c_nu c 2 = -1 then none else dueX (balL (g_ps s) mm (c_nu c 7)) (c_nu c 2) L L.length := rfl
    rw [← hdue]
    cases hdo : dueO c s mm L with
    | some g =>
      have hgL : g < L.length := by
        rw [hdue] at hdo
        by_cases q : c_nu c 2 = -1
        · rw [if_pos q] at hdo; cases hdo
        · rw [if_neg q] at hdo; exact dueX_lt _ _ hdo
      refine bRe_callAt_95 M2 206 _ _ _ _ _ _ ⟨fun z => absurd z (nI_neg (by omega)), fun _ => ⟨hS2.c, ?_⟩⟩
      rw [hg _ _ (by omega), a42]
      have hF3 : FrS (QK k) M2 (m_si M2 206 42 (unaN (g_cs s) k + 1)) := FrS.si (Or.inr (Or.inl ⟨rfl, by omega⟩)) _
      have y0 : ∀ a j, (a ≠ 206 ∨ j ≠ 42) → m_i (m_si M2 206 42 (unaN (g_cs s) k + 1)) a j = m_i M2 a j := fun a j n => by rw [m_i_si, if_neg (by omega)]
      have y1 : m_i (m_si M2 206 42 (unaN (g_cs s) k + 1)) 206 42 = unaN (g_cs s) k + 1 := by rw [m_i_si, if_pos ⟨rfl, rfl⟩]
      generalize m_si M2 206 42 (unaN (g_cs s) k + 1) = M3 at *
      refine ca_end M3 c hc R out (hC2.fr (hF3.mono (QK.d hk))) s hel k hk hlen (hO2.fr hk hF3) L hL ⟨by rw [y0 _ _ (by omega)]; exact bT.1, fun j hj => by rw [y0 _ _ (by omega)]; exact bT.2 j hj⟩ g hgL (ps_room hS hb hgL) mm 0 (g_u s) hm true ?_ ?_ ?_ ?_ (fun _ => ?_) (fun q => by cases q) (fun _ j hj => ?_) (fun q => by cases q) ?_ y1 ?_ _ _ (by omega) (fun M4 hF4 hD4 => ?_)
      · rw [y0 _ _ (by omega), hg _ _ (by omega)]; exact a40
      · rw [y0 _ _ (by omega), hg _ _ (by omega)]; exact amin
      · rw [y0 _ _ (by omega)]; exact b_th
      · rw [y0 _ _ (by omega), hg _ _ (by omega)]; exact aoff
      · rw [y0 _ _ (by omega), hg _ _ (by omega)]; exact ahd
      · rw [y0 _ _ (by omega)]; exact b_of j (by omega)
      · rw [y0 _ _ (by omega), hg _ _ (by omega)]; exact a36
      · rw [y0 _ _ (by omega), hg _ _ (by omega)]; exact a44
      · refine h M4 (((hF2'.tr hF3).mono (QK.d hk)).tr hF4) ?_
        rw [calS_due hdo]; exact hD4
    | none =>
      refine bRe_callAt_95 M2 206 _ _ _ _ _ _ ⟨fun _ => ⟨hS2.c, CallVC.cps0 (by omega) ?_⟩, fun z => absurd rfl z⟩
      refine ct_askedAt M2 c hc R out hC2 (g_ps s) hO2.1 (PBL.idx hc hS) k hk L hL bT mm (g_u s) (by omega) (by rw [hg _ _ (by omega)]; exact a36) hu2 (by rw [hg _ _ (by omega)]; exact ahd) (by rw [hg _ _ (by omega)]; exact aoff) b_of b_ha (by omega) (fun M3 hF3 hA => ?_)
      have hhan : handO c s mm L = handS (offT c k (balL (g_ps s) mm (c_nu c 7)) L mm) (fuelS c L) 0 (g_u s) := by unfold handO; rw [hlen]
      rw [← hhan] at hA ⊢
      have y0 : ∀ a j, ¬ QA k a j → m_i M3 a j = m_i M2 a j := hF3.1
      have hF3' : FrS (QK k) M2 M3 := hF3.mono QA.k
      have hO3 := hO2.fr hk hF3'
      have hC3 := hC2.fr (hF3'.mono (QK.d hk))
      have z40 : m_i M3 206 40 = nI (k + 1) := by rw [y0 _ _ (by unfold QA QO QN; omega), hg _ _ (by omega)]; exact a40
      have zmin : m_i M3 264 k = nI mm := by rw [y0 _ _ (by unfold QA QO QN; omega), hg _ _ (by omega)]; exact amin
      have zth : m_i M3 266 k = thBits L := by rw [y0 _ _ (by unfold QA QO QN; omega)]; exact b_th
      have z42 : m_i M3 206 42 = unaN (g_cs s) k := by rw [y0 _ _ (by unfold QA QO QN; omega), hg _ _ (by omega)]; exact a42
      have z44 : m_i M3 206 44 = 0 := by rw [y0 _ _ (by unfold QA QO QN; omega), hg _ _ (by omega)]; exact a44
      have hT3 : THr M3 L := ⟨by rw [y0 _ _ (by unfold QA QO QN; omega)]; exact bT.1, fun j hj => by rw [y0 _ _ (by unfold QA QO QN; omega)]; exact bT.2 j hj⟩
      refine bRe_callAt_120 M3 206 _ _ _ _ _ _ ?_
      cases hho : handO c s mm L with
      | mk o u =>
      rw [hho] at hA
      cases o with
      | none =>
        obtain ⟨q1, q2, q3⟩ := hA
        refine ca_el M3 c R out hC3 s k hk hlen hO3 L mm u z40 zmin zth q3 q2 q1 z42 _ _ (fun M4 hF4 hD4 => ?_)
        refine h M4 (((hF2'.tr hF3').mono (QK.d hk)).tr hF4) ?_
        rw [calS_el hdo hho]; exact hD4
      | some t =>
        obtain ⟨q1, q2, q3, q4⟩ := hA
        have hgL : t % L.length < L.length := Nat.mod_lt _ (by omega)
        have ht : t ≤ 80 := by
          rw [hhan] at hho
          have := handS_t _ _ _ _ _ _ hho
          have := fuel_le hc (L := L) l8
          omega
        refine ca_end M3 c hc R out hC3 s hel k hk hlen hO3 L hL hT3 (t % L.length) hgL (ps_room hS hb hgL) mm t u hm false z40 zmin zth q3 (fun q => by cases q) (fun _ => q2) (fun q => by cases q) (fun _ j hj => ⟨t / L.length, ?_, ?_⟩) q1 (by rw [z42]; exact (Int32.add_zero _).symm) z44 _ _ (by omega) (fun M4 hF4 hD4 => ?_)
        · have := Nat.div_le_self t L.length; omega
        · rw [q4 j (by omega)]; unfold ocN; rw [if_pos hj]
        · refine h M4 (((hF2'.tr hF3').mono (QK.d hk)).tr hF4) ?_
          rw [calS_go hdo hho]; exact hD4
  have loop : ∀ e i M2 (u4 u5 : Value), i + e = L.length → FrS (fun a j => (a = 266 ∧ j = k) ∨ a = 346 ∨ a = 347) M1 M2 → m_i M2 266 k = thBits (L.take i) → (∀ j, j < i → m_i M2 346 j = 0) → (∀ j, j < i → m_i M2 347 j = 0) → Ev l G d mRe_callAt 45 [.ref 206, .int (nI mm), .int (nI k), .int (nI i), u4, u5] [] M2 bc bs Φ := by
    intro e
    induction e with
    | zero =>
      intro i M2 u4 u5 hi hF2 h1 h2 h3
      obtain rfl : i = L.length := by omega
      rw [List.take_length] at h1
      refine bRe_callAt_45 M2 206 _ _ _ _ _ ⟨(hS0.fr hF1).fr hF2 |>.c, fun _ => main M2 u4 u5 _ hF2 h1 h2 h3, fun q => absurd ?_ q⟩
      rw [hF2.1 _ _ (by omega), aT.1]; exact nI_le (Nat.le_refl _) (by omega)
    | succ e ih =>
      intro i M2 u4 u5 hi hF2 h1 h2 h3
      have hS2 := (hS0.fr hF1).fr hF2
      have x57 : m_i M2 206 57 = nI L.length := by rw [hF2.1 _ _ (by omega)]; exact aT.1
      have xt : m_i M2 345 i = nI (L.getD i 0) := by rw [hF2.1 _ _ (by omega)]; exact aT.2 i (by omega)
      refine bRe_callAt_45 M2 206 _ _ _ _ _ ⟨hS2.c, fun q => absurd q (by rw [x57]; exact nI_not_le (by omega) (by omega)), fun _ => ?_⟩
      simp (disch := omega) only [hS2.c, hS2.r_fed, hS2.s_fed, hS2.r_rKind, hS2.s_rKind, hS2.r_kind, hS2.s_kind, hS2.r_rNum, hS2.s_rNum, hS2.r_num, hS2.s_num, hS2.r_rLong, hS2.s_rLong, hS2.r_cLong, hS2.s_cLong, hS2.r_stack, hS2.s_stack, hS2.r_names, hS2.s_names, hS2.r_row, hS2.s_row, hS2.r_ruleOf, hS2.s_ruleOf, hS2.r_ways, hS2.s_ways, hS2.r_cWho, hS2.s_cWho, hS2.r_cMin, hS2.s_cMin, hS2.r_cOff, hS2.s_cOff, hS2.r_cTh, hS2.s_cTh, hS2.r_cEnd, hS2.s_cEnd, hS2.r_hds, hS2.s_hds, hS2.r_ends, hS2.s_ends, hS2.r_there, hS2.s_there, hS2.r_offd, hS2.s_offd, hS2.r_had, hS2.s_had, hS2.r_rPer, hS2.s_rPer, hS2.r_rP, hS2.s_rP, hS2.r_per, hS2.s_per, hS2.r_pr, hS2.s_pr, hS2.r_rCode, hS2.s_rCode, hS2.r_rC, hS2.s_rC, hS2.r_code, hS2.s_code, hS2.r_cd, hS2.s_cd, hS2.r_kept, hS2.s_kept, hS2.r_kp, hS2.s_kp, hS2.r_holder, hS2.s_holder, hS2.r_hd, hS2.s_hd, hS2.r_pass, hS2.s_pass, hS2.r_ps, hS2.s_ps, hS2.r_debt, hS2.s_debt, hS2.r_db, hS2.s_db, hS2.r_endBy, hS2.s_endBy, hS2.r_eb, hS2.s_eb, vpT, vpk0, clk0, vpk1, clk1, vpk2, clk2, vpk3, clk3, vpk4, clk4, vpk5, clk5, vpk6, clk6, vpk7, clk7, vpk8, clk8, vpk9, clk9, nI_clamp, nI_1, true_and, xt, h1]
      rw [← thBits_app, ← take_getD L (show i < L.length by omega)]
      refine bRe_callAt_77 _ 206 _ _ _ _ _ ?_
      simp only [m_sh_si, m_r_si]
      simp (disch := omega) only [hS2.c, hS2.r_fed, hS2.s_fed, hS2.r_rKind, hS2.s_rKind, hS2.r_kind, hS2.s_kind, hS2.r_rNum, hS2.s_rNum, hS2.r_num, hS2.s_num, hS2.r_rLong, hS2.s_rLong, hS2.r_cLong, hS2.s_cLong, hS2.r_stack, hS2.s_stack, hS2.r_names, hS2.s_names, hS2.r_row, hS2.s_row, hS2.r_ruleOf, hS2.s_ruleOf, hS2.r_ways, hS2.s_ways, hS2.r_cWho, hS2.s_cWho, hS2.r_cMin, hS2.s_cMin, hS2.r_cOff, hS2.s_cOff, hS2.r_cTh, hS2.s_cTh, hS2.r_cEnd, hS2.s_cEnd, hS2.r_hds, hS2.s_hds, hS2.r_ends, hS2.s_ends, hS2.r_there, hS2.s_there, hS2.r_offd, hS2.s_offd, hS2.r_had, hS2.s_had, hS2.r_rPer, hS2.s_rPer, hS2.r_rP, hS2.s_rP, hS2.r_per, hS2.s_per, hS2.r_pr, hS2.s_pr, hS2.r_rCode, hS2.s_rCode, hS2.r_rC, hS2.s_rC, hS2.r_code, hS2.s_code, hS2.r_cd, hS2.s_cd, hS2.r_kept, hS2.s_kept, hS2.r_kp, hS2.s_kp, hS2.r_holder, hS2.s_holder, hS2.r_hd, hS2.s_hd, hS2.r_pass, hS2.s_pass, hS2.r_ps, hS2.s_ps, hS2.r_debt, hS2.s_debt, hS2.r_db, hS2.s_db, hS2.r_endBy, hS2.s_endBy, hS2.r_eb, hS2.s_eb, vpT, vpk0, clk0, vpk1, clk1, vpk2, clk2, vpk3, clk3, vpk4, clk4, vpk5, clk5, vpk6, clk6, vpk7, clk7, vpk8, clk8, vpk9, clk9, nI_clamp, nI_1, true_and]
      refine ih (i + 1) _ _ _ (by omega) (((hF2.tr (FrS.si (Or.inl ⟨rfl, rfl⟩) _)).tr (FrS.si (Or.inr (Or.inl rfl)) _)).tr (FrS.si (Or.inr (Or.inr rfl)) _)) ?_ (fun j hj => ?_) (fun j hj => ?_)
      · rw [m_i_si, if_neg (by omega), m_i_si, if_neg (by omega), m_i_si, if_pos ⟨rfl, rfl⟩]
      · rw [m_i_si, if_neg (by omega), m_i_si]
        by_cases z : j = i
        · rw [if_pos ⟨rfl, z⟩]
        · rw [if_neg (fun y => z y.2), m_i_si, if_neg (by omega)]; exact h2 j (by omega)
      · rw [m_i_si]
        by_cases z : j = i
        · rw [if_pos ⟨rfl, z⟩]
        · rw [if_neg (fun y => z y.2), m_i_si, if_neg (by omega), m_i_si, if_neg (by omega)]; exact h3 j (by omega)
  exact loop L.length 0 M1 _ _ (by omega) (FrS.rf _ _) ath (fun j hj => absurd hj (Nat.not_lt_zero j)) (fun j hj => absurd hj (Nat.not_lt_zero j))
/-- a DAY gone through -/
def RDs (M : Mm) (s : Sg) : Prop := RDs0 M s ∧ m_i M 206 43 = nI (g_fr s)
theorem RDs0.fr {M M' : Mm} {s : Sg} {Q : Nat → Nat → Prop} (h : RDs0 M s) (h8 : (g_cs s).length ≤ 8) (hF : FrS Q M M') (hQ : ∀ a j, Q a j → (a = 206 ∧ (j = 43 ∨ j = 57)) ∨ a = 345) : RDs0 M' s := by
  obtain ⟨a1, a2, a3, a4, a5, a6, a7⟩ := h
  have n : ∀ a j, ¬ ((a = 206 ∧ (j = 43 ∨ j = 57)) ∨ a = 345) → m_i M' a j = m_i M a j := fun a j z => hF.1 a j (fun q => z (hQ a j q))
  refine ⟨by rw [n _ _ (by omega)]; exact a1, by rw [n _ _ (by omega)]; exact a2, by rw [n _ _ (by omega)]; exact a3, by rw [n _ _ (by omega)]; exact a4, a5.fr hF (fun q => by have := hQ _ _ q; omega) (fun p j hp q => by have := hQ _ _ q; omega), fun p hp => by rw [n _ _ (by omega)]; exact a6 p hp, fun i hi => (a7 i hi).fr hF (fun a h1 h2 q => by have := hQ _ _ q; omega) (fun j q => by have := hQ _ _ q; omega)⟩
theorem ct_day0 (M : Mm) (c : Cf) (hc : cfOK c) (hs : cfST c) (R : List RU) (out : Nat) (ho : out < 1024) (hst : m_i M 206 33 = nI out) (hRS : RS M) (hR : RRrep M R) (hRok : ∀ r ∈ R, RUok r) (hC : ∀ M', FrS (fun a _ => a = 261) M M' → LRd M' R out → RDc M' c R out) (hd : 5 < d)
    (h : ∀ M', FrS (fun a j => QD a j ∨ a = 261) M M' → RDs M' (dayS c 8 g0) → RDc M' c R out → SOK c (dayS c 8 g0) → Φ (.inl none) M') : Ct l G d mRe_day0 bc bs [.ref 206] M Φ := by
  have n8 := hc.1
  obtain ⟨shut, sh1, sh2⟩ := hc.2.2.2.2.1
  generalize hSS : dayS c 8 g0 = S at h
  refine Ct.of rfl (Nat.le_of_ble_eq_true rfl) ?_
  refine bRe_day0_0 M 206 ⟨hRS.c, CallVC.cps0 (by omega) ?_⟩
  refine ct_layRules M hRS R hR hRok out ho hst (fun M0 hF0 hL0 => ?_)
  have hC0 := hC M0 hF0 hL0
  have hS0 := hC0.1
  refine bRe_day0_4 M0 206 _ _ ⟨hS0.c, ?_⟩
  refine bRe_day0_14 _ 206 _ _ ⟨hS0.c, ?_⟩
  refine bRe_day0_24 _ 206 _ _ ⟨hS0.c, ?_⟩
  -- a state, and the loop
  have loop : ∀ j s M', SOK c s → (g_cs s).length + j = 8 ∨ g_el s = true → RDs M' s → RDc M' c R out → FrS QD M0 M' → dayS c j s = S → Ev l G d mRe_day0 66 [.ref 206, .int (c_nu c 5), .int (nI (g_fr s))] [] M' bc bs Φ := by
    intro j
    induction j with
    | zero =>
      intro s M' hS hlen hD hC' hF e
      have e' : s = S := e
      have hS' := hC'.1
      have hfr := hS.2.2.2.2.2.2.2.1
      have hend : Φ (.inl none) M' := h M' ((hF0.mono (fun a j q => Or.inr q)).tr (hF.mono (fun a j q => Or.inl q))) (e' ▸ hD) hC' (e' ▸ hS)
      cases hel : g_el s with
      | true =>
        refine bRe_day0_66 M' 206 _ _ ⟨hS'.c, fun _ => hend, fun z => ?_⟩
        have := hD.1.2.2.1
        rw [hel, z] at this
        exact absurd this (by decide)
      | false =>
        have h8 : (g_cs s).length = 8 := by rcases hlen with q | q; · omega
                                            · rw [hel] at q; cases q
        have hmin := all_served hc hS hel h8
        have hth : thN c (g_fr s) (g_sv s) (c_n c) = [] := by
          have h3 := hS.2.2.1
          rw [hel, h8] at h3
          have h3' : 8 = (g_gs s).length := h3
          have := (hS.th hc (g_fr s)).2.2
          exact List.length_eq_zero_iff.mp (by omega)
        refine bRe_day0_66 M' 206 _ _ ⟨hS'.c, fun _ => hend, fun z => ⟨fun _ => hend, fun z2 => ⟨fun _ => hend, fun z3 => CallVC.cps0 (by omega) ?_⟩⟩⟩
        refine ct_layThere M' c hc hs hS' hC'.2.1 (g_fr s) (g_sv s) hfr (fun p hp => by rw [hD.1.2.2.2.2.2.1 p hp, hS.2.2.2.2.2.2.2.2.2.1 p hp, ← hS.2.2.2.2.1 p hp]; exact Bool.not_eq_true _ |>.to_iff) (fun M1 hF1 hT1 => ?_)
        rw [hth] at hT1
        have hC1 := hC'.fr (hF1.mono QTh.d)
        refine bRe_day0_88 M1 206 _ _ ⟨hC1.1.c, fun z => absurd hT1.1 z, fun _ => CallVC.cps0 (by omega) ?_⟩
        refine ct_nextComes M1 c hc hs hC1.1 hC1.2.1 (g_fr s) hfr ?_
        have hend1 : Φ (.inl none) M1 := h M1 ((hF0.mono (fun a j q => Or.inr q)).tr ((hF.tr (hF1.mono QTh.d)).mono (fun a j q => Or.inl q))) (e' ▸ ⟨hD.1.fr (by omega) hF1 (fun a j q => by unfold QTh at q; omega), by rw [hF1.1 _ _ (by unfold QTh; omega)]; exact hD.2⟩) hC1 (e' ▸ hS)
        refine bRe_day0_100 M1 206 _ _ _ ?_
        cases hn : nextN c (g_fr s) 0 (c_n c) with
        | none => exact bRe_day0_66 M1 206 _ _ ⟨hC1.1.c, fun _ => hend1, fun z => ⟨fun _ => hend1, fun z => absurd rfl z⟩⟩
        | some m =>
          refine bRe_day0_66 M1 206 _ _ ⟨hC1.1.c, fun _ => hend1, fun z => ⟨fun _ => hend1, fun _ => ⟨fun _ => hend1, fun z4 => ?_⟩⟩⟩
          exfalso
          have : minS c s = some m := by
            rw [minS_m (Int32.not_le.mp z3) hth hn, if_pos (show nI m < c_nu c 5 from Int32.not_le.mp z4)]
          rw [hmin] at this
          cases this
    | succ j ih =>
      intro s M' hS hlen hD hC' hF e
      have hS' := hC'.1
      have hfr := hS.2.2.2.2.2.2.2.1
      have hcs8 := hS.2.2.2.2.2.2.2.2.2.2.1
      have hend : s = S → ∀ M1, FrS QTh M' M1 → Φ (.inl none) M1 := fun e' M1 hF1 => h M1 ((hF0.mono (fun a j q => Or.inr q)).tr ((hF.tr (hF1.mono QTh.d)).mono (fun a j q => Or.inl q))) (e' ▸ ⟨hD.1.fr hcs8 hF1 (fun a j q => by unfold QTh at q; omega), by rw [hF1.1 _ _ (by unfold QTh; omega)]; exact hD.2⟩) (hC'.fr (hF1.mono QTh.d)) (e' ▸ hS)
      cases hel : g_el s with
      | true =>
        refine bRe_day0_66 M' 206 _ _ ⟨hS'.c, fun _ => hend ((dayS_el c j hel).symm.trans e) M' (FrS.rf _ _), fun z => ?_⟩
        have := hD.1.2.2.1
        rw [hel, z] at this
        exact absurd this (by decide)
      | false =>
        have hlen' : (g_cs s).length + (j + 1) = 8 := by
          rcases hlen with q | q
          · exact q
          · rw [hel] at q; cases q
        have d44 : m_i M' 206 44 = 0 := by have := hD.1.2.2.1; rw [hel] at this; exact this
        have hno : minS c s = none → ∀ M1, FrS QTh M' M1 → Φ (.inl none) M1 := fun hm => hend ((dayS_none c j hel hm).symm.trans e)
        -- a CALL at a minute
        have hcall : ∀ mm M1, minS c s = some mm → FrS QTh M' M1 → THr M1 (thN c mm (g_sv s) (c_n c)) → CallVC l G d mRe_day0 109 [.ref 206, .int (c_nu c 5), .int (nI mm)] [] mRe_callAt [.ref 206, .int (nI mm)] M1 bc bs Φ := fun mm M1 hm hF1 hT1 => by
          have hC1 := hC'.fr (hF1.mono QTh.d)
          obtain ⟨m1, m2, hL⟩ := hS.min hc hm
          obtain ⟨b1, b2, b3⟩ := hS.th hc mm
          have hcal := hS.cal hc hel hm
          have e1 := (dayS_some c j hel hm).symm.trans e
          refine CallVC.cps0 (by omega) (ct_callAt M1 c hc R out hC1 s hS hel (g_cs s).length (by omega) rfl (hD.1.fr hcs8 hF1 (fun a j q => by unfold QTh at q; omega)) _ hL hT1 b3 mm m2 (by omega) (fun M2 hF2 hD2 => ?_))
          have hC2 := hC1.fr hF2
          have hS2 := hC2.1
          have hF2' : FrS QD M0 M2 := (hF.tr (hF1.mono QTh.d)).tr hF2
          generalize hs2 : calS c s mm (thN c mm (g_sv s) (c_n c)) = s2 at *
          have hl2 : (g_cs s2).length = (g_cs s).length + 1 := by
            rw [← hs2]
            unfold calS
            split
            · show (g_cs s ++ [_]).length = _
              rw [List.length_append]; rfl
            · split <;> (show (g_cs s ++ [_]).length = _; rw [List.length_append]; rfl)
          have hgo : ∀ v, v = nI (g_fr s2) → Ev l G d mRe_day0 66 [.ref 206, .int (c_nu c 5), .int v] [] (m_si M2 206 43 v) bc bs Φ := fun v ev => by
            subst ev
            have hF3 : FrS (fun a j => a = 206 ∧ j = 43) M2 (m_si M2 206 43 (nI (g_fr s2))) := FrS.si ⟨rfl, rfl⟩ _
            have hq : ∀ a j, (a = 206 ∧ j = 43) → QD a j := fun a j q => by unfold QD; omega
            exact ih s2 _ hcal (Or.inl (by omega)) ⟨hD2.fr hcal.2.2.2.2.2.2.2.2.2.2.1 hF3 (fun a j q => by omega), by rw [m_i_si, if_pos ⟨rfl, rfl⟩]⟩ (hC2.fr (hF3.mono hq)) (hF2'.tr (hF3.mono hq)) e1
          refine bRe_day0_109 M2 206 _ _ ⟨hS2.c, fun z => ?_, fun z => ?_⟩
          · have hel2 : g_el s2 = false := by
              have := hD2.2.2.1
              cases q : g_el s2 with
              | false => rfl
              | true => rw [q, z] at this; exact absurd this (by decide)
            have x40 : m_i M2 206 40 = nI ((g_cs s).length + 1) := by rw [hD2.1, hl2]
            rw [x40, nI_pred]
            have xe : m_i M2 267 (g_cs s).length = nI (g_fr s2) := by
              have := (hD2.2.2.2.2.2.2 (g_cs s).length (by omega)).2.2.2.2.1
              rw [this, ← hs2]
              rw [← hs2] at hel2
              cases hdo : dueO c s mm (thN c mm (g_sv s) (c_n c)) with
              | some g =>
                rw [calS_due hdo]
                show (g_cs s ++ [_]).getD _ _ |>.2.2.2.2.2.1 = _
                rw [getD_app, if_neg (Nat.lt_irrefl _), if_pos rfl]
                exact bow_eq hc _ _ _
              | none =>
                cases hho : handO c s mm (thN c mm (g_sv s) (c_n c)) with
                | mk o u =>
                cases o with
                | none => rw [calS_el hdo hho] at hel2; cases hel2
                | some t =>
                  rw [calS_go hdo hho]
                  show (g_cs s ++ [_]).getD _ _ |>.2.2.2.2.2.1 = _
                  rw [getD_app, if_neg (Nat.lt_irrefl _), if_pos rfl]
                  exact bow_eq hc _ _ _
            simp (disch := omega) only [hS2.c, hS2.r_fed, hS2.s_fed, hS2.r_rKind, hS2.s_rKind, hS2.r_kind, hS2.s_kind, hS2.r_rNum, hS2.s_rNum, hS2.r_num, hS2.s_num, hS2.r_rLong, hS2.s_rLong, hS2.r_cLong, hS2.s_cLong, hS2.r_stack, hS2.s_stack, hS2.r_names, hS2.s_names, hS2.r_row, hS2.s_row, hS2.r_ruleOf, hS2.s_ruleOf, hS2.r_ways, hS2.s_ways, hS2.r_cWho, hS2.s_cWho, hS2.r_cMin, hS2.s_cMin, hS2.r_cOff, hS2.s_cOff, hS2.r_cTh, hS2.s_cTh, hS2.r_cEnd, hS2.s_cEnd, hS2.r_hds, hS2.s_hds, hS2.r_ends, hS2.s_ends, hS2.r_there, hS2.s_there, hS2.r_offd, hS2.s_offd, hS2.r_had, hS2.s_had, hS2.r_rPer, hS2.s_rPer, hS2.r_rP, hS2.s_rP, hS2.r_per, hS2.s_per, hS2.r_pr, hS2.s_pr, hS2.r_rCode, hS2.s_rCode, hS2.r_rC, hS2.s_rC, hS2.r_code, hS2.s_code, hS2.r_cd, hS2.s_cd, hS2.r_kept, hS2.s_kept, hS2.r_kp, hS2.s_kp, hS2.r_holder, hS2.s_holder, hS2.r_hd, hS2.s_hd, hS2.r_pass, hS2.s_pass, hS2.r_ps, hS2.s_ps, hS2.r_debt, hS2.s_debt, hS2.r_db, hS2.s_db, hS2.r_endBy, hS2.s_endBy, hS2.r_eb, hS2.s_eb, vpT, vpk0, clk0, vpk1, clk1, vpk2, clk2, vpk3, clk3, vpk4, clk4, vpk5, clk5, vpk6, clk6, vpk7, clk7, vpk8, clk8, vpk9, clk9, nI_clamp, nI_1, true_and, xe]
            exact hgo _ rfl
          · refine hgo _ ?_
            have hel2 : g_el s2 = true := by
              have := hD2.2.2.1
              cases q : g_el s2 with
              | true => rfl
              | false => rw [q] at this; exact absurd this z
            rw [← hs2] at hel2 ⊢
            cases hdo : dueO c s mm (thN c mm (g_sv s) (c_n c)) with
            | some g => rw [calS_due hdo] at hel2; cases hel2
            | none =>
              cases hho : handO c s mm (thN c mm (g_sv s) (c_n c)) with
              | mk o u =>
              cases o with
              | some t => rw [calS_go hdo hho] at hel2; cases hel2
              | none => rw [calS_el hdo hho]; rfl
        have hlay : ∀ M1 mm, FrS QTh M' M1 → mm < 2000 → (∀ M2, FrS QTh M' M2 → THr M2 (thN c mm (g_sv s) (c_n c)) → Φ (.inl none) M2) → True := fun _ _ _ _ _ => trivial
        clear hlay
        have heo : ∀ M1, FrS QTh M' M1 → ∀ p, p < 8 → (m_i M1 269 p = -1 ↔ (g_sv s).testBit p = false) := fun M1 hF1 p hp => by
          rw [hF1.1 _ _ (by unfold QTh; omega), hD.1.2.2.2.2.2.1 p hp, hS.2.2.2.2.2.2.2.2.2.1 p hp, ← hS.2.2.2.2.1 p hp]
          exact Bool.not_eq_true _ |>.to_iff
        refine bRe_day0_66 M' 206 _ _ ⟨hS'.c, fun z => absurd d44 z, fun _ => ⟨fun z => absurd z (nI_neg (by omega)), fun _ => ⟨fun z => hno ?_ M' (FrS.rf _ _), fun z3 => CallVC.cps0 (by omega) ?_⟩⟩⟩
        · unfold minS; rw [if_neg (Int32.not_lt.mpr z)]
        have z3' := Int32.not_le.mp z3
        refine ct_layThere M' c hc hs hS' hC'.2.1 (g_fr s) (g_sv s) hfr (heo M' (FrS.rf _ _)) (fun M1 hF1 hT1 => ?_)
        have hC1 := hC'.fr (hF1.mono QTh.d)
        by_cases hth : thN c (g_fr s) (g_sv s) (c_n c) = []
        · rw [hth] at hT1
          refine bRe_day0_88 M1 206 _ _ ⟨hC1.1.c, fun z => absurd hT1.1 z, fun _ => CallVC.cps0 (by omega) ?_⟩
          refine ct_nextComes M1 c hc hs hC1.1 hC1.2.1 (g_fr s) hfr ?_
          refine bRe_day0_100 M1 206 _ _ _ ?_
          have d44' : m_i M1 206 44 = 0 := by rw [hF1.1 _ _ (by unfold QTh; omega)]; exact d44
          cases hn : nextN c (g_fr s) 0 (c_n c) with
          | none =>
            have hmn := minS_n z3' hth hn
            exact bRe_day0_66 M1 206 _ _ ⟨hC1.1.c, fun z => absurd d44' z, fun z => ⟨fun _ => hno hmn M1 hF1, fun z => absurd rfl z⟩⟩
          | some m =>
            have hmn := minS_m z3' hth hn
            obtain ⟨q1, jj, q2, q3⟩ := next_by _ _ _ hn
            have hb := hc.2.1 jj (by omega)
            have hf := (hc.2.2.2.1 _ hb).1
            rw [q3] at hf
            refine bRe_day0_66 M1 206 _ _ ⟨hC1.1.c, fun z => absurd d44' z, fun z => ⟨fun z => absurd z (nI_neg (by omega)), fun _ => ⟨fun z => hno ?_ M1 hF1, fun z4 => CallVC.cps0 (by omega) ?_⟩⟩⟩
            · rw [hmn, if_neg (show ¬ nI m < c_nu c 5 from Int32.not_lt.mpr z)]
            · have hmm : minS c s = some m := by
                rw [hmn, if_pos (show nI m < c_nu c 5 from Int32.not_le.mp z4)]
              have hLm := (hS.min hc hmm).2.2
              refine ct_layThere M1 c hc hs hC1.1 hC1.2.1 m (g_sv s) (by omega) (heo M1 hF1) (fun M2 hF2 hT2 => ?_)
              have hC2 := hC1.fr (hF2.mono QTh.d)
              refine bRe_day0_88 M2 206 _ _ ⟨hC2.1.c, fun _ => hcall m M2 hmm (hF1.tr hF2) hT2, fun z => ?_⟩
              rw [hT2.1] at z
              have := (nI_eq (b := 0) (by have := hLm.2.1; omega) (by omega)).mp z
              have := hLm.1
              omega
        · have hmm : minS c s = some (g_fr s) := by unfold minS; rw [if_pos z3', if_neg hth]
          have hLm := (hS.min hc hmm).2.2
          refine bRe_day0_88 M1 206 _ _ ⟨hC1.1.c, fun _ => hcall _ M1 hmm hF1 hT1, fun z => ?_⟩
          rw [hT1.1] at z
          have := (nI_eq (b := 0) (by have := hLm.2.1; omega) (by omega)).mp z
          have := hLm.1
          omega
  have fill : ∀ e i (u2 : Value) M', i + e = 8 → FrS QD M0 M' → m_i M' 206 40 = 0 → m_i M' 206 41 = 0 → m_i M' 206 42 = 0 → m_i M' 206 44 = 0 → m_i M' 206 36 = 0 → (∀ p, p < i → m_i M' 269 p = -1) → Ev l G d mRe_day0 31 [.ref 206, .int (nI i), u2] [] M' bc bs Φ := by
    intro e
    induction e with
    | zero =>
      intro i u2 M' hi hF w40 w41 w42 w44 w36 wp
      have hC' := hC0.fr hF
      refine bRe_day0_31 M' 206 _ _ ⟨fun _ => ⟨hC'.1.c, CallVC.cps0 (by omega) ?_⟩, fun q => absurd (nI_le (a := 8) (by omega) (by omega)) q⟩
      have hF1 : FrS QD M' (m_si M' 206 43 0) := FrS.si (Or.inr (Or.inr (Or.inl ⟨rfl, by omega⟩))) _
      have hC1 := hC'.fr hF1
      obtain ⟨hS1, -, hR1, -, hL1, hnu1, -⟩ := id hC1
      refine ct_numberOf _ hS1 R hR1 out hL1 3 (by omega) ?_
      rw [← hnu1 5]
      refine bRe_day0_63 _ 206 _ _ _ ?_
      refine loop 8 g0 _ (SOK.zero c) (Or.inl rfl) ⟨⟨?_, ?_, ?_, ?_, ⟨?_, by decide, fun i hi => absurd hi (Nat.not_lt_zero i)⟩, fun p hp => ?_, fun i hi => absurd hi (Nat.not_lt_zero i)⟩, ?_⟩ hC1 (hF.tr hF1) hSS
      · rw [m_i_si, if_neg (by omega)]; exact w40
      · rw [m_i_si, if_neg (by omega)]; exact w42
      · rw [m_i_si, if_neg (by omega)]; exact w44
      · rw [m_i_si, if_neg (by omega)]; exact w36
      · rw [m_i_si, if_neg (by omega)]; exact w41
      · rw [m_i_si, if_neg (by omega)]; exact wp p (by omega)
      · rw [m_i_si, if_pos ⟨rfl, rfl⟩]; rfl
    | succ e ih =>
      intro i u2 M' hi hF w40 w41 w42 w44 w36 wp
      have hS' := hS0.fr hF
      refine bRe_day0_31 M' 206 _ _ ⟨fun q => absurd q (nI_not_le (b := 8) (by omega) (by omega)), fun _ => ?_⟩
      simp (disch := omega) only [hS'.c, hS'.r_fed, hS'.s_fed, hS'.r_rKind, hS'.s_rKind, hS'.r_kind, hS'.s_kind, hS'.r_rNum, hS'.s_rNum, hS'.r_num, hS'.s_num, hS'.r_rLong, hS'.s_rLong, hS'.r_cLong, hS'.s_cLong, hS'.r_stack, hS'.s_stack, hS'.r_names, hS'.s_names, hS'.r_row, hS'.s_row, hS'.r_ruleOf, hS'.s_ruleOf, hS'.r_ways, hS'.s_ways, hS'.r_cWho, hS'.s_cWho, hS'.r_cMin, hS'.s_cMin, hS'.r_cOff, hS'.s_cOff, hS'.r_cTh, hS'.s_cTh, hS'.r_cEnd, hS'.s_cEnd, hS'.r_hds, hS'.s_hds, hS'.r_ends, hS'.s_ends, hS'.r_there, hS'.s_there, hS'.r_offd, hS'.s_offd, hS'.r_had, hS'.s_had, hS'.r_rPer, hS'.s_rPer, hS'.r_rP, hS'.s_rP, hS'.r_per, hS'.s_per, hS'.r_pr, hS'.s_pr, hS'.r_rCode, hS'.s_rCode, hS'.r_rC, hS'.s_rC, hS'.r_code, hS'.s_code, hS'.r_cd, hS'.s_cd, hS'.r_kept, hS'.s_kept, hS'.r_kp, hS'.s_kp, hS'.r_holder, hS'.s_holder, hS'.r_hd, hS'.s_hd, hS'.r_pass, hS'.s_pass, hS'.r_ps, hS'.s_ps, hS'.r_debt, hS'.s_debt, hS'.r_db, hS'.s_db, hS'.r_endBy, hS'.s_endBy, hS'.r_eb, hS'.s_eb, vpT, vpk0, clk0, vpk1, clk1, vpk2, clk2, vpk3, clk3, vpk4, clk4, vpk5, clk5, vpk6, clk6, vpk7, clk7, vpk8, clk8, vpk9, clk9, nI_clamp, nI_1, true_and]
      refine ih (i + 1) _ _ (by omega) (hF.tr (FrS.si (by unfold QD; omega) _)) (by rw [m_i_si, if_neg (by omega)]; exact w40) (by rw [m_i_si, if_neg (by omega)]; exact w41) (by rw [m_i_si, if_neg (by omega)]; exact w42) (by rw [m_i_si, if_neg (by omega)]; exact w44) (by rw [m_i_si, if_neg (by omega)]; exact w36) (fun p hp => ?_)
      rw [m_i_si]
      by_cases z : p = i
      · rw [if_pos ⟨rfl, z⟩]
      · rw [if_neg (fun y => z y.2)]; exact wp p (by omega)
  refine fill 8 0 _ _ (by omega) (((((FrS.si (by unfold QD; omega) _).tr (FrS.si (by unfold QD; omega) _)).tr (FrS.si (by unfold QD; omega) _)).tr (FrS.si (by unfold QD; omega) _)).tr (FrS.si (by unfold QD; omega) _)) ?_ ?_ ?_ ?_ ?_ (fun p hp => absurd hp (Nat.not_lt_zero p))
  · rw [m_i_si, if_neg (by omega), m_i_si, if_neg (by omega), m_i_si, if_neg (by omega), m_i_si, if_neg (by omega), m_i_si, if_pos ⟨rfl, rfl⟩]
  · rw [m_i_si, if_neg (by omega), m_i_si, if_neg (by omega), m_i_si, if_neg (by omega), m_i_si, if_pos ⟨rfl, rfl⟩]
  · rw [m_i_si, if_neg (by omega), m_i_si, if_neg (by omega), m_i_si, if_pos ⟨rfl, rfl⟩]
  · rw [m_i_si, if_neg (by omega), m_i_si, if_pos ⟨rfl, rfl⟩]
  · rw [m_i_si, if_pos ⟨rfl, rfl⟩]
theorem ct_layWays (M : Mm) (hS : RS M) (h : ∀ M', FrS (fun a _ => a = 262) M M' → (∀ p, p < 8 → m_i M' 262 p = m_i M (218 + p) 5) → Φ (.inl none) M') : Ct l G d mRe_layWays bc bs [.ref 206] M Φ := by
  refine Ct.of rfl (Nat.le_of_ble_eq_true rfl) ?_
  refine bRe_layWays_0 M 206 ?_
  have loop : ∀ e i M', i + e = 8 → FrS (fun a _ => a = 262) M M' → (∀ p, p < i → m_i M' 262 p = m_i M (218 + p) 5) → Ev l G d mRe_layWays 2 [.ref 206, .int (nI i)] [] M' bc bs Φ := by
    intro e
    induction e with
    | zero =>
      intro i M' hi hF hw
      exact bRe_layWays_2 M' 206 _ ⟨fun _ => h M' hF (fun p hp => hw p (by omega)), fun q => absurd (nI_le (a := 8) (by omega) (by omega)) q⟩
    | succ e ih =>
      intro i M' hi hF hw
      have hS' := hS.fr hF
      have x5 : m_i M' (218 + i) 5 = m_i M (218 + i) 5 := hF.1 _ _ (by omega)
      refine bRe_layWays_2 M' 206 _ ⟨fun q => absurd q (nI_not_le (b := 8) (by omega) (by omega)), fun _ => ?_⟩
      simp (disch := omega) only [hS'.c, hS'.r_fed, hS'.s_fed, hS'.r_rKind, hS'.s_rKind, hS'.r_kind, hS'.s_kind, hS'.r_rNum, hS'.s_rNum, hS'.r_num, hS'.s_num, hS'.r_rLong, hS'.s_rLong, hS'.r_cLong, hS'.s_cLong, hS'.r_stack, hS'.s_stack, hS'.r_names, hS'.s_names, hS'.r_row, hS'.s_row, hS'.r_ruleOf, hS'.s_ruleOf, hS'.r_ways, hS'.s_ways, hS'.r_cWho, hS'.s_cWho, hS'.r_cMin, hS'.s_cMin, hS'.r_cOff, hS'.s_cOff, hS'.r_cTh, hS'.s_cTh, hS'.r_cEnd, hS'.s_cEnd, hS'.r_hds, hS'.s_hds, hS'.r_ends, hS'.s_ends, hS'.r_there, hS'.s_there, hS'.r_offd, hS'.s_offd, hS'.r_had, hS'.s_had, hS'.r_rPer, hS'.s_rPer, hS'.r_rP, hS'.s_rP, hS'.r_per, hS'.s_per, hS'.r_pr, hS'.s_pr, hS'.r_rCode, hS'.s_rCode, hS'.r_rC, hS'.s_rC, hS'.r_code, hS'.s_code, hS'.r_cd, hS'.s_cd, hS'.r_kept, hS'.s_kept, hS'.r_kp, hS'.s_kp, hS'.r_holder, hS'.s_holder, hS'.r_hd, hS'.s_hd, hS'.r_pass, hS'.s_pass, hS'.r_ps, hS'.s_ps, hS'.r_debt, hS'.s_debt, hS'.r_db, hS'.s_db, hS'.r_endBy, hS'.s_endBy, hS'.r_eb, hS'.s_eb, vpT, vpk0, clk0, vpk1, clk1, vpk2, clk2, vpk3, clk3, vpk4, clk4, vpk5, clk5, vpk6, clk6, vpk7, clk7, vpk8, clk8, vpk9, clk9, nI_clamp, nI_1, true_and, x5]
      refine ih (i + 1) _ (by omega) (hF.tr (FrS.si (P := fun a _ => a = 262) rfl _)) (fun p hp => ?_)
      rw [m_i_si]
      by_cases z : p = i
      · rw [if_pos ⟨rfl, z⟩, z]
      · rw [if_neg (fun y => z y.2)]; exact hw p (by omega)
  exact loop 8 0 M (by omega) (FrS.rf _ _) (fun p hp => absurd hp (Nat.not_lt_zero p))
end SR6
