/-! ===== the class: more questions ===== -/
def CLb (s : Sg) : Prop := (∀ r ∈ g_cs s, 1 ≤ r.1.length) ∧ svN (g_cs s) (g_cs s).length = nI (g_gs s).length ∧ onesN 10 (g_sv s) = (g_gs s).length
theorem svN_app (cs : List CR) (r : CR) : ∀ i, i ≤ cs.length → svN (cs ++ [r]) i = svN cs i
  | 0, _ => rfl
  | i + 1, hi => by
    show svN (cs ++ [r]) i + _ = svN cs i + _
    rw [svN_app cs r i (by omega), getD_app, if_pos (show i < cs.length by omega)]
theorem svN_app1 (cs : List CR) (r : CR) : svN (cs ++ [r]) (cs ++ [r]).length = svN cs cs.length + (if r.2.2.2.2.1 = -1 then 0 else 1) := by
  rw [List.length_append]
  show svN (cs ++ [r]) cs.length + _ = _
  rw [svN_app cs r _ (Nat.le_refl _), getD_app, if_neg (Nat.lt_irrefl _), if_pos rfl]
theorem ones_set {s p : Nat} (hs : s < 256) (hp : p < 8) (hb : s.testBit p = false) : onesN 10 (s ||| 2 ^ p) = onesN 10 s + 1 := by
  have h : ∀ p, p < 8 → ∀ s, s < 256 → s.testBit p = false → onesN 10 (s ||| 2 ^ p) = onesN 10 s + 1 := by decide +kernel
  exact h p hp s hs hb
theorem CLb.fin {c : Cf} (hc : cfOK c) {s : Sg} (hS : SOK c s) (h : CLb s) {mm : Nat} {L : List Nat} (hL : LOK c L) (hLm : ∀ p ∈ L, p ∉ g_gs s) (un : Bool) (off g u : Nat) (hg : g < L.length) : CLb (endS c s mm L un off g u) := by
  have n8 := hc.1
  have hp := hL.2.2.1 g hg
  have hng := hLm _ (getD_mem hg)
  obtain ⟨h1, h2, h3⟩ := h
  refine ⟨fun r hr => ?_, ?_, ?_⟩
  · rcases List.mem_append.mp (show r ∈ g_cs s ++ [_] from hr) with q | q
    · exact h1 r q
    · rw [List.mem_singleton.mp q]; exact hL.1
  · show svN (g_cs s ++ [_]) (g_cs s ++ [_]).length = nI (g_gs s ++ [_]).length
    rw [svN_app1, h2, List.length_append]
    show nI (g_gs s).length + (if nI (L.getD g 0) = -1 then 0 else 1) = nI ((g_gs s).length + 1)
    rw [if_neg (nI_neg (by omega)), nI_1]
  · show onesN 10 (g_sv s ||| 2 ^ L.getD g 0) = (g_gs s ++ [_]).length
    have hb : (g_sv s).testBit (L.getD g 0) = false := by
      cases q : (g_sv s).testBit (L.getD g 0) with
      | false => rfl
      | true => exact absurd ((hS.2.2.2.2.1 _ (by omega)).mp q) hng
    rw [ones_set hS.2.2.2.1 (by omega) hb, h3, List.length_append]
    rfl
theorem CLb.el {s : Sg} (h : CLb s) {mm u : Nat} {L : List Nat} (hL : 1 ≤ L.length) : CLb (elS s mm L u) := by
  obtain ⟨h1, h2, h3⟩ := h
  refine ⟨fun r hr => ?_, ?_, h3⟩
  · rcases List.mem_append.mp (show r ∈ g_cs s ++ [_] from hr) with q | q
    · exact h1 r q
    · rw [List.mem_singleton.mp q]; exact hL
  · show svN (g_cs s ++ [_]) (g_cs s ++ [_]).length = nI (g_gs s).length
    rw [svN_app1, h2]
    show _ + 0 = _
    rw [Int32.add_zero]
theorem CLb.day {c : Cf} (hc : cfOK c) : ∀ j s, SOK c s → CLb s → CLb (dayS c j s)
  | 0, s, _, h2 => h2
  | j + 1, s, h, h2 => by
    cases hel : g_el s with
    | true => rw [dayS_el c j hel]; exact h2
    | false =>
      cases hm : minS c s with
      | none => rw [dayS_none c j hel hm]; exact h2
      | some mm =>
        rw [dayS_some c j hel hm]
        have hcal := h.cal hc hel hm
        have hL := (h.min hc hm).2.2
        have hLm : ∀ p ∈ thN c mm (g_sv s) (c_n c), p ∉ g_gs s := fun p hp => ((h.th hc mm).1 p hp).1
        refine CLb.day hc j _ hcal ?_
        cases hdo : dueO c s mm (thN c mm (g_sv s) (c_n c)) with
        | some g =>
          rw [calS_due hdo]
          refine h2.fin hc h hL hLm true 0 g _ ?_
          unfold dueO at hdo
          by_cases q : c_nu c 2 = -1
          · rw [if_pos q] at hdo; cases hdo
          · rw [if_neg q] at hdo; exact dueX_lt _ _ hdo
        | none =>
          cases hho : handO c s mm (thN c mm (g_sv s) (c_n c)) with
          | mk o u =>
          cases o with
          | none => rw [calS_el hdo hho]; exact h2.el hL.1
          | some t => rw [calS_go hdo hho]; exact h2.fin hc h hL hLm false t _ u (Nat.mod_lt _ (by have := hL.1; omega))
theorem day0W_cl {w : Wd} (hw : WOK w) : CLb (day0W w) :=
  CLb.day (cW_ok hw (fun p q => by cases q) (fun p q => by cases q) (fun p hp => (hw.2.1 p hp).2.2.2.2.2.1)).1 8 g0 (SOK.zero _) ⟨(fun r h => by cases h), rfl, by decide⟩
section SC2
variable {l : Launch} {G : Gx} {d : Nat} {bc bs : Nat} {Φ : OutV → Mm → Prop}
theorem ct_c_owed (M : Mm) (w : Wd) (hw : WOK w) {P A E len : Nat} (hI : CINV M w P A E len) (hl : l.stackTraces = false) (x y : Int32) (hd : 7 < d) (h : CPost M len (aOwed w x y) exN Φ) : Ct l G d mBo_owed 4 24 [.ref 100, .int x, .int y] M Φ := by
  have c0 := hI.1.1.1
  have n8 := hw.1
  refine Ct.of rfl (Nat.le_of_ble_eq_true rfl) ?_
  refine bBo_owed_0 _ _ _ _ ⟨c0, CallVC.chk 3 18 (by omega) rfl rfl (ct_checkPerson M w hw hI hl x (by omega) (fun q1 => ?_) (fun q1 => h.fail (KR.rf M) hI (c := 1) (by decide) (okP_n q1)))⟩
  refine bBo_owed_5 _ _ _ _ ⟨c0, CallVC.chk 2 12 (by omega) rfl rfl (ct_checkPerson M w hw hI hl y (by omega) (fun q2 => ?_) (fun q2 => h.fail (KR.rf M) hI (c := 1) (by decide) ((okP_y q1).trans (okP_n q2))))⟩
  obtain ⟨p, hp, rfl⟩ := (pIn_nI n8).mp q1
  obtain ⟨o, ho, rfl⟩ := (pIn_nI n8).mp q2
  refine bBo_owed_10 _ _ _ _ ⟨c0, CallVC.cps0 (by omega) (ct_dayAsItIs M w hw hI (by omega) (fun M1 hK1 hI1 hD1 hB1 => ?_))⟩
  obtain ⟨d0, d1, d2, d3, d9, d11, d12, s1, s2, s3, pb, dk⟩ := hD1.1.1.1
  obtain ⟨hok, hrk⟩ := day0W_ok hw
  have hix := PBL.idx (cW_ok hw (fun p q => by cases q) (fun p q => by cases q) (fun p hp => (hw.2.1 p hp).2.2.2.2.2.1)).1 hok
  refine bBo_owed_14 _ _ _ _ _ ⟨d0, by rw [d12]; exact pb.1, CallVC.cps0 (by omega) ?_⟩
  rw [d12]
  refine ct_debt M1 139 pb (g_ps (day0W w)) hD1.1.2.1 _ hrk.acy (by have := hok.2.2.2.2.2.1; omega) (fun i hi => ⟨(hix i hi).1, (hix i hi).2.1⟩) o p (by omega) (by omega) (by omega) (fun M2 hF2 => ?_)
  have hF2' : FrS (fun a _ => a = 144) M1 M2 := hF2
  have hP := hI1.1.2.1
  have hA := hI1.1.2.2.1
  have hif2 : CIF M2 w A P := hI1.2.2.2.1.ag hP hA (fun a j h1 h2 _ => hF2'.1 a j (by omega)) (fun a j _ _ => hF2'.2.1 a j) (fun a _ _ => hF2'.2.2.2.1 a)
  have hI2 : CINV M2 w P A E len := hI1.fx hw (FrX.of (Q := fun _ _ => False) hF2') (fun a j q => q.elim) (fun a j q => by omega) hif2 (hI1.2.2.2.2.1.ag (fun a h1 h2 j => hF2'.1 a j (by omega))) (fun q => ⟨?_, ?_⟩)
  · refine bBo_owed_22 _ _ _ _ _ (h.done (hK1.tr (KR.of (FrX.of (Q := fun _ _ => False) hF2') (fun a j q => by omega) (fun a j q => q.elim))) hI2 (((okP_y q1).trans (okP_y q2)).trans ?_))
    rw [tN_nI (by omega), tN_nI (by omega)]
  · obtain ⟨q10, q14, q15, q5⟩ := hD1.2
    have h8 := hok.2.2.2.2.2.2.2.2.2.2.1
    exact ⟨hD1.1.fr hF2' hif2 (fun a j q => by omega), by rw [hF2'.1 _ _ (by omega)]; exact q10, by rw [hF2'.1 _ _ (by omega)]; exact q14, by rw [hF2'.1 _ _ (by omega)]; exact q15, by rw [hF2'.1 _ _ (by omega)]; exact q5⟩
  · exact fun p hp => by rw [hF2'.1 _ _ (by omega)]; exact hB1 p hp
theorem ct_c_day (M : Mm) (w : Wd) (hw : WOK w) {P A E len : Nat} (hI : CINV M w P A E len) (hl : l.stackTraces = false) (x : Int32) (hd : 7 < d) (h : CPost M len (aDay w x) exI Φ) : Ct l G d mBo_day 4 24 [.ref 100, .int x] M Φ := by
  have c0 := hI.1.1.1
  refine Ct.of rfl (Nat.le_of_ble_eq_true rfl) ?_
  refine bBo_day_0 _ _ _ ⟨c0, CallVC.chk 3 18 (by omega) rfl rfl (ct_checkWhat M hl 6 x (by omega) (fun q1 => ?_) (fun q1 => h.fail (KR.rf M) hI (c := 1) (by decide) (okV_n q1)))⟩
  obtain ⟨v, hv, rfl⟩ := (vIn_nI (by omega)).mp q1
  refine bBo_day_7 _ _ _ _ ⟨c0, CallVC.cps0 (by omega) (ct_dayAsItIs M w hw hI (by omega) (fun M1 hK1 hI1 hD1 hB1 => ?_))⟩
  obtain ⟨hok, hrk⟩ := day0W_ok hw
  obtain ⟨-, cl2, cl3⟩ := day0W_cl hw
  obtain ⟨d0, d1, d2, d3, d9, d11, d12, s1, s2, s3, pb, dk⟩ := hD1.1.1.1
  have hcs := hD1.cs hok
  have hfin : ∀ r, r = dayV (day0W w) v → Φ (.inl (some (.int r))) M1 := fun r e => h.done hK1 hI1 ((okV_y q1).trans (by rw [tN_nI (by omega), e]))
  have nv : ∀ k, nI v = nI k → k < 8 → v = k := fun k e hk => (nI_eq (by omega) (by omega)).mp e
  obtain ⟨q10, q14, q15, q5⟩ := hD1.2
  have q13 := hD1.1.2.2.2.1
  have qps := hD1.1.2.1.1
  refine bBo_day_11 _ _ _ _ _ ?_
  rw [q10, q13, q14, d12]
  refine ⟨fun z => ⟨d0, hfin _ ?_⟩, fun z => ⟨d0, CallVC.cps0 (by omega) (ct_bitCount M1 _ (by have := hok.2.2.2.1; omega) (bBo_day_64 _ _ _ _ _ (hfin _ ?_)))⟩, fun z => ⟨d0, CallVC.cps0 (by omega) (ct_allOffers M1 135 _ hcs (bBo_day_69 _ _ _ _ _ (hfin _ ?_)))⟩, fun z => ⟨d0, pb.1, hfin _ ?_⟩, fun z => ⟨d0, fun y => hfin _ ?_, fun y => hfin _ ?_⟩, fun z => ⟨d0, CallVC.cps0 (by omega) (ct_lastEnd M1 135 _ hcs (by omega) (bBo_day_95 _ _ _ _ _ (hfin _ ?_)))⟩, fun z0 z1 z2 z3 z4 z5 => ⟨d0, CallVC.cps0 (by omega) (ct_unaskedCalls M1 135 _ hcs (bBo_day_100 _ _ _ _ _ (hfin _ ?_)))⟩⟩
  · rw [nv 0 z (by omega)]; rfl
  · rw [nv 1 z (by omega)]
    show nI (onesN 10 (g_sv (day0W w))) = svN (g_cs (day0W w)) (g_cs (day0W w)).length
    rw [cl2, cl3]
  · rw [nv 2 z (by omega)]; rfl
  · rw [nv 3 z (by omega)]; exact qps
  · rw [nv 4 z (by omega)]; exact y.symm
  · rw [nv 4 z (by omega)]
    show _ = if g_el (day0W w) = true then (1 : Int32) else 0
    cases he : g_el (day0W w) with
    | true => rfl
    | false => rw [he] at y; exact absurd rfl y
  · rw [nv 5 z (by omega)]; rfl
  · have nk : ∀ k, ¬ nI v = nI k → v ≠ k := fun k hz e => hz (by rw [e])
    have := nk 0 z0
    have := nk 1 z1
    have := nk 2 z2
    have := nk 3 z3
    have := nk 4 z4
    have := nk 5 z5
    rw [show v = 6 by omega]; rfl
theorem ct_callOf (M : Mm) (w : Wd) (h8 : (g_cs (day0W w)).length ≤ 8) (hD : DAcs M 135 (g_cs (day0W w))) (hl : l.stackTraces = false) (x : Int32) (hd : 5 < d) (h1 : ∀ k, k < (g_cs (day0W w)).length → x = nI k → Φ (.inl (some (.ref (146 + 2 * k)))) M) (h0 : ¬ cIn w x → Φ (.inr "java/lang/IndexOutOfBoundsException") M) : Ct l G d mBo_callOf 1 6 [.ref 135, .int x] M Φ := by
  obtain ⟨d0, d9, s2, -, d10, dk⟩ := hD
  refine Ct.of rfl (Nat.le_of_ble_eq_true rfl) ?_
  have h12 : ¬ cIn w x → Ev l G d mBo_callOf 12 [.ref 135, .int x] [] M 1 6 Φ := fun q => bBo_callOf_12 _ _ _ ⟨hl, by omega, by omega, by omega, h0 q⟩
  refine bBo_callOf_0 _ _ _ ⟨fun z => h12 (fun q => q.1 z), fun z => ⟨d0, ?_⟩⟩
  rw [d10, d9, s2]
  refine ⟨fun z2 => ?_, fun z2 => h12 (fun q => z2 q.2)⟩
  obtain ⟨k, hk, rfl⟩ := (cIn_nI h8).mp ⟨z, z2⟩
  refine ⟨rfl, vp_in_nI (by omega) (by omega), ?_⟩
  rw [nI_clamp (by omega), (dk k hk).1]
  exact h1 k hk rfl
theorem ct_c_call (M : Mm) (w : Wd) (hw : WOK w) {P A E len : Nat} (hI : CINV M w P A E len) (hl : l.stackTraces = false) (x y : Int32) (hd : 7 < d) (h : CPost M len (aCall w x y) exB Φ) : Ct l G d mBo_call 4 24 [.ref 100, .int x, .int y] M Φ := by
  have c0 := hI.1.1.1
  refine Ct.of rfl (Nat.le_of_ble_eq_true rfl) ?_
  refine bBo_call_0 _ _ _ _ ⟨c0, CallVC.cps0 (by omega) (ct_dayAsItIs M w hw hI (by omega) (fun M1 hK1 hI1 hD1 hB1 => ?_))⟩
  obtain ⟨hok, hrk⟩ := day0W_ok hw
  have h8 := hok.2.2.2.2.2.2.2.2.2.2.1
  have hcs := hD1.cs hok
  refine bBo_call_4 _ _ _ _ _ _ (CallVC.chk 3 18 (by omega) rfl rfl (ct_callOf M1 w h8 hcs hl x (by omega) (fun k hk ek => ?_) (fun q1 => h.fail hK1 hI1 (c := 1) (by decide) (okC_n q1))))
  subst ek
  have q1 : cIn w (nI k) := (cIn_nI h8).mpr ⟨k, hk, rfl⟩
  refine bBo_call_8 _ _ _ _ _ _ ⟨hI1.1.1.1, CallVC.chk 2 12 (by omega) rfl rfl (ct_checkWhat M1 hl 4 y (by omega) (fun q2 => ?_) (fun q2 => h.fail hK1 hI1 (c := 2) (by decide) ((okC_y q1).trans (okV_n q2))))⟩
  obtain ⟨v, hv, rfl⟩ := (vIn_nI (by omega)).mp q2
  obtain ⟨⟨⟨k0, k1, k2⟩, a2, a3, a4, a5⟩, b2, b3, b4, b5, b6⟩ := (hcs.2.2.2.2.2 k hk).2
  have hfin : ∀ r, r = calV ((g_cs (day0W w)).getD k cr0) v → Φ (.inl (some (.int r))) M1 := fun r e => h.done hK1 hI1 (((okC_y q1).trans (okV_y q2)).trans (by rw [tN_nI (by omega), tN_nI (by omega), e]))
  have nv : ∀ k, nI v = nI k → k < 8 → v = k := fun k e hk => (nI_eq (by omega) (by omega)).mp e
  have nk : ∀ k, ¬ nI v = nI k → v ≠ k := fun k hz e => hz (by rw [e])
  replace k0 : (m_sh M1 (146 + 2 * k)).1 = 0 := k0
  replace a5 : m_i M1 (146 + 2 * k) 3 = _ := a5
  replace b2 : m_i M1 (146 + 2 * k) 2 = _ := b2
  replace b3 : m_i M1 (146 + 2 * k) 4 = _ := b3
  replace b4 : m_i M1 (146 + 2 * k) 5 = _ := b4
  replace b5 : m_i M1 (146 + 2 * k) 6 = _ := b5
  refine bBo_call_15 _ _ _ _ _ ?_
  rw [a5, b2, b3, b4, b5]
  refine ⟨fun z => ⟨k0, hfin _ ?_⟩, fun z => ⟨k0, hfin _ ?_⟩, fun z => ⟨k0, hfin _ ?_⟩, fun z => ⟨k0, hfin _ ?_⟩, fun z0 z1 z2 z3 => ⟨k0, hfin _ ?_⟩⟩
  · rw [nv 0 z (by omega)]; rfl
  · rw [nv 1 z (by omega)]; rfl
  · rw [nv 2 z (by omega)]; rfl
  · rw [nv 3 z (by omega)]; rfl
  · have := nk 0 z0
    have := nk 1 z1
    have := nk 2 z2
    have := nk 3 z3
    rw [show v = 4 by omega]; rfl
theorem ct_c_holder (M : Mm) (w : Wd) (hw : WOK w) {P A E len : Nat} (hI : CINV M w P A E len) (hl : l.stackTraces = false) (x y : Int32) (hd : 7 < d) (h : CPost M len (aHolder w x y) exB Φ) : Ct l G d mBo_holder 4 24 [.ref 100, .int x, .int y] M Φ := by
  have c0 := hI.1.1.1
  refine Ct.of rfl (Nat.le_of_ble_eq_true rfl) ?_
  refine bBo_holder_0 _ _ _ _ ⟨c0, CallVC.cps0 (by omega) (ct_dayAsItIs M w hw hI (by omega) (fun M1 hK1 hI1 hD1 hB1 => ?_))⟩
  obtain ⟨hok, hrk⟩ := day0W_ok hw
  have h8 := hok.2.2.2.2.2.2.2.2.2.2.1
  have hcs := hD1.cs hok
  refine bBo_holder_4 _ _ _ _ _ _ (CallVC.chk 3 18 (by omega) rfl rfl (ct_callOf M1 w h8 hcs hl x (by omega) (fun k hk ek => ?_) (fun q1 => h.fail hK1 hI1 (c := 1) (by decide) (okC_n q1))))
  subst ek
  have q1 : cIn w (nI k) := (cIn_nI h8).mpr ⟨k, hk, rfl⟩
  obtain ⟨⟨⟨k0, k1, k2⟩, a2, a3, a4, a5⟩, b2, b3, b4, b5, b6⟩ := (hcs.2.2.2.2.2 k hk).2
  have hmem : (g_cs (day0W w)).getD k cr0 ∈ g_cs (day0W w) := by
    rw [List.getD_eq_getElem?_getD, List.getElem?_eq_getElem hk]
    exact List.getElem_mem hk
  obtain ⟨ho1, ho2⟩ := hok.2.2.2.2.2.2.2.2.2.2.2 _ hmem
  have hl1 := (day0W_cl hw).1 _ hmem
  have hfin : ∀ r, r = holdV ((g_cs (day0W w)).getD k cr0) y → Φ (.inl (some (.int r))) M1 := fun r e => h.done hK1 hI1 ((okC_y q1).trans (by rw [tN_nI (by omega), e]))
  generalize (g_cs (day0W w)).getD k cr0 = r at *
  replace k0 : (m_sh M1 (146 + 2 * k)).1 = 0 := k0
  replace k1 : m_r M1 (146 + 2 * k) 0 = 147 + 2 * k := k1.trans (by omega)
  replace k2 : m_sh M1 (147 + 2 * k) = (20, 8) := by rw [show 147 + 2 * k = 135 + 11 + 2 * k + 1 by omega]; exact k2
  replace a2 : m_i M1 (146 + 2 * k) 1 = _ := a2
  replace a3 : ∀ j, j < r.1.length → m_i M1 (147 + 2 * k) j = nI (r.1.getD j 0) := fun j hj => by rw [show 147 + 2 * k = 135 + 11 + 2 * k + 1 by omega]; exact a3 j hj
  replace b3 : m_i M1 (146 + 2 * k) 4 = _ := b3
  replace b6 : m_i M1 (146 + 2 * k) 7 = _ := b6
  refine bBo_holder_8 _ _ _ _ _ _ ⟨k0, ?_⟩
  rw [b6, b3, a2, k1, k2]
  cases hu : r.2.2.2.2.2.2 with
  | true => exact ⟨fun _ => hfin _ (by unfold holdV; rw [if_pos hu]), fun z => absurd z (by decide)⟩
  | false =>
    refine ⟨fun z => absurd rfl z, fun _ => ⟨fun z => hfin _ ?_, fun z => ⟨fun z2 => hfin _ ?_, fun z2 => ⟨fun z3 => ?_, fun z3 => absurd (nI_le (a := 1) hl1 (by omega)) z3⟩⟩⟩⟩
    · unfold holdV; rw [if_neg (by rw [hu]; decide), if_neg (fun q => q.1 z)]
    · unfold holdV; rw [if_neg (by rw [hu]; decide), if_neg (fun q => q.2 z2)]
    · obtain ⟨v, v1, rfl⟩ := i32_nat z
      have hv : v ≤ r.2.2.2.1 := Nat.le_of_not_lt (fun q => z2 ((nI_ltI (by omega) (by omega)).mpr q))
      have hm : v % r.1.length < r.1.length := Nat.mod_lt _ (by omega)
      rw [pk_rem (by omega) (by omega) (by omega)]
      refine ⟨nI_ne0 (by omega) (by omega), rfl, vp_in_nI (by omega) (by omega), ?_⟩
      rw [nI_clamp (by omega), a3 _ hm]
      refine hfin _ ?_
      unfold holdV
      rw [if_neg (by rw [hu]; decide), if_pos ⟨z, z2⟩, tN_nI (by omega)]
theorem ct_c_judge (M : Mm) (w : Wd) (hw : WOK w) {P A E len : Nat} (hI : CINV M w P A E len) (ex : Nat → String) (hd : 7 < d) (h : CPost M len (aJudge w) ex Φ) : Ct l G d mBo_judge bc bs [.ref 100] M Φ := by
  have c0 := hI.1.1.1
  refine Ct.of rfl (Nat.le_of_ble_eq_true rfl) ?_
  refine bBo_judge_0 _ _ ⟨c0, CallVC.cps0 (by omega) (ct_dayAsItIs M w hw hI (by omega) (fun M1 hK1 hI1 hD1 hB1 => ?_))⟩
  obtain ⟨hok, hrk⟩ := day0W_ok hw
  have h8 := hok.2.2.2.2.2.2.2.2.2.2.1
  have hs8 := hw.2.2.2.2.2.2.2.1
  obtain ⟨d0, d9, s2, -, d10, dk⟩ := hD1.cs hok
  obtain ⟨r15, rrow⟩ := hI1.2.2.2.2.2.2.2.2.2.1
  have r14 : m_r M1 100 14 = 192 := hI1.1.1.2.2.2.2.2.2.2.2.2.2.2.1
  have s192 : m_sh M1 192 = (20, 8) := hI1.1.1.2.2.2.2.2.2.2.2.2.2.2.2.1
  have hfin : ∀ r, r = judN w (g_cs (day0W w)) (w_ss w) 0 → Φ (.inl (some (.int r))) M1 := fun r e => h.done hK1 hI1 (by rw [e]; rfl)
  generalize hJ : judN w (g_cs (day0W w)) (w_ss w) 0 = J at hfin
  refine bBo_judge_4 _ _ _ _ _ ?_
  have js : ∀ k i, judN w (g_cs (day0W w)) (k + 1) i = if (g_cs (day0W w)).length ≤ i then nI i else if ((g_cs (day0W w)).getD i cr0).2.2.2.2.1 = w_sr w i then judN w (g_cs (day0W w)) k (i + 1) else nI i := fun _ _ => rfl
  have loop : ∀ e i, i + e = w_ss w → judN w (g_cs (day0W w)) e i = J → Ev l G d mBo_judge 7 [.ref 100, .ref 135, .int (nI i)] [] M1 bc bs Φ := by
    intro e
    induction e with
    | zero =>
      intro i hi hj
      refine bBo_judge_7 _ _ _ _ ⟨hI1.1.1.1, fun _ => hfin _ hj, fun q => absurd ?_ q⟩
      rw [r15]; exact nI_le (by omega) (by omega)
    | succ e ih =>
      intro i hi hj
      rw [js] at hj
      refine bBo_judge_7 _ _ _ _ ⟨hI1.1.1.1, fun q => absurd q (by rw [r15]; exact nI_not_le (by omega) (by omega)), fun _ => ⟨d0, ?_⟩⟩
      by_cases z : (g_cs (day0W w)).length ≤ i
      · rw [if_pos z] at hj
        rw [d10]
        exact ⟨fun _ => hfin _ hj, fun q => absurd (nI_le z (by omega)) q⟩
      · rw [if_neg z] at hj
        obtain ⟨er, ec⟩ := dk i (by omega)
        have e5 := ec.2.2.2.1
        rw [d10, d9, s2, nI_clamp (by omega), er, r14, s192, rrow i (by omega)]
        refine ⟨fun q => absurd q (nI_not_le (by omega) (by omega)), fun _ => ⟨rfl, vp_in_nI (by omega) (by omega), ec.1.1.1, rfl, vp_in_nI (by omega) (by omega), ?_⟩⟩
        rw [e5, nI_1]
        refine ⟨fun q => ?_, fun q => ?_⟩
        · rw [if_pos q] at hj; exact ih (i + 1) (by omega) hj
        · rw [if_neg q] at hj; exact hfin _ hj
  exact loop (w_ss w) 0 (by omega) hJ
end SC2
