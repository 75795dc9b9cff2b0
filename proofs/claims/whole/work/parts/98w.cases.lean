/-! ===== the law, call by call ===== -/
def ex1 (a : An) (ex : Nat → String) (M : Mm) (Q : Nat → Prop) : OutV → Mm → Prop := fun o M' => ∃ P A E len', Q len' ∧ KR M M' ∧ CINV M' a.2.2 P A E len' ∧ ((a.1 = 0 ∧ o = .inl (some (.int a.2.1))) ∨ (¬ a.1 = 0 ∧ o = .inr (ex a.1)))
theorem CPost.x1 {M : Mm} {len : Nat} {a : An} {ex : Nat → String} : CPost M len a ex (ex1 a ex M (fun len' => len' = len)) := fun M' P A E hK hI => ⟨fun e => ⟨P, A, E, len, rfl, hK, hI, Or.inl ⟨e, rfl⟩⟩, fun e => ⟨P, A, E, len, rfl, hK, hI, Or.inr ⟨e, rfl⟩⟩⟩
theorem CPostQ.x1 {M : Mm} {w : Wd} {len : Nat} {x : Int32} {a : An} {ex : Nat → String} : CPostQ M w len x a ex (ex1 a ex M (WQ M w len x)) := fun M' P A E len' hQ hK hI => ⟨fun e => ⟨P, A, E, len', hQ, hK, hI, Or.inl ⟨e, rfl⟩⟩, fun e => ⟨P, A, E, len', hQ, hK, hI, Or.inr ⟨e, rfl⟩⟩⟩
/-- what a method that catches has brought back -/
def HR (w : Wd) (a : An) (ov : Int32 → Int64) (Q : Nat → Prop) : OutV → Mm → Prop := fun o M' => o = .inl (some (.int (nI a.1))) ∧ ∃ len', Q len' ∧ LH M' w a len' ∧ (a.1 = 0 → m_l M' 3483 0 = ov a.2.1)
theorem ex1.ok {w : Wd} {a : An} {ex : Nat → String} {M M' : Mm} {len : Nat} {Q : Nat → Prop} {v9 : Option Value} (ov : Int32 → Int64) (hI : LI M w len) (hQ : ∀ len', Q len' → len' ≤ 15625) (ha : WOK a.2.2) (h : ex1 a ex M Q (.inl v9) M') : ∃ v : Int32, v9 = some (.int v) ∧ m_sh M' 3483 = (22, 1) ∧ HR w a ov Q (.inl (some (.int 0))) (m_sl M' 3483 0 (ov v)) := by
  obtain ⟨P, A, E, len', hq, hK, hC, h⟩ := h
  rcases h with ⟨e, h⟩ | ⟨e, h⟩
  · cases h
    have hH := hI.cls hK hC (hQ _ hq)
    exact ⟨a.2.1, rfl, hH.2.2.1, by rw [e]; rfl, len', hq, hH.sl hI.1 ha _, fun _ => by rw [m_l_sl, if_pos ⟨rfl, rfl⟩]⟩
  · cases h
theorem ex1.no {w : Wd} {a : An} {ex : Nat → String} {M M' : Mm} {len : Nat} {Q : Nat → Prop} {E : String} (ov : Int32 → Int64) (hI : LI M w len) (hQ : ∀ len', Q len' → len' ≤ 15625) (h : ex1 a ex M Q (.inr E) M') : ¬ a.1 = 0 ∧ E = ex a.1 ∧ HR w a ov Q (.inl (some (.int (nI a.1)))) M' := by
  obtain ⟨P, A, E', len', hq, hK, hC, h⟩ := h
  rcases h with ⟨e, h⟩ | ⟨e, h⟩
  · cases h
  · cases h
    exact ⟨e, rfl, rfl, len', hq, hI.cls hK hC (hQ _ hq), fun z => absurd z e⟩
theorem ex1.no1 {w : Wd} {a : An} {ex : Nat → String} {M M' : Mm} {len : Nat} {Q : Nat → Prop} {E : String} (ov : Int32 → Int64) (hI : LI M w len) (hQ : ∀ len', Q len' → len' ≤ 15625) (ha : a.1 ≤ 1) (h : ex1 a ex M Q (.inr E) M') : E = ex 1 ∧ HR w a ov Q (.inl (some (.int 1))) M' := by
  obtain ⟨e, h1, h2⟩ := h.no ov hI hQ
  have e1 : a.1 = 1 := by omega
  rw [e1] at h1 h2
  exact ⟨h1, h2⟩
theorem ex1.no2 {w : Wd} {a : An} {ex : Nat → String} {M M' : Mm} {len : Nat} {Q : Nat → Prop} {E : String} (ov : Int32 → Int64) (hI : LI M w len) (hQ : ∀ len', Q len' → len' ≤ 15625) (ha : a.1 ≤ 2) (h : ex1 a ex M Q (.inr E) M') : (E = ex 1 ∧ HR w a ov Q (.inl (some (.int 1))) M') ∨ (E = ex 2 ∧ HR w a ov Q (.inl (some (.int 2))) M') := by
  obtain ⟨e, h1, h2⟩ := h.no ov hI hQ
  have e1 : a.1 = 1 ∨ a.1 = 2 := by omega
  rcases e1 with e1 | e1
  · rw [e1] at h1 h2
    exact Or.inl ⟨h1, h2⟩
  · rw [e1] at h1 h2
    exact Or.inr ⟨h1, h2⟩
/-- what the reference has brought back -/
def rx1 (a : An) (M : Mm) : OutV → Mm → Prop := fun o M' => FrS RF M M' ∧ RINV M' a.2.2 ∧ m_i M' 206 0 = nI a.1 ∧ o = .inl (some (.int a.2.1))
theorem RPost.x1 {M : Mm} {a : An} : RPost M a (rx1 a M) := fun M' hF hR t => ⟨hF, hR, t, rfl⟩
theorem vi_k {i L k : Nat} (h : i + 5 < L) (hL : L ≤ 3072) (hk : k ≤ 5) : vp_in (nI i + nI k) L ∧ (nI i + nI k).toNatClampNeg = i + k := by
  rw [nI_add]
  exact ⟨vp_in_nI (by omega) (by omega), nI_clamp (by omega)⟩
theorem i_0 {n : Nat} (h : n ≤ 2) : nI n = 0 ↔ n = 0 := nI_eq (b := 0) (by omega) (by omega)
section LWC
variable {l : Launch} {G : Gx} {d : Nat} {bc bs : Nat} {Φ : OutV → Mm → Prop} {L : Nat} {xs : Nat → Int32}
theorem ct_thrown (M : Mm) (hS : RS M) (h : Φ (.inl (some (.int (m_i M 206 0)))) M) : Ct l G d mRe_thrown bc bs [.ref 206] M Φ := Ct.of rfl (Nat.le_of_ble_eq_true rfl) (bRe_thrown_0 _ _ ⟨hS.c, h⟩)
theorem lc_feed (hSC : SC G L xs) (hl : l.stackTraces = false) (hL : L ≤ 3072) (M : Mm) {i len : Nat} (hi : i + 5 < L) {w : Wd} (hI : LI M w len) (u5 u6 : Value) (hd : 40 < d) (K : ∀ M' w' u5 u6, LI M' w' len → EvT [] l G d mLw_law_ 1843 [.ref 98, .ref 100, .ref 206, .ref 3483, .int (nI i), u5, u6] [] M' bc bs Φ) : EvT [] l G d mLw_law_ 180 [.ref 98, .ref 100, .ref 206, .ref 3483, .int (nI i), u5, u6] [] M (4 + bc) (24 + bs) Φ := by
  obtain ⟨P, A, E, hC⟩ := hI.2.1
  have ok := (ok_feed hI.1 (xs (i + 1)) (xs (i + 2)) (xs (i + 3)) (xs (i + 4)) (xs (i + 5)))
  refine bLw_law__180 hSC M 100 206 3483 (nI i) u5 u6 ?_
  rw [(show (nI i + 1).toNatClampNeg = i + 1 from (vi_k hi hL (k := 1) (by omega)).2), (show (nI i + 2).toNatClampNeg = i + 2 from (vi_k hi hL (k := 2) (by omega)).2), (show (nI i + 3).toNatClampNeg = i + 3 from (vi_k hi hL (k := 3) (by omega)).2), (show (nI i + 4).toNatClampNeg = i + 4 from (vi_k hi hL (k := 4) (by omega)).2), (show (nI i + 5).toNatClampNeg = i + 5 from (vi_k hi hL (k := 5) (by omega)).2)]
  refine ⟨(vi_k hi hL (k := 1) (by omega)).1, (vi_k hi hL (k := 2) (by omega)).1, (vi_k hi hL (k := 3) (by omega)).1, (vi_k hi hL (k := 4) (by omega)).1, (vi_k hi hL (k := 5) (by omega)).1, hC.1.1.1, d - 1, 4, 24, bc, bs, _, by omega, rfl, rfl, ct_c_feed M w hI.1 hC _ _ _ _ _ (fun _ => "") (by omega) CPost.x1, fun v M1 hv => ?_, fun E M1 hv => ?_⟩
  rotate_left
  · obtain ⟨e, -⟩ := hv.no (fun v => v.toInt64) hI (fun len' e => by rw [e]; exact hI.2.2.2.2.2)
    exact e (by have := ok.2; omega)
  obtain ⟨P1, A1, E1, len1, rfl, hK, hC1, hv⟩ := hv
  rcases hv with ⟨e, hv⟩ | ⟨e, hv⟩
  rotate_left
  · cases hv
  cases hv
  have hH := hI.cls hK hC1 hI.2.2.2.2.2
  show EvT [] l G d mLw_law_ 214 [.ref 98, .ref 100, .ref 206, .ref 3483, .int (nI i), u5, u6] [.int _] M1 bc bs Φ
  refine bLw_law__214 hSC M1 100 206 3483 (nI i) u5 u6 _ ?_
  rw [(show (nI i + 1).toNatClampNeg = i + 1 from (vi_k hi hL (k := 1) (by omega)).2), (show (nI i + 2).toNatClampNeg = i + 2 from (vi_k hi hL (k := 2) (by omega)).2), (show (nI i + 3).toNatClampNeg = i + 3 from (vi_k hi hL (k := 3) (by omega)).2), (show (nI i + 4).toNatClampNeg = i + 4 from (vi_k hi hL (k := 4) (by omega)).2), (show (nI i + 5).toNatClampNeg = i + 5 from (vi_k hi hL (k := 5) (by omega)).2)]
  refine ⟨(vi_k hi hL (k := 1) (by omega)).1, (vi_k hi hL (k := 2) (by omega)).1, (vi_k hi hL (k := 3) (by omega)).1, (vi_k hi hL (k := 4) (by omega)).1, (vi_k hi hL (k := 5) (by omega)).1, hH.2.1.1.c, d - 1, 0, 0, bc, bs, _, by omega, by omega, by omega, ct_r_feed M1 w hI.1 hH.2.1 _ _ _ _ _ RPost.x1, fun v M2 hv => ?_, fun E M2 hv => by cases hv.2.2.2⟩
  obtain ⟨hF, hR, ht, hv⟩ := hv
  cases hv
  show EvT [] l G d mLw_law_ 248 [.ref 98, .ref 100, .ref 206, .ref 3483, .int (nI i), u5, u6] [.int _, .int _] M2 bc bs Φ
  exact bLw_law__248 hSC M2 100 206 3483 (nI i) u5 u6 _ _ ⟨fun _ => K M2 _ u5 u6 (hH.rf ok.1 hF hR), fun z => absurd rfl z⟩
theorem lc_row (hSC : SC G L xs) (hl : l.stackTraces = false) (hL : L ≤ 3072) (M : Mm) {i len : Nat} (hi : i + 5 < L) {w : Wd} (hI : LI M w len) (u5 u6 : Value) (hd : 40 < d) (K : ∀ M' w' u5 u6, LI M' w' len → EvT [] l G d mLw_law_ 1843 [.ref 98, .ref 100, .ref 206, .ref 3483, .int (nI i), u5, u6] [] M' bc bs Φ) : EvT [] l G d mLw_law_ 253 [.ref 98, .ref 100, .ref 206, .ref 3483, .int (nI i), u5, u6] [] M (4 + bc) (24 + bs) Φ := by
  obtain ⟨P, A, E, hC⟩ := hI.2.1
  have ok := (ok_row hI.1 (xs (i + 1)))
  have hQ : ∀ len', (fun len' => len' = len) len' → len' ≤ 15625 := (fun len' e => by rw [e]; exact hI.2.2.2.2.2)
  refine bLw_law__253 hSC M 100 206 3483 (nI i) u5 u6 ?_
  rw [(show (nI i + 1).toNatClampNeg = i + 1 from (vi_k hi hL (k := 1) (by omega)).2)]
  refine ⟨(vi_k hi hL (k := 1) (by omega)).1, d - 1, 4, 24, bc, bs, HR w (aRow w (xs (i + 1))) (fun v => v.toInt64) (fun len' => len' = len), by omega, rfl, rfl, cLw_row (d2 := d - 2) (Ψ := ex1 (aRow w (xs (i + 1))) exI M (fun len' => len' = len)) M (xs (i + 1)) hC.1.1.1 (by omega) (ct_c_row M w hI.1 hC hl _ (by omega) CPost.x1) (fun v9 M' hv => hv.ok (fun v => v.toInt64) hI hQ ok.1) (fun E M' hv => hv.no1 (fun v => v.toInt64) hI hQ ok.2), fun v M1 hv => ?_, fun E M1 hv => by cases hv.1⟩
  obtain ⟨hv, len1, hq, hH, hout⟩ := hv
  cases hv
  have hq : len1 = len := hq
  subst hq
  show EvT [] l G d mLw_law_ 264 [.ref 98, .ref 100, .ref 206, .ref 3483, .int (nI i), u5, u6] [.int _] M1 bc bs Φ
  refine bLw_law__264 hSC M1 100 206 3483 (nI i) u5 u6 _ ?_
  rw [(show (nI i + 1).toNatClampNeg = i + 1 from (vi_k hi hL (k := 1) (by omega)).2)]
  refine ⟨(vi_k hi hL (k := 1) (by omega)).1, hH.2.1.1.c, d - 1, 0, 0, bc, bs, _, by omega, by omega, by omega, ct_r_row M1 w hI.1 hH.2.1 _ (by omega) RPost.x1, fun v M2 hv => ?_, fun E M2 hv => by cases hv.2.2.2⟩
  obtain ⟨hF, hR, ht, hv⟩ := hv
  cases hv
  have hLI := hH.rf ok.1 hF hR
  show EvT [] l G d mLw_law_ 276 [.ref 98, .ref 100, .ref 206, .ref 3483, .int (nI i), .int (nI (aRow w (xs (i + 1))).1), u6] [.int _] M2 bc bs Φ
  refine bLw_law__276 hSC M2 100 206 3483 (nI i) _ u6 _ ⟨hLI.2.2.1.1.c, d - 1, 0, 0, bc, bs, fun o M3 => M3 = M2 ∧ o = .inl (some (.int (m_i M2 206 0))), by omega, by omega, by omega, ct_thrown M2 hLI.2.2.1.1 ⟨rfl, rfl⟩, fun v M3 hv => ?_, fun E M3 hv => by cases hv.2⟩
  obtain ⟨rfl, hv⟩ := hv
  cases hv
  show EvT [] l G d mLw_law_ 282 [.ref 98, .ref 100, .ref 206, .ref 3483, .int (nI i), .int (nI (aRow w (xs (i + 1))).1), .int (aRow w (xs (i + 1))).2.1] [.int _] M3 bc bs Φ
  rw [ht]
  have fin : EvT [] l G d mLw_law_ 306 [.ref 98, .ref 100, .ref 206, .ref 3483, .int (nI i), .int (nI (aRow w (xs (i + 1))).1), .int (aRow w (xs (i + 1))).2.1] [] M3 bc bs Φ := bLw_law__306 hSC M3 100 206 3483 (nI i) _ _ (K M3 _ _ _ hLI)
  have h22 := hLI.2.2.2.1
  refine bLw_law__282 hSC M3 100 206 3483 (nI i) _ _ _ ⟨fun _ => ⟨fun _ => fin, fun z => ⟨by rw [h22], by rw [h22]; exact vp_in_dec rfl, fun _ => fin, fun y => absurd ?_ y⟩⟩, fun z => absurd rfl z⟩
  have ho := hout ((i_0 (by have := ok.2; omega)).mp z)
  rw [lg_cmp0, hF.2.2.1]
  exact ho
theorem lc_law (hSC : SC G L xs) (hl : l.stackTraces = false) (hL : L ≤ 3072) (M : Mm) {i len : Nat} (hi : i + 5 < L) {w : Wd} (hI : LI M w len) (u5 u6 : Value) (hd : 40 < d) (K : ∀ M' w' u5 u6, LI M' w' len → EvT [] l G d mLw_law_ 1843 [.ref 98, .ref 100, .ref 206, .ref 3483, .int (nI i), u5, u6] [] M' bc bs Φ) : EvT [] l G d mLw_law_ 309 [.ref 98, .ref 100, .ref 206, .ref 3483, .int (nI i), u5, u6] [] M (4 + bc) (24 + bs) Φ := by
  obtain ⟨P, A, E, hC⟩ := hI.2.1
  have ok := (ok_law hI.1 (xs (i + 1)))
  have hQ : ∀ len', (fun len' => len' = len) len' → len' ≤ 15625 := (fun len' e => by rw [e]; exact hI.2.2.2.2.2)
  refine bLw_law__309 hSC M 100 206 3483 (nI i) u5 u6 ?_
  rw [(show (nI i + 1).toNatClampNeg = i + 1 from (vi_k hi hL (k := 1) (by omega)).2)]
  refine ⟨(vi_k hi hL (k := 1) (by omega)).1, d - 1, 4, 24, bc, bs, HR w (aLaw w (xs (i + 1))) (fun v => v.toInt64) (fun len' => len' = len), by omega, rfl, rfl, cLw_law (d2 := d - 2) (Ψ := ex1 (aLaw w (xs (i + 1))) exI M (fun len' => len' = len)) M (xs (i + 1)) hC.1.1.1 (by omega) (ct_c_law M w hI.1 hC hl _ (by omega) CPost.x1) (fun v9 M' hv => hv.ok (fun v => v.toInt64) hI hQ ok.1) (fun E M' hv => hv.no1 (fun v => v.toInt64) hI hQ ok.2), fun v M1 hv => ?_, fun E M1 hv => by cases hv.1⟩
  obtain ⟨hv, len1, hq, hH, hout⟩ := hv
  cases hv
  have hq : len1 = len := hq
  subst hq
  show EvT [] l G d mLw_law_ 320 [.ref 98, .ref 100, .ref 206, .ref 3483, .int (nI i), u5, u6] [.int _] M1 bc bs Φ
  refine bLw_law__320 hSC M1 100 206 3483 (nI i) u5 u6 _ ?_
  rw [(show (nI i + 1).toNatClampNeg = i + 1 from (vi_k hi hL (k := 1) (by omega)).2)]
  refine ⟨(vi_k hi hL (k := 1) (by omega)).1, hH.2.1.1.c, d - 1, 0, 0, bc, bs, _, by omega, by omega, by omega, ct_r_law M1 w hI.1 hH.2.1 _ (by omega) RPost.x1, fun v M2 hv => ?_, fun E M2 hv => by cases hv.2.2.2⟩
  obtain ⟨hF, hR, ht, hv⟩ := hv
  cases hv
  have hLI := hH.rf ok.1 hF hR
  show EvT [] l G d mLw_law_ 332 [.ref 98, .ref 100, .ref 206, .ref 3483, .int (nI i), .int (nI (aLaw w (xs (i + 1))).1), u6] [.int _] M2 bc bs Φ
  refine bLw_law__332 hSC M2 100 206 3483 (nI i) _ u6 _ ⟨hLI.2.2.1.1.c, d - 1, 0, 0, bc, bs, fun o M3 => M3 = M2 ∧ o = .inl (some (.int (m_i M2 206 0))), by omega, by omega, by omega, ct_thrown M2 hLI.2.2.1.1 ⟨rfl, rfl⟩, fun v M3 hv => ?_, fun E M3 hv => by cases hv.2⟩
  obtain ⟨rfl, hv⟩ := hv
  cases hv
  show EvT [] l G d mLw_law_ 338 [.ref 98, .ref 100, .ref 206, .ref 3483, .int (nI i), .int (nI (aLaw w (xs (i + 1))).1), .int (aLaw w (xs (i + 1))).2.1] [.int _] M3 bc bs Φ
  rw [ht]
  have fin : EvT [] l G d mLw_law_ 362 [.ref 98, .ref 100, .ref 206, .ref 3483, .int (nI i), .int (nI (aLaw w (xs (i + 1))).1), .int (aLaw w (xs (i + 1))).2.1] [] M3 bc bs Φ := bLw_law__362 hSC M3 100 206 3483 (nI i) _ _ (K M3 _ _ _ hLI)
  have h22 := hLI.2.2.2.1
  refine bLw_law__338 hSC M3 100 206 3483 (nI i) _ _ _ ⟨fun _ => ⟨fun _ => fin, fun z => ⟨by rw [h22], by rw [h22]; exact vp_in_dec rfl, fun _ => fin, fun y => absurd ?_ y⟩⟩, fun z => absurd rfl z⟩
  have ho := hout ((i_0 (by have := ok.2; omega)).mp z)
  rw [lg_cmp0, hF.2.2.1]
  exact ho
theorem lc_fault (hSC : SC G L xs) (hl : l.stackTraces = false) (hL : L ≤ 3072) (M : Mm) {i len : Nat} (hi : i + 5 < L) {w : Wd} (hI : LI M w len) (u5 u6 : Value) (hd : 40 < d) (K : ∀ M' w' u5 u6, LI M' w' len → EvT [] l G d mLw_law_ 1843 [.ref 98, .ref 100, .ref 206, .ref 3483, .int (nI i), u5, u6] [] M' bc bs Φ) : EvT [] l G d mLw_law_ 365 [.ref 98, .ref 100, .ref 206, .ref 3483, .int (nI i), u5, u6] [] M (4 + bc) (24 + bs) Φ := by
  obtain ⟨P, A, E, hC⟩ := hI.2.1
  have ok := (ok_fault hI.1)
  refine bLw_law__365 hSC M 100 206 3483 (nI i) u5 u6 ?_
  refine ⟨hC.1.1.1, d - 1, 4, 24, bc, bs, _, by omega, rfl, rfl, ct_c_fault M w hC (fun _ => "") CPost.x1, fun v M1 hv => ?_, fun E M1 hv => ?_⟩
  rotate_left
  · obtain ⟨e, -⟩ := hv.no (fun v => v.toInt64) hI (fun len' e => by rw [e]; exact hI.2.2.2.2.2)
    exact e (by have := ok.2; omega)
  obtain ⟨P1, A1, E1, len1, rfl, hK, hC1, hv⟩ := hv
  rcases hv with ⟨e, hv⟩ | ⟨e, hv⟩
  rotate_left
  · cases hv
  cases hv
  have hH := hI.cls hK hC1 hI.2.2.2.2.2
  show EvT [] l G d mLw_law_ 369 [.ref 98, .ref 100, .ref 206, .ref 3483, .int (nI i), u5, u6] [.int _] M1 bc bs Φ
  refine bLw_law__369 hSC M1 100 206 3483 (nI i) u5 u6 _ ?_
  refine ⟨hH.2.1.1.c, d - 1, 0, 0, bc, bs, _, by omega, by omega, by omega, ct_r_fault M1 w hI.1 hH.2.1 RPost.x1, fun v M2 hv => ?_, fun E M2 hv => by cases hv.2.2.2⟩
  obtain ⟨hF, hR, ht, hv⟩ := hv
  cases hv
  show EvT [] l G d mLw_law_ 373 [.ref 98, .ref 100, .ref 206, .ref 3483, .int (nI i), u5, u6] [.int _, .int _] M2 bc bs Φ
  exact bLw_law__373 hSC M2 100 206 3483 (nI i) u5 u6 _ _ ⟨fun _ => K M2 _ u5 u6 (hH.rf ok.1 hF hR), fun z => absurd rfl z⟩
theorem lc_told (hSC : SC G L xs) (hl : l.stackTraces = false) (hL : L ≤ 3072) (M : Mm) {i len : Nat} (hi : i + 5 < L) {w : Wd} (hI : LI M w len) (u5 u6 : Value) (hd : 40 < d) (K : ∀ M' w' u5 u6, LI M' w' len → EvT [] l G d mLw_law_ 1843 [.ref 98, .ref 100, .ref 206, .ref 3483, .int (nI i), u5, u6] [] M' bc bs Φ) : EvT [] l G d mLw_law_ 378 [.ref 98, .ref 100, .ref 206, .ref 3483, .int (nI i), u5, u6] [] M (4 + bc) (24 + bs) Φ := by
  obtain ⟨P, A, E, hC⟩ := hI.2.1
  have ok := (ok_told hI.1 (xs (i + 1)))
  have hQ : ∀ len', (fun len' => len' = len) len' → len' ≤ 15625 := (fun len' e => by rw [e]; exact hI.2.2.2.2.2)
  refine bLw_law__378 hSC M 100 206 3483 (nI i) u5 u6 ?_
  rw [(show (nI i + 1).toNatClampNeg = i + 1 from (vi_k hi hL (k := 1) (by omega)).2)]
  refine ⟨(vi_k hi hL (k := 1) (by omega)).1, d - 1, 4, 24, bc, bs, HR w (aTold w (xs (i + 1))) (fun v => v.toInt64) (fun len' => len' = len), by omega, rfl, rfl, cLw_told (d2 := d - 2) (Ψ := ex1 (aTold w (xs (i + 1))) exI M (fun len' => len' = len)) M (xs (i + 1)) hC.1.1.1 (by omega) (ct_c_told M w hI.1 hC hl _ (by omega) CPost.x1) (fun v9 M' hv => hv.ok (fun v => v.toInt64) hI hQ ok.1) (fun E M' hv => hv.no1 (fun v => v.toInt64) hI hQ ok.2), fun v M1 hv => ?_, fun E M1 hv => by cases hv.1⟩
  obtain ⟨hv, len1, hq, hH, hout⟩ := hv
  cases hv
  have hq : len1 = len := hq
  subst hq
  show EvT [] l G d mLw_law_ 389 [.ref 98, .ref 100, .ref 206, .ref 3483, .int (nI i), u5, u6] [.int _] M1 bc bs Φ
  refine bLw_law__389 hSC M1 100 206 3483 (nI i) u5 u6 _ ?_
  rw [(show (nI i + 1).toNatClampNeg = i + 1 from (vi_k hi hL (k := 1) (by omega)).2)]
  refine ⟨(vi_k hi hL (k := 1) (by omega)).1, hH.2.1.1.c, d - 1, 0, 0, bc, bs, _, by omega, by omega, by omega, ct_r_told M1 w hI.1 hH.2.1 _ (by omega) RPost.x1, fun v M2 hv => ?_, fun E M2 hv => by cases hv.2.2.2⟩
  obtain ⟨hF, hR, ht, hv⟩ := hv
  cases hv
  have hLI := hH.rf ok.1 hF hR
  show EvT [] l G d mLw_law_ 401 [.ref 98, .ref 100, .ref 206, .ref 3483, .int (nI i), .int (nI (aTold w (xs (i + 1))).1), u6] [.int _] M2 bc bs Φ
  refine bLw_law__401 hSC M2 100 206 3483 (nI i) _ u6 _ ⟨hLI.2.2.1.1.c, d - 1, 0, 0, bc, bs, fun o M3 => M3 = M2 ∧ o = .inl (some (.int (m_i M2 206 0))), by omega, by omega, by omega, ct_thrown M2 hLI.2.2.1.1 ⟨rfl, rfl⟩, fun v M3 hv => ?_, fun E M3 hv => by cases hv.2⟩
  obtain ⟨rfl, hv⟩ := hv
  cases hv
  show EvT [] l G d mLw_law_ 407 [.ref 98, .ref 100, .ref 206, .ref 3483, .int (nI i), .int (nI (aTold w (xs (i + 1))).1), .int (aTold w (xs (i + 1))).2.1] [.int _] M3 bc bs Φ
  rw [ht]
  have fin : EvT [] l G d mLw_law_ 431 [.ref 98, .ref 100, .ref 206, .ref 3483, .int (nI i), .int (nI (aTold w (xs (i + 1))).1), .int (aTold w (xs (i + 1))).2.1] [] M3 bc bs Φ := bLw_law__431 hSC M3 100 206 3483 (nI i) _ _ (K M3 _ _ _ hLI)
  have h22 := hLI.2.2.2.1
  refine bLw_law__407 hSC M3 100 206 3483 (nI i) _ _ _ ⟨fun _ => ⟨fun _ => fin, fun z => ⟨by rw [h22], by rw [h22]; exact vp_in_dec rfl, fun _ => fin, fun y => absurd ?_ y⟩⟩, fun z => absurd rfl z⟩
  have ho := hout ((i_0 (by have := ok.2; omega)).mp z)
  rw [lg_cmp0, hF.2.2.1]
  exact ho
theorem lc_person (hSC : SC G L xs) (hl : l.stackTraces = false) (hL : L ≤ 3072) (M : Mm) {i len : Nat} (hi : i + 5 < L) {w : Wd} (hI : LI M w len) (u5 u6 : Value) (hd : 40 < d) (K : ∀ M' w' u5 u6, LI M' w' len → EvT [] l G d mLw_law_ 1843 [.ref 98, .ref 100, .ref 206, .ref 3483, .int (nI i), u5, u6] [] M' bc bs Φ) : EvT [] l G d mLw_law_ 434 [.ref 98, .ref 100, .ref 206, .ref 3483, .int (nI i), u5, u6] [] M (4 + bc) (24 + bs) Φ := by
  obtain ⟨P, A, E, hC⟩ := hI.2.1
  have ok := (ok_person hI.1 (xs (i + 1)) (xs (i + 2)))
  have hQ : ∀ len', (fun len' => len' = len) len' → len' ≤ 15625 := (fun len' e => by rw [e]; exact hI.2.2.2.2.2)
  refine bLw_law__434 hSC M 100 206 3483 (nI i) u5 u6 ?_
  rw [(show (nI i + 1).toNatClampNeg = i + 1 from (vi_k hi hL (k := 1) (by omega)).2), (show (nI i + 2).toNatClampNeg = i + 2 from (vi_k hi hL (k := 2) (by omega)).2)]
  refine ⟨(vi_k hi hL (k := 1) (by omega)).1, (vi_k hi hL (k := 2) (by omega)).1, d - 1, 4, 24, bc, bs, HR w (aPerson w (xs (i + 1)) (xs (i + 2))) (fun v => v.toInt64) (fun len' => len' = len), by omega, rfl, rfl, cLw_person (d2 := d - 2) (Ψ := ex1 (aPerson w (xs (i + 1)) (xs (i + 2))) exN M (fun len' => len' = len)) M (xs (i + 1)) (xs (i + 2)) hC.1.1.1 (by omega) (ct_c_person M w hI.1 hC hl _ _ (by omega) CPost.x1) (fun v9 M' hv => hv.ok (fun v => v.toInt64) hI hQ ok.1) (fun E M' hv => hv.no2 (fun v => v.toInt64) hI hQ ok.2), fun v M1 hv => ?_, fun E M1 hv => by cases hv.1⟩
  obtain ⟨hv, len1, hq, hH, hout⟩ := hv
  cases hv
  have hq : len1 = len := hq
  subst hq
  show EvT [] l G d mLw_law_ 451 [.ref 98, .ref 100, .ref 206, .ref 3483, .int (nI i), u5, u6] [.int _] M1 bc bs Φ
  refine bLw_law__451 hSC M1 100 206 3483 (nI i) u5 u6 _ ?_
  rw [(show (nI i + 1).toNatClampNeg = i + 1 from (vi_k hi hL (k := 1) (by omega)).2), (show (nI i + 2).toNatClampNeg = i + 2 from (vi_k hi hL (k := 2) (by omega)).2)]
  refine ⟨(vi_k hi hL (k := 1) (by omega)).1, (vi_k hi hL (k := 2) (by omega)).1, hH.2.1.1.c, d - 1, 0, 0, bc, bs, _, by omega, by omega, by omega, ct_r_person M1 w hI.1 hH.2.1 _ _ (by omega) RPost.x1, fun v M2 hv => ?_, fun E M2 hv => by cases hv.2.2.2⟩
  obtain ⟨hF, hR, ht, hv⟩ := hv
  cases hv
  have hLI := hH.rf ok.1 hF hR
  show EvT [] l G d mLw_law_ 469 [.ref 98, .ref 100, .ref 206, .ref 3483, .int (nI i), .int (nI (aPerson w (xs (i + 1)) (xs (i + 2))).1), u6] [.int _] M2 bc bs Φ
  refine bLw_law__469 hSC M2 100 206 3483 (nI i) _ u6 _ ⟨hLI.2.2.1.1.c, d - 1, 0, 0, bc, bs, fun o M3 => M3 = M2 ∧ o = .inl (some (.int (m_i M2 206 0))), by omega, by omega, by omega, ct_thrown M2 hLI.2.2.1.1 ⟨rfl, rfl⟩, fun v M3 hv => ?_, fun E M3 hv => by cases hv.2⟩
  obtain ⟨rfl, hv⟩ := hv
  cases hv
  show EvT [] l G d mLw_law_ 475 [.ref 98, .ref 100, .ref 206, .ref 3483, .int (nI i), .int (nI (aPerson w (xs (i + 1)) (xs (i + 2))).1), .int (aPerson w (xs (i + 1)) (xs (i + 2))).2.1] [.int _] M3 bc bs Φ
  rw [ht]
  have fin : EvT [] l G d mLw_law_ 499 [.ref 98, .ref 100, .ref 206, .ref 3483, .int (nI i), .int (nI (aPerson w (xs (i + 1)) (xs (i + 2))).1), .int (aPerson w (xs (i + 1)) (xs (i + 2))).2.1] [] M3 bc bs Φ := bLw_law__499 hSC M3 100 206 3483 (nI i) _ _ (K M3 _ _ _ hLI)
  have h22 := hLI.2.2.2.1
  refine bLw_law__475 hSC M3 100 206 3483 (nI i) _ _ _ ⟨fun _ => ⟨fun _ => fin, fun z => ⟨by rw [h22], by rw [h22]; exact vp_in_dec rfl, fun _ => fin, fun y => absurd ?_ y⟩⟩, fun z => absurd rfl z⟩
  have ho := hout ((i_0 (by have := ok.2; omega)).mp z)
  rw [lg_cmp0, hF.2.2.1]
  exact ho
theorem lc_way (hSC : SC G L xs) (hl : l.stackTraces = false) (hL : L ≤ 3072) (M : Mm) {i len : Nat} (hi : i + 5 < L) {w : Wd} (hI : LI M w len) (u5 u6 : Value) (hd : 40 < d) (K : ∀ M' w' u5 u6, LI M' w' len → EvT [] l G d mLw_law_ 1843 [.ref 98, .ref 100, .ref 206, .ref 3483, .int (nI i), u5, u6] [] M' bc bs Φ) : EvT [] l G d mLw_law_ 502 [.ref 98, .ref 100, .ref 206, .ref 3483, .int (nI i), u5, u6] [] M (4 + bc) (24 + bs) Φ := by
  obtain ⟨P, A, E, hC⟩ := hI.2.1
  have ok := (ok_way hI.1 (xs (i + 1)) (xs (i + 2)))
  have hQ : ∀ len', (fun len' => len' = len) len' → len' ≤ 15625 := (fun len' e => by rw [e]; exact hI.2.2.2.2.2)
  refine bLw_law__502 hSC M 100 206 3483 (nI i) u5 u6 ?_
  rw [(show (nI i + 1).toNatClampNeg = i + 1 from (vi_k hi hL (k := 1) (by omega)).2), (show (nI i + 2).toNatClampNeg = i + 2 from (vi_k hi hL (k := 2) (by omega)).2)]
  refine ⟨(vi_k hi hL (k := 1) (by omega)).1, (vi_k hi hL (k := 2) (by omega)).1, d - 1, 4, 24, bc, bs, HR w (aWay w (xs (i + 1)) (xs (i + 2))) (fun v => v.toInt64) (fun len' => len' = len), by omega, rfl, rfl, cLw_way (d2 := d - 2) (Ψ := ex1 (aWay w (xs (i + 1)) (xs (i + 2))) exN M (fun len' => len' = len)) M (xs (i + 1)) (xs (i + 2)) hC.1.1.1 (by omega) (ct_c_way M w hI.1 hC hl _ _ (by omega) CPost.x1) (fun v9 M' hv => hv.ok (fun v => v.toInt64) hI hQ ok.1) (fun E M' hv => hv.no2 (fun v => v.toInt64) hI hQ ok.2), fun v M1 hv => ?_, fun E M1 hv => by cases hv.1⟩
  obtain ⟨hv, len1, hq, hH, hout⟩ := hv
  cases hv
  have hq : len1 = len := hq
  subst hq
  show EvT [] l G d mLw_law_ 519 [.ref 98, .ref 100, .ref 206, .ref 3483, .int (nI i), u5, u6] [.int _] M1 bc bs Φ
  refine bLw_law__519 hSC M1 100 206 3483 (nI i) u5 u6 _ ?_
  rw [(show (nI i + 1).toNatClampNeg = i + 1 from (vi_k hi hL (k := 1) (by omega)).2), (show (nI i + 2).toNatClampNeg = i + 2 from (vi_k hi hL (k := 2) (by omega)).2)]
  refine ⟨(vi_k hi hL (k := 1) (by omega)).1, (vi_k hi hL (k := 2) (by omega)).1, hH.2.1.1.c, d - 1, 0, 0, bc, bs, _, by omega, by omega, by omega, ct_r_way M1 w hI.1 hH.2.1 _ _ (by omega) RPost.x1, fun v M2 hv => ?_, fun E M2 hv => by cases hv.2.2.2⟩
  obtain ⟨hF, hR, ht, hv⟩ := hv
  cases hv
  have hLI := hH.rf ok.1 hF hR
  show EvT [] l G d mLw_law_ 537 [.ref 98, .ref 100, .ref 206, .ref 3483, .int (nI i), .int (nI (aWay w (xs (i + 1)) (xs (i + 2))).1), u6] [.int _] M2 bc bs Φ
  refine bLw_law__537 hSC M2 100 206 3483 (nI i) _ u6 _ ⟨hLI.2.2.1.1.c, d - 1, 0, 0, bc, bs, fun o M3 => M3 = M2 ∧ o = .inl (some (.int (m_i M2 206 0))), by omega, by omega, by omega, ct_thrown M2 hLI.2.2.1.1 ⟨rfl, rfl⟩, fun v M3 hv => ?_, fun E M3 hv => by cases hv.2⟩
  obtain ⟨rfl, hv⟩ := hv
  cases hv
  show EvT [] l G d mLw_law_ 543 [.ref 98, .ref 100, .ref 206, .ref 3483, .int (nI i), .int (nI (aWay w (xs (i + 1)) (xs (i + 2))).1), .int (aWay w (xs (i + 1)) (xs (i + 2))).2.1] [.int _] M3 bc bs Φ
  rw [ht]
  have fin : EvT [] l G d mLw_law_ 567 [.ref 98, .ref 100, .ref 206, .ref 3483, .int (nI i), .int (nI (aWay w (xs (i + 1)) (xs (i + 2))).1), .int (aWay w (xs (i + 1)) (xs (i + 2))).2.1] [] M3 bc bs Φ := bLw_law__567 hSC M3 100 206 3483 (nI i) _ _ (K M3 _ _ _ hLI)
  have h22 := hLI.2.2.2.1
  refine bLw_law__543 hSC M3 100 206 3483 (nI i) _ _ _ ⟨fun _ => ⟨fun _ => fin, fun z => ⟨by rw [h22], by rw [h22]; exact vp_in_dec rfl, fun _ => fin, fun y => absurd ?_ y⟩⟩, fun z => absurd rfl z⟩
  have ho := hout ((i_0 (by have := ok.2; omega)).mp z)
  rw [lg_cmp0, hF.2.2.1]
  exact ho
theorem lc_until (hSC : SC G L xs) (hl : l.stackTraces = false) (hL : L ≤ 3072) (M : Mm) {i len : Nat} (hi : i + 5 < L) {w : Wd} (hI : LI M w len) (u5 u6 : Value) (hd : 40 < d) (K : ∀ M' w' u5 u6, LI M' w' len → EvT [] l G d mLw_law_ 1843 [.ref 98, .ref 100, .ref 206, .ref 3483, .int (nI i), u5, u6] [] M' bc bs Φ) : EvT [] l G d mLw_law_ 570 [.ref 98, .ref 100, .ref 206, .ref 3483, .int (nI i), u5, u6] [] M (4 + bc) (24 + bs) Φ := by
  obtain ⟨P, A, E, hC⟩ := hI.2.1
  have ok := (ok_until hI.1 (xs (i + 1)) (xs (i + 2)))
  have hQ : ∀ len', (fun len' => len' = len) len' → len' ≤ 15625 := (fun len' e => by rw [e]; exact hI.2.2.2.2.2)
  refine bLw_law__570 hSC M 100 206 3483 (nI i) u5 u6 ?_
  rw [(show (nI i + 1).toNatClampNeg = i + 1 from (vi_k hi hL (k := 1) (by omega)).2), (show (nI i + 2).toNatClampNeg = i + 2 from (vi_k hi hL (k := 2) (by omega)).2)]
  refine ⟨(vi_k hi hL (k := 1) (by omega)).1, (vi_k hi hL (k := 2) (by omega)).1, d - 1, 4, 24, bc, bs, HR w (aUntil w (xs (i + 1)) (xs (i + 2))) (fun v => v.toInt64) (fun len' => len' = len), by omega, rfl, rfl, cLw_until (d2 := d - 2) (Ψ := ex1 (aUntil w (xs (i + 1)) (xs (i + 2))) exN M (fun len' => len' = len)) M (xs (i + 1)) (xs (i + 2)) hC.1.1.1 (by omega) (ct_c_until M w hI.1 hC hl _ _ (by omega) CPost.x1) (fun v9 M' hv => hv.ok (fun v => v.toInt64) hI hQ ok.1) (fun E M' hv => hv.no2 (fun v => v.toInt64) hI hQ ok.2), fun v M1 hv => ?_, fun E M1 hv => by cases hv.1⟩
  obtain ⟨hv, len1, hq, hH, hout⟩ := hv
  cases hv
  have hq : len1 = len := hq
  subst hq
  show EvT [] l G d mLw_law_ 587 [.ref 98, .ref 100, .ref 206, .ref 3483, .int (nI i), u5, u6] [.int _] M1 bc bs Φ
  refine bLw_law__587 hSC M1 100 206 3483 (nI i) u5 u6 _ ?_
  rw [(show (nI i + 1).toNatClampNeg = i + 1 from (vi_k hi hL (k := 1) (by omega)).2), (show (nI i + 2).toNatClampNeg = i + 2 from (vi_k hi hL (k := 2) (by omega)).2)]
  refine ⟨(vi_k hi hL (k := 1) (by omega)).1, (vi_k hi hL (k := 2) (by omega)).1, hH.2.1.1.c, d - 1, 0, 0, bc, bs, _, by omega, by omega, by omega, ct_r_until M1 w hI.1 hH.2.1 _ _ (by omega) RPost.x1, fun v M2 hv => ?_, fun E M2 hv => by cases hv.2.2.2⟩
  obtain ⟨hF, hR, ht, hv⟩ := hv
  cases hv
  have hLI := hH.rf ok.1 hF hR
  show EvT [] l G d mLw_law_ 605 [.ref 98, .ref 100, .ref 206, .ref 3483, .int (nI i), .int (nI (aUntil w (xs (i + 1)) (xs (i + 2))).1), u6] [.int _] M2 bc bs Φ
  refine bLw_law__605 hSC M2 100 206 3483 (nI i) _ u6 _ ⟨hLI.2.2.1.1.c, d - 1, 0, 0, bc, bs, fun o M3 => M3 = M2 ∧ o = .inl (some (.int (m_i M2 206 0))), by omega, by omega, by omega, ct_thrown M2 hLI.2.2.1.1 ⟨rfl, rfl⟩, fun v M3 hv => ?_, fun E M3 hv => by cases hv.2⟩
  obtain ⟨rfl, hv⟩ := hv
  cases hv
  show EvT [] l G d mLw_law_ 611 [.ref 98, .ref 100, .ref 206, .ref 3483, .int (nI i), .int (nI (aUntil w (xs (i + 1)) (xs (i + 2))).1), .int (aUntil w (xs (i + 1)) (xs (i + 2))).2.1] [.int _] M3 bc bs Φ
  rw [ht]
  have fin : EvT [] l G d mLw_law_ 635 [.ref 98, .ref 100, .ref 206, .ref 3483, .int (nI i), .int (nI (aUntil w (xs (i + 1)) (xs (i + 2))).1), .int (aUntil w (xs (i + 1)) (xs (i + 2))).2.1] [] M3 bc bs Φ := bLw_law__635 hSC M3 100 206 3483 (nI i) _ _ (K M3 _ _ _ hLI)
  have h22 := hLI.2.2.2.1
  refine bLw_law__611 hSC M3 100 206 3483 (nI i) _ _ _ ⟨fun _ => ⟨fun _ => fin, fun z => ⟨by rw [h22], by rw [h22]; exact vp_in_dec rfl, fun _ => fin, fun y => absurd ?_ y⟩⟩, fun z => absurd rfl z⟩
  have ho := hout ((i_0 (by have := ok.2; omega)).mp z)
  rw [lg_cmp0, hF.2.2.1]
  exact ho
theorem lc_must (hSC : SC G L xs) (hl : l.stackTraces = false) (hL : L ≤ 3072) (M : Mm) {i len : Nat} (hi : i + 5 < L) {w : Wd} (hI : LI M w len) (u5 u6 : Value) (hd : 40 < d) (K : ∀ M' w' u5 u6, LI M' w' len → EvT [] l G d mLw_law_ 1843 [.ref 98, .ref 100, .ref 206, .ref 3483, .int (nI i), u5, u6] [] M' bc bs Φ) : EvT [] l G d mLw_law_ 638 [.ref 98, .ref 100, .ref 206, .ref 3483, .int (nI i), u5, u6] [] M (4 + bc) (24 + bs) Φ := by
  obtain ⟨P, A, E, hC⟩ := hI.2.1
  have ok := (ok_must hI.1 (xs (i + 1)) (xs (i + 2)) (xs (i + 3)))
  have hQ : ∀ len', (fun len' => len' = len) len' → len' ≤ 15625 := (fun len' e => by rw [e]; exact hI.2.2.2.2.2)
  refine bLw_law__638 hSC M 100 206 3483 (nI i) u5 u6 ?_
  rw [(show (nI i + 1).toNatClampNeg = i + 1 from (vi_k hi hL (k := 1) (by omega)).2), (show (nI i + 2).toNatClampNeg = i + 2 from (vi_k hi hL (k := 2) (by omega)).2), (show (nI i + 3).toNatClampNeg = i + 3 from (vi_k hi hL (k := 3) (by omega)).2)]
  refine ⟨(vi_k hi hL (k := 1) (by omega)).1, (vi_k hi hL (k := 2) (by omega)).1, (vi_k hi hL (k := 3) (by omega)).1, d - 1, 4, 24, bc, bs, HR w (aMust w (xs (i + 1)) (xs (i + 2)) (xs (i + 3))) (fun v => if v = 0 then 0 else 1) (fun len' => len' = len), by omega, rfl, rfl, cLw_must (d2 := d - 2) (Ψ := ex1 (aMust w (xs (i + 1)) (xs (i + 2)) (xs (i + 3))) exN M (fun len' => len' = len)) M (xs (i + 1)) (xs (i + 2)) (xs (i + 3)) hC.1.1.1 (by omega) (ct_c_must M w hI.1 hC hl _ _ _ (by omega) CPost.x1) (fun v9 M' hv => hv.ok (fun v => if v = 0 then 0 else 1) hI hQ ok.1) (fun E M' hv => hv.no2 (fun v => if v = 0 then 0 else 1) hI hQ ok.2), fun v M1 hv => ?_, fun E M1 hv => by cases hv.1⟩
  obtain ⟨hv, len1, hq, hH, hout⟩ := hv
  cases hv
  have hq : len1 = len := hq
  subst hq
  show EvT [] l G d mLw_law_ 661 [.ref 98, .ref 100, .ref 206, .ref 3483, .int (nI i), u5, u6] [.int _] M1 bc bs Φ
  refine bLw_law__661 hSC M1 100 206 3483 (nI i) u5 u6 _ ?_
  rw [(show (nI i + 1).toNatClampNeg = i + 1 from (vi_k hi hL (k := 1) (by omega)).2), (show (nI i + 2).toNatClampNeg = i + 2 from (vi_k hi hL (k := 2) (by omega)).2), (show (nI i + 3).toNatClampNeg = i + 3 from (vi_k hi hL (k := 3) (by omega)).2)]
  refine ⟨(vi_k hi hL (k := 1) (by omega)).1, (vi_k hi hL (k := 2) (by omega)).1, (vi_k hi hL (k := 3) (by omega)).1, hH.2.1.1.c, d - 1, 0, 0, bc, bs, _, by omega, by omega, by omega, ct_r_must M1 w hI.1 hH.2.1 _ _ _ (by omega) RPost.x1, fun v M2 hv => ?_, fun E M2 hv => by cases hv.2.2.2⟩
  obtain ⟨hF, hR, ht, hv⟩ := hv
  cases hv
  have hLI := hH.rf ok.1 hF hR
  show EvT [] l G d mLw_law_ 685 [.ref 98, .ref 100, .ref 206, .ref 3483, .int (nI i), .int (nI (aMust w (xs (i + 1)) (xs (i + 2)) (xs (i + 3))).1), u6] [.int _] M2 bc bs Φ
  refine bLw_law__685 hSC M2 100 206 3483 (nI i) _ u6 _ ⟨hLI.2.2.1.1.c, d - 1, 0, 0, bc, bs, fun o M3 => M3 = M2 ∧ o = .inl (some (.int (m_i M2 206 0))), by omega, by omega, by omega, ct_thrown M2 hLI.2.2.1.1 ⟨rfl, rfl⟩, fun v M3 hv => ?_, fun E M3 hv => by cases hv.2⟩
  obtain ⟨rfl, hv⟩ := hv
  cases hv
  show EvT [] l G d mLw_law_ 691 [.ref 98, .ref 100, .ref 206, .ref 3483, .int (nI i), .int (nI (aMust w (xs (i + 1)) (xs (i + 2)) (xs (i + 3))).1), .int (aMust w (xs (i + 1)) (xs (i + 2)) (xs (i + 3))).2.1] [.int _] M3 bc bs Φ
  rw [ht]
  have fin : EvT [] l G d mLw_law_ 722 [.ref 98, .ref 100, .ref 206, .ref 3483, .int (nI i), .int (nI (aMust w (xs (i + 1)) (xs (i + 2)) (xs (i + 3))).1), .int (aMust w (xs (i + 1)) (xs (i + 2)) (xs (i + 3))).2.1] [] M3 bc bs Φ := bLw_law__722 hSC M3 100 206 3483 (nI i) _ _ (K M3 _ _ _ hLI)
  have h22 := hLI.2.2.2.1
  refine bLw_law__691 hSC M3 100 206 3483 (nI i) _ _ _ ⟨fun _ => ⟨fun _ => fin, fun z => ⟨by rw [h22], by rw [h22]; exact vp_in_dec rfl, fun b => ⟨fun _ => fin, fun y => absurd ?_ y⟩, fun b => ⟨fun _ => fin, fun y => absurd ?_ y⟩⟩⟩, fun z => absurd rfl z⟩
  · have ho := hout ((i_0 (by have := ok.2; omega)).mp z)
    dsimp only at ho
    rw [if_pos b] at ho
    rw [lg_cmp0, hF.2.2.1]
    exact ho
  · have ho := hout ((i_0 (by have := ok.2; omega)).mp z)
    dsimp only at ho
    rw [if_neg b] at ho
    rw [lg_cmp0, hF.2.2.1]
    exact ho
theorem lc_worth (hSC : SC G L xs) (hl : l.stackTraces = false) (hL : L ≤ 3072) (M : Mm) {i len : Nat} (hi : i + 5 < L) {w : Wd} (hI : LI M w len) (u5 u6 : Value) (hd : 40 < d) (K : ∀ M' w' u5 u6, LI M' w' len → EvT [] l G d mLw_law_ 1843 [.ref 98, .ref 100, .ref 206, .ref 3483, .int (nI i), u5, u6] [] M' bc bs Φ) : EvT [] l G d mLw_law_ 725 [.ref 98, .ref 100, .ref 206, .ref 3483, .int (nI i), u5, u6] [] M (4 + bc) (24 + bs) Φ := by
  obtain ⟨P, A, E, hC⟩ := hI.2.1
  have ok := (ok_worth hI.1 (xs (i + 1)) (xs (i + 2)) (xs (i + 3)))
  have hQ : ∀ len', (fun len' => len' = len) len' → len' ≤ 15625 := (fun len' e => by rw [e]; exact hI.2.2.2.2.2)
  refine bLw_law__725 hSC M 100 206 3483 (nI i) u5 u6 ?_
  rw [(show (nI i + 1).toNatClampNeg = i + 1 from (vi_k hi hL (k := 1) (by omega)).2), (show (nI i + 2).toNatClampNeg = i + 2 from (vi_k hi hL (k := 2) (by omega)).2), (show (nI i + 3).toNatClampNeg = i + 3 from (vi_k hi hL (k := 3) (by omega)).2)]
  refine ⟨(vi_k hi hL (k := 1) (by omega)).1, (vi_k hi hL (k := 2) (by omega)).1, (vi_k hi hL (k := 3) (by omega)).1, d - 1, 4, 24, bc, bs, HR w (aWorth w (xs (i + 1)) (xs (i + 2)) (xs (i + 3))) (fun v => v.toInt64) (fun len' => len' = len), by omega, rfl, rfl, cLw_worth (d2 := d - 2) (Ψ := ex1 (aWorth w (xs (i + 1)) (xs (i + 2)) (xs (i + 3))) exN M (fun len' => len' = len)) M (xs (i + 1)) (xs (i + 2)) (xs (i + 3)) hC.1.1.1 (by omega) (ct_c_worth M w hI.1 hC hl _ _ _ (by omega) CPost.x1) (fun v9 M' hv => hv.ok (fun v => v.toInt64) hI hQ ok.1) (fun E M' hv => hv.no2 (fun v => v.toInt64) hI hQ ok.2), fun v M1 hv => ?_, fun E M1 hv => by cases hv.1⟩
  obtain ⟨hv, len1, hq, hH, hout⟩ := hv
  cases hv
  have hq : len1 = len := hq
  subst hq
  show EvT [] l G d mLw_law_ 748 [.ref 98, .ref 100, .ref 206, .ref 3483, .int (nI i), u5, u6] [.int _] M1 bc bs Φ
  refine bLw_law__748 hSC M1 100 206 3483 (nI i) u5 u6 _ ?_
  rw [(show (nI i + 1).toNatClampNeg = i + 1 from (vi_k hi hL (k := 1) (by omega)).2), (show (nI i + 2).toNatClampNeg = i + 2 from (vi_k hi hL (k := 2) (by omega)).2), (show (nI i + 3).toNatClampNeg = i + 3 from (vi_k hi hL (k := 3) (by omega)).2)]
  refine ⟨(vi_k hi hL (k := 1) (by omega)).1, (vi_k hi hL (k := 2) (by omega)).1, (vi_k hi hL (k := 3) (by omega)).1, hH.2.1.1.c, d - 1, 0, 0, bc, bs, _, by omega, by omega, by omega, ct_r_worth M1 w hI.1 hH.2.1 _ _ _ (by omega) RPost.x1, fun v M2 hv => ?_, fun E M2 hv => by cases hv.2.2.2⟩
  obtain ⟨hF, hR, ht, hv⟩ := hv
  cases hv
  have hLI := hH.rf ok.1 hF hR
  show EvT [] l G d mLw_law_ 772 [.ref 98, .ref 100, .ref 206, .ref 3483, .int (nI i), .int (nI (aWorth w (xs (i + 1)) (xs (i + 2)) (xs (i + 3))).1), u6] [.int _] M2 bc bs Φ
  refine bLw_law__772 hSC M2 100 206 3483 (nI i) _ u6 _ ⟨hLI.2.2.1.1.c, d - 1, 0, 0, bc, bs, fun o M3 => M3 = M2 ∧ o = .inl (some (.int (m_i M2 206 0))), by omega, by omega, by omega, ct_thrown M2 hLI.2.2.1.1 ⟨rfl, rfl⟩, fun v M3 hv => ?_, fun E M3 hv => by cases hv.2⟩
  obtain ⟨rfl, hv⟩ := hv
  cases hv
  show EvT [] l G d mLw_law_ 778 [.ref 98, .ref 100, .ref 206, .ref 3483, .int (nI i), .int (nI (aWorth w (xs (i + 1)) (xs (i + 2)) (xs (i + 3))).1), .int (aWorth w (xs (i + 1)) (xs (i + 2)) (xs (i + 3))).2.1] [.int _] M3 bc bs Φ
  rw [ht]
  have fin : EvT [] l G d mLw_law_ 802 [.ref 98, .ref 100, .ref 206, .ref 3483, .int (nI i), .int (nI (aWorth w (xs (i + 1)) (xs (i + 2)) (xs (i + 3))).1), .int (aWorth w (xs (i + 1)) (xs (i + 2)) (xs (i + 3))).2.1] [] M3 bc bs Φ := bLw_law__802 hSC M3 100 206 3483 (nI i) _ _ (K M3 _ _ _ hLI)
  have h22 := hLI.2.2.2.1
  refine bLw_law__778 hSC M3 100 206 3483 (nI i) _ _ _ ⟨fun _ => ⟨fun _ => fin, fun z => ⟨by rw [h22], by rw [h22]; exact vp_in_dec rfl, fun _ => fin, fun y => absurd ?_ y⟩⟩, fun z => absurd rfl z⟩
  have ho := hout ((i_0 (by have := ok.2; omega)).mp z)
  rw [lg_cmp0, hF.2.2.1]
  exact ho
theorem lc_day (hSC : SC G L xs) (hl : l.stackTraces = false) (hL : L ≤ 3072) (M : Mm) {i len : Nat} (hi : i + 5 < L) {w : Wd} (hI : LI M w len) (u5 u6 : Value) (hd : 40 < d) (K : ∀ M' w' u5 u6, LI M' w' len → EvT [] l G d mLw_law_ 1843 [.ref 98, .ref 100, .ref 206, .ref 3483, .int (nI i), u5, u6] [] M' bc bs Φ) : EvT [] l G d mLw_law_ 805 [.ref 98, .ref 100, .ref 206, .ref 3483, .int (nI i), u5, u6] [] M (4 + bc) (24 + bs) Φ := by
  obtain ⟨P, A, E, hC⟩ := hI.2.1
  have ok := (ok_day hI.1 (xs (i + 1)))
  have hQ : ∀ len', (fun len' => len' = len) len' → len' ≤ 15625 := (fun len' e => by rw [e]; exact hI.2.2.2.2.2)
  refine bLw_law__805 hSC M 100 206 3483 (nI i) u5 u6 ?_
  rw [(show (nI i + 1).toNatClampNeg = i + 1 from (vi_k hi hL (k := 1) (by omega)).2)]
  refine ⟨(vi_k hi hL (k := 1) (by omega)).1, d - 1, 4, 24, bc, bs, HR w (aDay w (xs (i + 1))) (fun v => v.toInt64) (fun len' => len' = len), by omega, rfl, rfl, cLw_day (d2 := d - 2) (Ψ := ex1 (aDay w (xs (i + 1))) exI M (fun len' => len' = len)) M (xs (i + 1)) hC.1.1.1 (by omega) (ct_c_day M w hI.1 hC hl _ (by omega) CPost.x1) (fun v9 M' hv => hv.ok (fun v => v.toInt64) hI hQ ok.1) (fun E M' hv => hv.no1 (fun v => v.toInt64) hI hQ ok.2), fun v M1 hv => ?_, fun E M1 hv => by cases hv.1⟩
  obtain ⟨hv, len1, hq, hH, hout⟩ := hv
  cases hv
  have hq : len1 = len := hq
  subst hq
  show EvT [] l G d mLw_law_ 816 [.ref 98, .ref 100, .ref 206, .ref 3483, .int (nI i), u5, u6] [.int _] M1 bc bs Φ
  refine bLw_law__816 hSC M1 100 206 3483 (nI i) u5 u6 _ ?_
  rw [(show (nI i + 1).toNatClampNeg = i + 1 from (vi_k hi hL (k := 1) (by omega)).2)]
  refine ⟨(vi_k hi hL (k := 1) (by omega)).1, hH.2.1.1.c, d - 1, 0, 0, bc, bs, _, by omega, by omega, by omega, ct_r_day M1 w hI.1 hH.2.1 _ (by omega) RPost.x1, fun v M2 hv => ?_, fun E M2 hv => by cases hv.2.2.2⟩
  obtain ⟨hF, hR, ht, hv⟩ := hv
  cases hv
  have hLI := hH.rf ok.1 hF hR
  show EvT [] l G d mLw_law_ 828 [.ref 98, .ref 100, .ref 206, .ref 3483, .int (nI i), .int (nI (aDay w (xs (i + 1))).1), u6] [.int _] M2 bc bs Φ
  refine bLw_law__828 hSC M2 100 206 3483 (nI i) _ u6 _ ⟨hLI.2.2.1.1.c, d - 1, 0, 0, bc, bs, fun o M3 => M3 = M2 ∧ o = .inl (some (.int (m_i M2 206 0))), by omega, by omega, by omega, ct_thrown M2 hLI.2.2.1.1 ⟨rfl, rfl⟩, fun v M3 hv => ?_, fun E M3 hv => by cases hv.2⟩
  obtain ⟨rfl, hv⟩ := hv
  cases hv
  show EvT [] l G d mLw_law_ 834 [.ref 98, .ref 100, .ref 206, .ref 3483, .int (nI i), .int (nI (aDay w (xs (i + 1))).1), .int (aDay w (xs (i + 1))).2.1] [.int _] M3 bc bs Φ
  rw [ht]
  have fin : EvT [] l G d mLw_law_ 858 [.ref 98, .ref 100, .ref 206, .ref 3483, .int (nI i), .int (nI (aDay w (xs (i + 1))).1), .int (aDay w (xs (i + 1))).2.1] [] M3 bc bs Φ := bLw_law__858 hSC M3 100 206 3483 (nI i) _ _ (K M3 _ _ _ hLI)
  have h22 := hLI.2.2.2.1
  refine bLw_law__834 hSC M3 100 206 3483 (nI i) _ _ _ ⟨fun _ => ⟨fun _ => fin, fun z => ⟨by rw [h22], by rw [h22]; exact vp_in_dec rfl, fun _ => fin, fun y => absurd ?_ y⟩⟩, fun z => absurd rfl z⟩
  have ho := hout ((i_0 (by have := ok.2; omega)).mp z)
  rw [lg_cmp0, hF.2.2.1]
  exact ho
theorem lc_call (hSC : SC G L xs) (hl : l.stackTraces = false) (hL : L ≤ 3072) (M : Mm) {i len : Nat} (hi : i + 5 < L) {w : Wd} (hI : LI M w len) (u5 u6 : Value) (hd : 40 < d) (K : ∀ M' w' u5 u6, LI M' w' len → EvT [] l G d mLw_law_ 1843 [.ref 98, .ref 100, .ref 206, .ref 3483, .int (nI i), u5, u6] [] M' bc bs Φ) : EvT [] l G d mLw_law_ 861 [.ref 98, .ref 100, .ref 206, .ref 3483, .int (nI i), u5, u6] [] M (4 + bc) (24 + bs) Φ := by
  obtain ⟨P, A, E, hC⟩ := hI.2.1
  have ok := (ok_call hI.1 (xs (i + 1)) (xs (i + 2)))
  have hQ : ∀ len', (fun len' => len' = len) len' → len' ≤ 15625 := (fun len' e => by rw [e]; exact hI.2.2.2.2.2)
  refine bLw_law__861 hSC M 100 206 3483 (nI i) u5 u6 ?_
  rw [(show (nI i + 1).toNatClampNeg = i + 1 from (vi_k hi hL (k := 1) (by omega)).2), (show (nI i + 2).toNatClampNeg = i + 2 from (vi_k hi hL (k := 2) (by omega)).2)]
  refine ⟨(vi_k hi hL (k := 1) (by omega)).1, (vi_k hi hL (k := 2) (by omega)).1, d - 1, 4, 24, bc, bs, HR w (aCall w (xs (i + 1)) (xs (i + 2))) (fun v => v.toInt64) (fun len' => len' = len), by omega, rfl, rfl, cLw_call (d2 := d - 2) (Ψ := ex1 (aCall w (xs (i + 1)) (xs (i + 2))) exB M (fun len' => len' = len)) M (xs (i + 1)) (xs (i + 2)) hC.1.1.1 (by omega) (ct_c_call M w hI.1 hC hl _ _ (by omega) CPost.x1) (fun v9 M' hv => hv.ok (fun v => v.toInt64) hI hQ ok.1) (fun E M' hv => hv.no2 (fun v => v.toInt64) hI hQ ok.2), fun v M1 hv => ?_, fun E M1 hv => by cases hv.1⟩
  obtain ⟨hv, len1, hq, hH, hout⟩ := hv
  cases hv
  have hq : len1 = len := hq
  subst hq
  show EvT [] l G d mLw_law_ 878 [.ref 98, .ref 100, .ref 206, .ref 3483, .int (nI i), u5, u6] [.int _] M1 bc bs Φ
  refine bLw_law__878 hSC M1 100 206 3483 (nI i) u5 u6 _ ?_
  rw [(show (nI i + 1).toNatClampNeg = i + 1 from (vi_k hi hL (k := 1) (by omega)).2), (show (nI i + 2).toNatClampNeg = i + 2 from (vi_k hi hL (k := 2) (by omega)).2)]
  refine ⟨(vi_k hi hL (k := 1) (by omega)).1, (vi_k hi hL (k := 2) (by omega)).1, hH.2.1.1.c, d - 1, 0, 0, bc, bs, _, by omega, by omega, by omega, ct_r_call M1 w hI.1 hH.2.1 _ _ (by omega) RPost.x1, fun v M2 hv => ?_, fun E M2 hv => by cases hv.2.2.2⟩
  obtain ⟨hF, hR, ht, hv⟩ := hv
  cases hv
  have hLI := hH.rf ok.1 hF hR
  show EvT [] l G d mLw_law_ 896 [.ref 98, .ref 100, .ref 206, .ref 3483, .int (nI i), .int (nI (aCall w (xs (i + 1)) (xs (i + 2))).1), u6] [.int _] M2 bc bs Φ
  refine bLw_law__896 hSC M2 100 206 3483 (nI i) _ u6 _ ⟨hLI.2.2.1.1.c, d - 1, 0, 0, bc, bs, fun o M3 => M3 = M2 ∧ o = .inl (some (.int (m_i M2 206 0))), by omega, by omega, by omega, ct_thrown M2 hLI.2.2.1.1 ⟨rfl, rfl⟩, fun v M3 hv => ?_, fun E M3 hv => by cases hv.2⟩
  obtain ⟨rfl, hv⟩ := hv
  cases hv
  show EvT [] l G d mLw_law_ 902 [.ref 98, .ref 100, .ref 206, .ref 3483, .int (nI i), .int (nI (aCall w (xs (i + 1)) (xs (i + 2))).1), .int (aCall w (xs (i + 1)) (xs (i + 2))).2.1] [.int _] M3 bc bs Φ
  rw [ht]
  have fin : EvT [] l G d mLw_law_ 926 [.ref 98, .ref 100, .ref 206, .ref 3483, .int (nI i), .int (nI (aCall w (xs (i + 1)) (xs (i + 2))).1), .int (aCall w (xs (i + 1)) (xs (i + 2))).2.1] [] M3 bc bs Φ := bLw_law__926 hSC M3 100 206 3483 (nI i) _ _ (K M3 _ _ _ hLI)
  have h22 := hLI.2.2.2.1
  refine bLw_law__902 hSC M3 100 206 3483 (nI i) _ _ _ ⟨fun _ => ⟨fun _ => fin, fun z => ⟨by rw [h22], by rw [h22]; exact vp_in_dec rfl, fun _ => fin, fun y => absurd ?_ y⟩⟩, fun z => absurd rfl z⟩
  have ho := hout ((i_0 (by have := ok.2; omega)).mp z)
  rw [lg_cmp0, hF.2.2.1]
  exact ho
theorem lc_holder (hSC : SC G L xs) (hl : l.stackTraces = false) (hL : L ≤ 3072) (M : Mm) {i len : Nat} (hi : i + 5 < L) {w : Wd} (hI : LI M w len) (u5 u6 : Value) (hd : 40 < d) (K : ∀ M' w' u5 u6, LI M' w' len → EvT [] l G d mLw_law_ 1843 [.ref 98, .ref 100, .ref 206, .ref 3483, .int (nI i), u5, u6] [] M' bc bs Φ) : EvT [] l G d mLw_law_ 929 [.ref 98, .ref 100, .ref 206, .ref 3483, .int (nI i), u5, u6] [] M (4 + bc) (24 + bs) Φ := by
  obtain ⟨P, A, E, hC⟩ := hI.2.1
  have ok := (ok_holder hI.1 (xs (i + 1)) (xs (i + 2)))
  have hQ : ∀ len', (fun len' => len' = len) len' → len' ≤ 15625 := (fun len' e => by rw [e]; exact hI.2.2.2.2.2)
  refine bLw_law__929 hSC M 100 206 3483 (nI i) u5 u6 ?_
  rw [(show (nI i + 1).toNatClampNeg = i + 1 from (vi_k hi hL (k := 1) (by omega)).2), (show (nI i + 2).toNatClampNeg = i + 2 from (vi_k hi hL (k := 2) (by omega)).2)]
  refine ⟨(vi_k hi hL (k := 1) (by omega)).1, (vi_k hi hL (k := 2) (by omega)).1, d - 1, 4, 24, bc, bs, HR w (aHolder w (xs (i + 1)) (xs (i + 2))) (fun v => v.toInt64) (fun len' => len' = len), by omega, rfl, rfl, cLw_holder (d2 := d - 2) (Ψ := ex1 (aHolder w (xs (i + 1)) (xs (i + 2))) exB M (fun len' => len' = len)) M (xs (i + 1)) (xs (i + 2)) hC.1.1.1 (by omega) (ct_c_holder M w hI.1 hC hl _ _ (by omega) CPost.x1) (fun v9 M' hv => hv.ok (fun v => v.toInt64) hI hQ ok.1) (fun E M' hv => hv.no1 (fun v => v.toInt64) hI hQ ok.2), fun v M1 hv => ?_, fun E M1 hv => by cases hv.1⟩
  obtain ⟨hv, len1, hq, hH, hout⟩ := hv
  cases hv
  have hq : len1 = len := hq
  subst hq
  show EvT [] l G d mLw_law_ 946 [.ref 98, .ref 100, .ref 206, .ref 3483, .int (nI i), u5, u6] [.int _] M1 bc bs Φ
  refine bLw_law__946 hSC M1 100 206 3483 (nI i) u5 u6 _ ?_
  rw [(show (nI i + 1).toNatClampNeg = i + 1 from (vi_k hi hL (k := 1) (by omega)).2), (show (nI i + 2).toNatClampNeg = i + 2 from (vi_k hi hL (k := 2) (by omega)).2)]
  refine ⟨(vi_k hi hL (k := 1) (by omega)).1, (vi_k hi hL (k := 2) (by omega)).1, hH.2.1.1.c, d - 1, 0, 0, bc, bs, _, by omega, by omega, by omega, ct_r_holder M1 w hI.1 hH.2.1 _ _ (by omega) RPost.x1, fun v M2 hv => ?_, fun E M2 hv => by cases hv.2.2.2⟩
  obtain ⟨hF, hR, ht, hv⟩ := hv
  cases hv
  have hLI := hH.rf ok.1 hF hR
  show EvT [] l G d mLw_law_ 964 [.ref 98, .ref 100, .ref 206, .ref 3483, .int (nI i), .int (nI (aHolder w (xs (i + 1)) (xs (i + 2))).1), u6] [.int _] M2 bc bs Φ
  refine bLw_law__964 hSC M2 100 206 3483 (nI i) _ u6 _ ⟨hLI.2.2.1.1.c, d - 1, 0, 0, bc, bs, fun o M3 => M3 = M2 ∧ o = .inl (some (.int (m_i M2 206 0))), by omega, by omega, by omega, ct_thrown M2 hLI.2.2.1.1 ⟨rfl, rfl⟩, fun v M3 hv => ?_, fun E M3 hv => by cases hv.2⟩
  obtain ⟨rfl, hv⟩ := hv
  cases hv
  show EvT [] l G d mLw_law_ 970 [.ref 98, .ref 100, .ref 206, .ref 3483, .int (nI i), .int (nI (aHolder w (xs (i + 1)) (xs (i + 2))).1), .int (aHolder w (xs (i + 1)) (xs (i + 2))).2.1] [.int _] M3 bc bs Φ
  rw [ht]
  have fin : EvT [] l G d mLw_law_ 994 [.ref 98, .ref 100, .ref 206, .ref 3483, .int (nI i), .int (nI (aHolder w (xs (i + 1)) (xs (i + 2))).1), .int (aHolder w (xs (i + 1)) (xs (i + 2))).2.1] [] M3 bc bs Φ := bLw_law__994 hSC M3 100 206 3483 (nI i) _ _ (K M3 _ _ _ hLI)
  have h22 := hLI.2.2.2.1
  refine bLw_law__970 hSC M3 100 206 3483 (nI i) _ _ _ ⟨fun _ => ⟨fun _ => fin, fun z => ⟨by rw [h22], by rw [h22]; exact vp_in_dec rfl, fun _ => fin, fun y => absurd ?_ y⟩⟩, fun z => absurd rfl z⟩
  have ho := hout ((i_0 (by have := ok.2; omega)).mp z)
  rw [lg_cmp0, hF.2.2.1]
  exact ho
theorem lc_ends (hSC : SC G L xs) (hl : l.stackTraces = false) (hL : L ≤ 3072) (M : Mm) {i len : Nat} (hi : i + 5 < L) {w : Wd} (hI : LI M w len) (u5 u6 : Value) (hd : 40 < d) (K : ∀ M' w' u5 u6, LI M' w' len → EvT [] l G d mLw_law_ 1843 [.ref 98, .ref 100, .ref 206, .ref 3483, .int (nI i), u5, u6] [] M' bc bs Φ) : EvT [] l G d mLw_law_ 997 [.ref 98, .ref 100, .ref 206, .ref 3483, .int (nI i), u5, u6] [] M (4 + bc) (24 + bs) Φ := by
  obtain ⟨P, A, E, hC⟩ := hI.2.1
  have ok := (ok_ends hI.1 (xs (i + 1)))
  have hQ : ∀ len', (fun len' => len' = len) len' → len' ≤ 15625 := (fun len' e => by rw [e]; exact hI.2.2.2.2.2)
  refine bLw_law__997 hSC M 100 206 3483 (nI i) u5 u6 ?_
  rw [(show (nI i + 1).toNatClampNeg = i + 1 from (vi_k hi hL (k := 1) (by omega)).2)]
  refine ⟨(vi_k hi hL (k := 1) (by omega)).1, d - 1, 4, 24, bc, bs, HR w (aEnds w (xs (i + 1))) (fun v => v.toInt64) (fun len' => len' = len), by omega, rfl, rfl, cLw_ends (d2 := d - 2) (Ψ := ex1 (aEnds w (xs (i + 1))) exN M (fun len' => len' = len)) M (xs (i + 1)) hC.1.1.1 (by omega) (ct_c_ends M w hI.1 hC hl _ (by omega) CPost.x1) (fun v9 M' hv => hv.ok (fun v => v.toInt64) hI hQ ok.1) (fun E M' hv => hv.no1 (fun v => v.toInt64) hI hQ ok.2), fun v M1 hv => ?_, fun E M1 hv => by cases hv.1⟩
  obtain ⟨hv, len1, hq, hH, hout⟩ := hv
  cases hv
  have hq : len1 = len := hq
  subst hq
  show EvT [] l G d mLw_law_ 1008 [.ref 98, .ref 100, .ref 206, .ref 3483, .int (nI i), u5, u6] [.int _] M1 bc bs Φ
  refine bLw_law__1008 hSC M1 100 206 3483 (nI i) u5 u6 _ ?_
  rw [(show (nI i + 1).toNatClampNeg = i + 1 from (vi_k hi hL (k := 1) (by omega)).2)]
  refine ⟨(vi_k hi hL (k := 1) (by omega)).1, hH.2.1.1.c, d - 1, 0, 0, bc, bs, _, by omega, by omega, by omega, ct_r_ends M1 w hI.1 hH.2.1 _ (by omega) RPost.x1, fun v M2 hv => ?_, fun E M2 hv => by cases hv.2.2.2⟩
  obtain ⟨hF, hR, ht, hv⟩ := hv
  cases hv
  have hLI := hH.rf ok.1 hF hR
  show EvT [] l G d mLw_law_ 1020 [.ref 98, .ref 100, .ref 206, .ref 3483, .int (nI i), .int (nI (aEnds w (xs (i + 1))).1), u6] [.int _] M2 bc bs Φ
  refine bLw_law__1020 hSC M2 100 206 3483 (nI i) _ u6 _ ⟨hLI.2.2.1.1.c, d - 1, 0, 0, bc, bs, fun o M3 => M3 = M2 ∧ o = .inl (some (.int (m_i M2 206 0))), by omega, by omega, by omega, ct_thrown M2 hLI.2.2.1.1 ⟨rfl, rfl⟩, fun v M3 hv => ?_, fun E M3 hv => by cases hv.2⟩
  obtain ⟨rfl, hv⟩ := hv
  cases hv
  show EvT [] l G d mLw_law_ 1026 [.ref 98, .ref 100, .ref 206, .ref 3483, .int (nI i), .int (nI (aEnds w (xs (i + 1))).1), .int (aEnds w (xs (i + 1))).2.1] [.int _] M3 bc bs Φ
  rw [ht]
  have fin : EvT [] l G d mLw_law_ 1050 [.ref 98, .ref 100, .ref 206, .ref 3483, .int (nI i), .int (nI (aEnds w (xs (i + 1))).1), .int (aEnds w (xs (i + 1))).2.1] [] M3 bc bs Φ := bLw_law__1050 hSC M3 100 206 3483 (nI i) _ _ (K M3 _ _ _ hLI)
  have h22 := hLI.2.2.2.1
  refine bLw_law__1026 hSC M3 100 206 3483 (nI i) _ _ _ ⟨fun _ => ⟨fun _ => fin, fun z => ⟨by rw [h22], by rw [h22]; exact vp_in_dec rfl, fun _ => fin, fun y => absurd ?_ y⟩⟩, fun z => absurd rfl z⟩
  have ho := hout ((i_0 (by have := ok.2; omega)).mp z)
  rw [lg_cmp0, hF.2.2.1]
  exact ho
theorem lc_balance (hSC : SC G L xs) (hl : l.stackTraces = false) (hL : L ≤ 3072) (M : Mm) {i len : Nat} (hi : i + 5 < L) {w : Wd} (hI : LI M w len) (u5 u6 : Value) (hd : 40 < d) (K : ∀ M' w' u5 u6, LI M' w' len → EvT [] l G d mLw_law_ 1843 [.ref 98, .ref 100, .ref 206, .ref 3483, .int (nI i), u5, u6] [] M' bc bs Φ) : EvT [] l G d mLw_law_ 1053 [.ref 98, .ref 100, .ref 206, .ref 3483, .int (nI i), u5, u6] [] M (4 + bc) (24 + bs) Φ := by
  obtain ⟨P, A, E, hC⟩ := hI.2.1
  have ok := (ok_balance hI.1 (xs (i + 1)))
  have hQ : ∀ len', (fun len' => len' = len) len' → len' ≤ 15625 := (fun len' e => by rw [e]; exact hI.2.2.2.2.2)
  refine bLw_law__1053 hSC M 100 206 3483 (nI i) u5 u6 ?_
  rw [(show (nI i + 1).toNatClampNeg = i + 1 from (vi_k hi hL (k := 1) (by omega)).2)]
  refine ⟨(vi_k hi hL (k := 1) (by omega)).1, d - 1, 4, 24, bc, bs, HR w (aBalance w (xs (i + 1))) (fun v => v.toInt64) (fun len' => len' = len), by omega, rfl, rfl, cLw_balance (d2 := d - 2) (Ψ := ex1 (aBalance w (xs (i + 1))) exN M (fun len' => len' = len)) M (xs (i + 1)) hC.1.1.1 (by omega) (ct_c_balance M w hI.1 hC hl _ (by omega) CPost.x1) (fun v9 M' hv => hv.ok (fun v => v.toInt64) hI hQ ok.1) (fun E M' hv => hv.no1 (fun v => v.toInt64) hI hQ ok.2), fun v M1 hv => ?_, fun E M1 hv => by cases hv.1⟩
  obtain ⟨hv, len1, hq, hH, hout⟩ := hv
  cases hv
  have hq : len1 = len := hq
  subst hq
  show EvT [] l G d mLw_law_ 1064 [.ref 98, .ref 100, .ref 206, .ref 3483, .int (nI i), u5, u6] [.int _] M1 bc bs Φ
  refine bLw_law__1064 hSC M1 100 206 3483 (nI i) u5 u6 _ ?_
  rw [(show (nI i + 1).toNatClampNeg = i + 1 from (vi_k hi hL (k := 1) (by omega)).2)]
  refine ⟨(vi_k hi hL (k := 1) (by omega)).1, hH.2.1.1.c, d - 1, 0, 0, bc, bs, _, by omega, by omega, by omega, ct_r_balance M1 w hI.1 hH.2.1 _ (by omega) RPost.x1, fun v M2 hv => ?_, fun E M2 hv => by cases hv.2.2.2⟩
  obtain ⟨hF, hR, ht, hv⟩ := hv
  cases hv
  have hLI := hH.rf ok.1 hF hR
  show EvT [] l G d mLw_law_ 1076 [.ref 98, .ref 100, .ref 206, .ref 3483, .int (nI i), .int (nI (aBalance w (xs (i + 1))).1), u6] [.int _] M2 bc bs Φ
  refine bLw_law__1076 hSC M2 100 206 3483 (nI i) _ u6 _ ⟨hLI.2.2.1.1.c, d - 1, 0, 0, bc, bs, fun o M3 => M3 = M2 ∧ o = .inl (some (.int (m_i M2 206 0))), by omega, by omega, by omega, ct_thrown M2 hLI.2.2.1.1 ⟨rfl, rfl⟩, fun v M3 hv => ?_, fun E M3 hv => by cases hv.2⟩
  obtain ⟨rfl, hv⟩ := hv
  cases hv
  show EvT [] l G d mLw_law_ 1082 [.ref 98, .ref 100, .ref 206, .ref 3483, .int (nI i), .int (nI (aBalance w (xs (i + 1))).1), .int (aBalance w (xs (i + 1))).2.1] [.int _] M3 bc bs Φ
  rw [ht]
  have fin : EvT [] l G d mLw_law_ 1106 [.ref 98, .ref 100, .ref 206, .ref 3483, .int (nI i), .int (nI (aBalance w (xs (i + 1))).1), .int (aBalance w (xs (i + 1))).2.1] [] M3 bc bs Φ := bLw_law__1106 hSC M3 100 206 3483 (nI i) _ _ (K M3 _ _ _ hLI)
  have h22 := hLI.2.2.2.1
  refine bLw_law__1082 hSC M3 100 206 3483 (nI i) _ _ _ ⟨fun _ => ⟨fun _ => fin, fun z => ⟨by rw [h22], by rw [h22]; exact vp_in_dec rfl, fun _ => fin, fun y => absurd ?_ y⟩⟩, fun z => absurd rfl z⟩
  have ho := hout ((i_0 (by have := ok.2; omega)).mp z)
  rw [lg_cmp0, hF.2.2.1]
  exact ho
theorem lc_book (hSC : SC G L xs) (hl : l.stackTraces = false) (hL : L ≤ 3072) (M : Mm) {i len : Nat} (hi : i + 5 < L) {w : Wd} (hI : LI M w len) (u5 u6 : Value) (hd : 40 < d) (K : ∀ M' w' u5 u6, LI M' w' len → EvT [] l G d mLw_law_ 1843 [.ref 98, .ref 100, .ref 206, .ref 3483, .int (nI i), u5, u6] [] M' bc bs Φ) : EvT [] l G d mLw_law_ 1109 [.ref 98, .ref 100, .ref 206, .ref 3483, .int (nI i), u5, u6] [] M (4 + bc) (24 + bs) Φ := by
  obtain ⟨P, A, E, hC⟩ := hI.2.1
  have ok := (ok_book hI.1 (xs (i + 1)) (xs (i + 2)))
  have hQ : ∀ len', (fun len' => len' = len) len' → len' ≤ 15625 := (fun len' e => by rw [e]; exact hI.2.2.2.2.2)
  refine bLw_law__1109 hSC M 100 206 3483 (nI i) u5 u6 ?_
  rw [(show (nI i + 1).toNatClampNeg = i + 1 from (vi_k hi hL (k := 1) (by omega)).2), (show (nI i + 2).toNatClampNeg = i + 2 from (vi_k hi hL (k := 2) (by omega)).2)]
  refine ⟨(vi_k hi hL (k := 1) (by omega)).1, (vi_k hi hL (k := 2) (by omega)).1, d - 1, 4, 24, bc, bs, HR w (aBook w (xs (i + 1)) (xs (i + 2))) (fun v => v.toInt64) (fun len' => len' = len), by omega, rfl, rfl, cLw_book (d2 := d - 2) (Ψ := ex1 (aBook w (xs (i + 1)) (xs (i + 2))) exN M (fun len' => len' = len)) M (xs (i + 1)) (xs (i + 2)) hC.1.1.1 (by omega) (ct_c_book M w hI.1 hC hl _ _ (by omega) CPost.x1) (fun v9 M' hv => hv.ok (fun v => v.toInt64) hI hQ ok.1) (fun E M' hv => hv.no1 (fun v => v.toInt64) hI hQ ok.2), fun v M1 hv => ?_, fun E M1 hv => by cases hv.1⟩
  obtain ⟨hv, len1, hq, hH, hout⟩ := hv
  cases hv
  have hq : len1 = len := hq
  subst hq
  show EvT [] l G d mLw_law_ 1126 [.ref 98, .ref 100, .ref 206, .ref 3483, .int (nI i), u5, u6] [.int _] M1 bc bs Φ
  refine bLw_law__1126 hSC M1 100 206 3483 (nI i) u5 u6 _ ?_
  rw [(show (nI i + 1).toNatClampNeg = i + 1 from (vi_k hi hL (k := 1) (by omega)).2), (show (nI i + 2).toNatClampNeg = i + 2 from (vi_k hi hL (k := 2) (by omega)).2)]
  refine ⟨(vi_k hi hL (k := 1) (by omega)).1, (vi_k hi hL (k := 2) (by omega)).1, hH.2.1.1.c, d - 1, 0, 0, bc, bs, _, by omega, by omega, by omega, ct_r_book M1 w hI.1 hH.2.1 _ _ (by omega) RPost.x1, fun v M2 hv => ?_, fun E M2 hv => by cases hv.2.2.2⟩
  obtain ⟨hF, hR, ht, hv⟩ := hv
  cases hv
  have hLI := hH.rf ok.1 hF hR
  show EvT [] l G d mLw_law_ 1144 [.ref 98, .ref 100, .ref 206, .ref 3483, .int (nI i), .int (nI (aBook w (xs (i + 1)) (xs (i + 2))).1), u6] [.int _] M2 bc bs Φ
  refine bLw_law__1144 hSC M2 100 206 3483 (nI i) _ u6 _ ⟨hLI.2.2.1.1.c, d - 1, 0, 0, bc, bs, fun o M3 => M3 = M2 ∧ o = .inl (some (.int (m_i M2 206 0))), by omega, by omega, by omega, ct_thrown M2 hLI.2.2.1.1 ⟨rfl, rfl⟩, fun v M3 hv => ?_, fun E M3 hv => by cases hv.2⟩
  obtain ⟨rfl, hv⟩ := hv
  cases hv
  show EvT [] l G d mLw_law_ 1150 [.ref 98, .ref 100, .ref 206, .ref 3483, .int (nI i), .int (nI (aBook w (xs (i + 1)) (xs (i + 2))).1), .int (aBook w (xs (i + 1)) (xs (i + 2))).2.1] [.int _] M3 bc bs Φ
  rw [ht]
  have fin : EvT [] l G d mLw_law_ 1174 [.ref 98, .ref 100, .ref 206, .ref 3483, .int (nI i), .int (nI (aBook w (xs (i + 1)) (xs (i + 2))).1), .int (aBook w (xs (i + 1)) (xs (i + 2))).2.1] [] M3 bc bs Φ := bLw_law__1174 hSC M3 100 206 3483 (nI i) _ _ (K M3 _ _ _ hLI)
  have h22 := hLI.2.2.2.1
  refine bLw_law__1150 hSC M3 100 206 3483 (nI i) _ _ _ ⟨fun _ => ⟨fun _ => fin, fun z => ⟨by rw [h22], by rw [h22]; exact vp_in_dec rfl, fun _ => fin, fun y => absurd ?_ y⟩⟩, fun z => absurd rfl z⟩
  have ho := hout ((i_0 (by have := ok.2; omega)).mp z)
  rw [lg_cmp0, hF.2.2.1]
  exact ho
theorem lc_owed (hSC : SC G L xs) (hl : l.stackTraces = false) (hL : L ≤ 3072) (M : Mm) {i len : Nat} (hi : i + 5 < L) {w : Wd} (hI : LI M w len) (u5 u6 : Value) (hd : 40 < d) (K : ∀ M' w' u5 u6, LI M' w' len → EvT [] l G d mLw_law_ 1843 [.ref 98, .ref 100, .ref 206, .ref 3483, .int (nI i), u5, u6] [] M' bc bs Φ) : EvT [] l G d mLw_law_ 1177 [.ref 98, .ref 100, .ref 206, .ref 3483, .int (nI i), u5, u6] [] M (4 + bc) (24 + bs) Φ := by
  obtain ⟨P, A, E, hC⟩ := hI.2.1
  have ok := (ok_owed hI.1 (xs (i + 1)) (xs (i + 2)))
  have hQ : ∀ len', (fun len' => len' = len) len' → len' ≤ 15625 := (fun len' e => by rw [e]; exact hI.2.2.2.2.2)
  refine bLw_law__1177 hSC M 100 206 3483 (nI i) u5 u6 ?_
  rw [(show (nI i + 1).toNatClampNeg = i + 1 from (vi_k hi hL (k := 1) (by omega)).2), (show (nI i + 2).toNatClampNeg = i + 2 from (vi_k hi hL (k := 2) (by omega)).2)]
  refine ⟨(vi_k hi hL (k := 1) (by omega)).1, (vi_k hi hL (k := 2) (by omega)).1, d - 1, 4, 24, bc, bs, HR w (aOwed w (xs (i + 1)) (xs (i + 2))) (fun v => v.toInt64) (fun len' => len' = len), by omega, rfl, rfl, cLw_owed (d2 := d - 2) (Ψ := ex1 (aOwed w (xs (i + 1)) (xs (i + 2))) exN M (fun len' => len' = len)) M (xs (i + 1)) (xs (i + 2)) hC.1.1.1 (by omega) (ct_c_owed M w hI.1 hC hl _ _ (by omega) CPost.x1) (fun v9 M' hv => hv.ok (fun v => v.toInt64) hI hQ ok.1) (fun E M' hv => hv.no1 (fun v => v.toInt64) hI hQ ok.2), fun v M1 hv => ?_, fun E M1 hv => by cases hv.1⟩
  obtain ⟨hv, len1, hq, hH, hout⟩ := hv
  cases hv
  have hq : len1 = len := hq
  subst hq
  show EvT [] l G d mLw_law_ 1194 [.ref 98, .ref 100, .ref 206, .ref 3483, .int (nI i), u5, u6] [.int _] M1 bc bs Φ
  refine bLw_law__1194 hSC M1 100 206 3483 (nI i) u5 u6 _ ?_
  rw [(show (nI i + 1).toNatClampNeg = i + 1 from (vi_k hi hL (k := 1) (by omega)).2), (show (nI i + 2).toNatClampNeg = i + 2 from (vi_k hi hL (k := 2) (by omega)).2)]
  refine ⟨(vi_k hi hL (k := 1) (by omega)).1, (vi_k hi hL (k := 2) (by omega)).1, hH.2.1.1.c, d - 1, 0, 0, bc, bs, _, by omega, by omega, by omega, ct_r_owed M1 w hI.1 hH.2.1 _ _ (by omega) RPost.x1, fun v M2 hv => ?_, fun E M2 hv => by cases hv.2.2.2⟩
  obtain ⟨hF, hR, ht, hv⟩ := hv
  cases hv
  have hLI := hH.rf ok.1 hF hR
  show EvT [] l G d mLw_law_ 1212 [.ref 98, .ref 100, .ref 206, .ref 3483, .int (nI i), .int (nI (aOwed w (xs (i + 1)) (xs (i + 2))).1), u6] [.int _] M2 bc bs Φ
  refine bLw_law__1212 hSC M2 100 206 3483 (nI i) _ u6 _ ⟨hLI.2.2.1.1.c, d - 1, 0, 0, bc, bs, fun o M3 => M3 = M2 ∧ o = .inl (some (.int (m_i M2 206 0))), by omega, by omega, by omega, ct_thrown M2 hLI.2.2.1.1 ⟨rfl, rfl⟩, fun v M3 hv => ?_, fun E M3 hv => by cases hv.2⟩
  obtain ⟨rfl, hv⟩ := hv
  cases hv
  show EvT [] l G d mLw_law_ 1218 [.ref 98, .ref 100, .ref 206, .ref 3483, .int (nI i), .int (nI (aOwed w (xs (i + 1)) (xs (i + 2))).1), .int (aOwed w (xs (i + 1)) (xs (i + 2))).2.1] [.int _] M3 bc bs Φ
  rw [ht]
  have fin : EvT [] l G d mLw_law_ 1242 [.ref 98, .ref 100, .ref 206, .ref 3483, .int (nI i), .int (nI (aOwed w (xs (i + 1)) (xs (i + 2))).1), .int (aOwed w (xs (i + 1)) (xs (i + 2))).2.1] [] M3 bc bs Φ := bLw_law__1242 hSC M3 100 206 3483 (nI i) _ _ (K M3 _ _ _ hLI)
  have h22 := hLI.2.2.2.1
  refine bLw_law__1218 hSC M3 100 206 3483 (nI i) _ _ _ ⟨fun _ => ⟨fun _ => fin, fun z => ⟨by rw [h22], by rw [h22]; exact vp_in_dec rfl, fun _ => fin, fun y => absurd ?_ y⟩⟩, fun z => absurd rfl z⟩
  have ho := hout ((i_0 (by have := ok.2; omega)).mp z)
  rw [lg_cmp0, hF.2.2.1]
  exact ho
theorem lc_tell (hSC : SC G L xs) (hl : l.stackTraces = false) (hL : L ≤ 3072) (M : Mm) {i len : Nat} (hi : i + 5 < L) {w : Wd} (hI : LI M w len) (u5 u6 : Value) (hd : 40 < d) (K : ∀ M' w' u5 u6, LI M' w' len → EvT [] l G d mLw_law_ 1843 [.ref 98, .ref 100, .ref 206, .ref 3483, .int (nI i), u5, u6] [] M' bc bs Φ) : EvT [] l G d mLw_law_ 1245 [.ref 98, .ref 100, .ref 206, .ref 3483, .int (nI i), u5, u6] [] M (4 + bc) (24 + bs) Φ := by
  obtain ⟨P, A, E, hC⟩ := hI.2.1
  have ok := (ok_tell hI.1 (xs (i + 1)))
  have hQ : ∀ len', (fun len' => len' = len) len' → len' ≤ 15625 := (fun len' e => by rw [e]; exact hI.2.2.2.2.2)
  refine bLw_law__1245 hSC M 100 206 3483 (nI i) u5 u6 ?_
  rw [(show (nI i + 1).toNatClampNeg = i + 1 from (vi_k hi hL (k := 1) (by omega)).2)]
  refine ⟨(vi_k hi hL (k := 1) (by omega)).1, d - 1, 4, 24, bc, bs, HR w (aTell w (xs (i + 1))) (fun v => v.toInt64) (fun len' => len' = len), by omega, rfl, rfl, cLw_tell (d2 := d - 2) (Ψ := ex1 (aTell w (xs (i + 1))) exN M (fun len' => len' = len)) M (xs (i + 1)) hC.1.1.1 (by omega) (ct_c_tell M w hI.1 hC hl _ (by omega) CPost.x1) (fun v9 M' hv => hv.ok (fun v => v.toInt64) hI hQ ok.1) (fun E M' hv => hv.no1 (fun v => v.toInt64) hI hQ ok.2), fun v M1 hv => ?_, fun E M1 hv => by cases hv.1⟩
  obtain ⟨hv, len1, hq, hH, hout⟩ := hv
  cases hv
  have hq : len1 = len := hq
  subst hq
  show EvT [] l G d mLw_law_ 1256 [.ref 98, .ref 100, .ref 206, .ref 3483, .int (nI i), u5, u6] [.int _] M1 bc bs Φ
  refine bLw_law__1256 hSC M1 100 206 3483 (nI i) u5 u6 _ ?_
  rw [(show (nI i + 1).toNatClampNeg = i + 1 from (vi_k hi hL (k := 1) (by omega)).2)]
  refine ⟨(vi_k hi hL (k := 1) (by omega)).1, hH.2.1.1.c, d - 1, 0, 0, bc, bs, _, by omega, by omega, by omega, ct_r_tell M1 w hI.1 hH.2.1 _ (by omega) RPost.x1, fun v M2 hv => ?_, fun E M2 hv => by cases hv.2.2.2⟩
  obtain ⟨hF, hR, ht, hv⟩ := hv
  cases hv
  have hLI := hH.rf ok.1 hF hR
  show EvT [] l G d mLw_law_ 1268 [.ref 98, .ref 100, .ref 206, .ref 3483, .int (nI i), .int (nI (aTell w (xs (i + 1))).1), u6] [.int _] M2 bc bs Φ
  refine bLw_law__1268 hSC M2 100 206 3483 (nI i) _ u6 _ ⟨hLI.2.2.1.1.c, d - 1, 0, 0, bc, bs, fun o M3 => M3 = M2 ∧ o = .inl (some (.int (m_i M2 206 0))), by omega, by omega, by omega, ct_thrown M2 hLI.2.2.1.1 ⟨rfl, rfl⟩, fun v M3 hv => ?_, fun E M3 hv => by cases hv.2⟩
  obtain ⟨rfl, hv⟩ := hv
  cases hv
  show EvT [] l G d mLw_law_ 1274 [.ref 98, .ref 100, .ref 206, .ref 3483, .int (nI i), .int (nI (aTell w (xs (i + 1))).1), .int (aTell w (xs (i + 1))).2.1] [.int _] M3 bc bs Φ
  rw [ht]
  have fin : EvT [] l G d mLw_law_ 1298 [.ref 98, .ref 100, .ref 206, .ref 3483, .int (nI i), .int (nI (aTell w (xs (i + 1))).1), .int (aTell w (xs (i + 1))).2.1] [] M3 bc bs Φ := bLw_law__1298 hSC M3 100 206 3483 (nI i) _ _ (K M3 _ _ _ hLI)
  have h22 := hLI.2.2.2.1
  refine bLw_law__1274 hSC M3 100 206 3483 (nI i) _ _ _ ⟨fun _ => ⟨fun _ => fin, fun z => ⟨by rw [h22], by rw [h22]; exact vp_in_dec rfl, fun _ => fin, fun y => absurd ?_ y⟩⟩, fun z => absurd rfl z⟩
  have ho := hout ((i_0 (by have := ok.2; omega)).mp z)
  rw [lg_cmp0, hF.2.2.1]
  exact ho
theorem lc_forget (hSC : SC G L xs) (hl : l.stackTraces = false) (hL : L ≤ 3072) (M : Mm) {i len : Nat} (hi : i + 5 < L) {w : Wd} (hI : LI M w len) (u5 u6 : Value) (hd : 40 < d) (K : ∀ M' w' u5 u6, LI M' w' len → EvT [] l G d mLw_law_ 1843 [.ref 98, .ref 100, .ref 206, .ref 3483, .int (nI i), u5, u6] [] M' bc bs Φ) : EvT [] l G d mLw_law_ 1301 [.ref 98, .ref 100, .ref 206, .ref 3483, .int (nI i), u5, u6] [] M (4 + bc) (24 + bs) Φ := by
  obtain ⟨P, A, E, hC⟩ := hI.2.1
  have ok := (ok_forget hI.1)
  refine bLw_law__1301 hSC M 100 206 3483 (nI i) u5 u6 ?_
  refine ⟨hC.1.1.1, d - 1, 4, 24, bc, bs, _, by omega, rfl, rfl, ct_c_forget M w hI.1 hC (fun _ => "") CPost.x1, fun v M1 hv => ?_, fun E M1 hv => ?_⟩
  rotate_left
  · obtain ⟨e, -⟩ := hv.no (fun v => v.toInt64) hI (fun len' e => by rw [e]; exact hI.2.2.2.2.2)
    exact e (by have := ok.2; omega)
  obtain ⟨P1, A1, E1, len1, rfl, hK, hC1, hv⟩ := hv
  rcases hv with ⟨e, hv⟩ | ⟨e, hv⟩
  rotate_left
  · cases hv
  cases hv
  have hH := hI.cls hK hC1 hI.2.2.2.2.2
  show EvT [] l G d mLw_law_ 1305 [.ref 98, .ref 100, .ref 206, .ref 3483, .int (nI i), u5, u6] [.int _] M1 bc bs Φ
  refine bLw_law__1305 hSC M1 100 206 3483 (nI i) u5 u6 _ ?_
  refine ⟨hH.2.1.1.c, d - 1, 0, 0, bc, bs, _, by omega, by omega, by omega, ct_r_forget M1 w hI.1 hH.2.1 RPost.x1, fun v M2 hv => ?_, fun E M2 hv => by cases hv.2.2.2⟩
  obtain ⟨hF, hR, ht, hv⟩ := hv
  cases hv
  show EvT [] l G d mLw_law_ 1309 [.ref 98, .ref 100, .ref 206, .ref 3483, .int (nI i), u5, u6] [.int _, .int _] M2 bc bs Φ
  exact bLw_law__1309 hSC M2 100 206 3483 (nI i) u5 u6 _ _ ⟨fun _ => K M2 _ u5 u6 (hH.rf ok.1 hF hR), fun z => absurd rfl z⟩
theorem lc_judge (hSC : SC G L xs) (hl : l.stackTraces = false) (hL : L ≤ 3072) (M : Mm) {i len : Nat} (hi : i + 5 < L) {w : Wd} (hI : LI M w len) (u5 u6 : Value) (hd : 40 < d) (K : ∀ M' w' u5 u6, LI M' w' len → EvT [] l G d mLw_law_ 1843 [.ref 98, .ref 100, .ref 206, .ref 3483, .int (nI i), u5, u6] [] M' bc bs Φ) : EvT [] l G d mLw_law_ 1314 [.ref 98, .ref 100, .ref 206, .ref 3483, .int (nI i), u5, u6] [] M (4 + bc) (24 + bs) Φ := by
  obtain ⟨P, A, E, hC⟩ := hI.2.1
  have ok := (ok_judge hI.1)
  refine bLw_law__1314 hSC M 100 206 3483 (nI i) u5 u6 ?_
  refine ⟨hC.1.1.1, d - 1, 4, 24, bc, bs, _, by omega, rfl, rfl, ct_c_judge M w hI.1 hC (fun _ => "") (by omega) CPost.x1, fun v M1 hv => ?_, fun E M1 hv => ?_⟩
  rotate_left
  · obtain ⟨e, -⟩ := hv.no (fun v => v.toInt64) hI (fun len' e => by rw [e]; exact hI.2.2.2.2.2)
    exact e (by have := ok.2; omega)
  obtain ⟨P1, A1, E1, len1, rfl, hK, hC1, hv⟩ := hv
  rcases hv with ⟨e, hv⟩ | ⟨e, hv⟩
  rotate_left
  · cases hv
  cases hv
  have hH := hI.cls hK hC1 hI.2.2.2.2.2
  show EvT [] l G d mLw_law_ 1318 [.ref 98, .ref 100, .ref 206, .ref 3483, .int (nI i), u5, u6] [.int _] M1 bc bs Φ
  refine bLw_law__1318 hSC M1 100 206 3483 (nI i) u5 u6 _ ?_
  refine ⟨hH.2.1.1.c, d - 1, 0, 0, bc, bs, _, by omega, by omega, by omega, ct_r_judge M1 w hI.1 hH.2.1 (by omega) RPost.x1, fun v M2 hv => ?_, fun E M2 hv => by cases hv.2.2.2⟩
  obtain ⟨hF, hR, ht, hv⟩ := hv
  cases hv
  show EvT [] l G d mLw_law_ 1322 [.ref 98, .ref 100, .ref 206, .ref 3483, .int (nI i), u5, u6] [.int _, .int _] M2 bc bs Φ
  exact bLw_law__1322 hSC M2 100 206 3483 (nI i) u5 u6 _ _ ⟨fun _ => K M2 _ u5 u6 (hH.rf ok.1 hF hR), fun z => absurd rfl z⟩
theorem lc_again (hSC : SC G L xs) (hl : l.stackTraces = false) (hL : L ≤ 3072) (M : Mm) {i len : Nat} (hi : i + 5 < L) {w : Wd} (hI : LI M w len) (u5 u6 : Value) (hd : 40 < d) (K : ∀ M' w' u5 u6, LI M' w' len → EvT [] l G d mLw_law_ 1843 [.ref 98, .ref 100, .ref 206, .ref 3483, .int (nI i), u5, u6] [] M' bc bs Φ) : EvT [] l G d mLw_law_ 1327 [.ref 98, .ref 100, .ref 206, .ref 3483, .int (nI i), u5, u6] [] M (4 + bc) (24 + bs) Φ := by
  obtain ⟨P, A, E, hC⟩ := hI.2.1
  have ok := (ok_again hI.1 (xs (i + 1)) (xs (i + 2)) (xs (i + 3)))
  have hQ : ∀ len', (fun len' => len' = len) len' → len' ≤ 15625 := (fun len' e => by rw [e]; exact hI.2.2.2.2.2)
  refine bLw_law__1327 hSC M 100 206 3483 (nI i) u5 u6 ?_
  rw [(show (nI i + 1).toNatClampNeg = i + 1 from (vi_k hi hL (k := 1) (by omega)).2), (show (nI i + 2).toNatClampNeg = i + 2 from (vi_k hi hL (k := 2) (by omega)).2), (show (nI i + 3).toNatClampNeg = i + 3 from (vi_k hi hL (k := 3) (by omega)).2)]
  refine ⟨(vi_k hi hL (k := 1) (by omega)).1, (vi_k hi hL (k := 2) (by omega)).1, (vi_k hi hL (k := 3) (by omega)).1, d - 1, 4, 24, bc, bs, HR w (aAgain w (xs (i + 1)) (xs (i + 2)) (xs (i + 3))) (fun v => v.toInt64) (fun len' => len' = len), by omega, rfl, rfl, cLw_again (d2 := d - 2) (Ψ := ex1 (aAgain w (xs (i + 1)) (xs (i + 2)) (xs (i + 3))) exN M (fun len' => len' = len)) M (xs (i + 1)) (xs (i + 2)) (xs (i + 3)) hC.1.1.1 (by omega) (ct_c_again M w hI.1 hC hl _ _ _ (by omega) CPost.x1) (fun v9 M' hv => hv.ok (fun v => v.toInt64) hI hQ ok.1) (fun E M' hv => hv.no2 (fun v => v.toInt64) hI hQ ok.2), fun v M1 hv => ?_, fun E M1 hv => by cases hv.1⟩
  obtain ⟨hv, len1, hq, hH, hout⟩ := hv
  cases hv
  have hq : len1 = len := hq
  subst hq
  show EvT [] l G d mLw_law_ 1350 [.ref 98, .ref 100, .ref 206, .ref 3483, .int (nI i), u5, u6] [.int _] M1 bc bs Φ
  refine bLw_law__1350 hSC M1 100 206 3483 (nI i) u5 u6 _ ?_
  rw [(show (nI i + 1).toNatClampNeg = i + 1 from (vi_k hi hL (k := 1) (by omega)).2), (show (nI i + 2).toNatClampNeg = i + 2 from (vi_k hi hL (k := 2) (by omega)).2), (show (nI i + 3).toNatClampNeg = i + 3 from (vi_k hi hL (k := 3) (by omega)).2)]
  refine ⟨(vi_k hi hL (k := 1) (by omega)).1, (vi_k hi hL (k := 2) (by omega)).1, (vi_k hi hL (k := 3) (by omega)).1, hH.2.1.1.c, d - 1, 0, 0, bc, bs, _, by omega, by omega, by omega, ct_r_again M1 w hI.1 hH.2.1 _ _ _ (by omega) RPost.x1, fun v M2 hv => ?_, fun E M2 hv => by cases hv.2.2.2⟩
  obtain ⟨hF, hR, ht, hv⟩ := hv
  cases hv
  have hLI := hH.rf ok.1 hF hR
  show EvT [] l G d mLw_law_ 1374 [.ref 98, .ref 100, .ref 206, .ref 3483, .int (nI i), .int (nI (aAgain w (xs (i + 1)) (xs (i + 2)) (xs (i + 3))).1), u6] [.int _] M2 bc bs Φ
  refine bLw_law__1374 hSC M2 100 206 3483 (nI i) _ u6 _ ⟨hLI.2.2.1.1.c, d - 1, 0, 0, bc, bs, fun o M3 => M3 = M2 ∧ o = .inl (some (.int (m_i M2 206 0))), by omega, by omega, by omega, ct_thrown M2 hLI.2.2.1.1 ⟨rfl, rfl⟩, fun v M3 hv => ?_, fun E M3 hv => by cases hv.2⟩
  obtain ⟨rfl, hv⟩ := hv
  cases hv
  show EvT [] l G d mLw_law_ 1380 [.ref 98, .ref 100, .ref 206, .ref 3483, .int (nI i), .int (nI (aAgain w (xs (i + 1)) (xs (i + 2)) (xs (i + 3))).1), .int (aAgain w (xs (i + 1)) (xs (i + 2)) (xs (i + 3))).2.1] [.int _] M3 bc bs Φ
  rw [ht]
  have fin : EvT [] l G d mLw_law_ 1404 [.ref 98, .ref 100, .ref 206, .ref 3483, .int (nI i), .int (nI (aAgain w (xs (i + 1)) (xs (i + 2)) (xs (i + 3))).1), .int (aAgain w (xs (i + 1)) (xs (i + 2)) (xs (i + 3))).2.1] [] M3 bc bs Φ := bLw_law__1404 hSC M3 100 206 3483 (nI i) _ _ (K M3 _ _ _ hLI)
  have h22 := hLI.2.2.2.1
  refine bLw_law__1380 hSC M3 100 206 3483 (nI i) _ _ _ ⟨fun _ => ⟨fun _ => fin, fun z => ⟨by rw [h22], by rw [h22]; exact vp_in_dec rfl, fun _ => fin, fun y => absurd ?_ y⟩⟩, fun z => absurd rfl z⟩
  have ho := hout ((i_0 (by have := ok.2; omega)).mp z)
  rw [lg_cmp0, hF.2.2.1]
  exact ho
theorem lc_plan (hSC : SC G L xs) (hl : l.stackTraces = false) (hL : L ≤ 3072) (M : Mm) {i len : Nat} (hi : i + 5 < L) {w : Wd} (hI : LI M w len) (u5 u6 : Value) (hd : 40 < d) (K : ∀ M' w' u5 u6, LI M' w' len → EvT [] l G d mLw_law_ 1843 [.ref 98, .ref 100, .ref 206, .ref 3483, .int (nI i), u5, u6] [] M' bc bs Φ) : EvT [] l G d mLw_law_ 1407 [.ref 98, .ref 100, .ref 206, .ref 3483, .int (nI i), u5, u6] [] M (4 + bc) (24 + bs) Φ := by
  obtain ⟨P, A, E, hC⟩ := hI.2.1
  have ok := (ok_plan hI.1 (xs (i + 1)) (xs (i + 2)))
  have hQ : ∀ len', (fun len' => len' = len) len' → len' ≤ 15625 := (fun len' e => by rw [e]; exact hI.2.2.2.2.2)
  refine bLw_law__1407 hSC M 100 206 3483 (nI i) u5 u6 ?_
  rw [(show (nI i + 1).toNatClampNeg = i + 1 from (vi_k hi hL (k := 1) (by omega)).2), (show (nI i + 2).toNatClampNeg = i + 2 from (vi_k hi hL (k := 2) (by omega)).2)]
  refine ⟨(vi_k hi hL (k := 1) (by omega)).1, (vi_k hi hL (k := 2) (by omega)).1, d - 1, 4, 24, bc, bs, HR w (aPlan w (xs (i + 1)) (xs (i + 2))) (fun v => v.toInt64) (fun len' => len' = len), by omega, rfl, rfl, cLw_plan (d2 := d - 2) (Ψ := ex1 (aPlan w (xs (i + 1)) (xs (i + 2))) exN M (fun len' => len' = len)) M (xs (i + 1)) (xs (i + 2)) hC.1.1.1 (by omega) (ct_c_plan M w hI.1 hC hl _ _ (by omega) CPost.x1) (fun v9 M' hv => hv.ok (fun v => v.toInt64) hI hQ ok.1) (fun E M' hv => hv.no2 (fun v => v.toInt64) hI hQ ok.2), fun v M1 hv => ?_, fun E M1 hv => by cases hv.1⟩
  obtain ⟨hv, len1, hq, hH, hout⟩ := hv
  cases hv
  have hq : len1 = len := hq
  subst hq
  show EvT [] l G d mLw_law_ 1424 [.ref 98, .ref 100, .ref 206, .ref 3483, .int (nI i), u5, u6] [.int _] M1 bc bs Φ
  refine bLw_law__1424 hSC M1 100 206 3483 (nI i) u5 u6 _ ?_
  rw [(show (nI i + 1).toNatClampNeg = i + 1 from (vi_k hi hL (k := 1) (by omega)).2), (show (nI i + 2).toNatClampNeg = i + 2 from (vi_k hi hL (k := 2) (by omega)).2)]
  refine ⟨(vi_k hi hL (k := 1) (by omega)).1, (vi_k hi hL (k := 2) (by omega)).1, hH.2.1.1.c, d - 1, 0, 0, bc, bs, _, by omega, by omega, by omega, ct_r_plan M1 w hI.1 hH.2.1 _ _ (by omega) RPost.x1, fun v M2 hv => ?_, fun E M2 hv => by cases hv.2.2.2⟩
  obtain ⟨hF, hR, ht, hv⟩ := hv
  cases hv
  have hLI := hH.rf ok.1 hF hR
  show EvT [] l G d mLw_law_ 1442 [.ref 98, .ref 100, .ref 206, .ref 3483, .int (nI i), .int (nI (aPlan w (xs (i + 1)) (xs (i + 2))).1), u6] [.int _] M2 bc bs Φ
  refine bLw_law__1442 hSC M2 100 206 3483 (nI i) _ u6 _ ⟨hLI.2.2.1.1.c, d - 1, 0, 0, bc, bs, fun o M3 => M3 = M2 ∧ o = .inl (some (.int (m_i M2 206 0))), by omega, by omega, by omega, ct_thrown M2 hLI.2.2.1.1 ⟨rfl, rfl⟩, fun v M3 hv => ?_, fun E M3 hv => by cases hv.2⟩
  obtain ⟨rfl, hv⟩ := hv
  cases hv
  show EvT [] l G d mLw_law_ 1448 [.ref 98, .ref 100, .ref 206, .ref 3483, .int (nI i), .int (nI (aPlan w (xs (i + 1)) (xs (i + 2))).1), .int (aPlan w (xs (i + 1)) (xs (i + 2))).2.1] [.int _] M3 bc bs Φ
  rw [ht]
  have fin : EvT [] l G d mLw_law_ 1472 [.ref 98, .ref 100, .ref 206, .ref 3483, .int (nI i), .int (nI (aPlan w (xs (i + 1)) (xs (i + 2))).1), .int (aPlan w (xs (i + 1)) (xs (i + 2))).2.1] [] M3 bc bs Φ := bLw_law__1472 hSC M3 100 206 3483 (nI i) _ _ (K M3 _ _ _ hLI)
  have h22 := hLI.2.2.2.1
  refine bLw_law__1448 hSC M3 100 206 3483 (nI i) _ _ _ ⟨fun _ => ⟨fun _ => fin, fun z => ⟨by rw [h22], by rw [h22]; exact vp_in_dec rfl, fun _ => fin, fun y => absurd ?_ y⟩⟩, fun z => absurd rfl z⟩
  have ho := hout ((i_0 (by have := ok.2; omega)).mp z)
  rw [lg_cmp0, hF.2.2.1]
  exact ho
theorem lc_best (hSC : SC G L xs) (hl : l.stackTraces = false) (hL : L ≤ 3072) (M : Mm) {i len : Nat} (hi : i + 5 < L) {w : Wd} (hI : LI M w len) (u5 u6 : Value) (hd : 40 < d) (K : ∀ M' w' u5 u6, LI M' w' len → EvT [] l G d mLw_law_ 1843 [.ref 98, .ref 100, .ref 206, .ref 3483, .int (nI i), u5, u6] [] M' bc bs Φ) : EvT [] l G d mLw_law_ 1475 [.ref 98, .ref 100, .ref 206, .ref 3483, .int (nI i), u5, u6] [] M (4 + bc) (24 + bs) Φ := by
  obtain ⟨P, A, E, hC⟩ := hI.2.1
  have ok := (ok_best hI.1 (xs (i + 1)) (xs (i + 2)))
  have hQ : ∀ len', (fun len' => len' = len) len' → len' ≤ 15625 := (fun len' e => by rw [e]; exact hI.2.2.2.2.2)
  refine bLw_law__1475 hSC M 100 206 3483 (nI i) u5 u6 ?_
  rw [(show (nI i + 1).toNatClampNeg = i + 1 from (vi_k hi hL (k := 1) (by omega)).2), (show (nI i + 2).toNatClampNeg = i + 2 from (vi_k hi hL (k := 2) (by omega)).2)]
  refine ⟨(vi_k hi hL (k := 1) (by omega)).1, (vi_k hi hL (k := 2) (by omega)).1, d - 1, 4, 24, bc, bs, HR w (aBest w (xs (i + 1)) (xs (i + 2))) (fun v => v.toInt64) (fun len' => len' = len), by omega, rfl, rfl, cLw_best (d2 := d - 2) (Ψ := ex1 (aBest w (xs (i + 1)) (xs (i + 2))) exN M (fun len' => len' = len)) M (xs (i + 1)) (xs (i + 2)) hC.1.1.1 (by omega) (ct_c_best M w hI.1 hC hl _ _ (by omega) CPost.x1) (fun v9 M' hv => hv.ok (fun v => v.toInt64) hI hQ ok.1) (fun E M' hv => hv.no2 (fun v => v.toInt64) hI hQ ok.2), fun v M1 hv => ?_, fun E M1 hv => by cases hv.1⟩
  obtain ⟨hv, len1, hq, hH, hout⟩ := hv
  cases hv
  have hq : len1 = len := hq
  subst hq
  show EvT [] l G d mLw_law_ 1492 [.ref 98, .ref 100, .ref 206, .ref 3483, .int (nI i), u5, u6] [.int _] M1 bc bs Φ
  refine bLw_law__1492 hSC M1 100 206 3483 (nI i) u5 u6 _ ?_
  rw [(show (nI i + 1).toNatClampNeg = i + 1 from (vi_k hi hL (k := 1) (by omega)).2), (show (nI i + 2).toNatClampNeg = i + 2 from (vi_k hi hL (k := 2) (by omega)).2)]
  refine ⟨(vi_k hi hL (k := 1) (by omega)).1, (vi_k hi hL (k := 2) (by omega)).1, hH.2.1.1.c, d - 1, 0, 0, bc, bs, _, by omega, by omega, by omega, ct_r_best M1 w hI.1 hH.2.1 _ _ (by omega) RPost.x1, fun v M2 hv => ?_, fun E M2 hv => by cases hv.2.2.2⟩
  obtain ⟨hF, hR, ht, hv⟩ := hv
  cases hv
  have hLI := hH.rf ok.1 hF hR
  show EvT [] l G d mLw_law_ 1510 [.ref 98, .ref 100, .ref 206, .ref 3483, .int (nI i), .int (nI (aBest w (xs (i + 1)) (xs (i + 2))).1), u6] [.int _] M2 bc bs Φ
  refine bLw_law__1510 hSC M2 100 206 3483 (nI i) _ u6 _ ⟨hLI.2.2.1.1.c, d - 1, 0, 0, bc, bs, fun o M3 => M3 = M2 ∧ o = .inl (some (.int (m_i M2 206 0))), by omega, by omega, by omega, ct_thrown M2 hLI.2.2.1.1 ⟨rfl, rfl⟩, fun v M3 hv => ?_, fun E M3 hv => by cases hv.2⟩
  obtain ⟨rfl, hv⟩ := hv
  cases hv
  show EvT [] l G d mLw_law_ 1516 [.ref 98, .ref 100, .ref 206, .ref 3483, .int (nI i), .int (nI (aBest w (xs (i + 1)) (xs (i + 2))).1), .int (aBest w (xs (i + 1)) (xs (i + 2))).2.1] [.int _] M3 bc bs Φ
  rw [ht]
  have fin : EvT [] l G d mLw_law_ 1540 [.ref 98, .ref 100, .ref 206, .ref 3483, .int (nI i), .int (nI (aBest w (xs (i + 1)) (xs (i + 2))).1), .int (aBest w (xs (i + 1)) (xs (i + 2))).2.1] [] M3 bc bs Φ := bLw_law__1540 hSC M3 100 206 3483 (nI i) _ _ (K M3 _ _ _ hLI)
  have h22 := hLI.2.2.2.1
  refine bLw_law__1516 hSC M3 100 206 3483 (nI i) _ _ _ ⟨fun _ => ⟨fun _ => fin, fun z => ⟨by rw [h22], by rw [h22]; exact vp_in_dec rfl, fun _ => fin, fun y => absurd ?_ y⟩⟩, fun z => absurd rfl z⟩
  have ho := hout ((i_0 (by have := ok.2; omega)).mp z)
  rw [lg_cmp0, hF.2.2.1]
  exact ho
theorem lc_gain (hSC : SC G L xs) (hl : l.stackTraces = false) (hL : L ≤ 3072) (M : Mm) {i len : Nat} (hi : i + 5 < L) {w : Wd} (hI : LI M w len) (u5 u6 : Value) (hd : 40 < d) (K : ∀ M' w' u5 u6, LI M' w' len → EvT [] l G d mLw_law_ 1843 [.ref 98, .ref 100, .ref 206, .ref 3483, .int (nI i), u5, u6] [] M' bc bs Φ) : EvT [] l G d mLw_law_ 1543 [.ref 98, .ref 100, .ref 206, .ref 3483, .int (nI i), u5, u6] [] M (4 + bc) (24 + bs) Φ := by
  obtain ⟨P, A, E, hC⟩ := hI.2.1
  have ok := (ok_gain hI.1 (xs (i + 1)) (xs (i + 2)))
  have hQ : ∀ len', (fun len' => len' = len) len' → len' ≤ 15625 := (fun len' e => by rw [e]; exact hI.2.2.2.2.2)
  refine bLw_law__1543 hSC M 100 206 3483 (nI i) u5 u6 ?_
  rw [(show (nI i + 1).toNatClampNeg = i + 1 from (vi_k hi hL (k := 1) (by omega)).2), (show (nI i + 2).toNatClampNeg = i + 2 from (vi_k hi hL (k := 2) (by omega)).2)]
  refine ⟨(vi_k hi hL (k := 1) (by omega)).1, (vi_k hi hL (k := 2) (by omega)).1, d - 1, 4, 24, bc, bs, HR w (aGain w (xs (i + 1)) (xs (i + 2))) (fun v => v.toInt64) (fun len' => len' = len), by omega, rfl, rfl, cLw_gain (d2 := d - 2) (Ψ := ex1 (aGain w (xs (i + 1)) (xs (i + 2))) exN M (fun len' => len' = len)) M (xs (i + 1)) (xs (i + 2)) hC.1.1.1 (by omega) (ct_c_gain M w hI.1 hC hl _ _ (by omega) CPost.x1) (fun v9 M' hv => hv.ok (fun v => v.toInt64) hI hQ ok.1) (fun E M' hv => hv.no2 (fun v => v.toInt64) hI hQ ok.2), fun v M1 hv => ?_, fun E M1 hv => by cases hv.1⟩
  obtain ⟨hv, len1, hq, hH, hout⟩ := hv
  cases hv
  have hq : len1 = len := hq
  subst hq
  show EvT [] l G d mLw_law_ 1560 [.ref 98, .ref 100, .ref 206, .ref 3483, .int (nI i), u5, u6] [.int _] M1 bc bs Φ
  refine bLw_law__1560 hSC M1 100 206 3483 (nI i) u5 u6 _ ?_
  rw [(show (nI i + 1).toNatClampNeg = i + 1 from (vi_k hi hL (k := 1) (by omega)).2), (show (nI i + 2).toNatClampNeg = i + 2 from (vi_k hi hL (k := 2) (by omega)).2)]
  refine ⟨(vi_k hi hL (k := 1) (by omega)).1, (vi_k hi hL (k := 2) (by omega)).1, hH.2.1.1.c, d - 1, 0, 0, bc, bs, _, by omega, by omega, by omega, ct_r_gain M1 w hI.1 hH.2.1 _ _ (by omega) RPost.x1, fun v M2 hv => ?_, fun E M2 hv => by cases hv.2.2.2⟩
  obtain ⟨hF, hR, ht, hv⟩ := hv
  cases hv
  have hLI := hH.rf ok.1 hF hR
  show EvT [] l G d mLw_law_ 1578 [.ref 98, .ref 100, .ref 206, .ref 3483, .int (nI i), .int (nI (aGain w (xs (i + 1)) (xs (i + 2))).1), u6] [.int _] M2 bc bs Φ
  refine bLw_law__1578 hSC M2 100 206 3483 (nI i) _ u6 _ ⟨hLI.2.2.1.1.c, d - 1, 0, 0, bc, bs, fun o M3 => M3 = M2 ∧ o = .inl (some (.int (m_i M2 206 0))), by omega, by omega, by omega, ct_thrown M2 hLI.2.2.1.1 ⟨rfl, rfl⟩, fun v M3 hv => ?_, fun E M3 hv => by cases hv.2⟩
  obtain ⟨rfl, hv⟩ := hv
  cases hv
  show EvT [] l G d mLw_law_ 1584 [.ref 98, .ref 100, .ref 206, .ref 3483, .int (nI i), .int (nI (aGain w (xs (i + 1)) (xs (i + 2))).1), .int (aGain w (xs (i + 1)) (xs (i + 2))).2.1] [.int _] M3 bc bs Φ
  rw [ht]
  have fin : EvT [] l G d mLw_law_ 1608 [.ref 98, .ref 100, .ref 206, .ref 3483, .int (nI i), .int (nI (aGain w (xs (i + 1)) (xs (i + 2))).1), .int (aGain w (xs (i + 1)) (xs (i + 2))).2.1] [] M3 bc bs Φ := bLw_law__1608 hSC M3 100 206 3483 (nI i) _ _ (K M3 _ _ _ hLI)
  have h22 := hLI.2.2.2.1
  refine bLw_law__1584 hSC M3 100 206 3483 (nI i) _ _ _ ⟨fun _ => ⟨fun _ => fin, fun z => ⟨by rw [h22], by rw [h22]; exact vp_in_dec rfl, fun _ => fin, fun y => absurd ?_ y⟩⟩, fun z => absurd rfl z⟩
  have ho := hout ((i_0 (by have := ok.2; omega)).mp z)
  rw [lg_cmp0, hF.2.2.1]
  exact ho
theorem lc_rest (hSC : SC G L xs) (hl : l.stackTraces = false) (hL : L ≤ 3072) (M : Mm) {i len : Nat} (hi : i + 5 < L) {w : Wd} (hI : LI M w len) (u5 u6 : Value) (hd : 40 < d) (b0 : Nat) (hb0 : WN M w len (xs (i + 1)) → 5 ^ w_n w * w_n w ≤ b0) (K : ∀ M' w' len' u5 u6, WQ M w len (xs (i + 1)) len' → LI M' w' len' → EvT [] l G d mLw_law_ 1843 [.ref 98, .ref 100, .ref 206, .ref 3483, .int (nI i), u5, u6] [] M' bc bs Φ) : EvT [] l G d mLw_law_ 1611 [.ref 98, .ref 100, .ref 206, .ref 3483, .int (nI i), u5, u6] [] M (4 + bc) (24 + b0 + bs) Φ := by
  obtain ⟨P, A, E, hC⟩ := hI.2.1
  have ok := (ok_rest hI.1 (xs (i + 1)))
  have hQ : ∀ len', (WQ M w len (xs (i + 1))) len' → len' ≤ 15625 := (fun len' q => (Classical.em (WN M w len (xs (i + 1)))).elim (fun z => by rw [q.1 z]; exact (gr_S z.2.1 z.2.2.2).2) (fun z => by rw [q.2 z]; exact hI.2.2.2.2.2))
  refine bLw_law__1611 hSC M 100 206 3483 (nI i) u5 u6 ?_
  rw [(show (nI i + 1).toNatClampNeg = i + 1 from (vi_k hi hL (k := 1) (by omega)).2)]
  refine ⟨(vi_k hi hL (k := 1) (by omega)).1, d - 1, 4, 24 + b0, bc, bs, HR w (aRest w (xs (i + 1))) (fun v => v.toInt64) (WQ M w len (xs (i + 1))), by omega, rfl, rfl, cLw_rest (d2 := d - 2) (Ψ := ex1 (aRest w (xs (i + 1))) exS M (WQ M w len (xs (i + 1)))) M (xs (i + 1)) hC.1.1.1 (by omega) (ct_c_rest2 M w hI.1 hC hl hI.2.2.2.2.2 hI.2.2.2.2.1 b0 (xs (i + 1)) hb0 (by omega) CPostQ.x1) (fun v9 M' hv => hv.ok (fun v => v.toInt64) hI hQ ok.1) (fun E M' hv => hv.no2 (fun v => v.toInt64) hI hQ ok.2), fun v M1 hv => ?_, fun E M1 hv => by cases hv.1⟩
  obtain ⟨hv, len1, hq, hH, hout⟩ := hv
  cases hv
  show EvT [] l G d mLw_law_ 1622 [.ref 98, .ref 100, .ref 206, .ref 3483, .int (nI i), u5, u6] [.int _] M1 bc bs Φ
  refine bLw_law__1622 hSC M1 100 206 3483 (nI i) u5 u6 _ ?_
  rw [(show (nI i + 1).toNatClampNeg = i + 1 from (vi_k hi hL (k := 1) (by omega)).2)]
  refine ⟨(vi_k hi hL (k := 1) (by omega)).1, hH.2.1.1.c, d - 1, 0, 0, bc, bs, _, by omega, by omega, by omega, ct_r_rest M1 w hI.1 hH.2.1 _ (by omega) RPost.x1, fun v M2 hv => ?_, fun E M2 hv => by cases hv.2.2.2⟩
  obtain ⟨hF, hR, ht, hv⟩ := hv
  cases hv
  have hLI := hH.rf ok.1 hF hR
  show EvT [] l G d mLw_law_ 1634 [.ref 98, .ref 100, .ref 206, .ref 3483, .int (nI i), .int (nI (aRest w (xs (i + 1))).1), u6] [.int _] M2 bc bs Φ
  refine bLw_law__1634 hSC M2 100 206 3483 (nI i) _ u6 _ ⟨hLI.2.2.1.1.c, d - 1, 0, 0, bc, bs, fun o M3 => M3 = M2 ∧ o = .inl (some (.int (m_i M2 206 0))), by omega, by omega, by omega, ct_thrown M2 hLI.2.2.1.1 ⟨rfl, rfl⟩, fun v M3 hv => ?_, fun E M3 hv => by cases hv.2⟩
  obtain ⟨rfl, hv⟩ := hv
  cases hv
  show EvT [] l G d mLw_law_ 1640 [.ref 98, .ref 100, .ref 206, .ref 3483, .int (nI i), .int (nI (aRest w (xs (i + 1))).1), .int (aRest w (xs (i + 1))).2.1] [.int _] M3 bc bs Φ
  rw [ht]
  have fin : EvT [] l G d mLw_law_ 1664 [.ref 98, .ref 100, .ref 206, .ref 3483, .int (nI i), .int (nI (aRest w (xs (i + 1))).1), .int (aRest w (xs (i + 1))).2.1] [] M3 bc bs Φ := bLw_law__1664 hSC M3 100 206 3483 (nI i) _ _ (K M3 _ _ _ _ hq hLI)
  have h22 := hLI.2.2.2.1
  refine bLw_law__1640 hSC M3 100 206 3483 (nI i) _ _ _ ⟨fun _ => ⟨fun _ => fin, fun z => ⟨by rw [h22], by rw [h22]; exact vp_in_dec rfl, fun _ => fin, fun y => absurd ?_ y⟩⟩, fun z => absurd rfl z⟩
  have ho := hout ((i_0 (by have := ok.2; omega)).mp z)
  rw [lg_cmp0, hF.2.2.1]
  exact ho
theorem lc_polite (hSC : SC G L xs) (hl : l.stackTraces = false) (hL : L ≤ 3072) (M : Mm) {i len : Nat} (hi : i + 5 < L) {w : Wd} (hI : LI M w len) (u5 u6 : Value) (hd : 40 < d) (b0 : Nat) (hb0 : WN M w len (xs (i + 1)) → 5 ^ w_n w * w_n w ≤ b0) (K : ∀ M' w' len' u5 u6, WQ M w len (xs (i + 1)) len' → LI M' w' len' → EvT [] l G d mLw_law_ 1843 [.ref 98, .ref 100, .ref 206, .ref 3483, .int (nI i), u5, u6] [] M' bc bs Φ) : EvT [] l G d mLw_law_ 1667 [.ref 98, .ref 100, .ref 206, .ref 3483, .int (nI i), u5, u6] [] M (4 + bc) (24 + b0 + bs) Φ := by
  obtain ⟨P, A, E, hC⟩ := hI.2.1
  have ok := (ok_polite hI.1 (xs (i + 1)))
  have hQ : ∀ len', (WQ M w len (xs (i + 1))) len' → len' ≤ 15625 := (fun len' q => (Classical.em (WN M w len (xs (i + 1)))).elim (fun z => by rw [q.1 z]; exact (gr_S z.2.1 z.2.2.2).2) (fun z => by rw [q.2 z]; exact hI.2.2.2.2.2))
  refine bLw_law__1667 hSC M 100 206 3483 (nI i) u5 u6 ?_
  rw [(show (nI i + 1).toNatClampNeg = i + 1 from (vi_k hi hL (k := 1) (by omega)).2)]
  refine ⟨(vi_k hi hL (k := 1) (by omega)).1, d - 1, 4, 24 + b0, bc, bs, HR w (aPolite w (xs (i + 1))) (fun v => v.toInt64) (WQ M w len (xs (i + 1))), by omega, rfl, rfl, cLw_polite (d2 := d - 2) (Ψ := ex1 (aPolite w (xs (i + 1))) exS M (WQ M w len (xs (i + 1)))) M (xs (i + 1)) hC.1.1.1 (by omega) (ct_c_polite2 M w hI.1 hC hl hI.2.2.2.2.2 hI.2.2.2.2.1 b0 (xs (i + 1)) hb0 (by omega) CPostQ.x1) (fun v9 M' hv => hv.ok (fun v => v.toInt64) hI hQ ok.1) (fun E M' hv => hv.no2 (fun v => v.toInt64) hI hQ ok.2), fun v M1 hv => ?_, fun E M1 hv => by cases hv.1⟩
  obtain ⟨hv, len1, hq, hH, hout⟩ := hv
  cases hv
  show EvT [] l G d mLw_law_ 1678 [.ref 98, .ref 100, .ref 206, .ref 3483, .int (nI i), u5, u6] [.int _] M1 bc bs Φ
  refine bLw_law__1678 hSC M1 100 206 3483 (nI i) u5 u6 _ ?_
  rw [(show (nI i + 1).toNatClampNeg = i + 1 from (vi_k hi hL (k := 1) (by omega)).2)]
  refine ⟨(vi_k hi hL (k := 1) (by omega)).1, hH.2.1.1.c, d - 1, 0, 0, bc, bs, _, by omega, by omega, by omega, ct_r_polite M1 w hI.1 hH.2.1 _ (by omega) RPost.x1, fun v M2 hv => ?_, fun E M2 hv => by cases hv.2.2.2⟩
  obtain ⟨hF, hR, ht, hv⟩ := hv
  cases hv
  have hLI := hH.rf ok.1 hF hR
  show EvT [] l G d mLw_law_ 1690 [.ref 98, .ref 100, .ref 206, .ref 3483, .int (nI i), .int (nI (aPolite w (xs (i + 1))).1), u6] [.int _] M2 bc bs Φ
  refine bLw_law__1690 hSC M2 100 206 3483 (nI i) _ u6 _ ⟨hLI.2.2.1.1.c, d - 1, 0, 0, bc, bs, fun o M3 => M3 = M2 ∧ o = .inl (some (.int (m_i M2 206 0))), by omega, by omega, by omega, ct_thrown M2 hLI.2.2.1.1 ⟨rfl, rfl⟩, fun v M3 hv => ?_, fun E M3 hv => by cases hv.2⟩
  obtain ⟨rfl, hv⟩ := hv
  cases hv
  show EvT [] l G d mLw_law_ 1696 [.ref 98, .ref 100, .ref 206, .ref 3483, .int (nI i), .int (nI (aPolite w (xs (i + 1))).1), .int (aPolite w (xs (i + 1))).2.1] [.int _] M3 bc bs Φ
  rw [ht]
  have fin : EvT [] l G d mLw_law_ 1720 [.ref 98, .ref 100, .ref 206, .ref 3483, .int (nI i), .int (nI (aPolite w (xs (i + 1))).1), .int (aPolite w (xs (i + 1))).2.1] [] M3 bc bs Φ := bLw_law__1720 hSC M3 100 206 3483 (nI i) _ _ (K M3 _ _ _ _ hq hLI)
  have h22 := hLI.2.2.2.1
  refine bLw_law__1696 hSC M3 100 206 3483 (nI i) _ _ _ ⟨fun _ => ⟨fun _ => fin, fun z => ⟨by rw [h22], by rw [h22]; exact vp_in_dec rfl, fun _ => fin, fun y => absurd ?_ y⟩⟩, fun z => absurd rfl z⟩
  have ho := hout ((i_0 (by have := ok.2; omega)).mp z)
  rw [lg_cmp0, hF.2.2.1]
  exact ho
theorem lc_struck (hSC : SC G L xs) (hl : l.stackTraces = false) (hL : L ≤ 3072) (M : Mm) {i len : Nat} (hi : i + 5 < L) {w : Wd} (hI : LI M w len) (u5 u6 : Value) (hd : 40 < d) (K : ∀ M' w' u5 u6, LI M' w' len → EvT [] l G d mLw_law_ 1843 [.ref 98, .ref 100, .ref 206, .ref 3483, .int (nI i), u5, u6] [] M' bc bs Φ) : EvT [] l G d mLw_law_ 1723 [.ref 98, .ref 100, .ref 206, .ref 3483, .int (nI i), u5, u6] [] M (4 + bc) (24 + bs) Φ := by
  obtain ⟨P, A, E, hC⟩ := hI.2.1
  have ok := (ok_struck hI.1 (xs (i + 1)))
  have hQ : ∀ len', (fun len' => len' = len) len' → len' ≤ 15625 := (fun len' e => by rw [e]; exact hI.2.2.2.2.2)
  refine bLw_law__1723 hSC M 100 206 3483 (nI i) u5 u6 ?_
  rw [(show (nI i + 1).toNatClampNeg = i + 1 from (vi_k hi hL (k := 1) (by omega)).2)]
  refine ⟨(vi_k hi hL (k := 1) (by omega)).1, d - 1, 4, 24, bc, bs, HR w (aStruck w (xs (i + 1))) (fun v => v.toInt64) (fun len' => len' = len), by omega, rfl, rfl, cLw_struck (d2 := d - 2) (Ψ := ex1 (aStruck w (xs (i + 1))) exI M (fun len' => len' = len)) M (xs (i + 1)) hC.1.1.1 (by omega) (ct_c_struck M w hI.1 hC hl _ (by omega) CPost.x1) (fun v9 M' hv => hv.ok (fun v => v.toInt64) hI hQ ok.1) (fun E M' hv => hv.no1 (fun v => v.toInt64) hI hQ ok.2), fun v M1 hv => ?_, fun E M1 hv => by cases hv.1⟩
  obtain ⟨hv, len1, hq, hH, hout⟩ := hv
  cases hv
  have hq : len1 = len := hq
  subst hq
  show EvT [] l G d mLw_law_ 1734 [.ref 98, .ref 100, .ref 206, .ref 3483, .int (nI i), u5, u6] [.int _] M1 bc bs Φ
  refine bLw_law__1734 hSC M1 100 206 3483 (nI i) u5 u6 _ ?_
  rw [(show (nI i + 1).toNatClampNeg = i + 1 from (vi_k hi hL (k := 1) (by omega)).2)]
  refine ⟨(vi_k hi hL (k := 1) (by omega)).1, hH.2.1.1.c, d - 1, 0, 0, bc, bs, _, by omega, by omega, by omega, ct_r_struck M1 w hI.1 hH.2.1 _ (by omega) RPost.x1, fun v M2 hv => ?_, fun E M2 hv => by cases hv.2.2.2⟩
  obtain ⟨hF, hR, ht, hv⟩ := hv
  cases hv
  have hLI := hH.rf ok.1 hF hR
  show EvT [] l G d mLw_law_ 1746 [.ref 98, .ref 100, .ref 206, .ref 3483, .int (nI i), .int (nI (aStruck w (xs (i + 1))).1), u6] [.int _] M2 bc bs Φ
  refine bLw_law__1746 hSC M2 100 206 3483 (nI i) _ u6 _ ⟨hLI.2.2.1.1.c, d - 1, 0, 0, bc, bs, fun o M3 => M3 = M2 ∧ o = .inl (some (.int (m_i M2 206 0))), by omega, by omega, by omega, ct_thrown M2 hLI.2.2.1.1 ⟨rfl, rfl⟩, fun v M3 hv => ?_, fun E M3 hv => by cases hv.2⟩
  obtain ⟨rfl, hv⟩ := hv
  cases hv
  show EvT [] l G d mLw_law_ 1752 [.ref 98, .ref 100, .ref 206, .ref 3483, .int (nI i), .int (nI (aStruck w (xs (i + 1))).1), .int (aStruck w (xs (i + 1))).2.1] [.int _] M3 bc bs Φ
  rw [ht]
  have fin : EvT [] l G d mLw_law_ 1776 [.ref 98, .ref 100, .ref 206, .ref 3483, .int (nI i), .int (nI (aStruck w (xs (i + 1))).1), .int (aStruck w (xs (i + 1))).2.1] [] M3 bc bs Φ := bLw_law__1776 hSC M3 100 206 3483 (nI i) _ _ (K M3 _ _ _ hLI)
  have h22 := hLI.2.2.2.1
  refine bLw_law__1752 hSC M3 100 206 3483 (nI i) _ _ _ ⟨fun _ => ⟨fun _ => fin, fun z => ⟨by rw [h22], by rw [h22]; exact vp_in_dec rfl, fun _ => fin, fun y => absurd ?_ y⟩⟩, fun z => absurd rfl z⟩
  have ho := hout ((i_0 (by have := ok.2; omega)).mp z)
  rw [lg_cmp0, hF.2.2.1]
  exact ho
theorem lc_hopeless (hSC : SC G L xs) (hl : l.stackTraces = false) (hL : L ≤ 3072) (M : Mm) {i len : Nat} (hi : i + 5 < L) {w : Wd} (hI : LI M w len) (u5 u6 : Value) (hd : 40 < d) (K : ∀ M' w' u5 u6, LI M' w' len → EvT [] l G d mLw_law_ 1843 [.ref 98, .ref 100, .ref 206, .ref 3483, .int (nI i), u5, u6] [] M' bc bs Φ) : EvT [] l G d mLw_law_ 1779 [.ref 98, .ref 100, .ref 206, .ref 3483, .int (nI i), u5, u6] [] M (4 + bc) (24 + bs) Φ := by
  obtain ⟨P, A, E, hC⟩ := hI.2.1
  have ok := (ok_hopeless hI.1)
  refine bLw_law__1779 hSC M 100 206 3483 (nI i) u5 u6 ?_
  refine ⟨hC.1.1.1, d - 1, 4, 24, bc, bs, _, by omega, rfl, rfl, ct_c_hopeless M w hI.1 hC (fun _ => "") (by omega) CPost.x1, fun v M1 hv => ?_, fun E M1 hv => ?_⟩
  rotate_left
  · obtain ⟨e, -⟩ := hv.no (fun v => v.toInt64) hI (fun len' e => by rw [e]; exact hI.2.2.2.2.2)
    exact e (by have := ok.2; omega)
  obtain ⟨P1, A1, E1, len1, rfl, hK, hC1, hv⟩ := hv
  rcases hv with ⟨e, hv⟩ | ⟨e, hv⟩
  rotate_left
  · cases hv
  cases hv
  have hH := hI.cls hK hC1 hI.2.2.2.2.2
  show EvT [] l G d mLw_law_ 1783 [.ref 98, .ref 100, .ref 206, .ref 3483, .int (nI i), u5, u6] [.int _] M1 bc bs Φ
  refine bLw_law__1783 hSC M1 100 206 3483 (nI i) u5 u6 _ ?_
  refine ⟨hH.2.1.1.c, d - 1, 0, 0, bc, bs, _, by omega, by omega, by omega, ct_r_hopeless M1 w hI.1 hH.2.1 (by omega) RPost.x1, fun v M2 hv => ?_, fun E M2 hv => by cases hv.2.2.2⟩
  obtain ⟨hF, hR, ht, hv⟩ := hv
  cases hv
  show EvT [] l G d mLw_law_ 1787 [.ref 98, .ref 100, .ref 206, .ref 3483, .int (nI i), u5, u6] [.int _, .int _] M2 bc bs Φ
  exact bLw_law__1787 hSC M2 100 206 3483 (nI i) u5 u6 _ _ ⟨fun _ => K M2 _ u5 u6 (hH.rf ok.1 hF hR), fun z => absurd rfl z⟩
theorem lc_image (hSC : SC G L xs) (hl : l.stackTraces = false) (hL : L ≤ 3072) (M : Mm) {i len : Nat} (hi : i + 5 < L) {w : Wd} (hI : LI M w len) (u5 u6 : Value) (hd : 40 < d) (K : ∀ M' w' u5 u6, LI M' w' len → EvT [] l G d mLw_law_ 1843 [.ref 98, .ref 100, .ref 206, .ref 3483, .int (nI i), u5, u6] [] M' bc bs Φ) : EvT [] l G d mLw_law_ 1792 [.ref 98, .ref 100, .ref 206, .ref 3483, .int (nI i), u5, u6] [] M (4 + bc) (24 + bs) Φ := by
  obtain ⟨P, A, E, hC⟩ := hI.2.1
  have ok := (ok_image hI.1)
  refine bLw_law__1792 hSC M 100 206 3483 (nI i) u5 u6 ?_
  refine ⟨hC.1.1.1, d - 1, 4, 24, bc, bs, _, by omega, rfl, rfl, ct_c_image M w hI.1 hC (fun _ => "") (by omega) CPost.x1, fun v M1 hv => ?_, fun E M1 hv => ?_⟩
  rotate_left
  · obtain ⟨e, -⟩ := hv.no (fun v => v.toInt64) hI (fun len' e => by rw [e]; exact hI.2.2.2.2.2)
    exact e (by have := ok.2; omega)
  obtain ⟨P1, A1, E1, len1, rfl, hK, hC1, hv⟩ := hv
  rcases hv with ⟨e, hv⟩ | ⟨e, hv⟩
  rotate_left
  · cases hv
  cases hv
  have hH := hI.cls hK hC1 hI.2.2.2.2.2
  show EvT [] l G d mLw_law_ 1796 [.ref 98, .ref 100, .ref 206, .ref 3483, .int (nI i), u5, u6] [.int _] M1 bc bs Φ
  refine bLw_law__1796 hSC M1 100 206 3483 (nI i) u5 u6 _ ?_
  refine ⟨hH.2.1.1.c, d - 1, 0, 0, bc, bs, _, by omega, by omega, by omega, ct_r_image M1 w hI.1 hH.2.1 (by omega) RPost.x1, fun v M2 hv => ?_, fun E M2 hv => by cases hv.2.2.2⟩
  obtain ⟨hF, hR, ht, hv⟩ := hv
  cases hv
  show EvT [] l G d mLw_law_ 1800 [.ref 98, .ref 100, .ref 206, .ref 3483, .int (nI i), u5, u6] [.int _, .int _] M2 bc bs Φ
  exact bLw_law__1800 hSC M2 100 206 3483 (nI i) u5 u6 _ _ ⟨fun _ => K M2 _ u5 u6 (hH.rf ok.1 hF hR), fun z => absurd rfl z⟩
theorem lc_restore (hSC : SC G L xs) (hl : l.stackTraces = false) (hL : L ≤ 3072) (M : Mm) {i len : Nat} (hi : i + 5 < L) {w : Wd} (hI : LI M w len) (u5 u6 : Value) (hd : 40 < d) (K : ∀ M' w' u5 u6, LI M' w' len → EvT [] l G d mLw_law_ 1843 [.ref 98, .ref 100, .ref 206, .ref 3483, .int (nI i), u5, u6] [] M' bc bs Φ) : EvT [] l G d mLw_law_ 1805 [.ref 98, .ref 100, .ref 206, .ref 3483, .int (nI i), u5, u6] [] M (4 + bc) (24 + bs) Φ := by
  obtain ⟨P, A, E, hC⟩ := hI.2.1
  have ok := (ok_restore hI.1)
  refine bLw_law__1805 hSC M 100 206 3483 (nI i) u5 u6 ?_
  refine ⟨hC.1.1.1, d - 1, 4, 24, bc, bs, _, by omega, rfl, rfl, ct_c_restore M w hI.1 hC (fun _ => "") (by omega) CPost.x1, fun v M1 hv => ?_, fun E M1 hv => ?_⟩
  rotate_left
  · obtain ⟨e, -⟩ := hv.no (fun v => v.toInt64) hI (fun len' e => by rw [e]; exact hI.2.2.2.2.2)
    exact e (by have := ok.2; omega)
  obtain ⟨P1, A1, E1, len1, rfl, hK, hC1, hv⟩ := hv
  rcases hv with ⟨e, hv⟩ | ⟨e, hv⟩
  rotate_left
  · cases hv
  cases hv
  have hH := hI.cls hK hC1 hI.2.2.2.2.2
  show EvT [] l G d mLw_law_ 1809 [.ref 98, .ref 100, .ref 206, .ref 3483, .int (nI i), u5, u6] [.int _] M1 bc bs Φ
  refine bLw_law__1809 hSC M1 100 206 3483 (nI i) u5 u6 _ ?_
  refine ⟨hH.2.1.1.c, d - 1, 0, 0, bc, bs, _, by omega, by omega, by omega, ct_r_restore M1 w hI.1 hH.2.1 (by omega) RPost.x1, fun v M2 hv => ?_, fun E M2 hv => by cases hv.2.2.2⟩
  obtain ⟨hF, hR, ht, hv⟩ := hv
  cases hv
  show EvT [] l G d mLw_law_ 1813 [.ref 98, .ref 100, .ref 206, .ref 3483, .int (nI i), u5, u6] [.int _, .int _] M2 bc bs Φ
  exact bLw_law__1813 hSC M2 100 206 3483 (nI i) u5 u6 _ _ ⟨fun _ => K M2 _ u5 u6 (hH.rf ok.1 hF hR), fun z => absurd rfl z⟩
theorem lc_count (hSC : SC G L xs) (hl : l.stackTraces = false) (hL : L ≤ 3072) (M : Mm) {i len : Nat} (hi : i + 5 < L) {w : Wd} (hI : LI M w len) (u5 u6 : Value) (hd : 40 < d) (K : ∀ M' w' u5 u6, LI M' w' len → EvT [] l G d mLw_law_ 1843 [.ref 98, .ref 100, .ref 206, .ref 3483, .int (nI i), u5, u6] [] M' bc bs Φ) : EvT [] l G d mLw_law_ 1818 [.ref 98, .ref 100, .ref 206, .ref 3483, .int (nI i), u5, u6] [] M (4 + bc) (24 + bs) Φ := by
  obtain ⟨P, A, E, hC⟩ := hI.2.1
  have ok := (ok_count hI.1 (xs (i + 1)))
  refine bLw_law__1818 hSC M 100 206 3483 (nI i) u5 u6 ?_
  rw [(show (nI i + 1).toNatClampNeg = i + 1 from (vi_k hi hL (k := 1) (by omega)).2)]
  refine ⟨(vi_k hi hL (k := 1) (by omega)).1, hC.1.1.1, d - 1, 4, 24, bc, bs, _, by omega, rfl, rfl, ct_c_count M w hC _ (fun _ => "") CPost.x1, fun v M1 hv => ?_, fun E M1 hv => ?_⟩
  rotate_left
  · obtain ⟨e, -⟩ := hv.no (fun v => v.toInt64) hI (fun len' e => by rw [e]; exact hI.2.2.2.2.2)
    exact e (by have := ok.2; omega)
  obtain ⟨P1, A1, E1, len1, rfl, hK, hC1, hv⟩ := hv
  rcases hv with ⟨e, hv⟩ | ⟨e, hv⟩
  rotate_left
  · cases hv
  cases hv
  have hH := hI.cls hK hC1 hI.2.2.2.2.2
  show EvT [] l G d mLw_law_ 1828 [.ref 98, .ref 100, .ref 206, .ref 3483, .int (nI i), u5, u6] [.int _] M1 bc bs Φ
  refine bLw_law__1828 hSC M1 100 206 3483 (nI i) u5 u6 _ ?_
  rw [(show (nI i + 1).toNatClampNeg = i + 1 from (vi_k hi hL (k := 1) (by omega)).2)]
  refine ⟨(vi_k hi hL (k := 1) (by omega)).1, hH.2.1.1.c, d - 1, 0, 0, bc, bs, _, by omega, by omega, by omega, ct_r_count M1 w hI.1 hH.2.1 _ RPost.x1, fun v M2 hv => ?_, fun E M2 hv => by cases hv.2.2.2⟩
  obtain ⟨hF, hR, ht, hv⟩ := hv
  cases hv
  show EvT [] l G d mLw_law_ 1838 [.ref 98, .ref 100, .ref 206, .ref 3483, .int (nI i), u5, u6] [.int _, .int _] M2 bc bs Φ
  exact bLw_law__1838 hSC M2 100 206 3483 (nI i) u5 u6 _ _ ⟨fun _ => K M2 _ u5 u6 (hH.rf ok.1 hF hR), fun z => absurd rfl z⟩
end LWC
