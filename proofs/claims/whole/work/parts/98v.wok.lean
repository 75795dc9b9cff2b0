/-! ===== worlds of answers fit; what the law keeps ===== -/
theorem RINV.ag {M M' : Mm} {w : Wd} (hw : WOK w) (h : RINV M w) (hA : AG (fun a => 206 ≤ a ∧ a ≤ 3482) M M') : RINV M' w := by
  obtain ⟨a1, ⟨b1, b2, b3⟩, ⟨c1, c2, c3⟩, ⟨a4, a5, a6⟩, ⟨a7, a8⟩, a9, ⟨a10, a11⟩, a12, a13⟩ := h
  have hi := hw.2.2.2.2.2.2.2.2.1
  have e : ∀ a j, 206 ≤ a → a ≤ 3482 → m_i M' a j = m_i M a j := fun a j h1 h2 => hA.1 a ⟨h1, h2⟩ j
  have hn := hw.1
  refine ⟨a1.of (fun a j h1 h2 => hA.2.1 a ⟨h1, by omega⟩ j) (fun a h1 h2 => hA.2.2 a ⟨h1, by omega⟩), ⟨by rw [e _ _ (by omega) (by omega)]; exact b1, b2, fun p w hp hw => by rw [e _ _ (by omega) (by omega)]; exact b3 p w hp hw⟩, ⟨by rw [e _ _ (by omega) (by omega)]; exact c1, c2, fun i hi => ?_⟩, ⟨by rw [e _ _ (by omega) (by omega)]; exact a4, by rw [e _ _ (by omega) (by omega)]; exact a5, by rw [e _ _ (by omega) (by omega)]; exact a6⟩, ⟨by rw [e _ _ (by omega) (by omega)]; exact a7, fun i hi => by rw [e _ _ (by omega) (by omega)]; exact a8 i hi⟩, by rw [e _ _ (by omega) (by omega)]; exact a9, ⟨by rw [e _ _ (by omega) (by omega)]; exact a10, fun j hj => by rw [e _ _ (by omega) (by omega)]; exact a11 j hj⟩, by rw [e _ _ (by omega) (by omega)]; exact a12, fun i hi => ?_⟩
  · obtain ⟨d1, d2, d3⟩ := c3 i hi
    refine ⟨by rw [e _ _ (by omega) (by omega)]; exact d1, fun z => by rw [e _ _ (by omega) (by omega)]; exact d2 z, fun z => ⟨by rw [e _ _ (by omega) (by omega)]; exact (d3 z).1, (d3 z).2.1, fun j hj => ?_⟩⟩
    have q := (d3 z).2.2 j hj
    have ee : ∀ j, m_i M' (244 + i) j = m_i M (244 + i) j := fun j => e _ _ (by omega) (by omega)
    simp only [ee]
    exact q
  · obtain ⟨d1, d2, d3⟩ := a13 i hi
    exact ⟨by rw [e _ _ (by omega) (by omega)]; exact d1, fun j hj => by rw [e _ _ (by omega) (by omega)]; exact d2 j hj, fun p hp => by rw [e _ _ (by omega) (by omega), e _ _ (by omega) (by omega)]; exact d3 p hp⟩
/-- an answer's world fits, its code is at most c -/
def AOK (c : Nat) (a : An) : Prop := WOK a.2.2 ∧ a.1 ≤ c
theorem AOK.p {c : Nat} {w : Wd} {x : Int32} {a : An} (hw : WOK w) (hc : 1 ≤ c) (h : (¬ x < 0 ∧ x < nI (w_n w)) → AOK c a) : AOK c (okP w x a) := by
  unfold okP
  split
  · rename_i z; exact h z
  · exact ⟨hw, hc⟩
theorem AOK.c {c : Nat} {w : Wd} {x : Int32} {a : An} (hw : WOK w) (hc : 1 ≤ c) (h : AOK c a) : AOK c (okC w x a) := by
  unfold okC
  split
  · exact h
  · exact ⟨hw, hc⟩
theorem AOK.v {c k m : Nat} {w : Wd} {x : Int32} {a : An} (hw : WOK w) (hc : k ≤ c) (h : (¬ x < 0 ∧ ¬ nI m < x) → AOK c a) : AOK c (okV k w m x a) := by
  unfold okV
  split
  · rename_i z; exact h z
  · exact ⟨hw, hc⟩
theorem AOK.w {c k : Nat} {w : Wd} {v : Int32} (hw : WOK w) (hc : k ≤ c) : AOK c (k, v, w) := ⟨hw, hc⟩
theorem AOK.i {c : Nat} {P : Prop} [Decidable P] {a b : An} (h1 : P → AOK c a) (h2 : ¬ P → AOK c b) : AOK c (if P then a else b) := by
  split
  · rename_i z; exact h1 z
  · rename_i z; exact h2 z
theorem WOK.setF {w : Wd} (hw : WOK w) {p k v : Nat} (hp : p < w_n w) (hk : (k = 5 ∧ v ≤ 4) ∨ (k = 6 ∧ v ≤ 99)) : WOK (ws_F w (upd2 (w_F w) p k v)) := by
  obtain ⟨h1, h2, h3, h4⟩ := hw
  refine ⟨h1, fun q hq => ?_, ?_, h4⟩
  · have := h2 q hq
    unfold FAok at this ⊢
    show (upd2 (w_F w) p k v q 0 ≤ 999 ∧ upd2 (w_F w) p k v q 1 ≤ 99 ∧ upd2 (w_F w) p k v q 2 ≤ 9 ∧ (1 ≤ upd2 (w_F w) p k v q 3 ∧ upd2 (w_F w) p k v q 3 ≤ 60) ∧ (1 ≤ upd2 (w_F w) p k v q 4 ∧ upd2 (w_F w) p k v q 4 ≤ 999) ∧ upd2 (w_F w) p k v q 5 ≤ 4 ∧ upd2 (w_F w) p k v q 6 ≤ 99 ∧ upd2 (w_F w) p k v q 7 < 256)
    have e : ∀ j, ¬ j = k → upd2 (w_F w) p k v q j = w_F w q j := fun j hj => if_neg (fun z => hj z.2)
    have e5 : upd2 (w_F w) p k v q 5 ≤ 4 := by
      unfold upd2
      split
      · omega
      · omega
    have e6 : upd2 (w_F w) p k v q 6 ≤ 99 := by
      unfold upd2
      split
      · omega
      · omega
    rw [e 0 (by omega), e 1 (by omega), e 2 (by omega), e 3 (by omega), e 4 (by omega), e 7 (by omega)]
    omega
  · obtain ⟨b1, b2, b3⟩ := h3
    refine ⟨b1, b2, fun i j hij hj => ?_⟩
    have e : ∀ q, upd2 (w_F w) p k v q 0 = w_F w q 0 := fun q => if_neg (fun z => by omega)
    show upd2 (w_F w) p k v (w_by w i) 0 < upd2 (w_F w) p k v (w_by w j) 0 ∨ (upd2 (w_F w) p k v (w_by w i) 0 = upd2 (w_F w) p k v (w_by w j) 0 ∧ _)
    rw [e, e]
    exact b3 i j hij hj
theorem tN_lt {w : Wd} (hw : WOK w) {x : Int32} (h : ¬ x < 0 ∧ x < nI (w_n w)) : tN x < w_n w := by
  obtain ⟨v, hv, rfl⟩ := (pIn_nI hw.1).mp h
  rw [tN_nI (by have := hw.1; omega)]
  exact hv
theorem tN_le {x : Int32} {n : Nat} (hn : n < 2 ^ 31) (h : ¬ x < 0 ∧ ¬ nI n < x) : tN x ≤ n := by
  obtain ⟨v, hv, rfl⟩ := (vIn_nI hn).mp h
  rw [tN_nI (by omega)]
  exact hv
theorem ok_told {w : Wd} (hw : WOK w) (x : Int32) : AOK 1 (aTold w x) := .v hw (by omega) fun _ => .w hw (by omega)
theorem ok_person {w : Wd} (hw : WOK w) (x y : Int32) : AOK 2 (aPerson w x y) := .p hw (by omega) fun _ => .v hw (by omega) fun _ => .w hw (by omega)
theorem ok_way {w : Wd} (hw : WOK w) (x y : Int32) : AOK 2 (aWay w x y) := .p hw (by omega) fun hp => .v hw (by omega) fun hv => ⟨hw.setF (tN_lt hw hp) (Or.inl ⟨rfl, tN_le (by omega) hv⟩), Nat.zero_le _⟩
theorem ok_until {w : Wd} (hw : WOK w) (x y : Int32) : AOK 2 (aUntil w x y) := .p hw (by omega) fun hp => .v hw (by omega) fun hv => ⟨hw.setF (tN_lt hw hp) (Or.inr ⟨rfl, tN_le (by omega) hv⟩), Nat.zero_le _⟩
theorem ok_must {w : Wd} (hw : WOK w) (x y z : Int32) : AOK 2 (aMust w x y z) := .p hw (by omega) fun _ => .p hw (by omega) fun _ => .v hw (by omega) fun _ => .i (fun _ => .w hw (by omega)) (fun _ => .w hw (by omega))
theorem ok_worth {w : Wd} (hw : WOK w) (x y z : Int32) : AOK 2 (aWorth w x y z) := .p hw (by omega) fun _ => .p hw (by omega) fun _ => .v hw (by omega) fun _ => .i (fun _ => .w hw (by omega)) (fun _ => .w hw (by omega))
theorem ok_day {w : Wd} (hw : WOK w) (x : Int32) : AOK 1 (aDay w x) := .v hw (by omega) fun _ => .w hw (by omega)
theorem ok_call {w : Wd} (hw : WOK w) (x y : Int32) : AOK 2 (aCall w x y) := .c hw (by omega) (.v hw (by omega) fun _ => .w hw (by omega))
theorem ok_holder {w : Wd} (hw : WOK w) (x y : Int32) : AOK 1 (aHolder w x y) := .c hw (by omega) (.w hw (by omega))
theorem ok_ends {w : Wd} (hw : WOK w) (x : Int32) : AOK 1 (aEnds w x) := .p hw (by omega) fun _ => .w hw (by omega)
theorem ok_balance {w : Wd} (hw : WOK w) (x : Int32) : AOK 1 (aBalance w x) := .p hw (by omega) fun _ => .w hw (by omega)
theorem ok_book {w : Wd} (hw : WOK w) (x y : Int32) : AOK 1 (aBook w x y) := .p hw (by omega) fun _ => .p hw (by omega) fun _ => .w hw (by omega)
theorem ok_owed {w : Wd} (hw : WOK w) (x y : Int32) : AOK 1 (aOwed w x y) := .p hw (by omega) fun _ => .p hw (by omega) fun _ => .w hw (by omega)
theorem WOK.setS {w : Wd} (hw : WOK w) (sr : Nat → Int32) {ss : Nat} (h : ss ≤ 8) : WOK (ws_sr w sr ss) := by
  obtain ⟨h1, h2, h3, h4, h5, h6, h7, h8, h9, h10⟩ := hw
  exact ⟨h1, h2, h3, h4, h5, h6, h7, h, h9, h10⟩
theorem ok_tell {w : Wd} (hw : WOK w) (x : Int32) : AOK 1 (aTell w x) := .p hw (by omega) fun _ => .i (fun _ => .w hw (by omega)) (fun z => ⟨hw.setS _ (by have := hw.2.2.2.2.2.2.2.1; omega), Nat.zero_le _⟩)
theorem ok_again {w : Wd} (hw : WOK w) (x y z : Int32) : AOK 2 (aAgain w x y z) := .p hw (by omega) fun _ => .v hw (by omega) fun _ => .i (fun _ => .w hw (by omega)) (fun _ => .w hw (by omega))
theorem ok_plan {w : Wd} (hw : WOK w) (x y : Int32) : AOK 2 (aPlan w x y) := .p hw (by omega) fun _ => .v hw (by omega) fun _ => .w hw (by omega)
theorem ok_best {w : Wd} (hw : WOK w) (x y : Int32) : AOK 2 (aBest w x y) := .p hw (by omega) fun _ => .v hw (by omega) fun _ => .w hw (by omega)
theorem ok_gain {w : Wd} (hw : WOK w) (x y : Int32) : AOK 2 (aGain w x y) := .p hw (by omega) fun _ => .v hw (by omega) fun _ => .w hw (by omega)
theorem ok_rest {w : Wd} (hw : WOK w) (x : Int32) : AOK 2 (aRest w x) := .v hw (by omega) fun _ => .i (fun _ => .w hw (by omega)) (fun _ => .w hw (by omega))
theorem ok_polite {w : Wd} (hw : WOK w) (x : Int32) : AOK 2 (aPolite w x) := .v hw (by omega) fun _ => .i (fun _ => .w hw (by omega)) (fun _ => .w hw (by omega))
theorem ok_struck {w : Wd} (hw : WOK w) (x : Int32) : AOK 1 (aStruck w x) := .v hw (by omega) fun _ => .w hw (by omega)
theorem ok_row {w : Wd} (hw : WOK w) (x : Int32) : AOK 1 (aRow w x) := .v hw (by omega) fun _ => .i (fun e => ⟨hw.row (rwS_ok e), Nat.zero_le _⟩) (fun _ => ⟨hw.flt _, Nat.zero_le _⟩)
theorem ok_law {w : Wd} (hw : WOK w) (x : Int32) : AOK 1 (aLaw w x) := .v hw (by omega) fun _ => .i (fun e => ⟨hw.law (rlS_ok e), Nat.zero_le _⟩) (fun _ => ⟨hw.flt _, Nat.zero_le _⟩)
theorem ok_fault {w : Wd} (hw : WOK w) : AOK 0 (aFault w) := .w hw (by omega)
theorem ok_count {w : Wd} (hw : WOK w) (x : Int32) : AOK 0 (aCount w x) := .w hw (by omega)
theorem ok_judge {w : Wd} (hw : WOK w) : AOK 0 (aJudge w) := .w hw (by omega)
theorem ok_hopeless {w : Wd} (hw : WOK w) : AOK 0 (aHopeless w) := .w hw (by omega)
theorem ok_forget {w : Wd} (hw : WOK w) : AOK 0 (aForget w) := ⟨hw.setS _ (by omega), Nat.le_refl _⟩
theorem ok_feed {w : Wd} (hw : WOK w) (a b c e f : Int32) : AOK 0 (aFeed w a b c e f) := .i (fun _ => .w hw (by omega)) (fun z => by
  obtain ⟨h1, h2, h3, h4, h5, h6, h7, h8, h9, h10⟩ := hw
  refine ⟨⟨h1, h2, h3, h4, h5, by show w_T w + 20 ≤ 500; omega, fun i hi => ?_, h8, h9, h10⟩, Nat.le_refl _⟩
  show fedN w a b c e f i < 256
  unfold fedN
  split
  · exact byt_lt _ _
  · exact h7 i hi)
theorem ok_image {w : Wd} (hw : WOK w) : AOK 0 (aImage w) := .i (fun _ => .w hw (by omega)) (fun z => by
  obtain ⟨h1, h2, h3, h4, h5, h6, h7, h8, h9, h10⟩ := hw
  refine ⟨⟨h1, h2, h3, h4, h5, h6, h7, h8, by show w_ic w + 1 ≤ 3; omega, fun i hi => ?_⟩, Nat.le_refl _⟩
  show IMok (w_n w) (if i = w_ic w then (fun p => w_F w p 5, fun p => w_F w p 6, w_sr w, w_ss w) else w_im w i)
  have hi' : i < w_ic w + 1 := hi
  split
  · exact ⟨fun p hp => ⟨(h2 p hp).2.2.2.2.2.1, (h2 p hp).2.2.2.2.2.2.1⟩, h8⟩
  · exact h10 i (by omega))
theorem ok_restore {w : Wd} (hw : WOK w) : AOK 0 (aRestore w) := .i (fun _ => .w hw (by omega)) (fun z => by
  obtain ⟨h1, h2, h3, h4, h5, h6, h7, h8, h9, h10⟩ := hw
  have hm := h10 (w_ic w - 1) (by omega)
  refine ⟨⟨h1, fun p hp => ?_, ?_, h4, h5, h6, h7, hm.2, by show w_ic w - 1 ≤ 3; omega, fun i hi => ?_⟩, Nat.le_refl _⟩
  · have hp' : p < w_n w := hp
    have g := h2 p hp'
    have m := hm.1 p hp'
    show FAok (backF w (w_im w (w_ic w - 1))) p
    have e : ∀ k, ¬ k = 5 → ¬ k = 6 → backF w (w_im w (w_ic w - 1)) p k = w_F w p k := fun k k5 k6 => by
      unfold backF
      rw [if_neg (fun t => k5 t.2), if_neg (fun t => k6 t.2)]
    have e5 : backF w (w_im w (w_ic w - 1)) p 5 = (w_im w (w_ic w - 1)).1 p := by
      unfold backF
      rw [if_pos ⟨hp', rfl⟩]
    have e6 : backF w (w_im w (w_ic w - 1)) p 6 = (w_im w (w_ic w - 1)).2.1 p := by
      unfold backF
      rw [if_neg (fun t => absurd t.2 (by omega)), if_pos ⟨hp', rfl⟩]
    unfold FAok at g ⊢
    rw [e 0 (by omega) (by omega), e 1 (by omega) (by omega), e 2 (by omega) (by omega), e 3 (by omega) (by omega), e 4 (by omega) (by omega), e5, e6, e 7 (by omega) (by omega)]
    omega
  · obtain ⟨b1, b2, b3⟩ := h3
    refine ⟨b1, b2, fun i j hij hj => ?_⟩
    have e : ∀ q, backF w (w_im w (w_ic w - 1)) q 0 = w_F w q 0 := fun q => by
      unfold backF
      rw [if_neg (fun t => absurd t.2 (by omega)), if_neg (fun t => absurd t.2 (by omega))]
    show backF w (w_im w (w_ic w - 1)) (w_by w i) 0 < backF w (w_im w (w_ic w - 1)) (w_by w j) 0 ∨ (backF w (w_im w (w_ic w - 1)) (w_by w i) 0 = backF w (w_im w (w_ic w - 1)) (w_by w j) 0 ∧ _)
    rw [e, e]
    exact b3 i j hij hj
  · have hi' : i < w_ic w - 1 := hi
    exact h10 i (by omega))
/-- growth that may still come -/
def gr (len : Nat) : Nat := (if len < 5 then 5 else 0) + (if len < 50 then 50 else 0) + (if len < 375 then 375 else 0) + (if len < 2500 then 2500 else 0) + (if len < 15625 then 15625 else 0)
theorem gr_le (len : Nat) : gr len ≤ 18555 := by unfold gr; split <;> split <;> split <;> split <;> split <;> omega
theorem gr_S {len n : Nat} (hn : n ≤ 5) (h : len < 5 ^ n * n) : 5 ^ n * n + gr (5 ^ n * n) ≤ gr len ∧ 5 ^ n * n ≤ 15625 := by
  have cs : n = 0 ∨ n = 1 ∨ n = 2 ∨ n = 3 ∨ n = 4 ∨ n = 5 := by omega
  rcases cs with c | c | c | c | c | c <;> subst c <;> simp only [Nat.reducePow, Nat.reduceMul] at h ⊢ <;> unfold gr <;> (repeat (first | rw [if_pos (by omega)] | rw [if_neg (by omega)])) <;> (try omega) <;> (split <;> (try omega) <;> split <;> (try omega) <;> split <;> (try omega) <;> split <;> omega)
/-- between two calls of the law -/
def LI (M : Mm) (w : Wd) (len : Nat) : Prop := WOK w ∧ (∃ P A E, CINV M w P A E len) ∧ RINV M w ∧ m_sh M 3483 = (22, 1) ∧ 3484 ≤ m_nx M ∧ len ≤ 15625
/-- .. the class has answered, the reference not yet -/
def LH (M : Mm) (w : Wd) (a : An) (len : Nat) : Prop := (∃ P A E, CINV M a.2.2 P A E len) ∧ RINV M w ∧ m_sh M 3483 = (22, 1) ∧ 3484 ≤ m_nx M ∧ len ≤ 15625
theorem LI.cls {M M' : Mm} {w : Wd} {len len' : Nat} {a : An} {P A E : Nat} (h : LI M w len) (hK : KR M M') (hC : CINV M' a.2.2 P A E len') (hl : len' ≤ 15625) : LH M' w a len' :=
  ⟨⟨P, A, E, hC⟩, h.2.2.1.ag h.1 (hK.1.mono (fun a ha => ⟨ha.1, by omega⟩)), by rw [hK.1.2.2 3483 ⟨by omega, by omega⟩]; exact h.2.2.2.1, Nat.le_trans h.2.2.2.2.1 hK.2.2, hl⟩
theorem LH.sl {M : Mm} {w : Wd} {a : An} {len : Nat} (hw : WOK w) (ha : WOK a.2.2) (h : LH M w a len) (v : Int64) : LH (m_sl M 3483 0 v) w a len := by
  obtain ⟨⟨P, A, E, h1⟩, h2, h3, h4, h5⟩ := h
  have hA : ∀ S : Nat → Prop, AG S M (m_sl M 3483 0 v) := fun S => ⟨fun _ _ _ => rfl, fun _ _ _ => rfl, fun _ _ => rfl⟩
  exact ⟨⟨P, A, E, h1.ag ha (hA _)⟩, h2.ag hw (hA _), h3, h4, h5⟩
theorem LH.rf {M M' : Mm} {w : Wd} {a : An} {len : Nat} (ha : WOK a.2.2) (h : LH M w a len) (hF : FrS RF M M') (hR : RINV M' a.2.2) : LI M' a.2.2 len := by
  obtain ⟨⟨P, A, E, h1⟩, h2, h3, h4, h5⟩ := h
  have hE : E = 190 ∨ 3484 ≤ E := h1.1.2.2.2.1
  exact ⟨ha, ⟨P, A, E, h1.ag ha (hF.ag (fun a j hS hX => by unfold RF at hX; omega))⟩, hR, by rw [hF.2.2.2.1]; exact h3, by rw [hF.2.2.2.2]; exact h4, h5⟩
