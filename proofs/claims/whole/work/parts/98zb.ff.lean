/-! ===== the constants are as the lists tell ===== -/
def adr (v : Option Value) : Nat := match v with
  | some (.ref a) => a
  | _ => 0
/-- addresses by names: constants, the script, a formatter nobody asks for -/
def nmA (args : Array Value) (s : State) (b z : Nat) : Nat → Nat := fun k => if k = 98 then b else if k = 99 then z else adr ((tmN k).eval args s none [] s)
theorem covC9 : ∀ q ∈ f_C, ¬ q.1 = 98 ∧ ¬ q.1 = 99 := by
  have h : f_C.all (fun q => decide (¬ q.1 = 98 ∧ ¬ q.1 = 99)) = true := by decide +kernel
  exact fun q hq => of_decide_eq_true (List.all_eq_true.mp h q hq)
theorem lwx_nw {w : Cond} (hw : w ∈ lwx) {args : Array Value} {s : State} (hb : w.before args s = true) : va_Nw w s := by
  have h := (List.mem_filter.mp hw).2
  cases w <;> first | exact Bool.noConfusion (show false = true from h) | exact va_tabs rfl rfl hb | exact hb
section STF
variable {args : Array Value} {s : State} {b z : Nat}
theorem nl_at (hs : ∀ c ∈ nl, c.before args s = true) {i : Nat} {c : Jvm.Cond} (h : nl[i]? = some c) : c.before args s = true := hs c (List.mem_of_getElem? h)
theorem ev_x {t : Term} {cls : String} (h : (Cond.exactly t cls).before args s = true) : ∃ a, t.eval args s none [] s = some (.ref a) := by
  obtain ⟨a2, c, cA, kA, q1, -⟩ := Cond.exactly_spec (args := args) (first := s) (o := none) (s := s) (idx := []) (t := t) (cls := cls) h
  exact ⟨a2, q1⟩
theorem ev_n {k : Nat} (hk : ¬ k = 98 ∧ ¬ k = 99) (h : ∃ a, (tmN k).eval args s none [] s = some (.ref a)) : (tmN k).eval args s none [] s = some (.ref (nmA args s b z k)) := by
  obtain ⟨a, h⟩ := h
  unfold nmA
  rw [if_neg hk.1, if_neg hk.2, h]
  rfl
theorem ev_len {t : Term} {n : Int32} (h : (Term.length t).eval args s none [] s = some (.int n)) : ∃ a, t.eval args s none [] s = some (.ref a) := by
  obtain ⟨a, cell, ht, -⟩ := Term.length_spec h
  exact ⟨a, ht⟩
/-- every constant has an address -/
theorem ev_all (hs : ∀ c ∈ nl, c.before args s = true) {k : Nat} (hk : (1 ≤ k ∧ k ≤ 26) ∨ (31 ≤ k ∧ k ≤ 53) ∨ (61 ≤ k ∧ k ≤ 83)) : (tmN k).eval args s none [] s = some (.ref (nmA args s b z k)) := by
  have c := covN k (by omega) hk
  rw [Bool.or_eq_true] at c
  refine ev_n (by omega) ?_
  rcases c with c | c
  · obtain ⟨x, hx, e⟩ := List.any_eq_true.mp c
    have e' := of_decide_eq_true e
    have h := of_decide_eq_true (okX2 x hx)
    rw [← e']
    exact ev_x (nl_at hs h)
  · obtain ⟨x, hx, e⟩ := List.any_eq_true.mp c
    have e' := of_decide_eq_true e
    obtain ⟨i, h⟩ := okT2 x hx
    unfold ckT at h
    simp only [Bool.and_eq_true, decide_eq_true_eq] at h
    rw [← e']
    exact ev_len (va_eqt (nl_at hs h.1.2))
theorem isRV_r {k : Nat} (h : isRV (.ref k) = true) : (1 ≤ k ∧ k ≤ 26) ∨ (31 ≤ k ∧ k ≤ 53) ∨ (61 ≤ k ∧ k ≤ 83) := of_decide_eq_true h
theorem tr_r (ad : Nat → Nat) {k : Nat} (h : 1 ≤ k) : tr ad (.ref k) = .ref (ad k) := by
  cases k with
  | zero => omega
  | succ k => rfl
/-- what a value of the lists is -/
theorem tmV_ev (hs : ∀ c ∈ nl, c.before args s = true) {v : Value} (hv : isRV v = true) : (tmV v).eval args s none [] s = some (tr (nmA args s b z) v) := by
  cases v with
  | int x => rfl
  | ref k =>
    have hk := isRV_r hv
    rw [tr_r _ (by omega)]
    exact ev_all hs hk
  | _ => exact Bool.noConfusion (show false = true from hv)
theorem ff_ok (hs : ∀ c ∈ nl, c.before args s = true) (hts : ∀ w ∈ lw_tbl, w.before args s = true) (G : Gx) (hG1 : G.2.2.1 = s.heap) (hG2 : G.2.2.2 = nmA args s b z) (hz : ∃ v0 : Value, (v0 = .null ∨ v0 = .ref 99) ∧ va_Z "jdk/internal/util/Preconditions" "SIOOBE_FORMATTER" "Ljava/util/function/BiFunction;" (tr (nmA args s b z) v0) (fun a => s.heap.size ≤ a) s s.heap) : FF G s := by
  have hA : ∀ a : Nat, a < s.heap.size → ¬ (fun a => s.heap.size ≤ a) a := fun a h1 h2 => absurd h2 (by show ¬ s.heap.size ≤ a; omega)
  have ht : ∀ {i : Nat} {w : Jvm.Cond}, lw_tbl[i]? = some w → w.before args s = true := fun h => hts _ (List.mem_of_getElem? h)
  unfold FF
  rw [hG1, hG2]
  refine ⟨fun q hq => ?_, fun q hq => ?_, fun q hq => ?_, fun q hq => ?_, ⟨fun i j h1 h2 h3 h4 e => ?_, hz⟩, fun q hq => ?_, vx_Zqof (ht lS2) (ht jS2) (nl_at hs nS2) hA, vx_Zqof (ht lS3) (ht jS3) (nl_at hs nS3) hA, fun w hw => ?_⟩
  · obtain ⟨i, h⟩ := okZ q hq
    unfold ckZ at h
    simp only [Bool.and_eq_true, decide_eq_true_eq] at h
    obtain ⟨⟨⟨h1, h2⟩, h3⟩, h4⟩ := h
    refine va_Zof (ht h1) (ht h2) ?_ hA
    have hv := tmV_ev (b := b) (z := z) hs h3
    generalize q.2.2.2 = v at h3 h4 hv ⊢
    cases v with
    | int x =>
      have h4' := of_decide_eq_true h4
      exact va_eqv (nl_at hs h4') hv
    | ref k =>
      have h4' := of_decide_eq_true h4
      rw [← h4']
      exact hv
    | _ => exact Bool.noConfusion (show false = true from h3)
  · obtain ⟨i, h⟩ := okO q hq
    unfold ckO at h
    simp only [Bool.and_eq_true] at h
    obtain ⟨⟨h1, h2⟩, h3⟩ := h
    have hk := isRV_r h2
    refine vk_OFof (ev_all hs hk) ?_ hA
    have hv := tmV_ev (b := b) (z := z) hs h1
    generalize q.2.2.2.2 = v at h1 h3 hv ⊢
    cases v with
    | int x =>
      have h3' := of_decide_eq_true h3
      exact va_eqv (nl_at hs h3') hv
    | ref k =>
      have h3' : (decide (tmN k = .field (tmN q.2.2.2.1) q.1 q.2.1 q.2.2.1) || decide (nl[i]? = some (.eq (.field (tmN q.2.2.2.1) q.1 q.2.1 q.2.2.1) (tmN k)))) = true := h3
      rw [Bool.or_eq_true] at h3'
      rcases h3' with h | h
      · have h' := of_decide_eq_true h
        rw [← h']
        exact hv
      · have h' := of_decide_eq_true h
        exact va_eqv (nl_at hs h') hv
    | _ => exact Bool.noConfusion (show false = true from h1)
  · obtain ⟨i, h⟩ := okT2 q hq
    unfold ckT at h
    simp only [Bool.and_eq_true, decide_eq_true_eq] at h
    obtain ⟨⟨⟨⟨h1, h2⟩, h3⟩, h4⟩, h5⟩ := h
    have hk := isRV_r h1
    obtain ⟨t, e, hT⟩ := va_Tof (f := fun j => tr (nmA args s b z) (q.2.2.2.getD j .null)) (A := fun a => s.heap.size ≤ a) (by omega) (nl_at hs h3) (va_eqt (nl_at hs h4)) (fun j hj => by
      have hc := List.all_eq_true.mp h5 j (List.mem_range.mpr hj)
      simp only [Bool.and_eq_true, decide_eq_true_eq] at hc
      exact va_eqv (nl_at hs hc.2) (tmV_ev hs hc.1)) hA
    cases e.symm.trans (ev_all (b := b) (z := z) hs hk)
    exact hT
  · obtain ⟨x, hx, e⟩ := List.any_eq_true.mp (covC q hq)
    simp only [Bool.and_eq_true, decide_eq_true_eq] at e
    have h := nl_at hs (of_decide_eq_true (okX2 x hx))
    rw [e.1, e.2] at h
    obtain ⟨a, ha⟩ := ev_x h
    have hk : ¬ q.1 = 98 ∧ ¬ q.1 = 99 := covC9 q hq
    exact va_Oof h (ev_n hk ⟨a, ha⟩) hA
  · have key : ∀ i j, 1 ≤ i → i < j → j ≤ 23 → nmA args s b z i = nmA args s b z j → False := fun i j h1 h2 h3 e => by
      obtain ⟨x, hx, ex⟩ := List.any_eq_true.mp (covP i (by omega) j (by omega) h1 h2)
      have h := nl_at hs (of_decide_eq_true (okP2 x hx))
      have ei := ev_all (b := b) (z := z) hs (k := i) (by omega)
      have ej := ev_all (b := b) (z := z) hs (k := j) (by omega)
      rw [Bool.or_eq_true] at ex
      simp only [Bool.and_eq_true, decide_eq_true_eq] at ex
      rcases ex with ⟨e1, e2⟩ | ⟨e1, e2⟩
      · rw [e1, e2] at h
        exact va_neR h ei ej e
      · rw [e1, e2] at h
        exact va_neR h ej ei e.symm
    rcases Nat.lt_trichotomy i j with c | c | c
    · exact (key i j h1 c h4 e).elim
    · exact c
    · exact (key j i h3 c h2 e.symm).elim
  · obtain ⟨i, h⟩ := okR q hq
    unfold ckR at h
    simp only [Bool.and_eq_true, decide_eq_true_eq] at h
    obtain ⟨a, ha⟩ := ev_x (nl_at hs h.2)
    exact ⟨a, vk_R.of (ht h.1) ha⟩
  · have hin : w ∈ lw_tbl := (List.mem_filter.mp hw).1
    exact lwx_nw hw (hts w hin)
end STF
