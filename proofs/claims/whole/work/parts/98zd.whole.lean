/-! ===== the whole ===== -/
theorem stand_room {p : Program} {l : Launch} {e : Env} {R R' : Room} {s : State} {m : MethodId} {args : Array Value} {below : List Frame} {meth : Method} {c : Code} {T : State} {locs : List Loc} {cells slots : Nat} (X : Stand p l e R s m args below meth c T locs cells slots) (h1 : R'.frames ≤ R.frames) (h2 : R'.locals ≤ R.locals) (h3 : R'.cells ≤ R.cells) (h4 : R'.slots ≤ R.slots) : Stand p l e R' s m args below meth c T locs cells slots := by
  refine ⟨X.admits, X.cas, X.clock, X.frames, ?_, X.hears, X.method, X.code, X.here, X.tail, X.warmed, X.limits, X.bytes, X.same⟩
  have h := X.room
  simp only [State.hasRoom, Bool.and_eq_true, decide_eq_true_eq] at h ⊢
  obtain ⟨⟨⟨⟨g1, g2, g3, g4, g5, g6⟩, g7⟩, g8⟩, g9⟩ := h
  exact ⟨⟨⟨⟨by omega, by omega, by omega, by omega, by omega, g6⟩, by omega⟩, by omega⟩, g9⟩
theorem arr_of {s : State} {args : Array Value} {ty : FieldType} (h : (Cond.arrayClass ty).before args s = true) : ∃ cA : ClassId, ArrOfT s cA ty ∧ s.vm.findClass ("[" ++ ty.toString) = some cA := by
  obtain ⟨c, k, comp, h1, h2, h3⟩ := Cond.arrayClass_spec h
  exact ⟨c, fun N z => ⟨(fun k h => by cases h), k, h2, comp, h3⟩, h1⟩
theorem arr_ob {s : State} {args : Array Value} {C : String} (h : (Cond.arrayOver (.object C)).before args s = true) : ∃ cA : ClassId, ArrOfT s cA (.object C) ∧ va_RA s cA (.object C) := by
  obtain ⟨comp, c, k, h1, -, h2, h3, h4⟩ := Cond.arrayOver_spec h
  exact ⟨c, fun N z => ⟨(fun k h => by cases h), k, h2, comp, h3⟩, k, comp, h2, h3, h1, h4⟩
theorem arr_ar {s : State} {args : Array Value} {t : FieldType} (h : (Cond.arrayOver (.array t)).before args s = true) : ∃ cA : ClassId, ArrOfT s cA (.array t) ∧ va_RA s cA (.array t) := by
  obtain ⟨comp, c, k, -, h2, h3, h4⟩ := Cond.arrayOver_specA h
  exact ⟨c, fun N z => ⟨(fun k h => by cases h), k, h2, comp, h3⟩, h4⟩
theorem ins_C : ∀ r ∈ vwCl, lw_tbl.contains (Cond.instantiable r.1 r.2.2) = true := by decide +kernel
theorem vk_ok {s : State} {args : Array Value} (hts : ∀ w ∈ lw_tbl, w.before args s = true) : ∃ (D : va_G) (cA : Nat → ClassId), va_K D vwCl (kTys cA) s := by
  have ht : ∀ {i : Nat} {w : Jvm.Cond}, lw_tbl[i]? = some w → w.before args s = true := fun h => hts _ (List.mem_of_getElem? h)
  have key : ∀ c : Nat, ∃ (cC : ClassId) (iS : Nat → Nat), ∀ q, vwCl[c]? = some q → u_Kn s q.1 q.2.1 q.2.2 cC iS := fun c => by
    cases hq : vwCl[c]? with
    | none => exact ⟨0, fun _ => 0, fun q h => by cases h⟩
    | some r =>
      have hc : c < 12 := (List.getElem?_eq_some_iff.mp hq).1
      obtain ⟨cC, iS, h⟩ := u_known (ws := lwg) (C := r.1) (T := r.2.1) (N := r.2.2) (n := r.2.2) (fun w hw => hts w (lwg_in hw)) (in_C c hc r hq) (hts _ (List.contains_iff_mem.mp (ins_C r (List.mem_of_getElem? hq))))
      exact ⟨cC, iS, fun q h' => by cases h'; exact h⟩
  obtain ⟨c20, a20, b20⟩ := arr_of (ht (i := 164) (w := .arrayClass .int) (by decide +kernel))
  obtain ⟨c21, a21, b21⟩ := arr_of (ht (i := 163) (w := .arrayClass .byte) (by decide +kernel))
  obtain ⟨c22, a22, b22⟩ := arr_of (ht (i := 1827) (w := .arrayClass .long) (by decide +kernel))
  obtain ⟨c30, a30, b30⟩ := arr_ob (ht (i := 268) (w := .arrayOver (.object "BowingRow$Call")) (by decide +kernel))
  obtain ⟨c31, a31, b31⟩ := arr_ob (ht (i := 463) (w := .arrayOver (.object "BowingRow$Image")) (by decide +kernel))
  obtain ⟨c32, a32, b32⟩ := arr_ob (ht (i := 135) (w := .arrayOver (.object "BowingRow$Word")) (by decide +kernel))
  obtain ⟨c33, a33, b33⟩ := arr_ar (ht (i := 1282) (w := .arrayOver (.array .int)) (by decide +kernel))
  refine ⟨(fun c => (key c).choose, fun c => (key c).choose_spec.choose), fun k => if k = 20 then c20 else if k = 21 then c21 else if k = 22 then c22 else if k = 30 then c30 else if k = 31 then c31 else if k = 32 then c32 else c33, fun c q hq => (key c).choose_spec.choose_spec q hq, fun k q hq => ?_⟩
  match k, hq with
  | 0, hq => cases hq; exact ⟨a20, b20⟩
  | 1, hq => cases hq; exact ⟨a21, b21⟩
  | 2, hq => cases hq; exact ⟨a22, b22⟩
  | 3, hq => cases hq; exact ⟨a30, b30⟩
  | 4, hq => cases hq; exact ⟨a31, b31⟩
  | 5, hq => cases hq; exact ⟨a32, b32⟩
  | 6, hq => cases hq; exact ⟨a33, b33⟩
  | k + 7, hq => exact absurd hq (by simp [kTys])
def R_law : String := "BowingRowLaw"
def lw_P (b : Addr) (xs : List Int32) (args : Array Value) (s : State) : Prop := args = #[.ref b] ∧ s.IntsAt b xs ∧ xs.length ≤ 3072 ∧ (Jvm.Cond.and given_1 narrow_1).before args s = true
def lw_Q (_ : Array Value) (s : State) (o : Outcome) (t : State) : Prop := o = .returned (some (.int 1)) ∧ Framed s o t [] 601024 7293034
def lw_Z (below : List Frame) (a : Array Value) (s : State) : State → Prop := fun t => ∃ o, t.status = .running ∧ Ended t below o ∧ lw_Q a s o t
/-- a frame that only new cells are written in -/
theorem fe_nil {s t : State} {o : Outcome} {L : List Loc} {k n : Nat} {v : Option Value} (ho : o = .returned v) (h : FrameEnd s o t L k n) (hL : ∀ q ∈ L, s.heap.size ≤ q.base) : Framed s o t [] k n := by
  obtain ⟨-, h1, g1, g2, g3, g4, g5, g6⟩ := h
  refine ⟨⟨v, ho⟩, h1, g1, g2, g3, g4, g5, fun a c hc => ?_⟩
  obtain ⟨c', e1, e2, e3, e4⟩ := g6 a c hc
  exact ⟨c', e1, e2, e3, fun i _ => e4 i (fun hm => by
    have h1 := hL _ hm
    have h2 : a < s.heap.size := (Array.getElem?_eq_some_iff.mp hc).1
    exact absurd h1 (Nat.not_le.mpr h2))⟩
theorem whole_start {p : Program} {e : Env} {s : State} {m : MethodId} {below : List Frame} {meth : Method} {c : Code} (l : Launch) (hl : l.stackTraces = false) {b L : Nat} {xs : Nat → Int32} (hL : L ≤ 3072) (hexec : p.tables.exec = Jvm.exec) (hcode : c.code = code) (hret : meth.sig.returnType = ret) (hml : c.maxLocals = 7) (hown : s.vm.findClass R_law = some m.cls) (hts : ∀ w ∈ lw_tbl, w.before #[Value.ref b] s = true) (hX : va_X b L xs s s.heap) (hbl : b < s.heap.size) (hlocks : meth.locks = false) (hname : meth.name = "law") (htab : c.exceptionTable.toList = []) (hgv : (Jvm.Cond.and given_1 narrow_1).before #[Value.ref b] s = true) : W p l e room_1 s m #[Value.ref b] below meth c s.heap [] 0 0 (lw_Z below #[Value.ref b] s) (entryFrame m ([Value.ref b] : List Value).toArray 7) := by
  have hs : ∀ x ∈ nl, x.before #[Value.ref b] s = true := fl_ok (Jvm.Cond.and given_1 narrow_1) [] hgv (fun x hx => absurd hx List.not_mem_nil)
  have ht : ∀ {i : Nat} {w : Jvm.Cond}, lw_tbl[i]? = some w → w.before #[Value.ref b] s = true := fun h => hts _ (List.mem_of_getElem? h)
  have hA : ∀ a : Nat, a < s.heap.size → ¬ (fun a => s.heap.size ≤ a) a := fun a h1 h2 => absurd h2 (by show ¬ s.heap.size ≤ a; omega)
  obtain ⟨D, cA, hK⟩ := vk_ok hts
  have hz : ∃ z : Nat, ∃ v0 : Value, (v0 = .null ∨ v0 = .ref 99) ∧ va_Z "jdk/internal/util/Preconditions" "SIOOBE_FORMATTER" "Ljava/util/function/BiFunction;" (tr (nmA #[Value.ref b] s b z) v0) (fun a => s.heap.size ≤ a) s s.heap := by
    rcases va_Zqof (ht lS1) (ht jS1) (nl_at hs nS1) hA with h | ⟨t, h⟩
    · exact ⟨0, .null, Or.inl rfl, h⟩
    · exact ⟨t, .ref 99, Or.inr rfl, h⟩
  obtain ⟨z, hz⟩ := hz
  obtain ⟨G, hG⟩ : ∃ G : Gx, G = (D, cA, s.heap, nmA #[Value.ref b] s b z) := ⟨_, rfl⟩
  have g1 : G.1 = D := by rw [hG]
  have g2 : G.2.1 = cA := by rw [hG]
  have g3 : G.2.2.1 = s.heap := by rw [hG]
  have g4 : G.2.2.2 = nmA #[Value.ref b] s b z := by rw [hG]
  have g98 : G.2.2.2 98 = b := by rw [g4]; rfl
  have hKG : KG G s := ⟨by rw [g1, g2]; exact hK, ff_ok hs hts G g3 g4 hz⟩
  have hSC : SC G L xs := by
    obtain ⟨scr, q1, q2, q3, q4, q5⟩ := hX
    exact ⟨by rw [g98, g3]; exact hbl, scr, by rw [g98, g3]; exact q1, q4, q5⟩
  have hNC : NC G s := ⟨va_Nc.of (nl_at hs nN1), va_Nc.of (nl_at hs nN2), va_Nc.of (nl_at hs nN3), L, xs, by rw [g98, g3]; exact hX⟩
  have F : FrOKT [] G mLw_law_ p s m #[Value.ref b] meth c := ⟨hexec, hcode, hret, hml, hown, fun w hw => hts w (lwg_in hw), hlocks, hname, hKG, ⟨htab, hNC⟩, by rw [g3]; exact Nat.le_refl _, fun q _ => by rw [g3]⟩
  have hR : RelE G K0 G.2.2.2 s.heap := by
    have e0 : m_ws G.2.1 G.2.2.2 K0 = [] := rfl
    have p1 : va_P G.1 vwCl (m_ws G.2.1 G.2.2.2 K0) s.heap := by
      rw [e0]
      intro k q h
      exact absurd h (by simp)
    have p2 : va_D (fun q => G.2.2.1.size ≤ q) (m_ws G.2.1 G.2.2.2 K0) := by
      rw [e0]
      exact ⟨fun i j p q h => absurd h (by simp), fun k q h => absurd h (by simp)⟩
    have p3 : G.2.2.1.size ≤ s.heap.size := by rw [g3]; exact Nat.le_refl _
    have p4 : ∀ q : Nat, q < G.2.2.1.size → s.heap[q]? = G.2.2.1[q]? := fun q _ => by rw [g3]
    have p5 : ∀ a k, m_r K0 a k < m_nx K0 := fun a k => by show 0 < 100; omega
    exact ⟨p1, p2, Nat.le_refl _, p5, p3, p4, fun a _ => rfl, fun a _ => rfl⟩
  have hE := law_start (l := l) (d := 100) hSC hl hL (by omega) p e s m #[Value.ref b] below meth c 601024 7293034 G.2.2.2 100 s.heap [] 0 0 G.2.2.2 _ F ⟨by omega, by omega, hR, va_S.rf, Lv_ent G.2.2.2 [.ref 98] 7 (Nat.le_of_ble_eq_true rfl), bd_ent (av := [.ref 98]) (k := 7) (fun a h => by cases h with | head => decide | tail _ h => cases h), (fun a h => by cases h), fun _ _ => rfl, Nat.le_refl _⟩
  have hav : (([.ref 98] : List Value).map (tr G.2.2.2)) = [Value.ref b] := by
    show [Value.ref (G.2.2.2 98)] = _
    rw [g98]
  rw [hav] at hE
  rw [lg_entry_eq]
  intro T hT X
  obtain ⟨t, st, o, r1, r2, r3⟩ := hE T hT (stand_room (R' := rmO 100 601024 7293034) X (by decide) (by decide) (by decide) (by decide))
  refine ⟨t, st, o, r1, r2, ?_⟩
  rcases r3 with ⟨⟨v, M', ad', ho, hΦ, -⟩, Ls, hF, hfree⟩ | ⟨q, ho, E, ce, Ls, ⟨M', ad', hΦ, -⟩, -⟩
  · have hΦ' : (.inl v : OutV) = .inl (some (.int 1)) := hΦ
    cases hΦ'
    exact ⟨ho, fe_nil ho hF (fun q hq => by have := hfree q hq; rw [g3] at this; exact this)⟩
  · have hΦ' : (.inr E : OutV) = .inl (some (.int 1)) := hΦ
    cases hΦ'
