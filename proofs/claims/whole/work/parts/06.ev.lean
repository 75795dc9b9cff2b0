/-! ===== the two judgements: Ct (a method) and Ev (a frame of it) ===== -/
def FrOK (G : Gx) (y : MR) (p : Program) (s : State) (m : MethodId) (args : Array Value) (meth : Method) (c : Code) : Prop :=
  p.tables.exec = Jvm.exec ∧ c.code = y.2.1 ∧ meth.sig.returnType = y.2.2.2 ∧ c.maxLocals = y.2.2.1 ∧ s.vm.findClass y.1.cls = some m.cls ∧ (∀ w ∈ lwg, w.before args s = true) ∧ meth.locks = false ∧ meth.name = y.1.name ∧ KG G s ∧
  (∀ x ∈ c.exceptionTable.toList, False) ∧ G.2.2.1.size ≤ s.heap.size ∧ ∀ q : Nat, q < G.2.2.1.size → s.heap[q]? = G.2.2.1[q]?
def AtX (G : Gx) (ls st : List Value) (M : Mm) (bc bs : Nat) (s : State) (mc ms : Nat) (ad0 : Nat → Nat) (n0 : Nat) (H : Heap) (locs : List Loc) (cells slots : Nat) (ad : Nat → Nat) (lsA : Array Slot) (nL : Nat) : Prop :=
  cells + bc ≤ mc ∧ slots + bs ≤ ms ∧ RelE G M ad H ∧ va_S (fun q => G.2.2.1.size ≤ q) s.heap H locs ∧ Lv ad ls nL lsA ∧ bdL (m_nx M) ls ∧ bdL (m_nx M) st ∧ (∀ a, a < n0 → ad a = ad0 a) ∧ n0 ≤ m_nx M
def Ev (l : Launch) (G : Gx) (d : Nat) (y : MR) (pc : Nat) (ls st : List Value) (M : Mm) (bc bs : Nat) (Φ : OutV → Mm → Prop) : Prop :=
  ∀ (p : Program) (e : Env) (s : State) (m : MethodId) (args : Array Value) (below : List Frame) (meth : Method) (c : Code) (mc ms : Nat) (ad0 : Nat → Nat) (n0 : Nat) (H : Heap) (locs : List Loc) (cells slots : Nat) (ad : Nat → Nat) (lsA : Array Slot),
    FrOK G y p s m args meth c → AtX G ls st M bc bs s mc ms ad0 n0 H locs cells slots ad lsA y.2.2.1 →
    W p l e (rmO d mc ms) s m args below meth c H locs cells slots (vx_MQ below (QcO G ad0 n0 Φ) (XcO G ad0 n0 Φ) args s mc ms (fun q => G.2.2.1.size ≤ q)) (F0 m pc lsA (st.map (tr ad)))
def wsY (y : MR) : List Cond := Cond.code y.1 y.2.1 y.2.2.1 y.2.2.2 :: lwg
def Ct (l : Launch) (G : Gx) (d : Nat) (y : MR) (bc bs : Nat) (av : List Value) (M : Mm) (Φ : OutV → Mm → Prop) : Prop :=
  ∀ ad : Nat → Nat, bdL (m_nx M) av → vx_Met l y.1 (wsY y) (rmO d bc bs) (fun a U => a = (av.map (tr ad)).toArray ∧ RelE G M ad U.heap ∧ KG G U) (QcO G ad (m_nx M) Φ) (XcO G ad (m_nx M) Φ) bc bs (fun q => G.2.2.1.size ≤ q)
/-- the locals at the entry -/
def ent (av : List Value) (n : Nat) : List Value := (av.flatMap fun v => if v.category = 2 then [v, .null] else [v]) ++ List.replicate (n - (av.flatMap fun v => if v.category = 2 then [v, .null] else [v]).length) .null
section EV
variable {l : Launch} {G : Gx} {d : Nat} {y : MR} {pc : Nat} {ls st : List Value} {M : Mm} {bc bs : Nat} {Φ : OutV → Mm → Prop}
theorem lg_sl_tr (ad : Nat → Nat) (av : List Value) (i : Nat) (v : Value) : ((av.flatMap fun v => if v.category = 2 then [v, Value.null] else [v]))[i]? = some v → v ≠ .null → (lg_sl (av.map (tr ad)))[i]? = some (.val (tr ad v)) := by
  induction av generalizing i with
  | nil => intro h; simp at h
  | cons x xs ih =>
    intro h hv
    have hc := tr_cat ad x
    rw [List.flatMap_cons] at h
    show (List.flatMap _ (tr ad x :: xs.map (tr ad)))[i]? = _
    rw [List.flatMap_cons, hc]
    by_cases h2 : x.category = 2
    · rw [if_pos h2] at h ⊢
      match i, h with
      | 0, h => simp at h; subst h; rfl
      | 1, h => simp at h; exact absurd h.symm hv
      | i + 2, h => exact ih i (by simpa using h) hv
    · rw [if_neg h2] at h ⊢
      match i, h with
      | 0, h => simp at h; subst h; rfl
      | i + 1, h => exact ih i (by simpa using h) hv
theorem lg_len_tr (ad : Nat → Nat) (av : List Value) : (lg_sl (av.map (tr ad))).length = (av.flatMap fun v => if v.category = 2 then [v, Value.null] else [v]).length := by
  induction av with
  | nil => rfl
  | cons x xs ih =>
    have hc := tr_cat ad x
    have e1 : lg_sl ((x :: xs).map (tr ad)) = (if (tr ad x).category = 2 then [Slot.val (tr ad x), .second] else [.val (tr ad x)]) ++ lg_sl (xs.map (tr ad)) := rfl
    rw [e1, List.length_append, ih, List.flatMap_cons, List.length_append, hc]
    by_cases h2 : x.category = 2
    · rw [if_pos h2, if_pos h2]; rfl
    · rw [if_neg h2, if_neg h2]; rfl
theorem Lv_ent (ad : Nat → Nat) (av : List Value) (n : Nat) (h : (av.flatMap fun v => if v.category = 2 then [v, Value.null] else [v]).length ≤ n) :
    Lv ad (ent av n) n ((lg_sl (av.map (tr ad)) ++ List.replicate (n - (lg_sl (av.map (tr ad))).length) Slot.unset).toArray) := by
  have hl := lg_len_tr ad av
  have h0 := lv_entry (av.map (tr ad)) (n := n) (by rw [hl]; exact h)
  refine ⟨h0.1, h0.2.1, fun i v hi hv => ?_⟩
  rw [List.getElem?_toArray]
  by_cases hlt : i < (av.flatMap fun v => if v.category = 2 then [v, Value.null] else [v]).length
  · rw [ent, List.getElem?_append_left hlt] at hi
    rw [List.getElem?_append_left (by rw [hl]; exact hlt)]
    exact lg_sl_tr ad av i v hi hv
  · rw [ent, List.getElem?_append_right (by omega)] at hi
    exact absurd (List.eq_of_mem_replicate (List.mem_of_getElem? hi)) hv
theorem bd_ent {n : Nat} {av : List Value} {k : Nat} (h : bdL n av) : bdL n (ent av k) := by
  intro a ha
  rcases List.mem_append.mp ha with h1 | h1
  · obtain ⟨v, hv, hm⟩ := List.mem_flatMap.mp h1
    by_cases h2 : v.category = 2
    · rw [if_pos h2] at hm
      rcases List.mem_cons.mp hm with e | e
      · exact h a (e ▸ hv)
      · rcases List.mem_cons.mp e with e | e
        · cases e
        · cases e
    · rw [if_neg h2] at hm
      rcases List.mem_cons.mp hm with e | e
      · exact h a (e ▸ hv)
      · cases e
  · cases List.eq_of_mem_replicate h1
/-- a method's contract out of its frame's -/
theorem Ct.of {av : List Value} (hy : plainName y.1.cls = true) (hn : (av.flatMap fun v => if v.category = 2 then [v, Value.null] else [v]).length ≤ y.2.2.1)
    (h : Ev l G d y 0 (ent av y.2.2.1) [] M bc bs Φ) : Ct l G d y bc bs av M Φ := by
  intro ad hbd
  refine vx_ofW (cc := y.2.1) (maxL := y.2.2.1) (ret := y.2.2.2) hy rfl ?_
  intro p e s m args below meth c s₁ B hml hno hv
  obtain ⟨rfl, hR, hK⟩ := hv
  have hts := atoms_spec (ws := wsY y) B.pre
  rw [lg_entry_eq]
  have h1 : FrOK G y p s m (av.map (tr ad)).toArray meth c := ⟨B.exec, B.bytes, B.returns, hml, findClass_of_methodNamed B.named, fun w hw => hts w (List.mem_cons_of_mem _ hw), B.notSynchronized, (name_of_methodNamed B.named B.method).1, hK, hno, hR.2.2.2.2.1, hR.2.2.2.2.2.1⟩
  exact h p e s m _ below meth c bc bs ad (m_nx M) s.heap [] 0 0 ad _ h1 ⟨by omega, by omega, hR, va_S.rf, Lv_ent ad av _ hn, bd_ent hbd, (fun a h => by cases h), fun _ _ => rfl, Nat.le_refl _⟩
/-- an instruction that changes the operand stack alone -/
theorem Ev.st1 {pc2 : Nat} {st2 : List Value} (hbd : ∀ n, bdL n ls → bdL n st → bdL n st2)
    (h : ∀ (p : Program) (e : Env) (R : Room) (s : State) (m : MethodId) (args : Array Value) (below : List Frame) (meth : Method) (c : Code) (H : Heap) (locs : List Loc) (cells slots : Nat) (Q : State → Prop) (ad : Nat → Nat) (lsA : Array Slot), FrOK G y p s m args meth c → Lv ad ls y.2.2.1 lsA → RelE G M ad H → va_S (fun q => G.2.2.1.size ≤ q) s.heap H locs →
      W p l e R s m args below meth c H locs cells slots Q (F0 m pc2 lsA (st2.map (tr ad))) → W p l e R s m args below meth c H locs cells slots Q (F0 m pc lsA (st.map (tr ad))))
    (k : Ev l G d y pc2 ls st2 M bc bs Φ) : Ev l G d y pc ls st M bc bs Φ := by
  intro p e s m args below meth c mc ms ad0 n0 H locs cells slots ad lsA F X
  obtain ⟨x1, x2, x3, x4, x5, x6, x7, x8, x9⟩ := id X
  exact h p e _ s m args below meth c H locs cells slots _ ad lsA F x5 x3 x4 (k p e s m args below meth c mc ms ad0 n0 H locs cells slots ad lsA F ⟨x1, x2, x3, x4, x5, x6, hbd _ x6 x7, x8, x9⟩)
end EV
