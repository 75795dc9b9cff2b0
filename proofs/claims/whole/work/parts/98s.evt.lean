/-! ===== frames that may catch, and the law's own ===== -/
def nIA : String := "java/lang/IllegalArgumentException"
def nNS : String := "java/util/NoSuchElementException"
def nIO : String := "java/lang/IndexOutOfBoundsException"
def nIS : String := "java/lang/IllegalStateException"
/-- which of them is not the other -/
def NC (G : Gx) (U : State) : Prop := va_Nc nIA nNS U ∧ va_Nc nIA nIO U ∧ va_Nc nIS nIA U ∧ ∃ L xs, va_X (G.2.2.2 98) L xs U G.2.2.1
theorem NC.warm {G : Gx} {s U : State} (hW : s.WarmedH U.vm) (h : NC G s) : NC G U := ⟨h.1.moved hW.alike, h.2.1.moved hW.alike, h.2.2.1.moved hW.alike, h.2.2.2.elim fun L h => ⟨L, h.elim fun xs h => ⟨xs, h.moved hW.alike⟩⟩⟩
def FrOKT (T : List ExceptionTableEntry) (G : Gx) (y : MR) (p : Program) (s : State) (m : MethodId) (args : Array Value) (meth : Method) (c : Code) : Prop :=
  p.tables.exec = Jvm.exec ∧ c.code = y.2.1 ∧ meth.sig.returnType = y.2.2.2 ∧ c.maxLocals = y.2.2.1 ∧ s.vm.findClass y.1.cls = some m.cls ∧ (∀ w ∈ lwg, w.before args s = true) ∧ meth.locks = false ∧ meth.name = y.1.name ∧ KG G s ∧
  (c.exceptionTable.toList = T ∧ NC G s) ∧ G.2.2.1.size ≤ s.heap.size ∧ ∀ q : Nat, q < G.2.2.1.size → s.heap[q]? = G.2.2.1[q]?
def EvT (T : List ExceptionTableEntry) (l : Launch) (G : Gx) (d : Nat) (y : MR) (pc : Nat) (ls st : List Value) (M : Mm) (bc bs : Nat) (Φ : OutV → Mm → Prop) : Prop :=
  ∀ (p : Program) (e : Env) (s : State) (m : MethodId) (args : Array Value) (below : List Frame) (meth : Method) (c : Code) (mc ms : Nat) (ad0 : Nat → Nat) (n0 : Nat) (H : Heap) (locs : List Loc) (cells slots : Nat) (ad : Nat → Nat) (lsA : Array Slot),
    FrOKT T G y p s m args meth c → AtX G ls st M bc bs s mc ms ad0 n0 H locs cells slots ad lsA y.2.2.1 →
    W p l e (rmO d mc ms) s m args below meth c H locs cells slots (vx_MQ below (QcO G ad0 n0 Φ) (XcO G ad0 n0 Φ) args s mc ms (fun q => G.2.2.1.size ≤ q)) (F0 m pc lsA (st.map (tr ad)))
/-- an E is on its way out of pc -/
def EvX (T : List ExceptionTableEntry) (l : Launch) (G : Gx) (d : Nat) (y : MR) (pc : Nat) (ls : List Value) (E : String) (M : Mm) (bc bs : Nat) (Φ : OutV → Mm → Prop) : Prop :=
  ∀ (p : Program) (e : Env) (s : State) (m : MethodId) (args : Array Value) (below : List Frame) (meth : Method) (c : Code) (mc ms : Nat) (ad0 : Nat → Nat) (n0 : Nat) (H : Heap) (locs : List Loc) (cells slots : Nat) (ad : Nat → Nat) (lsA : Array Slot) (rest : List Value) (q : Addr) (ce : Cell),
    FrOKT T G y p s m args meth c → AtX G ls [] M bc bs s mc ms ad0 n0 H locs cells slots ad lsA y.2.2.1 → H[q]? = some ce → ce.vm = .none → s.vm.findClass E = some ce.cls →
    vx_W p l e (rmO d mc ms) s m args below meth c H locs cells slots (vx_MQ below (QcO G ad0 n0 Φ) (XcO G ad0 n0 Φ) args s mc ms (fun q => G.2.2.1.size ≤ q)) (F0 m pc lsA rest) q
section EVT
variable {TB : List ExceptionTableEntry} {l : Launch} {G : Gx} {d : Nat} {y : MR} {pc : Nat} {ls st : List Value} {M : Mm} {bc bs : Nat} {Φ : OutV → Mm → Prop}
theorem EvT.run {bc2 bs2 : Nat} {Φ2 : OutV → Mm → Prop} {st0 : List Value}
    (hrun : ∀ (p : Program) (e : Env) (s : State) (m : MethodId) (args : Array Value) (below : List Frame) (meth : Method) (c : Code) (mc ms : Nat) (H : Heap) (locs : List Loc) (cells slots : Nat) (ad : Nat → Nat) (lsA : Array Slot), FrOKT TB G y p s m args meth c → RelE G M ad H → lsA.size = y.2.2.1 → bdL (m_nx M) st0 → cells + bc2 ≤ mc → slots + bs2 ≤ ms →
      vx_Run p l e (rmO d mc ms) s m args below meth c H locs cells slots bc2 bs2 (F0 m pc lsA (st0.map (tr ad))) (st.map (tr ad)) (fun s0 o t => QcO G ad (m_nx M) Φ2 args s0 o t) (XcO G ad (m_nx M) Φ2) (fun q => G.2.2.1.size ≤ q))
    (hbd : ∀ n, bdL n st0 → bdL n st) (kr : ∀ v M', Φ2 (.inl v) M' → EvT TB l G d y (pc + 3) ls (v.toList ++ st) M' bc bs Φ) (kx : ∀ E M', Φ2 (.inr E) M' → EvX TB l G d y pc ls E M' bc bs Φ) : EvT TB l G d y pc ls st0 M (bc2 + bc) (bs2 + bs) Φ := by
  intro p e s m args below meth c mc ms ad0 n0 H locs cells slots ad lsA F X0
  obtain ⟨x1, x2, x3, x4, x5, x6, x7, x8, x9⟩ := id X0
  intro T9 hT X
  rcases hrun p e s m args below meth c mc ms H locs cells slots ad lsA F x3 x5.1 x7 (by omega) (by omega) T9 hT X with ⟨v0, st₀, t, T', L, h0, X', hL, e1, e2, ⟨v, M', ad', hv, hΦ, hE, hn, hb, hR, hz⟩, go⟩ | ⟨q, st₀, t, T', L, E, ce, h0, X', hL, e1, e2, ⟨M', ad', hΦ, hE, hn, hR, hz⟩, hce, hcv, hcl, go⟩
  · cases hv
    rw [← e1] at hR hz
    have hS : va_S (fun q => G.2.2.1.size ≤ q) s.heap T'.heap (locs ++ L) := ⟨Nat.le_trans x4.1 (by rw [← h0]; exact hz), fun q hq hA => by
      rw [hR.2.2.2.2.2.1 q (Nat.lt_of_not_le hA)]
      exact (F.2.2.2.2.2.2.2.2.2.2.2 q (Nat.lt_of_not_le hA)).symm, fun z hz' => (List.mem_append.mp hz').elim (x4.2.2 z) (hL z)⟩
    have K := kr v M' hΦ p e s m args below meth c mc ms ad0 n0 T'.heap (locs ++ L) (cells + bc2) (slots + bs2) ad' lsA F ⟨by omega, by omega, hR, hS, x5.ext hE x6, bd_le hn x6, fun a ha => (List.mem_append.mp ha).elim (hb a) (bd_le hn (hbd _ x7) a), fun a ha => (hE a (Nat.lt_of_lt_of_le ha x9)).trans (x8 a ha), Nat.le_trans x9 hn⟩
    rw [List.map_append, tr_extL hE (hbd _ x7)] at K
    obtain ⟨t2, a1, b1⟩ := K T' rfl X'
    refine ⟨t2, go t2 ?_, b1⟩
    have e3 : (Option.map (tr ad') v).toList = v.toList.map (tr ad') := by cases v <;> rfl
    show Steps p.tables e below (T'.setTop (F0 m (pc + 3) lsA ((Option.map (tr ad') v).toList ++ st.map (tr ad)))) t2
    rw [e3]
    exact a1
  · rw [← e1] at hR hz hce
    have hS : va_S (fun q => G.2.2.1.size ≤ q) s.heap T'.heap (locs ++ L) := ⟨Nat.le_trans x4.1 (by rw [← h0]; exact hz), fun q hq hA => by
      rw [hR.2.2.2.2.2.1 q (Nat.lt_of_not_le hA)]
      exact (F.2.2.2.2.2.2.2.2.2.2.2 q (Nat.lt_of_not_le hA)).symm, fun z hz' => (List.mem_append.mp hz').elim (x4.2.2 z) (hL z)⟩
    have K := kx E M' hΦ p e s m args below meth c mc ms ad0 n0 T'.heap (locs ++ L) (cells + bc2) (slots + bs2) ad' lsA (st.map (tr ad)) q ce F ⟨by omega, by omega, hR, hS, x5.ext hE x6, bd_le hn x6, (fun a h => by cases h), fun a ha => (hE a (Nat.lt_of_lt_of_le ha x9)).trans (x8 a ha), Nat.le_trans x9 hn⟩ hce hcv hcl
    obtain ⟨t2, a1, b1⟩ := K T' rfl X'
    exact ⟨t2, go.trans a1, b1⟩
/-- not caught -/
theorem EvX.out {E : String} (hq : Φ (.inr E) M) : EvX [] l G d y pc ls E M bc bs Φ := by
  intro p e s m args below meth c mc ms ad0 n0 H locs cells slots ad lsA rest q ce F X0 hce hcv hcl
  obtain ⟨x1, x2, x3, x4, x5, x6, x7, x8, x9⟩ := id X0
  refine vx_out (fun x hx => ?_) F.2.2.2.2.2.2.1 hce hcv hcl (fun t ht _ => ⟨M, ad, hq, x8, x9, by rw [ht]; exact x3, by rw [ht]; exact x4.1⟩) (fun z hz => x4.2.2 z hz) (by omega) (by omega)
  rw [F.2.2.2.2.2.2.2.2.2.1.1] at hx
  cases hx
theorem Lv.sto0 {ad : Nat → Nat} {ls : List Value} {n : Nat} {lsA : Array Slot} {i : Nat} {v : Value} (h : lv_has lsA n ((i, v) :: (prs ad ls).filter (fun q => !(q.1 == i) && !(q.1 + 1 == i && q.2.category == 2)))) : Lv ad (sto ls i .null) n lsA := by
  have h2 : lv_has lsA n ((prs ad ls).filter (fun q => !(q.1 == i) && !(q.1 + 1 == i && q.2.category == 2))) := ⟨h.1, h.2.1, fun q hq => h.2.2 q (List.mem_cons_of_mem _ hq)⟩
  refine ⟨h.1, h.2.1, fun j w hj hw => ?_⟩
  by_cases e : j = i
  · subst e
    have : w = .null := by
      unfold sto at hj
      have hlt := (List.getElem?_eq_some_iff.mp hj).1
      rw [List.getElem?_set_self (by simpa using hlt)] at hj
      exact (Option.some.inj hj).symm
    exact absurd this hw
  · have key : ls[j]? = some w ∧ ¬ (j + 1 = i ∧ w.category = 2) := by
      unfold sto at hj
      rw [List.getElem?_set_ne (Ne.symm e)] at hj
      match i, hj, e with
      | 0, hj, _ => exact ⟨hj, fun q => by cases q.1⟩
      | k + 1, hj, e =>
        cases hk : ls[k]? with
        | none =>
          simp only [hk] at hj
          exact ⟨hj, fun q => by have : j = k := by omega
                                 subst this; rw [hk] at hj; cases hj⟩
        | some u =>
          simp only [hk] at hj
          by_cases hc : u.category = 2
          · rw [if_pos hc] at hj
            by_cases ej : j = k
            · subst ej
              have hlt := (List.getElem?_eq_some_iff.mp hk).1
              rw [List.getElem?_set_self hlt] at hj
              exact absurd (Option.some.inj hj).symm hw
            · rw [List.getElem?_set_ne (Ne.symm ej)] at hj
              exact ⟨hj, fun q => ej (by omega)⟩
          · rw [if_neg hc] at hj
            refine ⟨hj, fun q => ?_⟩
            have : j = k := by omega
            subst this
            rw [hk] at hj
            cases hj
            exact hc q.2
    refine h2.2.2 (j, tr ad w) (List.mem_filter.mpr ⟨prs_mem key.1 hw, ?_⟩)
    simp only [Bool.and_eq_true, Bool.not_eq_true', beq_eq_false_iff_ne, ne_eq, Bool.and_eq_false_iff, tr_cat]
    refine ⟨e, ?_⟩
    by_cases h1 : j + 1 = i
    · exact Or.inr fun q => key.2 ⟨h1, q⟩
    · exact Or.inl h1
/-- caught, and put into a local that nobody reads -/
theorem EvX.catch {E name : String} (pre : List ExceptionTableEntry) (x : ExceptionTableEntry) (suf : List ExceptionTableEntry) (hsplit : TB = pre ++ x :: suf) (hpass : ∀ z ∈ pre, z.catchType ≠ 0 ∧ ∃ nm : String, Cond.classLink y.1.cls z.catchType nm ∈ lwg ∧ ∀ s, NC G s → va_Nc E nm s) (hx : covers x pc = true) (h0 : x.catchType ≠ 0)
    (hlink : Cond.classLink y.1.cls x.catchType name ∈ lwg) (hcast : Cond.castable E name ∈ lwx) {i : Nat} (hi : i < y.2.2.1) (hd : (∃ j : Fin 4, decode y.2.1 x.handlerPc = .ok (.astore_n j, 1) ∧ (j : Nat) = i ∧ ∃ h : EvT TB l G d y (x.handlerPc + 1) (sto ls i .null) [] M bc bs Φ, True) ∨ (decode y.2.1 x.handlerPc = .ok (.astore i, 2) ∧ EvT TB l G d y (x.handlerPc + 2) (sto ls i .null) [] M bc bs Φ)) : EvX TB l G d y pc ls E M bc bs Φ := by
  intro p e s m args below meth c mc ms ad0 n0 H locs cells slots ad lsA rest q ce F X0 hce hcv hcl
  obtain ⟨x1, x2, x3, x4, x5, x6, x7, x8, x9⟩ := id X0
  refine vx_catch (own := y.1.cls) (name := name) F.2.2.2.2.1 pre x suf (F.2.2.2.2.2.2.2.2.2.1.1.trans hsplit) (fun z hz => ?_) hx h0 (F.2.2.2.2.2.1 _ hlink) (va_Nw.use rfl (F.2.2.2.2.2.2.2.2.1.2.2.2.2.2.2.2.2.2 _ hcast)) hce hcv hcl ?_
  · obtain ⟨z1, nm, z2, z3⟩ := hpass z hz
    exact Or.inr ⟨z1, nm, F.2.2.2.2.2.1 _ z2, z3 s F.2.2.2.2.2.2.2.2.2.1.2⟩
  · rcases hd with ⟨j, hd, hj, k, -⟩ | ⟨hd, k⟩
    · refine lv_astore_n F.1 F.2.1 hd hj x5.has hi rfl (fun lsB hB => ?_)
      exact k p e s m args below meth c mc ms ad0 n0 H locs cells slots ad lsB F ⟨x1, x2, x3, x4, Lv.sto0 hB, bd_sto x6 (fun a h => by cases h with | tail _ h => cases h), (fun a h => by cases h), x8, x9⟩
    · refine lv_astore F.1 F.2.1 hd x5.has hi rfl (fun lsB hB => ?_)
      exact k p e s m args below meth c mc ms ad0 n0 H locs cells slots ad lsB F ⟨x1, x2, x3, x4, Lv.sto0 hB, bd_sto x6 (fun a h => by cases h with | tail _ h => cases h), (fun a h => by cases h), x8, x9⟩
theorem EvT.st1 {pc2 : Nat} {st2 : List Value} (hbd : ∀ n, bdL n ls → bdL n st → bdL n st2)
    (h : ∀ (p : Program) (e : Env) (R : Room) (s : State) (m : MethodId) (args : Array Value) (below : List Frame) (meth : Method) (c : Code) (H : Heap) (locs : List Loc) (cells slots : Nat) (Q : State → Prop) (ad : Nat → Nat) (lsA : Array Slot), FrOKT TB G y p s m args meth c → Lv ad ls y.2.2.1 lsA → RelE G M ad H → va_S (fun q => G.2.2.1.size ≤ q) s.heap H locs →
      W p l e R s m args below meth c H locs cells slots Q (F0 m pc2 lsA (st2.map (tr ad))) → W p l e R s m args below meth c H locs cells slots Q (F0 m pc lsA (st.map (tr ad))))
    (k : EvT TB l G d y pc2 ls st2 M bc bs Φ) : EvT TB l G d y pc ls st M bc bs Φ := by
  intro p e s m args below meth c mc ms ad0 n0 H locs cells slots ad lsA F X
  obtain ⟨x1, x2, x3, x4, x5, x6, x7, x8, x9⟩ := id X
  exact h p e _ s m args below meth c H locs cells slots _ ad lsA F x5 x3 x4 (k p e s m args below meth c mc ms ad0 n0 H locs cells slots ad lsA F ⟨x1, x2, x3, x4, x5, x6, hbd _ x6 x7, x8, x9⟩)
theorem EvT.iconst {n : Int} {v : Int32} (hd : decode y.2.1 pc = .ok (.iconst n, 1)) (hv : Int32.ofInt n = v) (k : EvT TB l G d y (pc + 1) ls (.int v :: st) M bc bs Φ) : EvT TB l G d y pc ls (st) M bc bs Φ :=
  EvT.st1 (fun n hls h => bd_i h) (fun p e R s m args below meth c H locs cells slots Q ad lsA F L X S k => lv_iconst F.1 F.2.1 hd hv k) k
theorem EvT.bipush {n : Int} {v : Int32} (hd : decode y.2.1 pc = .ok (.bipush n, 2)) (hv : (Int8.ofInt n).toInt32 = v) (k : EvT TB l G d y (pc + 2) ls (.int v :: st) M bc bs Φ) : EvT TB l G d y pc ls (st) M bc bs Φ :=
  EvT.st1 (fun n hls h => bd_i h) (fun p e R s m args below meth c H locs cells slots Q ad lsA F L X S k => lv_bipush F.1 F.2.1 hd hv k) k
theorem EvT.lconst {n : Fin 2} {v : Int64} (hd : decode y.2.1 pc = .ok (.lconst n, 1)) (hv : Int64.ofNat (n : Nat) = v) (k : EvT TB l G d y (pc + 1) ls (.long v :: st) M bc bs Φ) : EvT TB l G d y pc ls (st) M bc bs Φ :=
  EvT.st1 (fun n hls h => bd_l h) (fun p e R s m args below meth c H locs cells slots Q ad lsA F L X S k => lv_lconst F.1 F.2.1 hd hv k) k
theorem EvT.iload_n {j : Fin 4} {x : Int32} (hd : decode y.2.1 pc = .ok (.iload_n j, 1)) (hl : ls[(j : Nat)]? = some (.int x)) (k : EvT TB l G d y (pc + 1) ls (.int x :: st) M bc bs Φ) : EvT TB l G d y pc ls (st) M bc bs Φ :=
  EvT.st1 (fun n hls h => bd_i h) (fun p e R s m args below meth c H locs cells slots Q ad lsA F L X S k => lv_iload_n F.1 F.2.1 hd rfl (L.at hl (fun h => by cases h)) k) k
theorem EvT.iload {i : Nat} {x : Int32} (hd : decode y.2.1 pc = .ok (.iload i, 2)) (hl : ls[i]? = some (.int x)) (k : EvT TB l G d y (pc + 2) ls (.int x :: st) M bc bs Φ) : EvT TB l G d y pc ls (st) M bc bs Φ :=
  EvT.st1 (fun n hls h => bd_i h) (fun p e R s m args below meth c H locs cells slots Q ad lsA F L X S k => lv_iload F.1 F.2.1 hd (L.at hl (fun h => by cases h)) k) k
theorem EvT.aload_n {j : Fin 4} {x : Nat} (hd : decode y.2.1 pc = .ok (.aload_n j, 1)) (hl : ls[(j : Nat)]? = some (.ref x)) (k : EvT TB l G d y (pc + 1) ls (.ref x :: st) M bc bs Φ) : EvT TB l G d y pc ls (st) M bc bs Φ :=
  EvT.st1 (fun n hls h => bd_r (bd_at hls hl) h) (fun p e R s m args below meth c H locs cells slots Q ad lsA F L X S k => (match x, hl, k with | 0, hl, k => lv_aload_nN F.1 F.2.1 hd rfl (L.at hl (fun h => by cases h)) k | x + 1, hl, k => lv_aload_n F.1 F.2.1 hd rfl (L.at hl (fun h => by cases h)) k)) k
theorem EvT.aload {i : Nat} {x : Nat} (hd : decode y.2.1 pc = .ok (.aload i, 2)) (hl : ls[i]? = some (.ref x)) (k : EvT TB l G d y (pc + 2) ls (.ref x :: st) M bc bs Φ) : EvT TB l G d y pc ls (st) M bc bs Φ :=
  EvT.st1 (fun n hls h => bd_r (bd_at hls hl) h) (fun p e R s m args below meth c H locs cells slots Q ad lsA F L X S k => (match x, hl, k with | 0, hl, k => lv_aloadN F.1 F.2.1 hd (L.at hl (fun h => by cases h)) k | x + 1, hl, k => lv_aload F.1 F.2.1 hd (L.at hl (fun h => by cases h)) k)) k
theorem EvT.iadd {x z : Int32} (hd : decode y.2.1 pc = .ok (.iadd, 1)) (k : EvT TB l G d y (pc + 1) ls (.int (x + z) :: st) M bc bs Φ) : EvT TB l G d y pc ls (.int z :: .int x :: st) M bc bs Φ :=
  EvT.st1 (fun n hls h => bd_i (bd_t (bd_t h))) (fun p e R s m args below meth c H locs cells slots Q ad lsA F L X S k => lv_iadd F.1 F.2.1 hd k) k
theorem EvT.isub {x z : Int32} (hd : decode y.2.1 pc = .ok (.isub, 1)) (k : EvT TB l G d y (pc + 1) ls (.int (x - z) :: st) M bc bs Φ) : EvT TB l G d y pc ls (.int z :: .int x :: st) M bc bs Φ :=
  EvT.st1 (fun n hls h => bd_i (bd_t (bd_t h))) (fun p e R s m args below meth c H locs cells slots Q ad lsA F L X S k => lv_isub F.1 F.2.1 hd k) k
theorem EvT.iand {x z : Int32} (hd : decode y.2.1 pc = .ok (.iand, 1)) (k : EvT TB l G d y (pc + 1) ls (.int (x &&& z) :: st) M bc bs Φ) : EvT TB l G d y pc ls (.int z :: .int x :: st) M bc bs Φ :=
  EvT.st1 (fun n hls h => bd_i (bd_t (bd_t h))) (fun p e R s m args below meth c H locs cells slots Q ad lsA F L X S k => lv_iand F.1 F.2.1 hd k) k
theorem EvT.i2l {x : Int32} (hd : decode y.2.1 pc = .ok (.i2l, 1)) (k : EvT TB l G d y (pc + 1) ls (.long x.toInt64 :: st) M bc bs Φ) : EvT TB l G d y pc ls (.int x :: st) M bc bs Φ :=
  EvT.st1 (fun n hls h => bd_l (bd_t h)) (fun p e R s m args below meth c H locs cells slots Q ad lsA F L X S k => lv_i2l F.1 F.2.1 hd rfl k) k
theorem EvT.lcmp {x z : Int64} (hd : decode y.2.1 pc = .ok (.lcmp, 1)) (k : EvT TB l G d y (pc + 1) ls (.int (lg_cmp x z) :: st) M bc bs Φ) : EvT TB l G d y pc ls (.long z :: .long x :: st) M bc bs Φ :=
  EvT.st1 (fun n hls h => bd_i (bd_t (bd_t h))) (fun p e R s m args below meth c H locs cells slots Q ad lsA F L X S k => W.lcmp F.1 F.2.1 hd k) k
theorem EvT.dup {v : Value} (hd : decode y.2.1 pc = .ok (.dup, 1)) (hv : v.category = 1) (k : EvT TB l G d y (pc + 1) ls (v :: v :: st) M bc bs Φ) : EvT TB l G d y pc ls (v :: st) M bc bs Φ :=
  EvT.st1 (fun n hls h => (fun a ha => h a ((List.mem_cons.mp ha).elim (fun e => by rw [e]; exact List.mem_cons_self) id))) (fun p e R s m args below meth c H locs cells slots Q ad lsA F L X S k => lv_dup F.1 F.2.1 hd (by rw [tr_cat]; exact hv) k) k
theorem EvT.goto {off : Int} (tgt : Nat) (hd : decode y.2.1 pc = .ok (.goto off, 3)) (ht : (pc : Int) + off = (tgt : Int)) (k : EvT TB l G d y tgt ls st M bc bs Φ) : EvT TB l G d y pc ls st M bc bs Φ :=
  EvT.st1 (fun n hls h => h) (fun p e R s m args below meth c H locs cells slots Q ad lsA F L X S k => lv_goto F.1 F.2.1 hd ht k) k
theorem EvT.if_eq {x : Int32} {off : Int} (tgt : Nat) (ht : (pc : Int) + off = (tgt : Int)) (hd : decode y.2.1 pc = .ok (.ifCond .eq off, 3)) (kt : x = 0 → EvT TB l G d y tgt ls st M bc bs Φ) (kf : ¬ x = 0 → EvT TB l G d y (pc + 3) ls st M bc bs Φ) : EvT TB l G d y pc ls (.int x :: st) M bc bs Φ := by
  intro p e s m args below meth c mc ms ad0 n0 H locs cells slots ad lsA F X
  obtain ⟨x1, x2, x3, x4, x5, x6, x7, x8, x9⟩ := id X
  have x7' := bd_t x7
  exact lv_if_eq F.1 F.2.1 hd ht (fun h => kt h p e s m args below meth c mc ms ad0 n0 H locs cells slots ad lsA F ⟨x1, x2, x3, x4, x5, x6, x7', x8, x9⟩) (fun h => kf h p e s m args below meth c mc ms ad0 n0 H locs cells slots ad lsA F ⟨x1, x2, x3, x4, x5, x6, x7', x8, x9⟩)
theorem EvT.if_ne {x : Int32} {off : Int} (tgt : Nat) (ht : (pc : Int) + off = (tgt : Int)) (hd : decode y.2.1 pc = .ok (.ifCond .ne off, 3)) (kt : ¬ x = 0 → EvT TB l G d y tgt ls st M bc bs Φ) (kf : x = 0 → EvT TB l G d y (pc + 3) ls st M bc bs Φ) : EvT TB l G d y pc ls (.int x :: st) M bc bs Φ := by
  intro p e s m args below meth c mc ms ad0 n0 H locs cells slots ad lsA F X
  obtain ⟨x1, x2, x3, x4, x5, x6, x7, x8, x9⟩ := id X
  have x7' := bd_t x7
  exact lv_if_ne F.1 F.2.1 hd ht (fun h => kt h p e s m args below meth c mc ms ad0 n0 H locs cells slots ad lsA F ⟨x1, x2, x3, x4, x5, x6, x7', x8, x9⟩) (fun h => kf h p e s m args below meth c mc ms ad0 n0 H locs cells slots ad lsA F ⟨x1, x2, x3, x4, x5, x6, x7', x8, x9⟩)
theorem EvT.icmp_gt {x z : Int32} {off : Int} (tgt : Nat) (ht : (pc : Int) + off = (tgt : Int)) (hd : decode y.2.1 pc = .ok (.if_icmp .gt off, 3)) (kt : z < x → EvT TB l G d y tgt ls st M bc bs Φ) (kf : ¬ z < x → EvT TB l G d y (pc + 3) ls st M bc bs Φ) : EvT TB l G d y pc ls (.int z :: .int x :: st) M bc bs Φ := by
  intro p e s m args below meth c mc ms ad0 n0 H locs cells slots ad lsA F X
  obtain ⟨x1, x2, x3, x4, x5, x6, x7, x8, x9⟩ := id X
  have x7' := bd_t (bd_t x7)
  exact lv_icmp_gt F.1 F.2.1 hd ht (fun h => kt h p e s m args below meth c mc ms ad0 n0 H locs cells slots ad lsA F ⟨x1, x2, x3, x4, x5, x6, x7', x8, x9⟩) (fun h => kf h p e s m args below meth c mc ms ad0 n0 H locs cells slots ad lsA F ⟨x1, x2, x3, x4, x5, x6, x7', x8, x9⟩)
theorem EvT.icmp_eq {x z : Int32} {off : Int} (tgt : Nat) (ht : (pc : Int) + off = (tgt : Int)) (hd : decode y.2.1 pc = .ok (.if_icmp .eq off, 3)) (kt : x = z → EvT TB l G d y tgt ls st M bc bs Φ) (kf : ¬ x = z → EvT TB l G d y (pc + 3) ls st M bc bs Φ) : EvT TB l G d y pc ls (.int z :: .int x :: st) M bc bs Φ := by
  intro p e s m args below meth c mc ms ad0 n0 H locs cells slots ad lsA F X
  obtain ⟨x1, x2, x3, x4, x5, x6, x7, x8, x9⟩ := id X
  have x7' := bd_t (bd_t x7)
  exact lv_icmp_eq F.1 F.2.1 hd ht (fun h => kt h p e s m args below meth c mc ms ad0 n0 H locs cells slots ad lsA F ⟨x1, x2, x3, x4, x5, x6, x7', x8, x9⟩) (fun h => kf h p e s m args below meth c mc ms ad0 n0 H locs cells slots ad lsA F ⟨x1, x2, x3, x4, x5, x6, x7', x8, x9⟩)
theorem EvT.icmp_ne {x z : Int32} {off : Int} (tgt : Nat) (ht : (pc : Int) + off = (tgt : Int)) (hd : decode y.2.1 pc = .ok (.if_icmp .ne off, 3)) (kt : ¬ x = z → EvT TB l G d y tgt ls st M bc bs Φ) (kf : x = z → EvT TB l G d y (pc + 3) ls st M bc bs Φ) : EvT TB l G d y pc ls (.int z :: .int x :: st) M bc bs Φ := by
  intro p e s m args below meth c mc ms ad0 n0 H locs cells slots ad lsA F X
  obtain ⟨x1, x2, x3, x4, x5, x6, x7, x8, x9⟩ := id X
  have x7' := bd_t (bd_t x7)
  exact lv_icmp_ne F.1 F.2.1 hd ht (fun h => kt h p e s m args below meth c mc ms ad0 n0 H locs cells slots ad lsA F ⟨x1, x2, x3, x4, x5, x6, x7', x8, x9⟩) (fun h => kf h p e s m args below meth c mc ms ad0 n0 H locs cells slots ad lsA F ⟨x1, x2, x3, x4, x5, x6, x7', x8, x9⟩)
theorem EvT.tblAt {dflt lo hi : Int} {offs : Array Int} {len : Nat} {x : Int32} {off : Int} (tgt : Nat) (hd : decode y.2.1 pc = .ok (.tableswitch dflt lo hi offs, len)) (h1 : ¬ x.toInt < lo) (h2 : ¬ hi < x.toInt) (ho : offs[(x.toInt - lo).toNat]? = some off) (ht : (pc : Int) + off = (tgt : Int)) (k : EvT TB l G d y tgt ls st M bc bs Φ) : EvT TB l G d y pc ls (.int x :: st) M bc bs Φ :=
  EvT.st1 (fun n hls h => bd_t h) (fun p e R s m args below meth c H locs cells slots Q ad lsA F L X S k => lv_tableIn F.1 F.2.1 hd h1 h2 ho ht k) k
theorem EvT.tblOut {dflt lo hi : Int} {offs : Array Int} {len : Nat} {x : Int32} (tgt : Nat) (hd : decode y.2.1 pc = .ok (.tableswitch dflt lo hi offs, len)) (h : x.toInt < lo ∨ hi < x.toInt) (ht : (pc : Int) + dflt = (tgt : Int)) (k : EvT TB l G d y tgt ls st M bc bs Φ) : EvT TB l G d y pc ls (.int x :: st) M bc bs Φ :=
  EvT.st1 (fun n hls h => bd_t h) (fun p e R s m args below meth c H locs cells slots Q ad lsA F L X S k => lv_tableOut F.1 F.2.1 hd h ht k) k
theorem EvT.ls1 {pc2 i : Nat} {v : Value} (hi : i < y.2.2.1)
    (h : ∀ (p : Program) (e : Env) (R : Room) (s : State) (m : MethodId) (args : Array Value) (below : List Frame) (meth : Method) (c : Code) (H : Heap) (locs : List Loc) (cells slots : Nat) (Q : State → Prop) (ad : Nat → Nat) (lsA : Array Slot), FrOKT TB G y p s m args meth c → Lv ad ls y.2.2.1 lsA →
      (∀ lsB : Array Slot, lv_has lsB y.2.2.1 ((i, tr ad v) :: (prs ad ls).filter (fun q => !(q.1 == i) && !(q.1 + 1 == i && q.2.category == 2))) → W p l e R s m args below meth c H locs cells slots Q (F0 m pc2 lsB (st.map (tr ad)))) → W p l e R s m args below meth c H locs cells slots Q (F0 m pc lsA ((v :: st).map (tr ad))))
    (k : EvT TB l G d y pc2 (sto ls i v) st M bc bs Φ) : EvT TB l G d y pc ls (v :: st) M bc bs Φ := by
  intro p e s m args below meth c mc ms ad0 n0 H locs cells slots ad lsA F X
  obtain ⟨x1, x2, x3, x4, x5, x6, x7, x8, x9⟩ := id X
  refine h p e _ s m args below meth c H locs cells slots _ ad lsA F x5 fun lsB hB => ?_
  exact k p e s m args below meth c mc ms ad0 n0 H locs cells slots ad lsB F ⟨x1, x2, x3, x4, Lv.sto1 hB, bd_sto x6 (bd_v x7), bd_t x7, x8, x9⟩
theorem EvT.istore {i : Nat} {x : Int32} (hd : decode y.2.1 pc = .ok (.istore i, 2)) (hi : i < y.2.2.1) (k : EvT TB l G d y (pc + 2) (sto ls i (.int x)) st M bc bs Φ) : EvT TB l G d y pc ls (.int x :: st) M bc bs Φ :=
  EvT.ls1 hi (fun p e R s m args below meth c H locs cells slots Q ad lsA F L k => lv_istore F.1 F.2.1 hd L.has hi rfl k) k
theorem EvT.istore_n {j : Fin 4} {x : Int32} (hd : decode y.2.1 pc = .ok (.istore_n j, 1)) (hi : (j : Nat) < y.2.2.1) (k : EvT TB l G d y (pc + 1) (sto ls j (.int x)) st M bc bs Φ) : EvT TB l G d y pc ls (.int x :: st) M bc bs Φ :=
  EvT.ls1 hi (fun p e R s m args below meth c H locs cells slots Q ad lsA F L k => lv_istore_n F.1 F.2.1 hd rfl L.has hi rfl k) k
theorem EvT.astore_n {j : Fin 4} {x : Nat} (hd : decode y.2.1 pc = .ok (.astore_n j, 1)) (hi : (j : Nat) < y.2.2.1) (k : EvT TB l G d y (pc + 1) (sto ls j (.ref x)) st M bc bs Φ) : EvT TB l G d y pc ls (.ref x :: st) M bc bs Φ :=
  EvT.ls1 hi (fun p e R s m args below meth c H locs cells slots Q ad lsA F L k => (match x, k with | 0, k => lv_astore_nN F.1 F.2.1 hd rfl L.has hi rfl k | x + 1, k => lv_astore_n F.1 F.2.1 hd rfl L.has hi rfl k)) k
theorem EvT.astore {i : Nat} {x : Nat} (hd : decode y.2.1 pc = .ok (.astore i, 2)) (hi : i < y.2.2.1) (k : EvT TB l G d y (pc + 2) (sto ls i (.ref x)) st M bc bs Φ) : EvT TB l G d y pc ls (.ref x :: st) M bc bs Φ :=
  EvT.ls1 hi (fun p e R s m args below meth c H locs cells slots Q ad lsA F L k => (match x, k with | 0, k => lv_astoreN F.1 F.2.1 hd L.has hi rfl k | x + 1, k => lv_astore F.1 F.2.1 hd L.has hi rfl k)) k
theorem EvT.iinc {i : Nat} {n : Int} {x v : Int32} (hd : decode y.2.1 pc = .ok (.iinc i n, 3)) (hi : i < y.2.2.1) (hl : ls[i]? = some (.int x)) (hv : x + Int32.ofInt n = v) (k : EvT TB l G d y (pc + 3) (sto ls i (.int v)) st M bc bs Φ) : EvT TB l G d y pc ls st M bc bs Φ := by
  intro p e s m args below meth c mc ms ad0 n0 H locs cells slots ad lsA F X
  obtain ⟨x1, x2, x3, x4, x5, x6, x7, x8, x9⟩ := id X
  obtain ⟨q, hq⟩ := List.getElem?_of_mem (prs_mem (ad := ad) hl (fun h => by cases h))
  refine lv_iinc F.1 F.2.1 hd x5.has hq hv hi rfl fun lsB hB => ?_
  exact k p e s m args below meth c mc ms ad0 n0 H locs cells slots ad lsB F ⟨x1, x2, x3, x4, Lv.sto1 hB, bd_sto x6 (bd_i (fun a h => by cases h)), x7, x8, x9⟩
theorem EvT.lald {a n : Nat} {i : Int32} (hd : decode y.2.1 pc = .ok (.laload, 1)) (hs : m_sh M a = (22, n)) (hin : vp_in i n) (kk : EvT TB l G d y (pc + 1) ls (.long (m_l M a i.toNatClampNeg) :: st) M bc bs Φ) : EvT TB l G d y pc ls (.int i :: .ref a :: st) M bc bs Φ :=
  EvT.st1 (fun n hls h => bd_l (bd_t (bd_t h))) (fun p e R s m args below meth c H locs cells slots Q ad lsA F L X S k => by
    obtain ⟨o1, o2⟩ := m_own X (a := a) (by rw [hs]; simp)
    have hw := m_ws_at G.2.1 ad M ⟨o1, o2⟩
    rw [m_cell_L G.2.1 ad M hs] at hw
    obtain ⟨b, rfl⟩ : ∃ b, a = b + 1 := ⟨a - 1, by omega⟩
    exact va_lald (D := G.1) (cl := vwCl) F.1 F.2.1 F.2.2.2.2.2.2.2.2.1.1 X.1 (b + 1 - 100) 2 hw rfl hin hd k) kk
theorem EvT.lald2 {a : Nat} {i : Int32} (hd : decode y.2.1 pc = .ok (.laload, 1)) (hs : (m_sh M a).1 = 22) (hin : vp_in i (m_sh M a).2) (kk : EvT TB l G d y (pc + 1) ls (.long (m_l M a i.toNatClampNeg) :: st) M bc bs Φ) : EvT TB l G d y pc ls (.int i :: .ref a :: st) M bc bs Φ := EvT.lald hd (n := (m_sh M a).2) (Prod.ext hs rfl) hin kk
theorem EvT.last {a n : Nat} {i : Int32} {x : Int64} (hd : decode y.2.1 pc = .ok (.lastore, 1)) (hs : m_sh M a = (22, n)) (hin : vp_in i n) (kk : EvT TB l G d y (pc + 1) ls st (m_sl M a i.toNatClampNeg x) bc bs Φ) : EvT TB l G d y pc ls (.long x :: .int i :: .ref a :: st) M bc bs Φ := by
  intro p e s m args below meth c mc ms ad0 n0 H locs cells slots ad lsA F X0
  obtain ⟨x1, x2, x3, x4, x5, x6, x7, x8, x9⟩ := id X0
  obtain ⟨o1, o2⟩ := m_own x3 (a := a) (by rw [hs]; simp)
  have hw := m_ws_at G.2.1 ad M ⟨o1, o2⟩
  rw [m_cell_L G.2.1 ad M hs] at hw
  obtain ⟨b, rfl⟩ : ∃ b, a = b + 1 := ⟨a - 1, by omega⟩
  refine va_last (D := G.1) (cl := vwCl) F.1 F.2.1 F.2.2.2.2.2.2.2.2.1.1 x3.1 x3.2.1 x4 (b + 1 - 100) 2 hw rfl hin hd fun H1 locs1 p1 p2 p3 => ?_
  have hR : RelE G (m_sl M (b + 1) i.toNatClampNeg x) ad H1 := m_stored x3 ⟨o1, o2⟩ rfl (fun _ => rfl) x3.2.2.2.1 (fun q hq => m_cell_sl G.2.1 ad M (b + 1) _ _ hq) (by rw [m_cell_L G.2.1 ad (m_sl M (b + 1) i.toNatClampNeg x) (n := n) hs, m_l_upd]) F.2.2.2.2.2.2.2.2.2.2 p1 p2 p3
  exact kk p e s m args below meth c mc ms ad0 n0 H1 locs1 cells slots ad lsA F ⟨x1, x2, hR, p3, x5, x6, bd_t (bd_t (bd_t x7)), x8, x9⟩
theorem EvT.last2 {a : Nat} {i : Int32} {x : Int64} (hd : decode y.2.1 pc = .ok (.lastore, 1)) (hs : (m_sh M a).1 = 22) (hin : vp_in i (m_sh M a).2) (kk : EvT TB l G d y (pc + 1) ls st (m_sl M a i.toNatClampNeg x) bc bs Φ) : EvT TB l G d y pc ls (.long x :: .int i :: .ref a :: st) M bc bs Φ := EvT.last hd (n := (m_sh M a).2) (Prod.ext hs rfl) hin kk
theorem EvT.grown {pc2 n : Nat} {t : Nat × Nat} (kk : EvT TB l G d y pc2 ls (.ref (m_nx M) :: st) (m_al M t) bc bs Φ) (ht : t.1 ≠ 99)
    {p : Program} {e : Env} {s : State} {m : MethodId} {args : Array Value} {below : List Frame} {meth : Method} {c : Code} {mc ms : Nat} {ad0 : Nat → Nat} {n0 : Nat} {H : Heap} {locs : List Loc} {cells slots : Nat} {ad : Nat → Nat} {lsA : Array Slot} (F : FrOKT TB G y p s m args meth c)
    (x1 : cells + (1 + bc) ≤ mc) (x2 : slots + (n + bs) ≤ ms) (x3 : RelE G M ad H) (x5 : Lv ad ls y.2.2.1 lsA) (x6 : bdL (m_nx M) ls) (x7 : bdL (m_nx M) st) (x8 : ∀ a, a < n0 → ad a = ad0 a) (x9 : n0 ≤ m_nx M)
    {q : Nat} {H1 : Heap} {el : va_E} (he : m_cell G.2.1 (va_up ad (m_nx M) q) (m_al M t) (m_nx M) = el) (p1 : va_P G.1 vwCl (m_ws G.2.1 ad M ++ [(q, el)]) H1) (p2 : va_D (fun q => G.2.2.1.size ≤ q) (m_ws G.2.1 ad M ++ [(q, el)])) (p3 : va_S (fun q => G.2.2.1.size ≤ q) s.heap H1 locs) :
    W p l e (rmO d mc ms) s m args below meth c H1 locs (cells + 1) (slots + n) (vx_MQ below (QcO G ad0 n0 Φ) (XcO G ad0 n0 Φ) args s mc ms (fun q => G.2.2.1.size ≤ q)) (F0 m pc2 lsA (.ref q :: st.map (tr ad))) := by
  have hu : ∀ a, a < m_nx M → va_up ad (m_nx M) q a = ad a := fun a ha => by
    show (if a = m_nx M then q else ad a) = ad a
    rw [if_neg (by omega)]
  have hq : va_up ad (m_nx M) q (m_nx M) = q := by
    show (if m_nx M = m_nx M then q else ad (m_nx M)) = q
    rw [if_pos rfl]
  have h100 := x3.2.2.1
  rw [← m_ws_al G.2.1 ad M t q x3.2.2.2.1 h100 he] at p1 p2
  have hR : RelE G (m_al M t) (va_up ad (m_nx M) q) H1 := by
    refine ⟨p1, p2, by rw [m_nx_al]; omega, fun a k => ?_, Nat.le_trans F.2.2.2.2.2.2.2.2.2.2.1 p3.1, fun z hz => ?_, fun a ha => ?_, fun a ha => ?_⟩
    · rw [m_nx_al, m_r_al]
      split
      · omega
      · have := x3.2.2.2.1 a k; omega
    · rw [p3.2.1 z (Nat.lt_of_lt_of_le hz F.2.2.2.2.2.2.2.2.2.2.1) (Nat.not_le.mpr hz)]
      exact F.2.2.2.2.2.2.2.2.2.2.2 z hz
    · rw [hu a (by omega)]
      exact x3.2.2.2.2.2.2.1 a ha
    · rw [m_nx_al] at ha
      rw [m_sh_al, if_neg (by omega)]
      exact x3.2.2.2.2.2.2.2 a (by omega)
  have K := kk p e s m args below meth c mc ms ad0 n0 H1 locs (cells + 1) (slots + n) (va_up ad (m_nx M) q) lsA F ⟨by omega, by omega, hR, p3, x5.ext hu x6, bd_le (by rw [m_nx_al]; omega) x6, bd_r (by rw [m_nx_al]; omega) (bd_le (by rw [m_nx_al]; omega) x7), fun a ha => (hu a (by omega)).trans (x8 a ha), by rw [m_nx_al]; omega⟩
  rw [List.map_cons, tr_extL hu x7] at K
  have e1 : tr (va_up ad (m_nx M) q) (.ref (m_nx M)) = .ref q := by
    obtain ⟨z, hz⟩ : ∃ z, m_nx M = z + 1 := ⟨m_nx M - 1, by omega⟩
    rw [hz] at hq ⊢
    show Value.ref (va_up ad (z + 1) q (z + 1)) = _
    rw [hq]
  rw [e1] at K
  exact K
theorem EvT.newL {n : Int32} {N : Nat} (hd : decode y.2.1 pc = .ok (.newarray .long, 2)) (hw : Cond.arrayClass .long ∈ lwg) (hn : ¬ n < 0) (hN : n.toNatClampNeg = N) (hb : N * 8 ≤ 536870912) (kk : EvT TB l G d y (pc + 2) ls (.ref (m_nx M) :: st) (m_al M (22, N)) bc bs Φ) : EvT TB l G d y pc ls (.int n :: st) M (1 + bc) (N + bs) Φ := by
  intro p e s m args below meth c mc ms ad0 n0 H locs cells slots ad lsA F X0
  obtain ⟨x1, x2, x3, x4, x5, x6, x7, x8, x9⟩ := id X0
  refine va_newa (D := G.1) (cl := vwCl) (atype := .long) (ty := .long) (a0 := (N, .inr (.inl (fun _ => 0)))) F.1 F.2.1 (F.2.2.2.2.2.1 _ hw) rfl F.2.2.2.2.2.2.2.2.1.1 x3.1 x3.2.1 x4 (fun q hq => Nat.le_trans F.2.2.2.2.2.2.2.2.2.2.1 hq) (fun cA => rfl) hn hN hb (show cells + 1 ≤ mc by omega) (show slots + N ≤ ms by omega) hd fun q cA H1 hK p1 p2 p3 => ?_
  have hid : cA = G.2.1 22 := m_arrId (hK.2 7 (cA, .long) rfl).2 (F.2.2.2.2.2.2.2.2.1.1.2 2 (G.2.1 22, .long) rfl).2
  subst hid
  refine EvT.grown kk (by simp) F x1 x2 x3 x5 x6 (bd_t x7) x8 x9 ?_ p1 p2 p3
  rw [m_cell_L G.2.1 _ (m_al M (22, N)) (n := N) (by rw [m_sh_al, if_pos rfl])]
  rw [show m_l (m_al M (22, N)) (m_nx M) = fun _ => 0 from funext fun j => by rw [m_l_al, if_pos rfl]]
theorem EvT.newL2 {n : Int32} (N : Nat) (hd : decode y.2.1 pc = .ok (.newarray .long, 2)) (hw : Cond.arrayClass .long ∈ lwg) (hn : ¬ n < 0) (hN : n.toNatClampNeg = N) (hb : N * 8 ≤ 536870912) (hr : 1 ≤ bc ∧ N ≤ bs) (kk : EvT TB l G d y (pc + 2) ls (.ref (m_nx M) :: st) (m_al M (22, N)) (bc - 1) (bs - N) Φ) : EvT TB l G d y pc ls (.int n :: st) M bc bs Φ := by
  have h := EvT.newL hd hw hn hN hb kk
  rw [show 1 + (bc - 1) = bc by omega, show N + (bs - N) = bs by omega] at h
  exact h
theorem EvT.newO {idx ci : Nat} {C : String} {T : u_T} (hd : decode y.2.1 pc = .ok (.new idx, 3)) (hc : vwCl[ci]? = some (C, T, nFd ci)) (hci : ci < 12) (hcl : Cond.classLink y.1.cls idx C ∈ lwg) (hins : Cond.instantiable C (nFd ci) ∈ lwg) (hini : Cond.initialized C ∈ lwg) (kk : EvT TB l G d y (pc + 3) ls (.ref (m_nx M) :: st) (m_al M (ci, 0)) bc bs Φ) : EvT TB l G d y pc ls st M (1 + bc) (nFd ci + bs) Φ := by
  intro p e s m args below meth c mc ms ad0 n0 H locs cells slots ad lsA F X0
  obtain ⟨x1, x2, x3, x4, x5, x6, x7, x8, x9⟩ := id X0
  refine va_new (D := G.1) (cl := vwCl) (fs := (List.range (nFd ci)).map (fun j => defaultValue (tyC ci j))) F.1 F.2.1 F.2.2.2.2.2.1 (in_C ci hci _ hc) (tyC ci) (ty_C ci hci _ hc) F.2.2.2.2.1 (F.2.2.2.2.2.1 _ hcl) (F.2.2.2.2.2.1 _ hins) (F.2.2.2.2.2.1 _ hini) F.2.2.2.2.2.2.2.2.1.1 x3.1 x3.2.1 x4 (fun q hq => Nat.le_trans F.2.2.2.2.2.2.2.2.2.2.1 hq) hc (fun j hj => ?_) (show cells + 1 ≤ mc by omega) (show slots + nFd ci ≤ ms by omega) hd fun q H1 p1 p2 p3 => ?_
  · show _ = ((List.range (nFd ci)).map (fun j => defaultValue (tyC ci j))).getD j Value.null
    rw [List.getD_eq_getElem?_getD, List.getElem?_map, List.getElem?_range hj]
    rfl
  · refine EvT.grown kk (show ci ≠ 99 by omega) F x1 x2 x3 x5 x6 x7 x8 x9 ?_ p1 p2 p3
    rw [m_cell_O G.2.1 _ (m_al M (ci, 0)) (ci := ci) (by rw [m_sh_al, if_pos rfl]) hci]
    congr 2
    apply List.map_congr_left
    intro j hj
    unfold m_fv
    rw [m_i_al, if_pos rfl, m_r_al, if_pos rfl]
    have key : ∀ r : vw_C, vwCl[ci]? = some r → ∀ k, k < r.2.2 → (if isI (tyC ci k) = true then Value.int 0 else Value.null) = defaultValue (tyC ci k) := by
      intro r hr k hk
      have hall : ∀ i, i < 12 → ∀ k, k < nFd i → (if isI (tyC i k) = true then Value.int 0 else Value.null) = defaultValue (tyC i k) := by decide +kernel
      rw [hc] at hr
      cases hr
      exact hall ci hci k hk
    exact key _ hc j (List.mem_range.mp hj)
theorem EvT.newO2 {idx : Nat} {C : String} {T : u_T} (ci : Nat) (hd : decode y.2.1 pc = .ok (.new idx, 3)) (hc : vwCl[ci]? = some (C, T, nFd ci)) (hci : ci < 12) (hcl : Cond.classLink y.1.cls idx C ∈ lwg) (hins : Cond.instantiable C (nFd ci) ∈ lwg) (hini : Cond.initialized C ∈ lwg) (hr : 1 ≤ bc ∧ nFd ci ≤ bs) (kk : EvT TB l G d y (pc + 3) ls (.ref (m_nx M) :: st) (m_al M (ci, 0)) (bc - 1) (bs - nFd ci) Φ) : EvT TB l G d y pc ls st M bc bs Φ := by
  have h := EvT.newO hd hc hci hcl hins hini kk
  rw [show 1 + (bc - 1) = bc by omega, show nFd ci + (bs - nFd ci) = bs by omega] at h
  exact h
theorem EvT.iret {v : Int32} {ty : FieldType} (hd : decode y.2.1 pc = .ok (.ireturn, 1)) (hr : y.2.2.2 = some ty) (hn : narrow ty (.int v) = .int v) (hq : Φ (.inl (some (.int v))) M) : EvT TB l G d y pc ls [.int v] M bc bs Φ := by
  intro p e s m args below meth c mc ms ad0 n0 H locs cells slots ad lsA F X0
  obtain ⟨x1, x2, x3, x4, x5, x6, x7, x8, x9⟩ := id X0
  refine vx_ret (W.widen (k := mc) (n := ms) (by omega) (by omega) ?_)
  exact W.zret F.1 F.2.1 (F.2.2.1.trans hr) hn (fun t ht hW => ⟨some (.int v), M, ad, rfl, hq, x8, x9, x7, by rw [ht]; exact x3, by rw [ht]; exact x4.1⟩) (fun q hq => x4.2.2 q hq) hd F.2.2.2.2.2.2.1
theorem EvT.callV {d2 idx ci a n bc2 bs2 : Nat} {z : MR} {av : List Value} {Φ2 : OutV → Mm → Prop} (hd : decode y.2.1 pc = .ok (.invokevirtual idx, 3)) (hm : MOK z n) (hn : av.length = n) (hl : Cond.methodLink y.1.cls idx z.1 ∈ lwg) (hi : Cond.instanceMethod z.1 ∈ lwg) (hsel : Cond.selects z.1.cls z.1 z.1 ∈ lwg) (hci : ci < 12) (hcn : (vwCl[ci]?).map (fun q => q.1) = some z.1.cls) (hs : (m_sh M a).1 = ci) (hdd : d2 < d) (hst : (st.map fun v => v.category).sum ≤ 8)
    (hM : Ct l G d2 z bc2 bs2 (.ref a :: av) M Φ2) (kr : ∀ v M', Φ2 (.inl v) M' → EvT TB l G d y (pc + 3) ls (v.toList ++ st) M' bc bs Φ) (kx : ∀ E M', Φ2 (.inr E) M' → EvX TB l G d y pc ls E M' bc bs Φ) : EvT TB l G d y pc ls (av.reverse ++ .ref a :: st) M (bc2 + bc) (bs2 + bs) Φ := by
  refine EvT.run (st := st) (Φ2 := Φ2) ?_ (fun n h => (m_bd_args h).2) kr kx
  intro p e s m args below meth c mc ms H locs cells slots ad lsA F x3 hsz hb hcc hss
  obtain ⟨o1, o2⟩ := m_own x3 (a := a) (by rw [hs]; omega)
  have hw := m_ws_at G.2.1 ad M ⟨o1, o2⟩
  rw [m_cell_O G.2.1 ad M hs hci] at hw
  obtain ⟨b, rfl⟩ : ∃ b, a = b + 1 := ⟨a - 1, by omega⟩
  obtain ⟨r, hr1, cell, c1, c2, c3, -⟩ := x3.1 _ _ hw
  have hcls : s.vm.findClass z.1.cls = some cell.cls := by
    have h1 := (F.2.2.2.2.2.2.2.2.1.1.1 ci r hr1).2.1
    have hr2 : vwCl[ci]? = some r := hr1
    rw [hr2] at hcn
    rw [← Option.some.inj hcn, c2]
    exact h1
  exact vx_runV (C := z.1.cls) (b := ad (b + 1)) (As := av.map (tr ad)) (rest := st.map (tr ad)) (Ts := lwg) ⟨F.1, F.2.1, F.2.2.2.1, F.2.2.2.2.1, F.2.2.2.2.2.1⟩ (hM ad (m_bd_args hb).1) ⟨m_callB F.2.2.2.2.2.1 hm hl hdd, F.2.2.2.2.2.1 _ hi, F.2.2.2.2.2.1 _ hsel⟩
    ⟨m_blind, ⟨cell, c1, by rw [c3]; rfl, hcls⟩, fun U hU hW => ⟨rfl, by rw [hU]; exact x3, F.2.2.2.2.2.2.2.2.1.warm hW⟩⟩ rfl (by rw [List.length_map]; exact hn) hsz (by show List.map (tr ad) (av.reverse ++ Value.ref (b + 1) :: st) = _; rw [List.map_append, List.map_reverse]; rfl) (lv_room (m_sum hst)) hd ⟨hcc, hss⟩
theorem EvT.callI {d2 idx a n bc2 bs2 : Nat} {z : MR} {av : List Value} {Φ2 : OutV → Mm → Prop} (hd : decode y.2.1 pc = .ok (.invokespecial idx, 3)) (hm : MOK z n) (hn : av.length = n) (hl : Cond.methodLink y.1.cls idx z.1 ∈ lwg ∨ ∃ host, Cond.methodLinkNest y.1.cls idx z.1 host ∈ lwx) (hi : Cond.instanceMethod z.1 ∈ lwg) (hin : z.1.name = "<init>") (hret : z.2.2.2 = none) (ha : a ≠ 0) (hdd : d2 < d) (hst : (st.map fun v => v.category).sum ≤ 8)
    (hM : Ct l G d2 z bc2 bs2 (.ref a :: av) M Φ2) (hx : ∀ E M', ¬ Φ2 (.inr E) M') (kr : ∀ v M', Φ2 (.inl v) M' → EvT TB l G d y (pc + 3) ls (v.toList ++ st) M' bc bs Φ) : EvT TB l G d y pc ls (av.reverse ++ .ref a :: st) M (bc2 + bc) (bs2 + bs) Φ := by
  refine EvT.run (st := st) (Φ2 := Φ2) ?_ (fun n h => (m_bd_args h).2) kr (fun E M' h => (hx E M' h).elim)
  intro p e s m args below meth c mc ms H locs cells slots ad lsA F x3 hsz hb hcc hss
  obtain ⟨b, rfl⟩ : ∃ b, a = b + 1 := ⟨a - 1, by omega⟩
  have hMt := hM.met hx ad (m_bd_args hb).1
  have hstk : List.map (tr ad) (av.reverse ++ Value.ref (b + 1) :: st) = (av.map (tr ad)).reverse ++ Value.ref (ad (b + 1)) :: st.map (tr ad) := by rw [List.map_append, List.map_reverse]; rfl
  rcases hl with hl | ⟨host, hl⟩
  · have cb := m_callB (d := d) (d2 := d2) (mc := mc) (ms := ms) (bc2 := bc2) (bs2 := bs2) F.2.2.2.2.2.1 hm hl hdd
    rw [hret] at cb
    exact m_runOf (va_runI (b := ad (b + 1)) (As := av.map (tr ad)) (rest := st.map (tr ad)) (Ts := lwg) ⟨F.1, F.2.1, F.2.2.2.1, F.2.2.2.2.1, F.2.2.2.2.2.1⟩ hMt ⟨cb, hin, F.2.2.2.2.2.1 _ hi⟩
      ⟨m_blind, fun U hU hW => ⟨rfl, by rw [hU]; exact x3, F.2.2.2.2.2.2.2.2.1.warm hW⟩⟩ rfl (by rw [List.length_map]; exact hn) hsz hstk (lv_room (m_sum hst)) hd ⟨hcc, hss⟩)
  · have cb := m_callN (d := d) (d2 := d2) (mc := mc) (ms := ms) (bc2 := bc2) (bs2 := bs2) F.2.2.2.2.2.1 F.2.2.2.2.2.2.2.2.1.2.2.2.2.2.2.2.2.2 hm hl hdd
    rw [hret] at cb
    exact m_runOf (va_runIN (b := ad (b + 1)) (As := av.map (tr ad)) (rest := st.map (tr ad)) (Ts := lwg) ⟨F.1, F.2.1, F.2.2.2.1, F.2.2.2.2.1, F.2.2.2.2.2.1⟩ hMt ⟨cb, hin, F.2.2.2.2.2.1 _ hi⟩
      ⟨m_blind, fun U hU hW => ⟨rfl, by rw [hU]; exact x3, F.2.2.2.2.2.2.2.2.1.warm hW⟩⟩ rfl (by rw [List.length_map]; exact hn) hsz hstk (lv_room (m_sum hst)) hd ⟨hcc, hss⟩)
end EVT
/-! ===== the script ===== -/
def SC (G : Gx) (L : Nat) (xs : Nat → Int32) : Prop := G.2.2.2 98 < G.2.2.1.size ∧ ∃ scr : Cell, G.2.2.1[G.2.2.2 98]? = some scr ∧ scr.slots.size = L ∧ ∀ j : Nat, j < L → scr.slots[j]? = some (.int (xs j))
theorem SC.at {G : Gx} {L : Nat} {xs : Nat → Int32} {s : State} (h : SC G L xs) (hN : NC G s) : va_X (G.2.2.2 98) L xs s G.2.2.1 := by
  obtain ⟨-, scr, h1, h2, h3⟩ := h
  obtain ⟨-, -, -, L', xs', scr', g1, g2, g3, -, -⟩ := hN
  cases Option.some.inj (h1.symm.trans g1)
  exact ⟨scr, h1, g2, g3, h2, h3⟩
section SCR
variable {TB : List ExceptionTableEntry} {l : Launch} {G : Gx} {d : Nat} {y : MR} {pc : Nat} {ls st : List Value} {M : Mm} {bc bs : Nat} {Φ : OutV → Mm → Prop} {L : Nat} {xs : Nat → Int32}
theorem sc_base {p : Program} {s : State} {m : MethodId} {args : Array Value} {meth : Method} {c : Code} {ad : Nat → Nat} {H : Heap} {locs : List Loc} (hSC : SC G L xs) (F : FrOKT TB G y p s m args meth c) (x3 : RelE G M ad H) : va_X (G.2.2.2 98) L xs s s.heap ∧ G.2.2.2 98 < s.heap.size ∧ ¬ G.2.2.1.size ≤ G.2.2.2 98 ∧ ad 98 = G.2.2.2 98 := by
  have h0 := hSC.1
  exact ⟨(hSC.at F.2.2.2.2.2.2.2.2.2.1.2).kept (F.2.2.2.2.2.2.2.2.2.2.2 _ h0), Nat.lt_of_lt_of_le h0 F.2.2.2.2.2.2.2.2.2.2.1, by omega, x3.2.2.2.2.2.2.1 98 (by omega)⟩
theorem EvT.scld {i : Int32} (hSC : SC G L xs) (hd : decode y.2.1 pc = .ok (.iaload, 1)) (hin : vp_in i L) (k : EvT TB l G d y (pc + 1) ls (.int (xs i.toNatClampNeg) :: st) M bc bs Φ) : EvT TB l G d y pc ls (.int i :: .ref 98 :: st) M bc bs Φ :=
  EvT.st1 (fun n hls h => bd_i (bd_t (bd_t h))) (fun p e R s m args below meth c H locs cells slots Q ad lsA F Lv X S k => by
    obtain ⟨q1, q2, q3, q4⟩ := sc_base (locs := locs) hSC F X
    have hh : List.map (tr ad) (.int i :: .ref 98 :: st) = .int i :: .ref (G.2.2.2 98) :: st.map (tr ad) := by rw [← q4]; rfl
    rw [hh]
    exact va_sld F.1 F.2.1 q1 q2 q3 S hin hd k) k
theorem EvT.sclen (hSC : SC G L xs) (hd : decode y.2.1 pc = .ok (.arraylength, 1)) (k : EvT TB l G d y (pc + 1) ls (.int (nI L) :: st) M bc bs Φ) : EvT TB l G d y pc ls (.ref 98 :: st) M bc bs Φ :=
  EvT.st1 (fun n hls h => bd_i (bd_t h)) (fun p e R s m args below meth c H locs cells slots Q ad lsA F Lv X S k => by
    obtain ⟨q1, q2, q3, q4⟩ := sc_base (locs := locs) hSC F X
    have hh : List.map (tr ad) (.ref 98 :: st) = .ref (G.2.2.2 98) :: st.map (tr ad) := by rw [← q4]; rfl
    rw [hh]
    exact va_slen F.1 F.2.1 q1 q2 q3 S hd k) k
end SCR
/-! ===== a method that may catch, and its call ===== -/
def wsH (y : MR) (hh : List (Nat × Nat × Nat × Nat)) : List Cond := Cond.codeWith y.1 y.2.1 y.2.2.1 y.2.2.2 hh :: lwg
def CtH (l : Launch) (G : Gx) (d : Nat) (y : MR) (hh : List (Nat × Nat × Nat × Nat)) (bc bs : Nat) (av : List Value) (M : Mm) (Φ : OutV → Mm → Prop) : Prop :=
  ∀ ad : Nat → Nat, bdL (m_nx M) av → vx_Met l y.1 (wsH y hh) (rmO d bc bs) (fun a U => a = (av.map (tr ad)).toArray ∧ RelE G M ad U.heap ∧ KG G U ∧ NC G U) (QcO G ad (m_nx M) Φ) (XcO G ad (m_nx M) Φ) bc bs (fun q => G.2.2.1.size ≤ q)
section CTH
variable {l : Launch} {G : Gx} {d : Nat} {y : MR} {pc : Nat} {ls st : List Value} {M : Mm} {bc bs : Nat} {Φ : OutV → Mm → Prop} {hh : List (Nat × Nat × Nat × Nat)}
theorem CtH.of {av : List Value} (hy : plainName y.1.cls = true) (hn : (av.flatMap fun v => if v.category = 2 then [v, Value.null] else [v]).length ≤ y.2.2.1)
    (h : EvT (tableOf hh) l G d y 0 (ent av y.2.2.1) [] M bc bs Φ) : CtH l G d y hh bc bs av M Φ := by
  intro ad hbd
  refine vx_ofWH (cc := y.2.1) (maxL := y.2.2.1) (ret := y.2.2.2) (hh := hh) hy rfl ?_
  intro p e s m args below meth c s₁ B hml hv
  obtain ⟨rfl, hR, hK, hN⟩ := hv
  have hts := atoms_spec (ws := wsH y hh) B.pre
  rw [lg_entry_eq]
  have h1 : FrOKT (tableOf hh) G y p s m (av.map (tr ad)).toArray meth c := ⟨B.exec, B.bytes, B.returns, hml, findClass_of_methodNamed B.named, fun w hw => hts w (List.mem_cons_of_mem _ hw), B.notSynchronized, (name_of_methodNamed B.named B.method).1, hK, ⟨vx_table (x := y.1) B (hts _ List.mem_cons_self), hN⟩, hR.2.2.2.2.1, hR.2.2.2.2.2.1⟩
  exact h p e s m _ below meth c bc bs ad (m_nx M) s.heap [] 0 0 ad _ h1 ⟨by omega, by omega, hR, va_S.rf, Lv_ent ad av _ hn, bd_ent hbd, (fun a h => by cases h), fun _ _ => rfl, Nat.le_refl _⟩
/-- a method with a table as the tables know it -/
def MOH (z : MR) (hh : List (Nat × Nat × Nat × Nat)) (n : Nat) : Prop := Cond.codeWith z.1 z.2.1 z.2.2.1 z.2.2.2 hh ∈ lwg ∧ Cond.initialized z.1.cls ∈ lwg ∧ (z.1.cls ≠ "java/lang/invoke/MethodHandle" ∧ z.1.cls ≠ "java/lang/invoke/VarHandle") ∧ (parseMethodDescriptor z.1.desc).map (fun q => q.parameters.length) = some n ∧ z.2.2.1 ≤ 45
theorem m_callH {d2 mc ms bc2 bs2 : Nat} {s : State} {args : Array Value} (hts : ∀ w ∈ lwg, w.before args s = true) {z : MR} {n : Nat} (hm : MOH z hh n) {own : String} {idx : Nat} (hl : Cond.methodLink own idx z.1 ∈ lwg) (hi : Cond.static z.1 ∈ lwg) (hdd : d2 < d) : vx_CSW (rmO d mc ms) s args own idx z.1 z.2.1 z.2.2.1 z.2.2.2 hh (wsH z hh) (rmO d2 bc2 bs2) bc2 bs2 n := by
  refine ⟨⟨rfl, rfl, hdd, ?_, fun w hw a' U hW => ?_, List.mem_cons_self⟩, hts _ hm.1, hts _ hm.2.1, hm.2.2.1, fun sig hs => ?_, hts _ hl, hts _ hi⟩
  · show 8 + (z.2.2.1 + 11) + 64 * d2 ≤ 64 * d
    have := hm.2.2.2.2
    omega
  · have hin : w ∈ lwg := (List.mem_cons.mp hw).elim (fun e => by rw [e]; exact hm.1) id
    exact word_at hW (lwg_good hin) (hts w hin)
  · have h2 := hm.2.2.2.1
    rw [hs] at h2
    exact (Option.some.inj h2).symm
theorem m_blindH {av : List Value} {ad : Nat → Nat} : FrameBlind (fun a U => a = (av.map (tr ad)).toArray ∧ RelE G M ad U.heap ∧ KG G U ∧ NC G U) := fun a U g mk h => ⟨h.1, h.2.1, KG.same (s := U) rfl h.2.2.1, h.2.2.2⟩
/-- the law calls a method that catches -/
theorem EvT.callSH {TB : List ExceptionTableEntry} {d2 idx n bc2 bs2 : Nat} {z : MR} {av : List Value} {Φ2 : OutV → Mm → Prop} (hd : decode y.2.1 pc = .ok (.invokestatic idx, 3)) (hm : MOH z hh n) (hn : av.length = n) (hl : Cond.methodLink y.1.cls idx z.1 ∈ lwg) (hi : Cond.static z.1 ∈ lwg) (hdd : d2 < d) (hst : (st.map fun v => v.category).sum ≤ 8)
    (hM : CtH l G d2 z hh bc2 bs2 av M Φ2) (kr : ∀ v M', Φ2 (.inl v) M' → EvT TB l G d y (pc + 3) ls (v.toList ++ st) M' bc bs Φ) (kx : ∀ E M', ¬ Φ2 (.inr E) M') : EvT TB l G d y pc ls (av.reverse ++ st) M (bc2 + bc) (bs2 + bs) Φ := by
  refine EvT.run (st := st) (Φ2 := Φ2) ?_ (fun n h a ha => h a (List.mem_append_right _ ha)) kr (fun E M' h => (kx E M' h).elim)
  intro p e s m args below meth c mc ms H locs cells slots ad lsA F x3 hsz hb hcc hss
  exact vx_runSX (As := av.map (tr ad)) (rest := st.map (tr ad)) (Ts := lwg) ⟨F.1, F.2.1, F.2.2.2.1, F.2.2.2.2.1, F.2.2.2.2.2.1⟩ (hM ad (fun a ha => hb a (List.mem_append_left _ (List.mem_reverse.mpr ha)))) (m_callH F.2.2.2.2.2.1 hm hl hi hdd)
    ⟨m_blindH, fun U hU hW => ⟨rfl, by rw [hU]; exact x3, F.2.2.2.2.2.2.2.2.1.warm hW, F.2.2.2.2.2.2.2.2.2.1.2.warm hW⟩⟩ rfl (by rw [List.length_map]; exact hn) hsz (by show List.map (tr ad) (av.reverse ++ st) = _; rw [List.map_append, List.map_reverse]) (lv_room (m_sum hst)) hd ⟨hcc, hss⟩
end CTH
/-! ===== calls of the law ===== -/
def CallTC (l : Launch) (G : Gx) (d : Nat) (y : MR) (pc2 : Nat) (ls st : List Value) (z : MR) (av : List Value) (M : Mm) (bc bs : Nat) (Φ : OutV → Mm → Prop) : Prop :=
  ∃ (d2 bc2 bs2 bc3 bs3 : Nat) (Φ2 : OutV → Mm → Prop), d2 < d ∧ bc = bc2 + bc3 ∧ bs = bs2 + bs3 ∧ Ct l G d2 z bc2 bs2 av M Φ2 ∧ (∀ v M', Φ2 (.inl v) M' → EvT [] l G d y pc2 ls (v.toList ++ st) M' bc3 bs3 Φ) ∧ ∀ E M', ¬ Φ2 (.inr E) M'
def CallTH (l : Launch) (G : Gx) (d : Nat) (y : MR) (pc2 : Nat) (ls st : List Value) (z : MR) (hh : List (Nat × Nat × Nat × Nat)) (av : List Value) (M : Mm) (bc bs : Nat) (Φ : OutV → Mm → Prop) : Prop :=
  ∃ (d2 bc2 bs2 bc3 bs3 : Nat) (Φ2 : OutV → Mm → Prop), d2 < d ∧ bc = bc2 + bc3 ∧ bs = bs2 + bs3 ∧ CtH l G d2 z hh bc2 bs2 av M Φ2 ∧ (∀ v M', Φ2 (.inl v) M' → EvT [] l G d y pc2 ls (v.toList ++ st) M' bc3 bs3 Φ) ∧ ∀ E M', ¬ Φ2 (.inr E) M'
section LCL
variable {l : Launch} {G : Gx} {d : Nat} {y : MR} {pc : Nat} {ls st : List Value} {M : Mm} {bc bs : Nat} {Φ : OutV → Mm → Prop} {hh : List (Nat × Nat × Nat × Nat)}
theorem EvT.vcV {idx ci a n : Nat} {z : MR} (av st : List Value) {st0 : List Value} (hst0 : st0 = av.reverse ++ .ref a :: st) (hd : decode y.2.1 pc = .ok (.invokevirtual idx, 3)) (hm : MOK z n) (hn : av.length = n) (hl : Cond.methodLink y.1.cls idx z.1 ∈ lwg) (hi : Cond.instanceMethod z.1 ∈ lwg) (hsel : Cond.selects z.1.cls z.1 z.1 ∈ lwg) (hci : ci < 12) (hcn : (vwCl[ci]?).map (fun q => q.1) = some z.1.cls) (hs : (m_sh M a).1 = ci) (hst : (st.map fun v => v.category).sum ≤ 8)
    (h : CallTC l G d y (pc + 3) ls st z (.ref a :: av) M bc bs Φ) : EvT [] l G d y pc ls st0 M bc bs Φ := by
  obtain ⟨d2, bc2, bs2, bc3, bs3, Φ2, h1, h2, h3, h4, h5, h6⟩ := h
  subst hst0; subst h2; subst h3
  exact EvT.callV hd hm hn hl hi hsel hci hcn hs h1 hst h4 h5 (fun E M' h => (h6 E M' h).elim)
theorem EvT.vcI {idx a n : Nat} {z : MR} (av st : List Value) {st0 : List Value} (hst0 : st0 = av.reverse ++ .ref a :: st) (hd : decode y.2.1 pc = .ok (.invokespecial idx, 3)) (hm : MOK z n) (hn : av.length = n) (hl : Cond.methodLink y.1.cls idx z.1 ∈ lwg ∨ ∃ host, Cond.methodLinkNest y.1.cls idx z.1 host ∈ lwx) (hi : Cond.instanceMethod z.1 ∈ lwg) (hin : z.1.name = "<init>") (hret : z.2.2.2 = none) (ha : a ≠ 0) (hst : (st.map fun v => v.category).sum ≤ 8)
    (h : CallTC l G d y (pc + 3) ls st z (.ref a :: av) M bc bs Φ) : EvT [] l G d y pc ls st0 M bc bs Φ := by
  obtain ⟨d2, bc2, bs2, bc3, bs3, Φ2, h1, h2, h3, h4, h5, h6⟩ := h
  subst hst0; subst h2; subst h3
  exact EvT.callI hd hm hn hl hi hin hret ha h1 hst h4 h6 h5
theorem EvT.vcH {idx n : Nat} {z : MR} (av st : List Value) {st0 : List Value} (hst0 : st0 = av.reverse ++ st) (hd : decode y.2.1 pc = .ok (.invokestatic idx, 3)) (hm : MOH z hh n) (hn : av.length = n) (hl : Cond.methodLink y.1.cls idx z.1 ∈ lwg) (hi : Cond.static z.1 ∈ lwg) (hst : (st.map fun v => v.category).sum ≤ 8)
    (h : CallTH l G d y (pc + 3) ls st z hh av M bc bs Φ) : EvT [] l G d y pc ls st0 M bc bs Φ := by
  obtain ⟨d2, bc2, bs2, bc3, bs3, Φ2, h1, h2, h3, h4, h5, h6⟩ := h
  subst hst0; subst h2; subst h3
  exact EvT.callSH hd hm hn hl hi h1 hst h4 h5 h6
end LCL
