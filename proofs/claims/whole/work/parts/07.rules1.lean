/-! ===== rules: constants, locals, operand stack, arithmetic, branches ===== -/
def sto (ls : List Value) (i : Nat) (v : Value) : List Value := (match i with
  | 0 => ls
  | j + 1 => match ls[j]? with
    | some w => if w.category = 2 then ls.set j .null else ls
    | none => ls).set i v
def prs (ad : Nat → Nat) (ls : List Value) : List (Nat × Value) := (List.range ls.length).filterMap fun i => match ls[i]? with
  | some Value.null => none
  | some v => some (i, tr ad v)
  | none => none
theorem prs_mem {ad : Nat → Nat} {ls : List Value} {i : Nat} {v : Value} (h : ls[i]? = some v) (hv : v ≠ .null) : (i, tr ad v) ∈ prs ad ls := by
  refine List.mem_filterMap.mpr ⟨i, List.mem_range.mpr (List.getElem?_eq_some_iff.mp h).1, ?_⟩
  rw [h]
  cases v <;> first | exact absurd rfl hv | rfl
theorem prs_of {ad : Nat → Nat} {ls : List Value} {q : Nat × Value} (h : q ∈ prs ad ls) : ∃ v, ls[q.1]? = some v ∧ v ≠ .null ∧ q.2 = tr ad v := by
  obtain ⟨i, -, hi⟩ := List.mem_filterMap.mp h
  cases hl : ls[i]? with
  | none => rw [hl] at hi; cases hi
  | some v =>
    rw [hl] at hi
    cases v <;> first | (exfalso; cases hi; done) | (cases hi; exact ⟨_, hl, (fun h => by cases h), rfl⟩)
theorem Lv.has {ad : Nat → Nat} {ls : List Value} {n : Nat} {lsA : Array Slot} (h : Lv ad ls n lsA) : lv_has lsA n (prs ad ls) :=
  ⟨h.1, h.2.1, fun q hq => by
    obtain ⟨v, h1, h2, h3⟩ := prs_of hq
    rw [h3]
    exact h.2.2 q.1 v h1 h2⟩
theorem Lv.at {ad : Nat → Nat} {ls : List Value} {n : Nat} {lsA : Array Slot} (h : Lv ad ls n lsA) {i : Nat} {v : Value} (hi : ls[i]? = some v) (hv : v ≠ .null) : lsA[i]? = some (.val (tr ad v)) := h.2.2 i v hi hv
theorem Lv.sto1 {ad : Nat → Nat} {ls : List Value} {n : Nat} {lsA : Array Slot} {i : Nat} {v : Value} (h : lv_has lsA n ((i, tr ad v) :: (prs ad ls).filter (fun q => !(q.1 == i) && !(q.1 + 1 == i && q.2.category == 2)))) : Lv ad (sto ls i v) n lsA := by
  refine ⟨h.1, h.2.1, fun j w hj hw => ?_⟩
  by_cases e : j = i
  · subst e
    have : w = v := by
      unfold sto at hj
      have hlt := (List.getElem?_eq_some_iff.mp hj).1
      rw [List.getElem?_set_self (by simpa using hlt)] at hj
      exact (Option.some.inj hj).symm
    subst this
    exact h.2.2 (j, tr ad w) List.mem_cons_self
  · have key : ls[j]? = some w ∧ ¬ (j + 1 = i ∧ w.category = 2) := by
      unfold sto at hj
      rw [List.getElem?_set_ne (Ne.symm e)] at hj
      match i, hj, e with
      | 0, hj, _ => exact ⟨hj, fun q => by cases q.1⟩
      | k + 1, hj, e =>
        cases hk : ls[k]? with
        | none =>
          simp only [hk] at hj
          exact ⟨hj, fun q => by have : j = k := by omega
                                 subst this; rw [hk] at hj; cases hj⟩
        | some u =>
          simp only [hk] at hj
          by_cases hc : u.category = 2
          · rw [if_pos hc] at hj
            by_cases ej : j = k
            · subst ej
              have hlt := (List.getElem?_eq_some_iff.mp hk).1
              rw [List.getElem?_set_self hlt] at hj
              exact absurd (Option.some.inj hj).symm hw
            · rw [List.getElem?_set_ne (Ne.symm ej)] at hj
              exact ⟨hj, fun q => ej (by omega)⟩
          · rw [if_neg hc] at hj
            refine ⟨hj, fun q => ?_⟩
            have : j = k := by omega
            subst this
            rw [hk] at hj
            cases hj
            exact hc q.2
    refine h.2.2 (j, tr ad w) (List.mem_cons_of_mem _ (List.mem_filter.mpr ⟨prs_mem key.1 hw, ?_⟩))
    simp only [Bool.and_eq_true, Bool.not_eq_true', beq_eq_false_iff_ne, ne_eq, Bool.and_eq_false_iff, tr_cat]
    refine ⟨e, ?_⟩
    by_cases h1 : j + 1 = i
    · exact Or.inr fun q => key.2 ⟨h1, q⟩
    · exact Or.inl h1
theorem bd_sto {n : Nat} {ls : List Value} {i : Nat} {v : Value} (h : bdL n ls) (hv : bdL n [v]) : bdL n (sto ls i v) := by
  intro a ha
  unfold sto at ha
  rcases List.mem_or_eq_of_mem_set ha with h1 | h1
  · match i, h1 with
    | 0, h1 => exact h a h1
    | k + 1, h1 =>
      cases hk : ls[k]? with
      | none => simp only [hk] at h1; exact h a h1
      | some u =>
        simp only [hk] at h1
        by_cases hc : u.category = 2
        · rw [if_pos hc] at h1
          rcases List.mem_or_eq_of_mem_set h1 with h2 | h2
          · exact h a h2
          · cases h2
        · rw [if_neg hc] at h1
          exact h a h1
  · exact hv a (by rw [h1]; exact List.mem_cons_self)
theorem bd_t {n : Nat} {v : Value} {st : List Value} (h : bdL n (v :: st)) : bdL n st := fun a ha => h a (List.mem_cons_of_mem _ ha)
theorem bd_i {n : Nat} {x : Int32} {st : List Value} (h : bdL n st) : bdL n (.int x :: st) := fun a ha => (List.mem_cons.mp ha).elim (fun e => by cases e) (h a)
theorem bd_l {n : Nat} {x : Int64} {st : List Value} (h : bdL n st) : bdL n (.long x :: st) := fun a ha => (List.mem_cons.mp ha).elim (fun e => by cases e) (h a)
theorem bd_r {n b : Nat} {st : List Value} (hb : b < n) (h : bdL n st) : bdL n (.ref b :: st) := fun a ha => (List.mem_cons.mp ha).elim (fun e => by cases e; exact hb) (h a)
theorem bd_h {n b : Nat} {st : List Value} (h : bdL n (.ref b :: st)) : b < n := h b List.mem_cons_self
theorem bd_at {n b i : Nat} {ls : List Value} (h : bdL n ls) (hi : ls[i]? = some (.ref b)) : b < n := h b (List.mem_of_getElem? hi)
theorem bd_v {n : Nat} {v : Value} {st : List Value} (h : bdL n (v :: st)) : bdL n [v] := fun a ha => h a ((List.mem_cons.mp ha).elim (fun e => by rw [e]; exact List.mem_cons_self) (fun e => by cases e))
section R1
variable {l : Launch} {G : Gx} {d : Nat} {y : MR} {pc : Nat} {ls st : List Value} {M : Mm} {bc bs : Nat} {Φ : OutV → Mm → Prop}

theorem Ev.iconst {n : Int} {v : Int32} (hd : decode y.2.1 pc = .ok (.iconst n, 1)) (hv : Int32.ofInt n = v) (k : Ev l G d y (pc + 1) ls (.int v :: st) M bc bs Φ) : Ev l G d y pc ls (st) M bc bs Φ :=
  Ev.st1 (fun n hls h => bd_i h) (fun p e R s m args below meth c H locs cells slots Q ad lsA F L X S k => lv_iconst F.1 F.2.1 hd hv k) k
theorem Ev.bipush {n : Int} {v : Int32} (hd : decode y.2.1 pc = .ok (.bipush n, 2)) (hv : (Int8.ofInt n).toInt32 = v) (k : Ev l G d y (pc + 2) ls (.int v :: st) M bc bs Φ) : Ev l G d y pc ls (st) M bc bs Φ :=
  Ev.st1 (fun n hls h => bd_i h) (fun p e R s m args below meth c H locs cells slots Q ad lsA F L X S k => lv_bipush F.1 F.2.1 hd hv k) k
theorem Ev.sipush {n : Int} {v : Int32} (hd : decode y.2.1 pc = .ok (.sipush n, 3)) (hv : (Int16.ofInt n).toInt32 = v) (k : Ev l G d y (pc + 3) ls (.int v :: st) M bc bs Φ) : Ev l G d y pc ls (st) M bc bs Φ :=
  Ev.st1 (fun n hls h => bd_i h) (fun p e R s m args below meth c H locs cells slots Q ad lsA F L X S k => lv_sipush F.1 F.2.1 hd hv k) k
theorem Ev.lconst {n : Fin 2} {v : Int64} (hd : decode y.2.1 pc = .ok (.lconst n, 1)) (hv : Int64.ofNat (n : Nat) = v) (k : Ev l G d y (pc + 1) ls (.long v :: st) M bc bs Φ) : Ev l G d y pc ls (st) M bc bs Φ :=
  Ev.st1 (fun n hls h => bd_l h) (fun p e R s m args below meth c H locs cells slots Q ad lsA F L X S k => lv_lconst F.1 F.2.1 hd hv k) k
theorem Ev.ldc {i : Nat} {v : Int32} (hd : decode y.2.1 pc = .ok (.ldc i, 2)) (hw : Cond.constant y.1.cls i v ∈ lwg) (k : Ev l G d y (pc + 2) ls (.int v :: st) M bc bs Φ) : Ev l G d y pc ls (st) M bc bs Φ :=
  Ev.st1 (fun n hls h => bd_i h) (fun p e R s m args below meth c H locs cells slots Q ad lsA F L X S k => lv_ldc F.1 F.2.1 F.2.2.2.2.1 (F.2.2.2.2.2.1 _ hw) hd k) k
theorem Ev.ldc_w {i : Nat} {v : Int32} (hd : decode y.2.1 pc = .ok (.ldc_w i, 3)) (hw : Cond.constant y.1.cls i v ∈ lwg) (k : Ev l G d y (pc + 3) ls (.int v :: st) M bc bs Φ) : Ev l G d y pc ls (st) M bc bs Φ :=
  Ev.st1 (fun n hls h => bd_i h) (fun p e R s m args below meth c H locs cells slots Q ad lsA F L X S k => lv_ldcw F.1 F.2.1 F.2.2.2.2.1 (F.2.2.2.2.2.1 _ hw) hd k) k
theorem Ev.ldc2_w {i : Nat} {v : Int64} (hd : decode y.2.1 pc = .ok (.ldc2_w i, 3)) (hw : Cond.constantLong y.1.cls i v ∈ lwg) (k : Ev l G d y (pc + 3) ls (.long v :: st) M bc bs Φ) : Ev l G d y pc ls (st) M bc bs Φ :=
  Ev.st1 (fun n hls h => bd_l h) (fun p e R s m args below meth c H locs cells slots Q ad lsA F L X S k => lv_ldc2 F.1 F.2.1 F.2.2.2.2.1 (F.2.2.2.2.2.1 _ hw) hd k) k
theorem Ev.iload_n {j : Fin 4} {x : Int32} (hd : decode y.2.1 pc = .ok (.iload_n j, 1)) (hl : ls[(j : Nat)]? = some (.int x)) (k : Ev l G d y (pc + 1) ls (.int x :: st) M bc bs Φ) : Ev l G d y pc ls (st) M bc bs Φ :=
  Ev.st1 (fun n hls h => bd_i h) (fun p e R s m args below meth c H locs cells slots Q ad lsA F L X S k => lv_iload_n F.1 F.2.1 hd rfl (L.at hl (fun h => by cases h)) k) k
theorem Ev.iload {i : Nat} {x : Int32} (hd : decode y.2.1 pc = .ok (.iload i, 2)) (hl : ls[i]? = some (.int x)) (k : Ev l G d y (pc + 2) ls (.int x :: st) M bc bs Φ) : Ev l G d y pc ls (st) M bc bs Φ :=
  Ev.st1 (fun n hls h => bd_i h) (fun p e R s m args below meth c H locs cells slots Q ad lsA F L X S k => lv_iload F.1 F.2.1 hd (L.at hl (fun h => by cases h)) k) k
theorem Ev.lload_n {j : Fin 4} {x : Int64} (hd : decode y.2.1 pc = .ok (.lload_n j, 1)) (hl : ls[(j : Nat)]? = some (.long x)) (k : Ev l G d y (pc + 1) ls (.long x :: st) M bc bs Φ) : Ev l G d y pc ls (st) M bc bs Φ :=
  Ev.st1 (fun n hls h => bd_l h) (fun p e R s m args below meth c H locs cells slots Q ad lsA F L X S k => lv_lload_n F.1 F.2.1 hd rfl (L.at hl (fun h => by cases h)) k) k
theorem Ev.lload {i : Nat} {x : Int64} (hd : decode y.2.1 pc = .ok (.lload i, 2)) (hl : ls[i]? = some (.long x)) (k : Ev l G d y (pc + 2) ls (.long x :: st) M bc bs Φ) : Ev l G d y pc ls (st) M bc bs Φ :=
  Ev.st1 (fun n hls h => bd_l h) (fun p e R s m args below meth c H locs cells slots Q ad lsA F L X S k => lv_lload F.1 F.2.1 hd (L.at hl (fun h => by cases h)) k) k
theorem Ev.aload_n {j : Fin 4} {x : Nat} (hd : decode y.2.1 pc = .ok (.aload_n j, 1)) (hl : ls[(j : Nat)]? = some (.ref x)) (k : Ev l G d y (pc + 1) ls (.ref x :: st) M bc bs Φ) : Ev l G d y pc ls (st) M bc bs Φ :=
  Ev.st1 (fun n hls h => bd_r (bd_at hls hl) h) (fun p e R s m args below meth c H locs cells slots Q ad lsA F L X S k => (match x, hl, k with | 0, hl, k => lv_aload_nN F.1 F.2.1 hd rfl (L.at hl (fun h => by cases h)) k | x + 1, hl, k => lv_aload_n F.1 F.2.1 hd rfl (L.at hl (fun h => by cases h)) k)) k
theorem Ev.aload {i : Nat} {x : Nat} (hd : decode y.2.1 pc = .ok (.aload i, 2)) (hl : ls[i]? = some (.ref x)) (k : Ev l G d y (pc + 2) ls (.ref x :: st) M bc bs Φ) : Ev l G d y pc ls (st) M bc bs Φ :=
  Ev.st1 (fun n hls h => bd_r (bd_at hls hl) h) (fun p e R s m args below meth c H locs cells slots Q ad lsA F L X S k => (match x, hl, k with | 0, hl, k => lv_aloadN F.1 F.2.1 hd (L.at hl (fun h => by cases h)) k | x + 1, hl, k => lv_aload F.1 F.2.1 hd (L.at hl (fun h => by cases h)) k)) k
theorem Ev.iadd {x z : Int32} (hd : decode y.2.1 pc = .ok (.iadd, 1)) (k : Ev l G d y (pc + 1) ls (.int (x + z) :: st) M bc bs Φ) : Ev l G d y pc ls (.int z :: .int x :: st) M bc bs Φ :=
  Ev.st1 (fun n hls h => bd_i (bd_t (bd_t h))) (fun p e R s m args below meth c H locs cells slots Q ad lsA F L X S k => lv_iadd F.1 F.2.1 hd k) k
theorem Ev.isub {x z : Int32} (hd : decode y.2.1 pc = .ok (.isub, 1)) (k : Ev l G d y (pc + 1) ls (.int (x - z) :: st) M bc bs Φ) : Ev l G d y pc ls (.int z :: .int x :: st) M bc bs Φ :=
  Ev.st1 (fun n hls h => bd_i (bd_t (bd_t h))) (fun p e R s m args below meth c H locs cells slots Q ad lsA F L X S k => lv_isub F.1 F.2.1 hd k) k
theorem Ev.imul {x z : Int32} (hd : decode y.2.1 pc = .ok (.imul, 1)) (k : Ev l G d y (pc + 1) ls (.int (x * z) :: st) M bc bs Φ) : Ev l G d y pc ls (.int z :: .int x :: st) M bc bs Φ :=
  Ev.st1 (fun n hls h => bd_i (bd_t (bd_t h))) (fun p e R s m args below meth c H locs cells slots Q ad lsA F L X S k => lv_imul F.1 F.2.1 hd k) k
theorem Ev.iand {x z : Int32} (hd : decode y.2.1 pc = .ok (.iand, 1)) (k : Ev l G d y (pc + 1) ls (.int (x &&& z) :: st) M bc bs Φ) : Ev l G d y pc ls (.int z :: .int x :: st) M bc bs Φ :=
  Ev.st1 (fun n hls h => bd_i (bd_t (bd_t h))) (fun p e R s m args below meth c H locs cells slots Q ad lsA F L X S k => lv_iand F.1 F.2.1 hd k) k
theorem Ev.ior {x z : Int32} (hd : decode y.2.1 pc = .ok (.ior, 1)) (k : Ev l G d y (pc + 1) ls (.int (x ||| z) :: st) M bc bs Φ) : Ev l G d y pc ls (.int z :: .int x :: st) M bc bs Φ :=
  Ev.st1 (fun n hls h => bd_i (bd_t (bd_t h))) (fun p e R s m args below meth c H locs cells slots Q ad lsA F L X S k => lv_ior F.1 F.2.1 hd k) k
theorem Ev.ixor {x z : Int32} (hd : decode y.2.1 pc = .ok (.ixor, 1)) (k : Ev l G d y (pc + 1) ls (.int (x ^^^ z) :: st) M bc bs Φ) : Ev l G d y pc ls (.int z :: .int x :: st) M bc bs Φ :=
  Ev.st1 (fun n hls h => bd_i (bd_t (bd_t h))) (fun p e R s m args below meth c H locs cells slots Q ad lsA F L X S k => lv_ixor F.1 F.2.1 hd k) k
theorem Ev.ishl {x z : Int32} (hd : decode y.2.1 pc = .ok (.ishl, 1)) (k : Ev l G d y (pc + 1) ls (.int (x <<< (z &&& 31)) :: st) M bc bs Φ) : Ev l G d y pc ls (.int z :: .int x :: st) M bc bs Φ :=
  Ev.st1 (fun n hls h => bd_i (bd_t (bd_t h))) (fun p e R s m args below meth c H locs cells slots Q ad lsA F L X S k => lv_ishl F.1 F.2.1 hd k) k
theorem Ev.ishr {x z : Int32} (hd : decode y.2.1 pc = .ok (.ishr, 1)) (k : Ev l G d y (pc + 1) ls (.int (x >>> (z &&& 31)) :: st) M bc bs Φ) : Ev l G d y pc ls (.int z :: .int x :: st) M bc bs Φ :=
  Ev.st1 (fun n hls h => bd_i (bd_t (bd_t h))) (fun p e R s m args below meth c H locs cells slots Q ad lsA F L X S k => lv_ishr F.1 F.2.1 hd k) k
theorem Ev.iushr {x z : Int32} (hd : decode y.2.1 pc = .ok (.iushr, 1)) (k : Ev l G d y (pc + 1) ls (.int ((x.toUInt32 >>> (z.toUInt32 &&& Int32.toUInt32 31)).toInt32) :: st) M bc bs Φ) : Ev l G d y pc ls (.int z :: .int x :: st) M bc bs Φ :=
  Ev.st1 (fun n hls h => bd_i (bd_t (bd_t h))) (fun p e R s m args below meth c H locs cells slots Q ad lsA F L X S k => lv_iushr F.1 F.2.1 hd rfl k) k
theorem Ev.idiv {x z : Int32} (hd : decode y.2.1 pc = .ok (.idiv, 1)) (hz : ¬ z = 0) (k : Ev l G d y (pc + 1) ls (.int (x / z) :: st) M bc bs Φ) : Ev l G d y pc ls (.int z :: .int x :: st) M bc bs Φ :=
  Ev.st1 (fun n hls h => bd_i (bd_t (bd_t h))) (fun p e R s m args below meth c H locs cells slots Q ad lsA F L X S k => lv_idiv F.1 F.2.1 hd hz k) k
theorem Ev.irem {x z : Int32} (hd : decode y.2.1 pc = .ok (.irem, 1)) (hz : ¬ z = 0) (k : Ev l G d y (pc + 1) ls (.int (x - x / z * z) :: st) M bc bs Φ) : Ev l G d y pc ls (.int z :: .int x :: st) M bc bs Φ :=
  Ev.st1 (fun n hls h => bd_i (bd_t (bd_t h))) (fun p e R s m args below meth c H locs cells slots Q ad lsA F L X S k => lv_irem F.1 F.2.1 hd hz k) k
theorem Ev.ineg {x : Int32} (hd : decode y.2.1 pc = .ok (.ineg, 1)) (k : Ev l G d y (pc + 1) ls (.int (-x) :: st) M bc bs Φ) : Ev l G d y pc ls (.int x :: st) M bc bs Φ :=
  Ev.st1 (fun n hls h => bd_i (bd_t h)) (fun p e R s m args below meth c H locs cells slots Q ad lsA F L X S k => lv_ineg F.1 F.2.1 hd k) k
theorem Ev.i2l {x : Int32} (hd : decode y.2.1 pc = .ok (.i2l, 1)) (k : Ev l G d y (pc + 1) ls (.long x.toInt64 :: st) M bc bs Φ) : Ev l G d y pc ls (.int x :: st) M bc bs Φ :=
  Ev.st1 (fun n hls h => bd_l (bd_t h)) (fun p e R s m args below meth c H locs cells slots Q ad lsA F L X S k => lv_i2l F.1 F.2.1 hd rfl k) k
theorem Ev.i2b {x : Int32} (hd : decode y.2.1 pc = .ok (.i2b, 1)) (k : Ev l G d y (pc + 1) ls (.int x.toInt8.toInt32 :: st) M bc bs Φ) : Ev l G d y pc ls (.int x :: st) M bc bs Φ :=
  Ev.st1 (fun n hls h => bd_i (bd_t h)) (fun p e R s m args below meth c H locs cells slots Q ad lsA F L X S k => lv_i2b F.1 F.2.1 hd rfl k) k
theorem Ev.i2c {x : Int32} (hd : decode y.2.1 pc = .ok (.i2c, 1)) (k : Ev l G d y (pc + 1) ls (.int x.toUInt32.toUInt16.toUInt32.toInt32 :: st) M bc bs Φ) : Ev l G d y pc ls (.int x :: st) M bc bs Φ :=
  Ev.st1 (fun n hls h => bd_i (bd_t h)) (fun p e R s m args below meth c H locs cells slots Q ad lsA F L X S k => lv_i2c F.1 F.2.1 hd rfl k) k
theorem Ev.ladd {x z : Int64} (hd : decode y.2.1 pc = .ok (.ladd, 1)) (k : Ev l G d y (pc + 1) ls (.long (x + z) :: st) M bc bs Φ) : Ev l G d y pc ls (.long z :: .long x :: st) M bc bs Φ :=
  Ev.st1 (fun n hls h => bd_l (bd_t (bd_t h))) (fun p e R s m args below meth c H locs cells slots Q ad lsA F L X S k => lv_ladd F.1 F.2.1 hd k) k
theorem Ev.lsub {x z : Int64} (hd : decode y.2.1 pc = .ok (.lsub, 1)) (k : Ev l G d y (pc + 1) ls (.long (x - z) :: st) M bc bs Φ) : Ev l G d y pc ls (.long z :: .long x :: st) M bc bs Φ :=
  Ev.st1 (fun n hls h => bd_l (bd_t (bd_t h))) (fun p e R s m args below meth c H locs cells slots Q ad lsA F L X S k => lv_lsub F.1 F.2.1 hd k) k
theorem Ev.lmul {x z : Int64} (hd : decode y.2.1 pc = .ok (.lmul, 1)) (k : Ev l G d y (pc + 1) ls (.long (x * z) :: st) M bc bs Φ) : Ev l G d y pc ls (.long z :: .long x :: st) M bc bs Φ :=
  Ev.st1 (fun n hls h => bd_l (bd_t (bd_t h))) (fun p e R s m args below meth c H locs cells slots Q ad lsA F L X S k => lv_lmul F.1 F.2.1 hd k) k
theorem Ev.lcmp {x z : Int64} (hd : decode y.2.1 pc = .ok (.lcmp, 1)) (k : Ev l G d y (pc + 1) ls (.int (lg_cmp x z) :: st) M bc bs Φ) : Ev l G d y pc ls (.long z :: .long x :: st) M bc bs Φ :=
  Ev.st1 (fun n hls h => bd_i (bd_t (bd_t h))) (fun p e R s m args below meth c H locs cells slots Q ad lsA F L X S k => W.lcmp F.1 F.2.1 hd k) k
theorem Ev.dup {v : Value} (hd : decode y.2.1 pc = .ok (.dup, 1)) (hv : v.category = 1) (k : Ev l G d y (pc + 1) ls (v :: v :: st) M bc bs Φ) : Ev l G d y pc ls (v :: st) M bc bs Φ :=
  Ev.st1 (fun n hls h => (fun a ha => h a ((List.mem_cons.mp ha).elim (fun e => by rw [e]; exact List.mem_cons_self) id))) (fun p e R s m args below meth c H locs cells slots Q ad lsA F L X S k => lv_dup F.1 F.2.1 hd (by rw [tr_cat]; exact hv) k) k
theorem Ev.dup2 {v w : Value} (hd : decode y.2.1 pc = .ok (.dup2, 1)) (hv : v.category = 1) (hw : w.category = 1) (k : Ev l G d y (pc + 1) ls (v :: w :: v :: w :: st) M bc bs Φ) : Ev l G d y pc ls (v :: w :: st) M bc bs Φ :=
  Ev.st1 (fun n hls h => (fun a ha => h a ((List.mem_cons.mp ha).elim (fun e => by rw [e]; exact List.mem_cons_self) (fun ha => (List.mem_cons.mp ha).elim (fun e => by rw [e]; exact List.mem_cons_of_mem _ List.mem_cons_self) id)))) (fun p e R s m args below meth c H locs cells slots Q ad lsA F L X S k => lv_dup2_11 F.1 F.2.1 hd (by rw [tr_cat]; exact hv) (by rw [tr_cat]; exact hw) k) k
theorem Ev.pop {v : Value} (hd : decode y.2.1 pc = .ok (.pop, 1)) (hv : v.category = 1) (k : Ev l G d y (pc + 1) ls (st) M bc bs Φ) : Ev l G d y pc ls (v :: st) M bc bs Φ :=
  Ev.st1 (fun n hls h => bd_t h) (fun p e R s m args below meth c H locs cells slots Q ad lsA F L X S k => lv_pop F.1 F.2.1 hd (by rw [tr_cat]; exact hv) k) k
theorem Ev.goto {off : Int} (tgt : Nat) (hd : decode y.2.1 pc = .ok (.goto off, 3)) (ht : (pc : Int) + off = (tgt : Int)) (k : Ev l G d y tgt ls st M bc bs Φ) : Ev l G d y pc ls st M bc bs Φ :=
  Ev.st1 (fun n hls h => h) (fun p e R s m args below meth c H locs cells slots Q ad lsA F L X S k => lv_goto F.1 F.2.1 hd ht k) k
theorem Ev.if_eq {x : Int32} {off : Int} (tgt : Nat) (ht : (pc : Int) + off = (tgt : Int)) (hd : decode y.2.1 pc = .ok (.ifCond .eq off, 3)) (kt : x = 0 → Ev l G d y tgt ls st M bc bs Φ) (kf : ¬ x = 0 → Ev l G d y (pc + 3) ls st M bc bs Φ) : Ev l G d y pc ls (.int x :: st) M bc bs Φ := by
  intro p e s m args below meth c mc ms ad0 n0 H locs cells slots ad lsA F X
  obtain ⟨x1, x2, x3, x4, x5, x6, x7, x8, x9⟩ := id X
  have x7' := bd_t x7
  exact lv_if_eq F.1 F.2.1 hd ht (fun h => kt h p e s m args below meth c mc ms ad0 n0 H locs cells slots ad lsA F ⟨x1, x2, x3, x4, x5, x6, x7', x8, x9⟩) (fun h => kf h p e s m args below meth c mc ms ad0 n0 H locs cells slots ad lsA F ⟨x1, x2, x3, x4, x5, x6, x7', x8, x9⟩)
theorem Ev.icmp_eq {x z : Int32} {off : Int} (tgt : Nat) (ht : (pc : Int) + off = (tgt : Int)) (hd : decode y.2.1 pc = .ok (.if_icmp .eq off, 3)) (kt : x = z → Ev l G d y tgt ls st M bc bs Φ) (kf : ¬ x = z → Ev l G d y (pc + 3) ls st M bc bs Φ) : Ev l G d y pc ls (.int z :: .int x :: st) M bc bs Φ := by
  intro p e s m args below meth c mc ms ad0 n0 H locs cells slots ad lsA F X
  obtain ⟨x1, x2, x3, x4, x5, x6, x7, x8, x9⟩ := id X
  have x7' := bd_t (bd_t x7)
  exact lv_icmp_eq F.1 F.2.1 hd ht (fun h => kt h p e s m args below meth c mc ms ad0 n0 H locs cells slots ad lsA F ⟨x1, x2, x3, x4, x5, x6, x7', x8, x9⟩) (fun h => kf h p e s m args below meth c mc ms ad0 n0 H locs cells slots ad lsA F ⟨x1, x2, x3, x4, x5, x6, x7', x8, x9⟩)
theorem Ev.if_ne {x : Int32} {off : Int} (tgt : Nat) (ht : (pc : Int) + off = (tgt : Int)) (hd : decode y.2.1 pc = .ok (.ifCond .ne off, 3)) (kt : ¬ x = 0 → Ev l G d y tgt ls st M bc bs Φ) (kf : x = 0 → Ev l G d y (pc + 3) ls st M bc bs Φ) : Ev l G d y pc ls (.int x :: st) M bc bs Φ := by
  intro p e s m args below meth c mc ms ad0 n0 H locs cells slots ad lsA F X
  obtain ⟨x1, x2, x3, x4, x5, x6, x7, x8, x9⟩ := id X
  have x7' := bd_t x7
  exact lv_if_ne F.1 F.2.1 hd ht (fun h => kt h p e s m args below meth c mc ms ad0 n0 H locs cells slots ad lsA F ⟨x1, x2, x3, x4, x5, x6, x7', x8, x9⟩) (fun h => kf h p e s m args below meth c mc ms ad0 n0 H locs cells slots ad lsA F ⟨x1, x2, x3, x4, x5, x6, x7', x8, x9⟩)
theorem Ev.icmp_ne {x z : Int32} {off : Int} (tgt : Nat) (ht : (pc : Int) + off = (tgt : Int)) (hd : decode y.2.1 pc = .ok (.if_icmp .ne off, 3)) (kt : ¬ x = z → Ev l G d y tgt ls st M bc bs Φ) (kf : x = z → Ev l G d y (pc + 3) ls st M bc bs Φ) : Ev l G d y pc ls (.int z :: .int x :: st) M bc bs Φ := by
  intro p e s m args below meth c mc ms ad0 n0 H locs cells slots ad lsA F X
  obtain ⟨x1, x2, x3, x4, x5, x6, x7, x8, x9⟩ := id X
  have x7' := bd_t (bd_t x7)
  exact lv_icmp_ne F.1 F.2.1 hd ht (fun h => kt h p e s m args below meth c mc ms ad0 n0 H locs cells slots ad lsA F ⟨x1, x2, x3, x4, x5, x6, x7', x8, x9⟩) (fun h => kf h p e s m args below meth c mc ms ad0 n0 H locs cells slots ad lsA F ⟨x1, x2, x3, x4, x5, x6, x7', x8, x9⟩)
theorem Ev.if_lt {x : Int32} {off : Int} (tgt : Nat) (ht : (pc : Int) + off = (tgt : Int)) (hd : decode y.2.1 pc = .ok (.ifCond .lt off, 3)) (kt : x < 0 → Ev l G d y tgt ls st M bc bs Φ) (kf : ¬ x < 0 → Ev l G d y (pc + 3) ls st M bc bs Φ) : Ev l G d y pc ls (.int x :: st) M bc bs Φ := by
  intro p e s m args below meth c mc ms ad0 n0 H locs cells slots ad lsA F X
  obtain ⟨x1, x2, x3, x4, x5, x6, x7, x8, x9⟩ := id X
  have x7' := bd_t x7
  exact lv_if_lt F.1 F.2.1 hd ht (fun h => kt h p e s m args below meth c mc ms ad0 n0 H locs cells slots ad lsA F ⟨x1, x2, x3, x4, x5, x6, x7', x8, x9⟩) (fun h => kf h p e s m args below meth c mc ms ad0 n0 H locs cells slots ad lsA F ⟨x1, x2, x3, x4, x5, x6, x7', x8, x9⟩)
theorem Ev.icmp_lt {x z : Int32} {off : Int} (tgt : Nat) (ht : (pc : Int) + off = (tgt : Int)) (hd : decode y.2.1 pc = .ok (.if_icmp .lt off, 3)) (kt : x < z → Ev l G d y tgt ls st M bc bs Φ) (kf : ¬ x < z → Ev l G d y (pc + 3) ls st M bc bs Φ) : Ev l G d y pc ls (.int z :: .int x :: st) M bc bs Φ := by
  intro p e s m args below meth c mc ms ad0 n0 H locs cells slots ad lsA F X
  obtain ⟨x1, x2, x3, x4, x5, x6, x7, x8, x9⟩ := id X
  have x7' := bd_t (bd_t x7)
  exact lv_icmp_lt F.1 F.2.1 hd ht (fun h => kt h p e s m args below meth c mc ms ad0 n0 H locs cells slots ad lsA F ⟨x1, x2, x3, x4, x5, x6, x7', x8, x9⟩) (fun h => kf h p e s m args below meth c mc ms ad0 n0 H locs cells slots ad lsA F ⟨x1, x2, x3, x4, x5, x6, x7', x8, x9⟩)
theorem Ev.if_ge {x : Int32} {off : Int} (tgt : Nat) (ht : (pc : Int) + off = (tgt : Int)) (hd : decode y.2.1 pc = .ok (.ifCond .ge off, 3)) (kt : 0 ≤ x → Ev l G d y tgt ls st M bc bs Φ) (kf : ¬ 0 ≤ x → Ev l G d y (pc + 3) ls st M bc bs Φ) : Ev l G d y pc ls (.int x :: st) M bc bs Φ := by
  intro p e s m args below meth c mc ms ad0 n0 H locs cells slots ad lsA F X
  obtain ⟨x1, x2, x3, x4, x5, x6, x7, x8, x9⟩ := id X
  have x7' := bd_t x7
  exact lv_if_ge F.1 F.2.1 hd ht (fun h => kt h p e s m args below meth c mc ms ad0 n0 H locs cells slots ad lsA F ⟨x1, x2, x3, x4, x5, x6, x7', x8, x9⟩) (fun h => kf h p e s m args below meth c mc ms ad0 n0 H locs cells slots ad lsA F ⟨x1, x2, x3, x4, x5, x6, x7', x8, x9⟩)
theorem Ev.icmp_ge {x z : Int32} {off : Int} (tgt : Nat) (ht : (pc : Int) + off = (tgt : Int)) (hd : decode y.2.1 pc = .ok (.if_icmp .ge off, 3)) (kt : z ≤ x → Ev l G d y tgt ls st M bc bs Φ) (kf : ¬ z ≤ x → Ev l G d y (pc + 3) ls st M bc bs Φ) : Ev l G d y pc ls (.int z :: .int x :: st) M bc bs Φ := by
  intro p e s m args below meth c mc ms ad0 n0 H locs cells slots ad lsA F X
  obtain ⟨x1, x2, x3, x4, x5, x6, x7, x8, x9⟩ := id X
  have x7' := bd_t (bd_t x7)
  exact lv_icmp_ge F.1 F.2.1 hd ht (fun h => kt h p e s m args below meth c mc ms ad0 n0 H locs cells slots ad lsA F ⟨x1, x2, x3, x4, x5, x6, x7', x8, x9⟩) (fun h => kf h p e s m args below meth c mc ms ad0 n0 H locs cells slots ad lsA F ⟨x1, x2, x3, x4, x5, x6, x7', x8, x9⟩)
theorem Ev.if_gt {x : Int32} {off : Int} (tgt : Nat) (ht : (pc : Int) + off = (tgt : Int)) (hd : decode y.2.1 pc = .ok (.ifCond .gt off, 3)) (kt : 0 < x → Ev l G d y tgt ls st M bc bs Φ) (kf : ¬ 0 < x → Ev l G d y (pc + 3) ls st M bc bs Φ) : Ev l G d y pc ls (.int x :: st) M bc bs Φ := by
  intro p e s m args below meth c mc ms ad0 n0 H locs cells slots ad lsA F X
  obtain ⟨x1, x2, x3, x4, x5, x6, x7, x8, x9⟩ := id X
  have x7' := bd_t x7
  exact lv_if_gt F.1 F.2.1 hd ht (fun h => kt h p e s m args below meth c mc ms ad0 n0 H locs cells slots ad lsA F ⟨x1, x2, x3, x4, x5, x6, x7', x8, x9⟩) (fun h => kf h p e s m args below meth c mc ms ad0 n0 H locs cells slots ad lsA F ⟨x1, x2, x3, x4, x5, x6, x7', x8, x9⟩)
theorem Ev.icmp_gt {x z : Int32} {off : Int} (tgt : Nat) (ht : (pc : Int) + off = (tgt : Int)) (hd : decode y.2.1 pc = .ok (.if_icmp .gt off, 3)) (kt : z < x → Ev l G d y tgt ls st M bc bs Φ) (kf : ¬ z < x → Ev l G d y (pc + 3) ls st M bc bs Φ) : Ev l G d y pc ls (.int z :: .int x :: st) M bc bs Φ := by
  intro p e s m args below meth c mc ms ad0 n0 H locs cells slots ad lsA F X
  obtain ⟨x1, x2, x3, x4, x5, x6, x7, x8, x9⟩ := id X
  have x7' := bd_t (bd_t x7)
  exact lv_icmp_gt F.1 F.2.1 hd ht (fun h => kt h p e s m args below meth c mc ms ad0 n0 H locs cells slots ad lsA F ⟨x1, x2, x3, x4, x5, x6, x7', x8, x9⟩) (fun h => kf h p e s m args below meth c mc ms ad0 n0 H locs cells slots ad lsA F ⟨x1, x2, x3, x4, x5, x6, x7', x8, x9⟩)
theorem Ev.if_le {x : Int32} {off : Int} (tgt : Nat) (ht : (pc : Int) + off = (tgt : Int)) (hd : decode y.2.1 pc = .ok (.ifCond .le off, 3)) (kt : x ≤ 0 → Ev l G d y tgt ls st M bc bs Φ) (kf : ¬ x ≤ 0 → Ev l G d y (pc + 3) ls st M bc bs Φ) : Ev l G d y pc ls (.int x :: st) M bc bs Φ := by
  intro p e s m args below meth c mc ms ad0 n0 H locs cells slots ad lsA F X
  obtain ⟨x1, x2, x3, x4, x5, x6, x7, x8, x9⟩ := id X
  have x7' := bd_t x7
  exact lv_if_le F.1 F.2.1 hd ht (fun h => kt h p e s m args below meth c mc ms ad0 n0 H locs cells slots ad lsA F ⟨x1, x2, x3, x4, x5, x6, x7', x8, x9⟩) (fun h => kf h p e s m args below meth c mc ms ad0 n0 H locs cells slots ad lsA F ⟨x1, x2, x3, x4, x5, x6, x7', x8, x9⟩)
theorem Ev.icmp_le {x z : Int32} {off : Int} (tgt : Nat) (ht : (pc : Int) + off = (tgt : Int)) (hd : decode y.2.1 pc = .ok (.if_icmp .le off, 3)) (kt : x ≤ z → Ev l G d y tgt ls st M bc bs Φ) (kf : ¬ x ≤ z → Ev l G d y (pc + 3) ls st M bc bs Φ) : Ev l G d y pc ls (.int z :: .int x :: st) M bc bs Φ := by
  intro p e s m args below meth c mc ms ad0 n0 H locs cells slots ad lsA F X
  obtain ⟨x1, x2, x3, x4, x5, x6, x7, x8, x9⟩ := id X
  have x7' := bd_t (bd_t x7)
  exact lv_icmp_le F.1 F.2.1 hd ht (fun h => kt h p e s m args below meth c mc ms ad0 n0 H locs cells slots ad lsA F ⟨x1, x2, x3, x4, x5, x6, x7', x8, x9⟩) (fun h => kf h p e s m args below meth c mc ms ad0 n0 H locs cells slots ad lsA F ⟨x1, x2, x3, x4, x5, x6, x7', x8, x9⟩)
theorem Ev.table {dflt lo hi : Int} {offs : Array Int} {len : Nat} {x : Int32} (hd : decode y.2.1 pc = .ok (.tableswitch dflt lo hi offs, len))
    (kin : ∀ (off : Int) (tgt : Nat), ¬ x.toInt < lo → ¬ hi < x.toInt → offs[(x.toInt - lo).toNat]? = some off → (pc : Int) + off = (tgt : Int) → Ev l G d y tgt ls st M bc bs Φ)
    (hin : ∀ off, ¬ x.toInt < lo → ¬ hi < x.toInt → ∃ (tgt : Nat), offs[(x.toInt - lo).toNat]? = some off → (pc : Int) + off = (tgt : Int)) (hex : ¬ x.toInt < lo → ¬ hi < x.toInt → ∃ off, offs[(x.toInt - lo).toNat]? = some off)
    (tgt : Nat) (ht : (pc : Int) + dflt = (tgt : Int)) (kout : (x.toInt < lo ∨ hi < x.toInt) → Ev l G d y tgt ls st M bc bs Φ) : Ev l G d y pc ls (.int x :: st) M bc bs Φ := by
  intro p e s m args below meth c mc ms ad0 n0 H locs cells slots ad lsA F X
  obtain ⟨x1, x2, x3, x4, x5, x6, x7, x8, x9⟩ := id X
  have x7' := bd_t x7
  by_cases h : x.toInt < lo ∨ hi < x.toInt
  · exact lv_tableOut F.1 F.2.1 hd h ht (kout h p e s m args below meth c mc ms ad0 n0 H locs cells slots ad lsA F ⟨x1, x2, x3, x4, x5, x6, x7', x8, x9⟩)
  · have h1 : ¬ x.toInt < lo := fun q => h (Or.inl q)
    have h2 : ¬ hi < x.toInt := fun q => h (Or.inr q)
    obtain ⟨off, ho⟩ := hex h1 h2
    obtain ⟨t2, ht2⟩ := hin off h1 h2
    exact lv_tableIn F.1 F.2.1 hd h1 h2 ho (ht2 ho) (kin off t2 h1 h2 ho (ht2 ho) p e s m args below meth c mc ms ad0 n0 H locs cells slots ad lsA F ⟨x1, x2, x3, x4, x5, x6, x7', x8, x9⟩)
/-- a switch whose case is known -/
theorem Ev.tblAt {dflt lo hi : Int} {offs : Array Int} {len : Nat} {x : Int32} {off : Int} (tgt : Nat) (hd : decode y.2.1 pc = .ok (.tableswitch dflt lo hi offs, len)) (h1 : ¬ x.toInt < lo) (h2 : ¬ hi < x.toInt) (ho : offs[(x.toInt - lo).toNat]? = some off) (ht : (pc : Int) + off = (tgt : Int)) (k : Ev l G d y tgt ls st M bc bs Φ) : Ev l G d y pc ls (.int x :: st) M bc bs Φ :=
  Ev.st1 (fun n hls h => bd_t h) (fun p e R s m args below meth c H locs cells slots Q ad lsA F L X S k => lv_tableIn F.1 F.2.1 hd h1 h2 ho ht k) k
theorem Ev.tblOut {dflt lo hi : Int} {offs : Array Int} {len : Nat} {x : Int32} (tgt : Nat) (hd : decode y.2.1 pc = .ok (.tableswitch dflt lo hi offs, len)) (h : x.toInt < lo ∨ hi < x.toInt) (ht : (pc : Int) + dflt = (tgt : Int)) (k : Ev l G d y tgt ls st M bc bs Φ) : Ev l G d y pc ls (.int x :: st) M bc bs Φ :=
  Ev.st1 (fun n hls h => bd_t h) (fun p e R s m args below meth c H locs cells slots Q ad lsA F L X S k => lv_tableOut F.1 F.2.1 hd h ht k) k
theorem Ev.lookup {dflt : Int} {ps : Array (Int × Int)} {len : Nat} {x : Int32} {off : Int} (tgt : Nat) (hd : decode y.2.1 pc = .ok (.lookupswitch dflt ps, len)) (hp : (ps.toList.zip (ps.toList.drop 1)).all (fun (a, next) => a.1 < next.1) = true) (ho : Op.lookupswitch.offset ps.toList dflt x.toInt = off) (ht : (pc : Int) + off = (tgt : Int)) (k : Ev l G d y tgt ls st M bc bs Φ) : Ev l G d y pc ls (.int x :: st) M bc bs Φ :=
  Ev.st1 (fun n hls h => bd_t h) (fun p e R s m args below meth c H locs cells slots Q ad lsA F L X S k => lv_lookup F.1 F.2.1 hd hp ho ht k) k
/-- a store into a local -/
theorem Ev.ls1 {pc2 i : Nat} {v : Value} (hi : i < y.2.2.1)
    (h : ∀ (p : Program) (e : Env) (R : Room) (s : State) (m : MethodId) (args : Array Value) (below : List Frame) (meth : Method) (c : Code) (H : Heap) (locs : List Loc) (cells slots : Nat) (Q : State → Prop) (ad : Nat → Nat) (lsA : Array Slot), FrOK G y p s m args meth c → Lv ad ls y.2.2.1 lsA →
      (∀ lsB : Array Slot, lv_has lsB y.2.2.1 ((i, tr ad v) :: (prs ad ls).filter (fun q => !(q.1 == i) && !(q.1 + 1 == i && q.2.category == 2))) → W p l e R s m args below meth c H locs cells slots Q (F0 m pc2 lsB (st.map (tr ad)))) → W p l e R s m args below meth c H locs cells slots Q (F0 m pc lsA ((v :: st).map (tr ad))))
    (k : Ev l G d y pc2 (sto ls i v) st M bc bs Φ) : Ev l G d y pc ls (v :: st) M bc bs Φ := by
  intro p e s m args below meth c mc ms ad0 n0 H locs cells slots ad lsA F X
  obtain ⟨x1, x2, x3, x4, x5, x6, x7, x8, x9⟩ := id X
  refine h p e _ s m args below meth c H locs cells slots _ ad lsA F x5 fun lsB hB => ?_
  exact k p e s m args below meth c mc ms ad0 n0 H locs cells slots ad lsB F ⟨x1, x2, x3, x4, Lv.sto1 hB, bd_sto x6 (bd_v x7), bd_t x7, x8, x9⟩
theorem Ev.istore_n {j : Fin 4} {x : Int32} (hd : decode y.2.1 pc = .ok (.istore_n j, 1)) (hi : (j : Nat) < y.2.2.1) (k : Ev l G d y (pc + 1) (sto ls j (.int x)) st M bc bs Φ) : Ev l G d y pc ls (.int x :: st) M bc bs Φ :=
  Ev.ls1 hi (fun p e R s m args below meth c H locs cells slots Q ad lsA F L k => lv_istore_n F.1 F.2.1 hd rfl L.has hi rfl k) k
theorem Ev.istore {i : Nat} {x : Int32} (hd : decode y.2.1 pc = .ok (.istore i, 2)) (hi : i < y.2.2.1) (k : Ev l G d y (pc + 2) (sto ls i (.int x)) st M bc bs Φ) : Ev l G d y pc ls (.int x :: st) M bc bs Φ :=
  Ev.ls1 hi (fun p e R s m args below meth c H locs cells slots Q ad lsA F L k => lv_istore F.1 F.2.1 hd L.has hi rfl k) k
theorem Ev.astore_n {j : Fin 4} {x : Nat} (hd : decode y.2.1 pc = .ok (.astore_n j, 1)) (hi : (j : Nat) < y.2.2.1) (k : Ev l G d y (pc + 1) (sto ls j (.ref x)) st M bc bs Φ) : Ev l G d y pc ls (.ref x :: st) M bc bs Φ :=
  Ev.ls1 hi (fun p e R s m args below meth c H locs cells slots Q ad lsA F L k => (match x, k with | 0, k => lv_astore_nN F.1 F.2.1 hd rfl L.has hi rfl k | x + 1, k => lv_astore_n F.1 F.2.1 hd rfl L.has hi rfl k)) k
theorem Ev.astore {i : Nat} {x : Nat} (hd : decode y.2.1 pc = .ok (.astore i, 2)) (hi : i < y.2.2.1) (k : Ev l G d y (pc + 2) (sto ls i (.ref x)) st M bc bs Φ) : Ev l G d y pc ls (.ref x :: st) M bc bs Φ :=
  Ev.ls1 hi (fun p e R s m args below meth c H locs cells slots Q ad lsA F L k => (match x, k with | 0, k => lv_astoreN F.1 F.2.1 hd L.has hi rfl k | x + 1, k => lv_astore F.1 F.2.1 hd L.has hi rfl k)) k
theorem Ev.iinc {i : Nat} {n : Int} {x v : Int32} (hd : decode y.2.1 pc = .ok (.iinc i n, 3)) (hi : i < y.2.2.1) (hl : ls[i]? = some (.int x)) (hv : x + Int32.ofInt n = v) (k : Ev l G d y (pc + 3) (sto ls i (.int v)) st M bc bs Φ) : Ev l G d y pc ls st M bc bs Φ := by
  intro p e s m args below meth c mc ms ad0 n0 H locs cells slots ad lsA F X
  obtain ⟨x1, x2, x3, x4, x5, x6, x7, x8, x9⟩ := id X
  obtain ⟨q, hq⟩ := List.getElem?_of_mem (prs_mem (ad := ad) hl (fun h => by cases h))
  refine lv_iinc F.1 F.2.1 hd x5.has hq hv hi rfl fun lsB hB => ?_
  exact k p e s m args below meth c mc ms ad0 n0 H locs cells slots ad lsB F ⟨x1, x2, x3, x4, Lv.sto1 hB, bd_sto x6 (bd_i (fun a h => by cases h)), x7, x8, x9⟩
end R1
