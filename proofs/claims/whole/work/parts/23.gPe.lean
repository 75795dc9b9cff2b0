def mPe_init : MR := (⟨"BowingRow$People", "<init>", "()V"⟩, prog_8_method_1_code, 1, none)
theorem oPe_init : MOK mPe_init 0 := ⟨lwg_of 169 (by decide +kernel) (by decide +kernel), lwg_of 93 (by decide +kernel) (by decide +kernel), ⟨by decide +kernel, by decide +kernel⟩, by decide +kernel, by decide⟩
theorem iPe_init : Cond.instanceMethod mPe_init.1 ∈ lwg := lwg_of 168 (by decide +kernel) (by decide +kernel)
theorem dPe_init_0 : decode mPe_init.2.1 0 = .ok (.aload_n 0, 1) := by decide +kernel
theorem dPe_init_1 : decode mPe_init.2.1 1 = .ok (.invokespecial 3, 3) := by decide +kernel
theorem dPe_init_4 : decode mPe_init.2.1 4 = .ok (.aload_n 0, 1) := by decide +kernel
theorem dPe_init_5 : decode mPe_init.2.1 5 = .ok (.bipush 64, 2) := by decide +kernel
theorem dPe_init_7 : decode mPe_init.2.1 7 = .ok (.newarray .int, 2) := by decide +kernel
theorem dPe_init_9 : decode mPe_init.2.1 9 = .ok (.putfield 9, 3) := by decide +kernel
theorem dPe_init_12 : decode mPe_init.2.1 12 = .ok (.aload_n 0, 1) := by decide +kernel
theorem dPe_init_13 : decode mPe_init.2.1 13 = .ok (.bipush 8, 2) := by decide +kernel
theorem dPe_init_15 : decode mPe_init.2.1 15 = .ok (.newarray .int, 2) := by decide +kernel
theorem dPe_init_17 : decode mPe_init.2.1 17 = .ok (.putfield 15, 3) := by decide +kernel
theorem dPe_init_20 : decode mPe_init.2.1 20 = .ok (.return_, 1) := by decide +kernel
theorem w170 : Cond.methodLink "BowingRow$People" 3 ⟨"java/lang/Object", "<init>", "()V"⟩ ∈ lwg := lwg_of 170 (by decide +kernel) (by decide +kernel)
theorem fPe_9 : FOK "BowingRow$People" 9 6 0 true := ⟨RX6, TX6, nFd 6, rfl, by decide, rfl, by decide, rfl, lwg_of 171 (by decide +kernel) (by decide +kernel)⟩
theorem bPe_init_0 {l : Launch} {G : Gx} {d : Nat} {bc bs : Nat} {Φ : OutV → Mm → Prop} (M : Mm) (a0 : Nat)
    (h : (a0 ≠ 0 ∧ 1 ≤ d) ∧ (1 ≤ bc ∧ 64 ≤ bs) ∧ ((m_sh (m_al M (20, 64)) a0).1 = 6) ∧ Ev l G d mPe_init 12 [.ref a0] [] (m_sr (m_al M (20, 64)) a0 0 (m_nx M)) (bc - 1) (bs - 64) Φ) :
    Ev l G d mPe_init 0 [.ref a0] [] M bc bs Φ := by
  refine Ev.aload_n dPe_init_0 rfl ?_
  have g1 := h.1
  replace h := h.2
  refine Ev.objInit dPe_init_1 w170 w_oi w_oc (Nat.le_of_ble_eq_true rfl) g1.2 g1.1 ?_
  refine Ev.aload_n dPe_init_4 rfl ?_
  refine Ev.bipush (v := 64) dPe_init_5 (by decide) ?_
  have g2 := h.1
  replace h := h.2
  refine Ev.newI2 64 dPe_init_7 w164 (by decide) (by decide) (by decide) g2 ?_
  have g3 := h.1
  replace h := h.2
  refine Ev.putR dPe_init_9 ⟨_, Or.inl ⟨fPe_9, (fun _ => ⟨rfl, fun r hr => by cases hr; rfl⟩)⟩⟩ rfl (fun ad => fitR (by first | exact Or.inl ⟨_, rfl⟩ | exact Or.inr ⟨_, rfl⟩) _ ad) g3 ?_
  exact h
theorem fPe_15 : FOK "BowingRow$People" 15 6 1 true := ⟨RX6, TX6, nFd 6, rfl, by decide, rfl, by decide, rfl, lwg_of 172 (by decide +kernel) (by decide +kernel)⟩
theorem bPe_init_12 {l : Launch} {G : Gx} {d : Nat} {bc bs : Nat} {Φ : OutV → Mm → Prop} (M : Mm) (a0 : Nat)
    (h : (1 ≤ bc ∧ 8 ≤ bs) ∧ ((m_sh (m_al M (20, 8)) a0).1 = 6) ∧ Φ (.inl none) (m_sr (m_al M (20, 8)) a0 1 (m_nx M))) :
    Ev l G d mPe_init 12 [.ref a0] [] M bc bs Φ := by
  refine Ev.aload_n dPe_init_12 rfl ?_
  refine Ev.bipush (v := 8) dPe_init_13 (by decide) ?_
  have g1 := h.1
  replace h := h.2
  refine Ev.newI2 8 dPe_init_15 w164 (by decide) (by decide) (by decide) g1 ?_
  have g2 := h.1
  replace h := h.2
  refine Ev.putR dPe_init_17 ⟨_, Or.inl ⟨fPe_15, (fun _ => ⟨rfl, fun r hr => by cases hr; rfl⟩)⟩⟩ rfl (fun ad => fitR (by first | exact Or.inl ⟨_, rfl⟩ | exact Or.inr ⟨_, rfl⟩) _ ad) g2 ?_
  exact Ev.vret dPe_init_20 rfl h
def mPe_fact : MR := (⟨"BowingRow$People", "fact", "(II)I"⟩, prog_8_method_2_code, 3, (Option.some .int))
theorem oPe_fact : MOK mPe_fact 2 := ⟨lwg_of 568 (by decide +kernel) (by decide +kernel), lwg_of 93 (by decide +kernel) (by decide +kernel), ⟨by decide +kernel, by decide +kernel⟩, by decide +kernel, by decide⟩
theorem iPe_fact : Cond.instanceMethod mPe_fact.1 ∈ lwg := lwg_of 566 (by decide +kernel) (by decide +kernel)
theorem sPe_fact : Cond.selects mPe_fact.1.cls mPe_fact.1 mPe_fact.1 ∈ lwg := lwg_of 567 (by decide +kernel) (by decide +kernel)
theorem dPe_fact_0 : decode mPe_fact.2.1 0 = .ok (.aload_n 0, 1) := by decide +kernel
theorem dPe_fact_1 : decode mPe_fact.2.1 1 = .ok (.getfield 9, 3) := by decide +kernel
theorem dPe_fact_4 : decode mPe_fact.2.1 4 = .ok (.iload_n 1, 1) := by decide +kernel
theorem dPe_fact_5 : decode mPe_fact.2.1 5 = .ok (.bipush 8, 2) := by decide +kernel
theorem dPe_fact_7 : decode mPe_fact.2.1 7 = .ok (.imul, 1) := by decide +kernel
theorem dPe_fact_8 : decode mPe_fact.2.1 8 = .ok (.iload_n 2, 1) := by decide +kernel
theorem dPe_fact_9 : decode mPe_fact.2.1 9 = .ok (.iadd, 1) := by decide +kernel
theorem dPe_fact_10 : decode mPe_fact.2.1 10 = .ok (.iaload, 1) := by decide +kernel
theorem dPe_fact_11 : decode mPe_fact.2.1 11 = .ok (.ireturn, 1) := by decide +kernel
theorem bPe_fact_0 {l : Launch} {G : Gx} {d : Nat} {bc bs : Nat} {Φ : OutV → Mm → Prop} (M : Mm) (a0 : Nat) (x1 : Int32) (x2 : Int32)
    (h : ((m_sh M a0).1 = 6) ∧ ((m_sh M (m_r M a0 0)).1 = 20) ∧ (vp_in ((x1 * 8) + x2) (m_sh M (m_r M a0 0)).2) ∧ Φ (.inl (some (.int (m_i M (m_r M a0 0) ((x1 * 8) + x2).toNatClampNeg)))) M) :
    Ev l G d mPe_fact 0 [.ref a0, .int x1, .int x2] [] M bc bs Φ := by
  refine Ev.aload_n dPe_fact_0 rfl ?_
  have g1 := h.1
  replace h := h.2
  refine Ev.getR dPe_fact_1 (Or.inl fPe_9) rfl g1 ?_
  refine Ev.iload_n dPe_fact_4 rfl ?_
  refine Ev.bipush (v := 8) dPe_fact_5 (by decide) ?_
  refine Ev.imul dPe_fact_7 ?_
  refine Ev.iload_n dPe_fact_8 rfl ?_
  refine Ev.iadd dPe_fact_9 ?_
  have g2 := h.1
  replace h := h.2
  have g3 := h.1
  replace h := h.2
  refine Ev.iald2 dPe_fact_10 g2 g3 ?_
  exact Ev.iret dPe_fact_11 rfl rfl h
def mPe_nextMinute : MR := (⟨"BowingRow$People", "nextMinute", "(I)I"⟩, prog_8_method_10_code, 4, (Option.some .int))
theorem oPe_nextMinute : MOK mPe_nextMinute 1 := ⟨lwg_of 586 (by decide +kernel) (by decide +kernel), lwg_of 93 (by decide +kernel) (by decide +kernel), ⟨by decide +kernel, by decide +kernel⟩, by decide +kernel, by decide⟩
theorem iPe_nextMinute : Cond.instanceMethod mPe_nextMinute.1 ∈ lwg := lwg_of 584 (by decide +kernel) (by decide +kernel)
theorem sPe_nextMinute : Cond.selects mPe_nextMinute.1.cls mPe_nextMinute.1 mPe_nextMinute.1 ∈ lwg := lwg_of 585 (by decide +kernel) (by decide +kernel)
theorem dPe_nextMinute_0 : decode mPe_nextMinute.2.1 0 = .ok (.iconst 0, 1) := by decide +kernel
theorem dPe_nextMinute_1 : decode mPe_nextMinute.2.1 1 = .ok (.istore_n 2, 1) := by decide +kernel
theorem dPe_nextMinute_2 : decode mPe_nextMinute.2.1 2 = .ok (.iload_n 2, 1) := by decide +kernel
theorem dPe_nextMinute_3 : decode mPe_nextMinute.2.1 3 = .ok (.aload_n 0, 1) := by decide +kernel
theorem dPe_nextMinute_4 : decode mPe_nextMinute.2.1 4 = .ok (.getfield 18, 3) := by decide +kernel
theorem dPe_nextMinute_7 : decode mPe_nextMinute.2.1 7 = .ok (.if_icmp .ge 28, 3) := by decide +kernel
theorem dPe_nextMinute_10 : decode mPe_nextMinute.2.1 10 = .ok (.aload_n 0, 1) := by decide +kernel
theorem dPe_nextMinute_11 : decode mPe_nextMinute.2.1 11 = .ok (.aload_n 0, 1) := by decide +kernel
theorem dPe_nextMinute_12 : decode mPe_nextMinute.2.1 12 = .ok (.getfield 15, 3) := by decide +kernel
theorem dPe_nextMinute_15 : decode mPe_nextMinute.2.1 15 = .ok (.iload_n 2, 1) := by decide +kernel
theorem dPe_nextMinute_16 : decode mPe_nextMinute.2.1 16 = .ok (.iaload, 1) := by decide +kernel
theorem dPe_nextMinute_17 : decode mPe_nextMinute.2.1 17 = .ok (.iconst 0, 1) := by decide +kernel
theorem dPe_nextMinute_18 : decode mPe_nextMinute.2.1 18 = .ok (.invokevirtual 93, 3) := by decide +kernel
theorem dPe_nextMinute_21 : decode mPe_nextMinute.2.1 21 = .ok (.istore_n 3, 1) := by decide +kernel
theorem dPe_nextMinute_22 : decode mPe_nextMinute.2.1 22 = .ok (.iload_n 3, 1) := by decide +kernel
theorem dPe_nextMinute_23 : decode mPe_nextMinute.2.1 23 = .ok (.iload_n 1, 1) := by decide +kernel
theorem dPe_nextMinute_24 : decode mPe_nextMinute.2.1 24 = .ok (.if_icmp .le 5, 3) := by decide +kernel
theorem dPe_nextMinute_27 : decode mPe_nextMinute.2.1 27 = .ok (.iload_n 3, 1) := by decide +kernel
theorem dPe_nextMinute_28 : decode mPe_nextMinute.2.1 28 = .ok (.ireturn, 1) := by decide +kernel
theorem dPe_nextMinute_29 : decode mPe_nextMinute.2.1 29 = .ok (.iinc 2 1, 3) := by decide +kernel
theorem dPe_nextMinute_32 : decode mPe_nextMinute.2.1 32 = .ok (.goto (-30), 3) := by decide +kernel
theorem dPe_nextMinute_35 : decode mPe_nextMinute.2.1 35 = .ok (.iconst (-1), 1) := by decide +kernel
theorem dPe_nextMinute_36 : decode mPe_nextMinute.2.1 36 = .ok (.ireturn, 1) := by decide +kernel
theorem bPe_nextMinute_0 {l : Launch} {G : Gx} {d : Nat} {bc bs : Nat} {Φ : OutV → Mm → Prop} (M : Mm) (a0 : Nat) (x1 : Int32)
    (h : Ev l G d mPe_nextMinute 2 [.ref a0, .int x1, .int 0, .null] [] M bc bs Φ) :
    Ev l G d mPe_nextMinute 0 [.ref a0, .int x1, .null, .null] [] M bc bs Φ := by
  refine Ev.iconst (v := 0) dPe_nextMinute_0 (by decide) ?_
  refine Ev.istore_n dPe_nextMinute_1 (by decide) ?_
  show Ev l G d mPe_nextMinute (_ + _) [.ref a0, .int x1, .int 0, .null] [] M bc bs Φ
  exact h
theorem fPe_18 : FOK "BowingRow$People" 18 6 2 false := ⟨RX6, TX6, nFd 6, rfl, by decide, rfl, by decide, rfl, lwg_of 180 (by decide +kernel) (by decide +kernel)⟩
theorem w587 : Cond.methodLink "BowingRow$People" 93 ⟨"BowingRow$People", "fact", "(II)I"⟩ ∈ lwg := lwg_of 587 (by decide +kernel) (by decide +kernel)
theorem bPe_nextMinute_2 {l : Launch} {G : Gx} {d : Nat} {bc bs : Nat} {Φ : OutV → Mm → Prop} (M : Mm) (a0 : Nat) (x1 : Int32) (x2 : Int32) (u3 : Value)
    (h : ((m_sh M a0).1 = 6) ∧ ((m_i M a0 2) ≤ x2 → Φ (.inl (some (.int ((-1))))) M) ∧ (¬ (m_i M a0 2) ≤ x2 → ((m_sh M (m_r M a0 1)).1 = 20) ∧ (vp_in x2 (m_sh M (m_r M a0 1)).2) ∧ CallVC l G d mPe_nextMinute 21 [.ref a0, .int x1, .int x2, u3] [] mPe_fact [.ref a0, .int (m_i M (m_r M a0 1) x2.toNatClampNeg), .int 0] M bc bs Φ)) :
    Ev l G d mPe_nextMinute 2 [.ref a0, .int x1, .int x2, u3] [] M bc bs Φ := by
  refine Ev.iload_n dPe_nextMinute_2 rfl ?_
  refine Ev.aload_n dPe_nextMinute_3 rfl ?_
  have g1 := h.1
  replace h := h.2
  refine Ev.getI dPe_nextMinute_4 (Or.inl fPe_18) rfl g1 ?_
  refine Ev.icmp_ge 35 (by decide) dPe_nextMinute_7 (fun c => ?_) (fun c => ?_)
  · replace h := h.1 c
    refine Ev.iconst (v := (-1)) dPe_nextMinute_35 (by decide) ?_
    exact Ev.iret dPe_nextMinute_36 rfl rfl h
  · replace h := h.2 c
    refine Ev.aload_n dPe_nextMinute_10 rfl ?_
    refine Ev.aload_n dPe_nextMinute_11 rfl ?_
    refine Ev.getR dPe_nextMinute_12 (Or.inl fPe_15) rfl g1 ?_
    refine Ev.iload_n dPe_nextMinute_15 rfl ?_
    have g2 := h.1
    replace h := h.2
    have g3 := h.1
    replace h := h.2
    refine Ev.iald2 dPe_nextMinute_16 g2 g3 ?_
    refine Ev.iconst (v := 0) dPe_nextMinute_17 (by decide) ?_
    exact Ev.vcV (z := mPe_fact) (ci := 6) [.int (m_i M (m_r M a0 1) x2.toNatClampNeg), .int 0] [] rfl dPe_nextMinute_18 oPe_fact rfl w587 iPe_fact sPe_fact (by decide) rfl g1 (Nat.le_of_ble_eq_true rfl) h
theorem bPe_nextMinute_21 {l : Launch} {G : Gx} {d : Nat} {bc bs : Nat} {Φ : OutV → Mm → Prop} (M : Mm) (a0 : Nat) (x1 : Int32) (x2 : Int32) (u3 : Value) (s0 : Int32)
    (h : (s0 ≤ x1 → Ev l G d mPe_nextMinute 2 [.ref a0, .int x1, .int (x2 + 1), .int s0] [] M bc bs Φ) ∧ (¬ s0 ≤ x1 → Φ (.inl (some (.int s0))) M)) :
    Ev l G d mPe_nextMinute 21 [.ref a0, .int x1, .int x2, u3] [.int s0] M bc bs Φ := by
  refine Ev.istore_n dPe_nextMinute_21 (by decide) ?_
  show Ev l G d mPe_nextMinute (_ + _) [.ref a0, .int x1, .int x2, .int s0] [] M bc bs Φ
  refine Ev.iload_n dPe_nextMinute_22 rfl ?_
  refine Ev.iload_n dPe_nextMinute_23 rfl ?_
  refine Ev.icmp_le 29 (by decide) dPe_nextMinute_24 (fun c => ?_) (fun c => ?_)
  · replace h := h.1 c
    refine Ev.iinc (v := x2 + 1) dPe_nextMinute_29 (by decide) rfl rfl ?_
    show Ev l G d mPe_nextMinute (_ + _) [.ref a0, .int x1, .int (x2 + 1), .int s0] [] M bc bs Φ
    refine Ev.goto 2 dPe_nextMinute_32 (by decide) ?_
    exact h
  · replace h := h.2 c
    refine Ev.iload_n dPe_nextMinute_27 rfl ?_
    exact Ev.iret dPe_nextMinute_28 rfl rfl h
def mPe_setFact : MR := (⟨"BowingRow$People", "setFact", "(III)V"⟩, prog_8_method_3_code, 4, none)
theorem oPe_setFact : MOK mPe_setFact 3 := ⟨lwg_of 693 (by decide +kernel) (by decide +kernel), lwg_of 93 (by decide +kernel) (by decide +kernel), ⟨by decide +kernel, by decide +kernel⟩, by decide +kernel, by decide⟩
theorem iPe_setFact : Cond.instanceMethod mPe_setFact.1 ∈ lwg := lwg_of 691 (by decide +kernel) (by decide +kernel)
theorem sPe_setFact : Cond.selects mPe_setFact.1.cls mPe_setFact.1 mPe_setFact.1 ∈ lwg := lwg_of 692 (by decide +kernel) (by decide +kernel)
theorem dPe_setFact_0 : decode mPe_setFact.2.1 0 = .ok (.aload_n 0, 1) := by decide +kernel
theorem dPe_setFact_1 : decode mPe_setFact.2.1 1 = .ok (.getfield 9, 3) := by decide +kernel
theorem dPe_setFact_4 : decode mPe_setFact.2.1 4 = .ok (.iload_n 1, 1) := by decide +kernel
theorem dPe_setFact_5 : decode mPe_setFact.2.1 5 = .ok (.bipush 8, 2) := by decide +kernel
theorem dPe_setFact_7 : decode mPe_setFact.2.1 7 = .ok (.imul, 1) := by decide +kernel
theorem dPe_setFact_8 : decode mPe_setFact.2.1 8 = .ok (.iload_n 2, 1) := by decide +kernel
theorem dPe_setFact_9 : decode mPe_setFact.2.1 9 = .ok (.iadd, 1) := by decide +kernel
theorem dPe_setFact_10 : decode mPe_setFact.2.1 10 = .ok (.iload_n 3, 1) := by decide +kernel
theorem dPe_setFact_11 : decode mPe_setFact.2.1 11 = .ok (.iastore, 1) := by decide +kernel
theorem dPe_setFact_12 : decode mPe_setFact.2.1 12 = .ok (.return_, 1) := by decide +kernel
theorem bPe_setFact_0 {l : Launch} {G : Gx} {d : Nat} {bc bs : Nat} {Φ : OutV → Mm → Prop} (M : Mm) (a0 : Nat) (x1 : Int32) (x2 : Int32) (x3 : Int32)
    (h : ((m_sh M a0).1 = 6) ∧ ((m_sh M (m_r M a0 0)).1 = 20) ∧ (vp_in ((x1 * 8) + x2) (m_sh M (m_r M a0 0)).2) ∧ Φ (.inl none) (m_si M (m_r M a0 0) ((x1 * 8) + x2).toNatClampNeg x3)) :
    Ev l G d mPe_setFact 0 [.ref a0, .int x1, .int x2, .int x3] [] M bc bs Φ := by
  refine Ev.aload_n dPe_setFact_0 rfl ?_
  have g1 := h.1
  replace h := h.2
  refine Ev.getR dPe_setFact_1 (Or.inl fPe_9) rfl g1 ?_
  refine Ev.iload_n dPe_setFact_4 rfl ?_
  refine Ev.bipush (v := 8) dPe_setFact_5 (by decide) ?_
  refine Ev.imul dPe_setFact_7 ?_
  refine Ev.iload_n dPe_setFact_8 rfl ?_
  refine Ev.iadd dPe_setFact_9 ?_
  refine Ev.iload_n dPe_setFact_10 rfl ?_
  have g2 := h.1
  replace h := h.2
  have g3 := h.1
  replace h := h.2
  refine Ev.iast2 dPe_setFact_11 g2 g3 ?_
  exact Ev.vret dPe_setFact_12 rfl h
def mPe_readClauses : MR := (⟨"BowingRow$People", "readClauses", "(LBowingRow$Tokens;)Z"⟩, prog_8_method_4_code, 3, (Option.some .boolean))
theorem oPe_readClauses : MOK mPe_readClauses 1 := ⟨lwg_of 862 (by decide +kernel) (by decide +kernel), lwg_of 93 (by decide +kernel) (by decide +kernel), ⟨by decide +kernel, by decide +kernel⟩, by decide +kernel, by decide⟩
theorem iPe_readClauses : Cond.instanceMethod mPe_readClauses.1 ∈ lwg := lwg_of 860 (by decide +kernel) (by decide +kernel)
theorem sPe_readClauses : Cond.selects mPe_readClauses.1.cls mPe_readClauses.1 mPe_readClauses.1 ∈ lwg := lwg_of 861 (by decide +kernel) (by decide +kernel)
theorem dPe_readClauses_0 : decode mPe_readClauses.2.1 0 = .ok (.aload_n 0, 1) := by decide +kernel
theorem dPe_readClauses_1 : decode mPe_readClauses.2.1 1 = .ok (.iconst 0, 1) := by decide +kernel
theorem dPe_readClauses_2 : decode mPe_readClauses.2.1 2 = .ok (.putfield 18, 3) := by decide +kernel
theorem dPe_readClauses_5 : decode mPe_readClauses.2.1 5 = .ok (.iconst 0, 1) := by decide +kernel
theorem dPe_readClauses_6 : decode mPe_readClauses.2.1 6 = .ok (.istore_n 2, 1) := by decide +kernel
theorem dPe_readClauses_7 : decode mPe_readClauses.2.1 7 = .ok (.iload_n 2, 1) := by decide +kernel
theorem dPe_readClauses_8 : decode mPe_readClauses.2.1 8 = .ok (.bipush 40, 2) := by decide +kernel
theorem dPe_readClauses_10 : decode mPe_readClauses.2.1 10 = .ok (.if_icmp .gt 27, 3) := by decide +kernel
theorem dPe_readClauses_13 : decode mPe_readClauses.2.1 13 = .ok (.aload_n 1, 1) := by decide +kernel
theorem dPe_readClauses_14 : decode mPe_readClauses.2.1 14 = .ok (.invokevirtual 22, 3) := by decide +kernel
theorem dPe_readClauses_17 : decode mPe_readClauses.2.1 17 = .ok (.ifCond .ne 20, 3) := by decide +kernel
theorem dPe_readClauses_20 : decode mPe_readClauses.2.1 20 = .ok (.aload_n 0, 1) := by decide +kernel
theorem dPe_readClauses_21 : decode mPe_readClauses.2.1 21 = .ok (.aload_n 1, 1) := by decide +kernel
theorem dPe_readClauses_22 : decode mPe_readClauses.2.1 22 = .ok (.iload_n 2, 1) := by decide +kernel
theorem dPe_readClauses_23 : decode mPe_readClauses.2.1 23 = .ok (.invokevirtual 28, 3) := by decide +kernel
theorem dPe_readClauses_26 : decode mPe_readClauses.2.1 26 = .ok (.ifCond .ne 5, 3) := by decide +kernel
theorem dPe_readClauses_29 : decode mPe_readClauses.2.1 29 = .ok (.iconst 0, 1) := by decide +kernel
theorem dPe_readClauses_30 : decode mPe_readClauses.2.1 30 = .ok (.ireturn, 1) := by decide +kernel
theorem dPe_readClauses_31 : decode mPe_readClauses.2.1 31 = .ok (.iinc 2 1, 3) := by decide +kernel
theorem dPe_readClauses_34 : decode mPe_readClauses.2.1 34 = .ok (.goto (-27), 3) := by decide +kernel
theorem dPe_readClauses_37 : decode mPe_readClauses.2.1 37 = .ok (.aload_n 0, 1) := by decide +kernel
theorem dPe_readClauses_38 : decode mPe_readClauses.2.1 38 = .ok (.invokevirtual 32, 3) := by decide +kernel
theorem dPe_readClauses_41 : decode mPe_readClauses.2.1 41 = .ok (.iconst 1, 1) := by decide +kernel
theorem dPe_readClauses_42 : decode mPe_readClauses.2.1 42 = .ok (.ireturn, 1) := by decide +kernel
theorem bPe_readClauses_0 {l : Launch} {G : Gx} {d : Nat} {bc bs : Nat} {Φ : OutV → Mm → Prop} (M : Mm) (a0 : Nat) (a1 : Nat)
    (h : ((m_sh M a0).1 = 6) ∧ Ev l G d mPe_readClauses 7 [.ref a0, .ref a1, .int 0] [] (m_si M a0 2 0) bc bs Φ) :
    Ev l G d mPe_readClauses 0 [.ref a0, .ref a1, .null] [] M bc bs Φ := by
  refine Ev.aload_n dPe_readClauses_0 rfl ?_
  refine Ev.iconst (v := 0) dPe_readClauses_1 (by decide) ?_
  have g1 := h.1
  replace h := h.2
  refine Ev.putI dPe_readClauses_2 ⟨_, Or.inl ⟨fPe_18, (fun h => by cases h)⟩⟩ rfl ⟨rfl, rfl⟩ g1 ?_
  refine Ev.iconst (v := 0) dPe_readClauses_5 (by decide) ?_
  refine Ev.istore_n dPe_readClauses_6 (by decide) ?_
  show Ev l G d mPe_readClauses (_ + _) [.ref a0, .ref a1, .int 0] [] (m_si M a0 2 0) bc bs Φ
  exact h
def mTo_atEnd : MR := (⟨"BowingRow$Tokens", "atEnd", "()Z"⟩, prog_10_method_7_code, 1, (Option.some .boolean))
theorem oTo_atEnd : MOK mTo_atEnd 0 := ⟨lwg_of 866 (by decide +kernel) (by decide +kernel), lwg_of 92 (by decide +kernel) (by decide +kernel), ⟨by decide +kernel, by decide +kernel⟩, by decide +kernel, by decide⟩
theorem iTo_atEnd : Cond.instanceMethod mTo_atEnd.1 ∈ lwg := lwg_of 864 (by decide +kernel) (by decide +kernel)
theorem sTo_atEnd : Cond.selects mTo_atEnd.1.cls mTo_atEnd.1 mTo_atEnd.1 ∈ lwg := lwg_of 865 (by decide +kernel) (by decide +kernel)
theorem w863 : Cond.methodLink "BowingRow$People" 22 ⟨"BowingRow$Tokens", "atEnd", "()Z"⟩ ∈ lwg := lwg_of 863 (by decide +kernel) (by decide +kernel)
theorem bPe_readClauses_7 {l : Launch} {G : Gx} {d : Nat} {bc bs : Nat} {Φ : OutV → Mm → Prop} (M : Mm) (a0 : Nat) (a1 : Nat) (x2 : Int32)
    (h : (40 < x2 → Ev l G d mPe_readClauses 37 [.ref a0, .ref a1, .int x2] [] M bc bs Φ) ∧ (¬ 40 < x2 → ((m_sh M a1).1 = 8) ∧ CallVC l G d mPe_readClauses 17 [.ref a0, .ref a1, .int x2] [] mTo_atEnd [.ref a1] M bc bs Φ)) :
    Ev l G d mPe_readClauses 7 [.ref a0, .ref a1, .int x2] [] M bc bs Φ := by
  refine Ev.iload_n dPe_readClauses_7 rfl ?_
  refine Ev.bipush (v := 40) dPe_readClauses_8 (by decide) ?_
  refine Ev.icmp_gt 37 (by decide) dPe_readClauses_10 (fun c => ?_) (fun c => ?_)
  · replace h := h.1 c
    exact h
  · replace h := h.2 c
    refine Ev.aload_n dPe_readClauses_13 rfl ?_
    have g1 := h.1
    replace h := h.2
    exact Ev.vcV (z := mTo_atEnd) (ci := 8) [] [] rfl dPe_readClauses_14 oTo_atEnd rfl w863 iTo_atEnd sTo_atEnd (by decide) rfl g1 (Nat.le_of_ble_eq_true rfl) h
def mPe_readClause : MR := (⟨"BowingRow$People", "readClause", "(LBowingRow$Tokens;I)Z"⟩, prog_8_method_5_code, 6, (Option.some .boolean))
theorem oPe_readClause : MOK mPe_readClause 2 := ⟨lwg_of 870 (by decide +kernel) (by decide +kernel), lwg_of 93 (by decide +kernel) (by decide +kernel), ⟨by decide +kernel, by decide +kernel⟩, by decide +kernel, by decide⟩
theorem iPe_readClause : Cond.instanceMethod mPe_readClause.1 ∈ lwg := lwg_of 869 (by decide +kernel) (by decide +kernel)
theorem sPe_readClause : Cond.selects mPe_readClause.1.cls mPe_readClause.1 mPe_readClause.1 ∈ lwg := lwg_of 16 (by decide +kernel) (by decide +kernel)
theorem w867 : Cond.methodLink "BowingRow$People" 28 ⟨"BowingRow$People", "readClause", "(LBowingRow$Tokens;I)Z"⟩ ∈ lwg := lwg_of 867 (by decide +kernel) (by decide +kernel)
theorem bPe_readClauses_17 {l : Launch} {G : Gx} {d : Nat} {bc bs : Nat} {Φ : OutV → Mm → Prop} (M : Mm) (a0 : Nat) (a1 : Nat) (x2 : Int32) (s0 : Int32)
    (h : (¬ s0 = 0 → Ev l G d mPe_readClauses 37 [.ref a0, .ref a1, .int x2] [] M bc bs Φ) ∧ (s0 = 0 → ((m_sh M a0).1 = 6) ∧ CallVC l G d mPe_readClauses 26 [.ref a0, .ref a1, .int x2] [] mPe_readClause [.ref a0, .ref a1, .int x2] M bc bs Φ)) :
    Ev l G d mPe_readClauses 17 [.ref a0, .ref a1, .int x2] [.int s0] M bc bs Φ := by
  refine Ev.if_ne 37 (by decide) dPe_readClauses_17 (fun c => ?_) (fun c => ?_)
  · replace h := h.1 c
    exact h
  · replace h := h.2 c
    refine Ev.aload_n dPe_readClauses_20 rfl ?_
    refine Ev.aload_n dPe_readClauses_21 rfl ?_
    refine Ev.iload_n dPe_readClauses_22 rfl ?_
    have g1 := h.1
    replace h := h.2
    exact Ev.vcV (z := mPe_readClause) (ci := 6) [.ref a1, .int x2] [] rfl dPe_readClauses_23 oPe_readClause rfl w867 iPe_readClause sPe_readClause (by decide) rfl g1 (Nat.le_of_ble_eq_true rfl) h
theorem bPe_readClauses_26 {l : Launch} {G : Gx} {d : Nat} {bc bs : Nat} {Φ : OutV → Mm → Prop} (M : Mm) (a0 : Nat) (a1 : Nat) (x2 : Int32) (s0 : Int32)
    (h : (¬ s0 = 0 → Ev l G d mPe_readClauses 7 [.ref a0, .ref a1, .int (x2 + 1)] [] M bc bs Φ) ∧ (s0 = 0 → Φ (.inl (some (.int 0))) M)) :
    Ev l G d mPe_readClauses 26 [.ref a0, .ref a1, .int x2] [.int s0] M bc bs Φ := by
  refine Ev.if_ne 31 (by decide) dPe_readClauses_26 (fun c => ?_) (fun c => ?_)
  · replace h := h.1 c
    refine Ev.iinc (v := x2 + 1) dPe_readClauses_31 (by decide) rfl rfl ?_
    show Ev l G d mPe_readClauses (_ + _) [.ref a0, .ref a1, .int (x2 + 1)] [] M bc bs Φ
    refine Ev.goto 7 dPe_readClauses_34 (by decide) ?_
    exact h
  · replace h := h.2 c
    refine Ev.iconst (v := 0) dPe_readClauses_29 (by decide) ?_
    exact Ev.iret dPe_readClauses_30 rfl rfl h
def mPe_lineUp : MR := (⟨"BowingRow$People", "lineUp", "()V"⟩, prog_8_method_9_code, 3, none)
theorem oPe_lineUp : MOK mPe_lineUp 0 := ⟨lwg_of 923 (by decide +kernel) (by decide +kernel), lwg_of 93 (by decide +kernel) (by decide +kernel), ⟨by decide +kernel, by decide +kernel⟩, by decide +kernel, by decide⟩
theorem iPe_lineUp : Cond.instanceMethod mPe_lineUp.1 ∈ lwg := lwg_of 922 (by decide +kernel) (by decide +kernel)
theorem sPe_lineUp : Cond.selects mPe_lineUp.1.cls mPe_lineUp.1 mPe_lineUp.1 ∈ lwg := lwg_of 20 (by decide +kernel) (by decide +kernel)
theorem w920 : Cond.methodLink "BowingRow$People" 32 ⟨"BowingRow$People", "lineUp", "()V"⟩ ∈ lwg := lwg_of 920 (by decide +kernel) (by decide +kernel)
theorem bPe_readClauses_37 {l : Launch} {G : Gx} {d : Nat} {bc bs : Nat} {Φ : OutV → Mm → Prop} (M : Mm) (a0 : Nat) (a1 : Nat) (x2 : Int32)
    (h : ((m_sh M a0).1 = 6) ∧ CallVC l G d mPe_readClauses 41 [.ref a0, .ref a1, .int x2] [] mPe_lineUp [.ref a0] M bc bs Φ) :
    Ev l G d mPe_readClauses 37 [.ref a0, .ref a1, .int x2] [] M bc bs Φ := by
  refine Ev.aload_n dPe_readClauses_37 rfl ?_
  have g1 := h.1
  replace h := h.2
  exact Ev.vcV (z := mPe_lineUp) (ci := 6) [] [] rfl dPe_readClauses_38 oPe_lineUp rfl w920 iPe_lineUp sPe_lineUp (by decide) rfl g1 (Nat.le_of_ble_eq_true rfl) h
theorem bPe_readClauses_41 {l : Launch} {G : Gx} {d : Nat} {bc bs : Nat} {Φ : OutV → Mm → Prop} (M : Mm) (a0 : Nat) (a1 : Nat) (x2 : Int32)
    (h : Φ (.inl (some (.int 1))) M) :
    Ev l G d mPe_readClauses 41 [.ref a0, .ref a1, .int x2] [] M bc bs Φ := by
  refine Ev.iconst (v := 1) dPe_readClauses_41 (by decide) ?_
  exact Ev.iret dPe_readClauses_42 rfl rfl h
theorem dPe_readClause_0 : decode mPe_readClause.2.1 0 = .ok (.aload_n 1, 1) := by decide +kernel
theorem dPe_readClause_1 : decode mPe_readClause.2.1 1 = .ok (.invokevirtual 35, 3) := by decide +kernel
theorem dPe_readClause_4 : decode mPe_readClause.2.1 4 = .ok (.astore_n 3, 1) := by decide +kernel
theorem dPe_readClause_5 : decode mPe_readClause.2.1 5 = .ok (.aload_n 3, 1) := by decide +kernel
theorem dPe_readClause_6 : decode mPe_readClause.2.1 6 = .ok (.getstatic 39, 3) := by decide +kernel
theorem dPe_readClause_9 : decode mPe_readClause.2.1 9 = .ok (.if_acmp .eq 24, 3) := by decide +kernel
theorem dPe_readClause_12 : decode mPe_readClause.2.1 12 = .ok (.aload_n 3, 1) := by decide +kernel
theorem dPe_readClause_13 : decode mPe_readClause.2.1 13 = .ok (.getstatic 45, 3) := by decide +kernel
theorem dPe_readClause_16 : decode mPe_readClause.2.1 16 = .ok (.if_acmp .eq 17, 3) := by decide +kernel
theorem dPe_readClause_19 : decode mPe_readClause.2.1 19 = .ok (.aload_n 3, 1) := by decide +kernel
theorem dPe_readClause_20 : decode mPe_readClause.2.1 20 = .ok (.getstatic 48, 3) := by decide +kernel
theorem dPe_readClause_23 : decode mPe_readClause.2.1 23 = .ok (.if_acmp .eq 10, 3) := by decide +kernel
theorem dPe_readClause_26 : decode mPe_readClause.2.1 26 = .ok (.aload_n 3, 1) := by decide +kernel
theorem dPe_readClause_27 : decode mPe_readClause.2.1 27 = .ok (.getstatic 51, 3) := by decide +kernel
theorem dPe_readClause_30 : decode mPe_readClause.2.1 30 = .ok (.if_acmp .ne 7, 3) := by decide +kernel
theorem dPe_readClause_33 : decode mPe_readClause.2.1 33 = .ok (.iconst 1, 1) := by decide +kernel
theorem dPe_readClause_34 : decode mPe_readClause.2.1 34 = .ok (.goto 4, 3) := by decide +kernel
theorem dPe_readClause_37 : decode mPe_readClause.2.1 37 = .ok (.iconst 0, 1) := by decide +kernel
theorem dPe_readClause_38 : decode mPe_readClause.2.1 38 = .ok (.istore 4, 2) := by decide +kernel
theorem dPe_readClause_40 : decode mPe_readClause.2.1 40 = .ok (.iload 4, 2) := by decide +kernel
theorem dPe_readClause_42 : decode mPe_readClause.2.1 42 = .ok (.ifCond .ne 9, 3) := by decide +kernel
theorem dPe_readClause_45 : decode mPe_readClause.2.1 45 = .ok (.aload_n 1, 1) := by decide +kernel
theorem dPe_readClause_46 : decode mPe_readClause.2.1 46 = .ok (.iconst 1, 1) := by decide +kernel
theorem dPe_readClause_47 : decode mPe_readClause.2.1 47 = .ok (.invokevirtual 54, 3) := by decide +kernel
theorem dPe_readClause_50 : decode mPe_readClause.2.1 50 = .ok (.ireturn, 1) := by decide +kernel
theorem dPe_readClause_51 : decode mPe_readClause.2.1 51 = .ok (.iload_n 2, 1) := by decide +kernel
theorem dPe_readClause_52 : decode mPe_readClause.2.1 52 = .ok (.bipush 40, 2) := by decide +kernel
theorem dPe_readClause_54 : decode mPe_readClause.2.1 54 = .ok (.if_icmp .ge 19, 3) := by decide +kernel
theorem dPe_readClause_57 : decode mPe_readClause.2.1 57 = .ok (.aload_n 3, 1) := by decide +kernel
theorem dPe_readClause_58 : decode mPe_readClause.2.1 58 = .ok (.getstatic 39, 3) := by decide +kernel
theorem dPe_readClause_61 : decode mPe_readClause.2.1 61 = .ok (.if_acmp .ne 18, 3) := by decide +kernel
theorem dPe_readClause_64 : decode mPe_readClause.2.1 64 = .ok (.aload_n 0, 1) := by decide +kernel
theorem dPe_readClause_65 : decode mPe_readClause.2.1 65 = .ok (.getfield 18, 3) := by decide +kernel
theorem dPe_readClause_68 : decode mPe_readClause.2.1 68 = .ok (.bipush 8, 2) := by decide +kernel
theorem dPe_readClause_70 : decode mPe_readClause.2.1 70 = .ok (.if_icmp .lt 9, 3) := by decide +kernel
theorem dPe_readClause_73 : decode mPe_readClause.2.1 73 = .ok (.aload_n 1, 1) := by decide +kernel
theorem dPe_readClause_74 : decode mPe_readClause.2.1 74 = .ok (.iconst 3, 1) := by decide +kernel
theorem dPe_readClause_75 : decode mPe_readClause.2.1 75 = .ok (.invokevirtual 54, 3) := by decide +kernel
theorem dPe_readClause_78 : decode mPe_readClause.2.1 78 = .ok (.ireturn, 1) := by decide +kernel
theorem dPe_readClause_79 : decode mPe_readClause.2.1 79 = .ok (.aload_n 1, 1) := by decide +kernel
theorem dPe_readClause_80 : decode mPe_readClause.2.1 80 = .ok (.invokevirtual 58, 3) := by decide +kernel
theorem dPe_readClause_83 : decode mPe_readClause.2.1 83 = .ok (.aload_n 3, 1) := by decide +kernel
theorem dPe_readClause_84 : decode mPe_readClause.2.1 84 = .ok (.getstatic 39, 3) := by decide +kernel
theorem dPe_readClause_87 : decode mPe_readClause.2.1 87 = .ok (.if_acmp .ne 13, 3) := by decide +kernel
theorem dPe_readClause_90 : decode mPe_readClause.2.1 90 = .ok (.aload_n 0, 1) := by decide +kernel
theorem dPe_readClause_91 : decode mPe_readClause.2.1 91 = .ok (.aload_n 1, 1) := by decide +kernel
theorem dPe_readClause_92 : decode mPe_readClause.2.1 92 = .ok (.invokevirtual 61, 3) := by decide +kernel
theorem dPe_readClause_95 : decode mPe_readClause.2.1 95 = .ok (.istore 5, 2) := by decide +kernel
theorem dPe_readClause_97 : decode mPe_readClause.2.1 97 = .ok (.goto 28, 3) := by decide +kernel
theorem dPe_readClause_100 : decode mPe_readClause.2.1 100 = .ok (.aload_n 3, 1) := by decide +kernel
theorem dPe_readClause_101 : decode mPe_readClause.2.1 101 = .ok (.getstatic 45, 3) := by decide +kernel
theorem dPe_readClause_104 : decode mPe_readClause.2.1 104 = .ok (.if_acmp .ne 13, 3) := by decide +kernel
theorem dPe_readClause_107 : decode mPe_readClause.2.1 107 = .ok (.aload_n 0, 1) := by decide +kernel
theorem dPe_readClause_108 : decode mPe_readClause.2.1 108 = .ok (.aload_n 1, 1) := by decide +kernel
theorem dPe_readClause_109 : decode mPe_readClause.2.1 109 = .ok (.invokevirtual 65, 3) := by decide +kernel
theorem dPe_readClause_112 : decode mPe_readClause.2.1 112 = .ok (.istore 5, 2) := by decide +kernel
theorem dPe_readClause_114 : decode mPe_readClause.2.1 114 = .ok (.goto 11, 3) := by decide +kernel
theorem dPe_readClause_117 : decode mPe_readClause.2.1 117 = .ok (.aload_n 0, 1) := by decide +kernel
theorem dPe_readClause_118 : decode mPe_readClause.2.1 118 = .ok (.aload_n 1, 1) := by decide +kernel
theorem dPe_readClause_119 : decode mPe_readClause.2.1 119 = .ok (.aload_n 3, 1) := by decide +kernel
theorem dPe_readClause_120 : decode mPe_readClause.2.1 120 = .ok (.invokevirtual 68, 3) := by decide +kernel
theorem dPe_readClause_123 : decode mPe_readClause.2.1 123 = .ok (.istore 5, 2) := by decide +kernel
theorem dPe_readClause_125 : decode mPe_readClause.2.1 125 = .ok (.iload 5, 2) := by decide +kernel
theorem dPe_readClause_127 : decode mPe_readClause.2.1 127 = .ok (.ifCond .eq 16, 3) := by decide +kernel
theorem dPe_readClause_130 : decode mPe_readClause.2.1 130 = .ok (.aload_n 1, 1) := by decide +kernel
theorem dPe_readClause_131 : decode mPe_readClause.2.1 131 = .ok (.bipush 59, 2) := by decide +kernel
theorem dPe_readClause_133 : decode mPe_readClause.2.1 133 = .ok (.invokevirtual 72, 3) := by decide +kernel
theorem dPe_readClause_136 : decode mPe_readClause.2.1 136 = .ok (.ifCond .eq 7, 3) := by decide +kernel
theorem dPe_readClause_139 : decode mPe_readClause.2.1 139 = .ok (.iconst 1, 1) := by decide +kernel
theorem dPe_readClause_140 : decode mPe_readClause.2.1 140 = .ok (.goto 4, 3) := by decide +kernel
theorem dPe_readClause_143 : decode mPe_readClause.2.1 143 = .ok (.iconst 0, 1) := by decide +kernel
theorem dPe_readClause_144 : decode mPe_readClause.2.1 144 = .ok (.ireturn, 1) := by decide +kernel
def mTo_here : MR := (⟨"BowingRow$Tokens", "here", "()LBowingRow$Word;"⟩, prog_10_method_8_code, 1, (Option.some (.object "BowingRow$Word")))
theorem oTo_here : MOK mTo_here 0 := ⟨lwg_of 874 (by decide +kernel) (by decide +kernel), lwg_of 92 (by decide +kernel) (by decide +kernel), ⟨by decide +kernel, by decide +kernel⟩, by decide +kernel, by decide⟩
theorem iTo_here : Cond.instanceMethod mTo_here.1 ∈ lwg := lwg_of 872 (by decide +kernel) (by decide +kernel)
theorem sTo_here : Cond.selects mTo_here.1.cls mTo_here.1 mTo_here.1 ∈ lwg := lwg_of 873 (by decide +kernel) (by decide +kernel)
theorem w871 : Cond.methodLink "BowingRow$People" 35 ⟨"BowingRow$Tokens", "here", "()LBowingRow$Word;"⟩ ∈ lwg := lwg_of 871 (by decide +kernel) (by decide +kernel)
theorem bPe_readClause_0 {l : Launch} {G : Gx} {d : Nat} {bc bs : Nat} {Φ : OutV → Mm → Prop} (M : Mm) (a0 : Nat) (a1 : Nat) (x2 : Int32)
    (h : ((m_sh M a1).1 = 8) ∧ CallVC l G d mPe_readClause 4 [.ref a0, .ref a1, .int x2, .null, .null, .null] [] mTo_here [.ref a1] M bc bs Φ) :
    Ev l G d mPe_readClause 0 [.ref a0, .ref a1, .int x2, .null, .null, .null] [] M bc bs Φ := by
  refine Ev.aload_n dPe_readClause_0 rfl ?_
  have g1 := h.1
  replace h := h.2
  exact Ev.vcV (z := mTo_here) (ci := 8) [] [] rfl dPe_readClause_1 oTo_here rfl w871 iTo_here sTo_here (by decide) rfl g1 (Nat.le_of_ble_eq_true rfl) h
theorem w875 : Cond.fieldLink "BowingRow$People" 39 "BowingRow$Word" "PERSON" "LBowingRow$Word;" ∈ lwg := lwg_of 875 (by decide +kernel) (by decide +kernel)
theorem w877 : Cond.fieldLink "BowingRow$People" 45 "BowingRow$Word" "KNOWS" "LBowingRow$Word;" ∈ lwg := lwg_of 877 (by decide +kernel) (by decide +kernel)
theorem w879 : Cond.fieldLink "BowingRow$People" 48 "BowingRow$Word" "WAY" "LBowingRow$Word;" ∈ lwg := lwg_of 879 (by decide +kernel) (by decide +kernel)
theorem w881 : Cond.fieldLink "BowingRow$People" 51 "BowingRow$Word" "UNTIL" "LBowingRow$Word;" ∈ lwg := lwg_of 881 (by decide +kernel) (by decide +kernel)
def mTo_fail : MR := (⟨"BowingRow$Tokens", "fail", "(I)Z"⟩, prog_10_method_14_code, 2, (Option.some .boolean))
theorem oTo_fail : MOK mTo_fail 1 := ⟨lwg_of 886 (by decide +kernel) (by decide +kernel), lwg_of 92 (by decide +kernel) (by decide +kernel), ⟨by decide +kernel, by decide +kernel⟩, by decide +kernel, by decide⟩
theorem iTo_fail : Cond.instanceMethod mTo_fail.1 ∈ lwg := lwg_of 884 (by decide +kernel) (by decide +kernel)
theorem sTo_fail : Cond.selects mTo_fail.1.cls mTo_fail.1 mTo_fail.1 ∈ lwg := lwg_of 885 (by decide +kernel) (by decide +kernel)
theorem w883 : Cond.methodLink "BowingRow$People" 54 ⟨"BowingRow$Tokens", "fail", "(I)Z"⟩ ∈ lwg := lwg_of 883 (by decide +kernel) (by decide +kernel)
theorem bPe_readClause_4 {l : Launch} {G : Gx} {d : Nat} {bc bs : Nat} {Φ : OutV → Mm → Prop} (M : Mm) (a0 : Nat) (a1 : Nat) (x2 : Int32) (u3 : Value) (u4 : Value) (u5 : Value) (r0 : Nat)
    (h : (1 ≤ r0 ∧ r0 ≤ 23) ∧ (r0 = 2 → Ev l G d mPe_readClause 33 [.ref a0, .ref a1, .int x2, .ref r0, u4, u5] [] M bc bs Φ) ∧ (¬ r0 = 2 → (r0 = 3 → Ev l G d mPe_readClause 33 [.ref a0, .ref a1, .int x2, .ref r0, u4, u5] [] M bc bs Φ) ∧ (¬ r0 = 3 → (r0 = 4 → Ev l G d mPe_readClause 33 [.ref a0, .ref a1, .int x2, .ref r0, u4, u5] [] M bc bs Φ) ∧ (¬ r0 = 4 → (¬ r0 = 5 → ((m_sh M a1).1 = 8) ∧ CallVC l G d mPe_readClause 50 [.ref a0, .ref a1, .int x2, .ref r0, .int 0, u5] [] mTo_fail [.ref a1, .int 1] M bc bs Φ) ∧ (r0 = 5 → Ev l G d mPe_readClause 33 [.ref a0, .ref a1, .int x2, .ref r0, u4, u5] [] M bc bs Φ))))) :
    Ev l G d mPe_readClause 4 [.ref a0, .ref a1, .int x2, u3, u4, u5] [.ref r0] M bc bs Φ := by
  refine Ev.astore_n dPe_readClause_4 (by decide) ?_
  show Ev l G d mPe_readClause (_ + _) [.ref a0, .ref a1, .int x2, .ref r0, u4, u5] [] M bc bs Φ
  refine Ev.aload_n dPe_readClause_5 rfl ?_
  refine Ev.gets (C := "BowingRow$Word") (n := "PERSON") (ds := "LBowingRow$Word;") (v := .ref 2) dPe_readClause_6 (by decide +kernel) (Or.inl w875) ?_
  have g1 := h.1
  replace h := h.2
  refine Ev.acmp_eq 33 (by decide) dPe_readClause_9 g1 (by decide) (fun c => ?_) (fun c => ?_)
  · replace h := h.1 c
    exact h
  · replace h := h.2 c
    refine Ev.aload_n dPe_readClause_12 rfl ?_
    refine Ev.gets (C := "BowingRow$Word") (n := "KNOWS") (ds := "LBowingRow$Word;") (v := .ref 3) dPe_readClause_13 (by decide +kernel) (Or.inl w877) ?_
    refine Ev.acmp_eq 33 (by decide) dPe_readClause_16 g1 (by decide) (fun c => ?_) (fun c => ?_)
    · replace h := h.1 c
      exact h
    · replace h := h.2 c
      refine Ev.aload_n dPe_readClause_19 rfl ?_
      refine Ev.gets (C := "BowingRow$Word") (n := "WAY") (ds := "LBowingRow$Word;") (v := .ref 4) dPe_readClause_20 (by decide +kernel) (Or.inl w879) ?_
      refine Ev.acmp_eq 33 (by decide) dPe_readClause_23 g1 (by decide) (fun c => ?_) (fun c => ?_)
      · replace h := h.1 c
        exact h
      · replace h := h.2 c
        refine Ev.aload_n dPe_readClause_26 rfl ?_
        refine Ev.gets (C := "BowingRow$Word") (n := "UNTIL") (ds := "LBowingRow$Word;") (v := .ref 5) dPe_readClause_27 (by decide +kernel) (Or.inl w881) ?_
        refine Ev.acmp_ne 37 (by decide) dPe_readClause_30 g1 (by decide) (fun c => ?_) (fun c => ?_)
        · replace h := h.1 c
          refine Ev.iconst (v := 0) dPe_readClause_37 (by decide) ?_
          refine Ev.istore dPe_readClause_38 (by decide) ?_
          show Ev l G d mPe_readClause (_ + _) [.ref a0, .ref a1, .int x2, .ref r0, .int 0, u5] [] M bc bs Φ
          refine Ev.iload dPe_readClause_40 rfl ?_
          refine Ev.if_ne 51 (by decide) dPe_readClause_42 (fun c => absurd c (by decide)) (fun _ => ?_)
          refine Ev.aload_n dPe_readClause_45 rfl ?_
          refine Ev.iconst (v := 1) dPe_readClause_46 (by decide) ?_
          have g2 := h.1
          replace h := h.2
          exact Ev.vcV (z := mTo_fail) (ci := 8) [.int 1] [] rfl dPe_readClause_47 oTo_fail rfl w883 iTo_fail sTo_fail (by decide) rfl g2 (Nat.le_of_ble_eq_true rfl) h
        · replace h := h.2 c
          exact h
theorem bPe_readClause_33 {l : Launch} {G : Gx} {d : Nat} {bc bs : Nat} {Φ : OutV → Mm → Prop} (M : Mm) (a0 : Nat) (a1 : Nat) (x2 : Int32) (a3 : Nat) (u4 : Value) (u5 : Value)
    (h : (40 ≤ x2 → Ev l G d mPe_readClause 73 [.ref a0, .ref a1, .int x2, .ref a3, .int 1, u5] [] M bc bs Φ) ∧ (¬ 40 ≤ x2 → (1 ≤ a3 ∧ a3 ≤ 23) ∧ (¬ a3 = 2 → Ev l G d mPe_readClause 79 [.ref a0, .ref a1, .int x2, .ref a3, .int 1, u5] [] M bc bs Φ) ∧ (a3 = 2 → ((m_sh M a0).1 = 6) ∧ ((m_i M a0 2) < 8 → Ev l G d mPe_readClause 79 [.ref a0, .ref a1, .int x2, .ref a3, .int 1, u5] [] M bc bs Φ) ∧ (¬ (m_i M a0 2) < 8 → Ev l G d mPe_readClause 73 [.ref a0, .ref a1, .int x2, .ref a3, .int 1, u5] [] M bc bs Φ)))) :
    Ev l G d mPe_readClause 33 [.ref a0, .ref a1, .int x2, .ref a3, u4, u5] [] M bc bs Φ := by
  refine Ev.iconst (v := 1) dPe_readClause_33 (by decide) ?_
  refine Ev.goto 38 dPe_readClause_34 (by decide) ?_
  refine Ev.istore dPe_readClause_38 (by decide) ?_
  show Ev l G d mPe_readClause (_ + _) [.ref a0, .ref a1, .int x2, .ref a3, .int 1, u5] [] M bc bs Φ
  refine Ev.iload dPe_readClause_40 rfl ?_
  refine Ev.if_ne 51 (by decide) dPe_readClause_42 (fun _ => ?_) (fun c => absurd c (by decide))
  refine Ev.iload_n dPe_readClause_51 rfl ?_
  refine Ev.bipush (v := 40) dPe_readClause_52 (by decide) ?_
  refine Ev.icmp_ge 73 (by decide) dPe_readClause_54 (fun c => ?_) (fun c => ?_)
  · replace h := h.1 c
    exact h
  · replace h := h.2 c
    refine Ev.aload_n dPe_readClause_57 rfl ?_
    refine Ev.gets (C := "BowingRow$Word") (n := "PERSON") (ds := "LBowingRow$Word;") (v := .ref 2) dPe_readClause_58 (by decide +kernel) (Or.inl w875) ?_
    have g1 := h.1
    replace h := h.2
    refine Ev.acmp_ne 79 (by decide) dPe_readClause_61 g1 (by decide) (fun c => ?_) (fun c => ?_)
    · replace h := h.1 c
      exact h
    · replace h := h.2 c
      refine Ev.aload_n dPe_readClause_64 rfl ?_
      have g2 := h.1
      replace h := h.2
      refine Ev.getI dPe_readClause_65 (Or.inl fPe_18) rfl g2 ?_
      refine Ev.bipush (v := 8) dPe_readClause_68 (by decide) ?_
      refine Ev.icmp_lt 79 (by decide) dPe_readClause_70 (fun c => ?_) (fun c => ?_)
      · replace h := h.1 c
        exact h
      · replace h := h.2 c
        exact h
theorem bPe_readClause_50 {l : Launch} {G : Gx} {d : Nat} {bc bs : Nat} {Φ : OutV → Mm → Prop} (M : Mm) (a0 : Nat) (a1 : Nat) (x2 : Int32) (a3 : Nat) (x4 : Int32) (u5 : Value) (s0 : Int32)
    (h : (narrow .boolean (.int s0) = .int s0) ∧ Φ (.inl (some (.int s0))) M) :
    Ev l G d mPe_readClause 50 [.ref a0, .ref a1, .int x2, .ref a3, .int x4, u5] [.int s0] M bc bs Φ := by
  have g1 := h.1
  replace h := h.2
  exact Ev.iret dPe_readClause_50 rfl g1 h
theorem bPe_readClause_73 {l : Launch} {G : Gx} {d : Nat} {bc bs : Nat} {Φ : OutV → Mm → Prop} (M : Mm) (a0 : Nat) (a1 : Nat) (x2 : Int32) (a3 : Nat) (x4 : Int32) (u5 : Value)
    (h : ((m_sh M a1).1 = 8) ∧ CallVC l G d mPe_readClause 78 [.ref a0, .ref a1, .int x2, .ref a3, .int x4, u5] [] mTo_fail [.ref a1, .int 3] M bc bs Φ) :
    Ev l G d mPe_readClause 73 [.ref a0, .ref a1, .int x2, .ref a3, .int x4, u5] [] M bc bs Φ := by
  refine Ev.aload_n dPe_readClause_73 rfl ?_
  refine Ev.iconst (v := 3) dPe_readClause_74 (by decide) ?_
  have g1 := h.1
  replace h := h.2
  exact Ev.vcV (z := mTo_fail) (ci := 8) [.int 3] [] rfl dPe_readClause_75 oTo_fail rfl w883 iTo_fail sTo_fail (by decide) rfl g1 (Nat.le_of_ble_eq_true rfl) h
theorem bPe_readClause_78 {l : Launch} {G : Gx} {d : Nat} {bc bs : Nat} {Φ : OutV → Mm → Prop} (M : Mm) (a0 : Nat) (a1 : Nat) (x2 : Int32) (a3 : Nat) (x4 : Int32) (u5 : Value) (s0 : Int32)
    (h : (narrow .boolean (.int s0) = .int s0) ∧ Φ (.inl (some (.int s0))) M) :
    Ev l G d mPe_readClause 78 [.ref a0, .ref a1, .int x2, .ref a3, .int x4, u5] [.int s0] M bc bs Φ := by
  have g1 := h.1
  replace h := h.2
  exact Ev.iret dPe_readClause_78 rfl g1 h
def mTo_goOn : MR := (⟨"BowingRow$Tokens", "goOn", "()V"⟩, prog_10_method_11_code, 1, none)
theorem oTo_goOn : MOK mTo_goOn 0 := ⟨lwg_of 890 (by decide +kernel) (by decide +kernel), lwg_of 92 (by decide +kernel) (by decide +kernel), ⟨by decide +kernel, by decide +kernel⟩, by decide +kernel, by decide⟩
theorem iTo_goOn : Cond.instanceMethod mTo_goOn.1 ∈ lwg := lwg_of 888 (by decide +kernel) (by decide +kernel)
theorem sTo_goOn : Cond.selects mTo_goOn.1.cls mTo_goOn.1 mTo_goOn.1 ∈ lwg := lwg_of 889 (by decide +kernel) (by decide +kernel)
theorem w887 : Cond.methodLink "BowingRow$People" 58 ⟨"BowingRow$Tokens", "goOn", "()V"⟩ ∈ lwg := lwg_of 887 (by decide +kernel) (by decide +kernel)
theorem bPe_readClause_79 {l : Launch} {G : Gx} {d : Nat} {bc bs : Nat} {Φ : OutV → Mm → Prop} (M : Mm) (a0 : Nat) (a1 : Nat) (x2 : Int32) (a3 : Nat) (x4 : Int32) (u5 : Value)
    (h : ((m_sh M a1).1 = 8) ∧ CallVC l G d mPe_readClause 83 [.ref a0, .ref a1, .int x2, .ref a3, .int x4, u5] [] mTo_goOn [.ref a1] M bc bs Φ) :
    Ev l G d mPe_readClause 79 [.ref a0, .ref a1, .int x2, .ref a3, .int x4, u5] [] M bc bs Φ := by
  refine Ev.aload_n dPe_readClause_79 rfl ?_
  have g1 := h.1
  replace h := h.2
  exact Ev.vcV (z := mTo_goOn) (ci := 8) [] [] rfl dPe_readClause_80 oTo_goOn rfl w887 iTo_goOn sTo_goOn (by decide) rfl g1 (Nat.le_of_ble_eq_true rfl) h
def mPe_readHabit : MR := (⟨"BowingRow$People", "readHabit", "(LBowingRow$Tokens;LBowingRow$Word;)Z"⟩, prog_8_method_8_code, 5, (Option.some .boolean))
theorem oPe_readHabit : MOK mPe_readHabit 2 := ⟨lwg_of 915 (by decide +kernel) (by decide +kernel), lwg_of 93 (by decide +kernel) (by decide +kernel), ⟨by decide +kernel, by decide +kernel⟩, by decide +kernel, by decide⟩
theorem iPe_readHabit : Cond.instanceMethod mPe_readHabit.1 ∈ lwg := lwg_of 914 (by decide +kernel) (by decide +kernel)
theorem sPe_readHabit : Cond.selects mPe_readHabit.1.cls mPe_readHabit.1 mPe_readHabit.1 ∈ lwg := lwg_of 19 (by decide +kernel) (by decide +kernel)
theorem w912 : Cond.methodLink "BowingRow$People" 68 ⟨"BowingRow$People", "readHabit", "(LBowingRow$Tokens;LBowingRow$Word;)Z"⟩ ∈ lwg := lwg_of 912 (by decide +kernel) (by decide +kernel)
def mPe_readKnows : MR := (⟨"BowingRow$People", "readKnows", "(LBowingRow$Tokens;)Z"⟩, prog_8_method_7_code, 4, (Option.some .boolean))
theorem oPe_readKnows : MOK mPe_readKnows 1 := ⟨lwg_of 907 (by decide +kernel) (by decide +kernel), lwg_of 93 (by decide +kernel) (by decide +kernel), ⟨by decide +kernel, by decide +kernel⟩, by decide +kernel, by decide⟩
theorem iPe_readKnows : Cond.instanceMethod mPe_readKnows.1 ∈ lwg := lwg_of 906 (by decide +kernel) (by decide +kernel)
theorem sPe_readKnows : Cond.selects mPe_readKnows.1.cls mPe_readKnows.1 mPe_readKnows.1 ∈ lwg := lwg_of 18 (by decide +kernel) (by decide +kernel)
theorem w904 : Cond.methodLink "BowingRow$People" 65 ⟨"BowingRow$People", "readKnows", "(LBowingRow$Tokens;)Z"⟩ ∈ lwg := lwg_of 904 (by decide +kernel) (by decide +kernel)
def mPe_readPerson : MR := (⟨"BowingRow$People", "readPerson", "(LBowingRow$Tokens;)Z"⟩, prog_8_method_6_code, 4, (Option.some .boolean))
theorem oPe_readPerson : MOK mPe_readPerson 1 := ⟨lwg_of 894 (by decide +kernel) (by decide +kernel), lwg_of 93 (by decide +kernel) (by decide +kernel), ⟨by decide +kernel, by decide +kernel⟩, by decide +kernel, by decide⟩
theorem iPe_readPerson : Cond.instanceMethod mPe_readPerson.1 ∈ lwg := lwg_of 893 (by decide +kernel) (by decide +kernel)
theorem sPe_readPerson : Cond.selects mPe_readPerson.1.cls mPe_readPerson.1 mPe_readPerson.1 ∈ lwg := lwg_of 17 (by decide +kernel) (by decide +kernel)
theorem w891 : Cond.methodLink "BowingRow$People" 61 ⟨"BowingRow$People", "readPerson", "(LBowingRow$Tokens;)Z"⟩ ∈ lwg := lwg_of 891 (by decide +kernel) (by decide +kernel)
theorem bPe_readClause_83 {l : Launch} {G : Gx} {d : Nat} {bc bs : Nat} {Φ : OutV → Mm → Prop} (M : Mm) (a0 : Nat) (a1 : Nat) (x2 : Int32) (a3 : Nat) (x4 : Int32) (u5 : Value)
    (h : (1 ≤ a3 ∧ a3 ≤ 23) ∧ (¬ a3 = 2 → (¬ a3 = 3 → ((m_sh M a0).1 = 6) ∧ CallVC l G d mPe_readClause 123 [.ref a0, .ref a1, .int x2, .ref a3, .int x4, u5] [] mPe_readHabit [.ref a0, .ref a1, .ref a3] M bc bs Φ) ∧ (a3 = 3 → ((m_sh M a0).1 = 6) ∧ CallVC l G d mPe_readClause 112 [.ref a0, .ref a1, .int x2, .ref a3, .int x4, u5] [] mPe_readKnows [.ref a0, .ref a1] M bc bs Φ)) ∧ (a3 = 2 → ((m_sh M a0).1 = 6) ∧ CallVC l G d mPe_readClause 95 [.ref a0, .ref a1, .int x2, .ref a3, .int x4, u5] [] mPe_readPerson [.ref a0, .ref a1] M bc bs Φ)) :
    Ev l G d mPe_readClause 83 [.ref a0, .ref a1, .int x2, .ref a3, .int x4, u5] [] M bc bs Φ := by
  refine Ev.aload_n dPe_readClause_83 rfl ?_
  refine Ev.gets (C := "BowingRow$Word") (n := "PERSON") (ds := "LBowingRow$Word;") (v := .ref 2) dPe_readClause_84 (by decide +kernel) (Or.inl w875) ?_
  have g1 := h.1
  replace h := h.2
  refine Ev.acmp_ne 100 (by decide) dPe_readClause_87 g1 (by decide) (fun c => ?_) (fun c => ?_)
  · replace h := h.1 c
    refine Ev.aload_n dPe_readClause_100 rfl ?_
    refine Ev.gets (C := "BowingRow$Word") (n := "KNOWS") (ds := "LBowingRow$Word;") (v := .ref 3) dPe_readClause_101 (by decide +kernel) (Or.inl w877) ?_
    refine Ev.acmp_ne 117 (by decide) dPe_readClause_104 g1 (by decide) (fun c => ?_) (fun c => ?_)
    · replace h := h.1 c
      refine Ev.aload_n dPe_readClause_117 rfl ?_
      refine Ev.aload_n dPe_readClause_118 rfl ?_
      refine Ev.aload_n dPe_readClause_119 rfl ?_
      have g2 := h.1
      replace h := h.2
      exact Ev.vcV (z := mPe_readHabit) (ci := 6) [.ref a1, .ref a3] [] rfl dPe_readClause_120 oPe_readHabit rfl w912 iPe_readHabit sPe_readHabit (by decide) rfl g2 (Nat.le_of_ble_eq_true rfl) h
    · replace h := h.2 c
      refine Ev.aload_n dPe_readClause_107 rfl ?_
      refine Ev.aload_n dPe_readClause_108 rfl ?_
      have g3 := h.1
      replace h := h.2
      exact Ev.vcV (z := mPe_readKnows) (ci := 6) [.ref a1] [] rfl dPe_readClause_109 oPe_readKnows rfl w904 iPe_readKnows sPe_readKnows (by decide) rfl g3 (Nat.le_of_ble_eq_true rfl) h
  · replace h := h.2 c
    refine Ev.aload_n dPe_readClause_90 rfl ?_
    refine Ev.aload_n dPe_readClause_91 rfl ?_
    have g4 := h.1
    replace h := h.2
    exact Ev.vcV (z := mPe_readPerson) (ci := 6) [.ref a1] [] rfl dPe_readClause_92 oPe_readPerson rfl w891 iPe_readPerson sPe_readPerson (by decide) rfl g4 (Nat.le_of_ble_eq_true rfl) h
theorem bPe_readClause_95 {l : Launch} {G : Gx} {d : Nat} {bc bs : Nat} {Φ : OutV → Mm → Prop} (M : Mm) (a0 : Nat) (a1 : Nat) (x2 : Int32) (a3 : Nat) (x4 : Int32) (u5 : Value) (s0 : Int32)
    (h : Ev l G d mPe_readClause 125 [.ref a0, .ref a1, .int x2, .ref a3, .int x4, .int s0] [] M bc bs Φ) :
    Ev l G d mPe_readClause 95 [.ref a0, .ref a1, .int x2, .ref a3, .int x4, u5] [.int s0] M bc bs Φ := by
  refine Ev.istore dPe_readClause_95 (by decide) ?_
  show Ev l G d mPe_readClause (_ + _) [.ref a0, .ref a1, .int x2, .ref a3, .int x4, .int s0] [] M bc bs Φ
  refine Ev.goto 125 dPe_readClause_97 (by decide) ?_
  exact h
theorem bPe_readClause_112 {l : Launch} {G : Gx} {d : Nat} {bc bs : Nat} {Φ : OutV → Mm → Prop} (M : Mm) (a0 : Nat) (a1 : Nat) (x2 : Int32) (a3 : Nat) (x4 : Int32) (u5 : Value) (s0 : Int32)
    (h : Ev l G d mPe_readClause 125 [.ref a0, .ref a1, .int x2, .ref a3, .int x4, .int s0] [] M bc bs Φ) :
    Ev l G d mPe_readClause 112 [.ref a0, .ref a1, .int x2, .ref a3, .int x4, u5] [.int s0] M bc bs Φ := by
  refine Ev.istore dPe_readClause_112 (by decide) ?_
  show Ev l G d mPe_readClause (_ + _) [.ref a0, .ref a1, .int x2, .ref a3, .int x4, .int s0] [] M bc bs Φ
  refine Ev.goto 125 dPe_readClause_114 (by decide) ?_
  exact h
theorem bPe_readClause_123 {l : Launch} {G : Gx} {d : Nat} {bc bs : Nat} {Φ : OutV → Mm → Prop} (M : Mm) (a0 : Nat) (a1 : Nat) (x2 : Int32) (a3 : Nat) (x4 : Int32) (u5 : Value) (s0 : Int32)
    (h : Ev l G d mPe_readClause 125 [.ref a0, .ref a1, .int x2, .ref a3, .int x4, .int s0] [] M bc bs Φ) :
    Ev l G d mPe_readClause 123 [.ref a0, .ref a1, .int x2, .ref a3, .int x4, u5] [.int s0] M bc bs Φ := by
  refine Ev.istore dPe_readClause_123 (by decide) ?_
  show Ev l G d mPe_readClause (_ + _) [.ref a0, .ref a1, .int x2, .ref a3, .int x4, .int s0] [] M bc bs Φ
  exact h
def mTo_takeSign : MR := (⟨"BowingRow$Tokens", "takeSign", "(C)Z"⟩, prog_10_method_12_code, 3, (Option.some .boolean))
theorem oTo_takeSign : MOK mTo_takeSign 1 := ⟨lwg_of 919 (by decide +kernel) (by decide +kernel), lwg_of 92 (by decide +kernel) (by decide +kernel), ⟨by decide +kernel, by decide +kernel⟩, by decide +kernel, by decide⟩
theorem iTo_takeSign : Cond.instanceMethod mTo_takeSign.1 ∈ lwg := lwg_of 917 (by decide +kernel) (by decide +kernel)
theorem sTo_takeSign : Cond.selects mTo_takeSign.1.cls mTo_takeSign.1 mTo_takeSign.1 ∈ lwg := lwg_of 918 (by decide +kernel) (by decide +kernel)
theorem w916 : Cond.methodLink "BowingRow$People" 72 ⟨"BowingRow$Tokens", "takeSign", "(C)Z"⟩ ∈ lwg := lwg_of 916 (by decide +kernel) (by decide +kernel)
theorem bPe_readClause_125 {l : Launch} {G : Gx} {d : Nat} {bc bs : Nat} {Φ : OutV → Mm → Prop} (M : Mm) (a0 : Nat) (a1 : Nat) (x2 : Int32) (a3 : Nat) (x4 : Int32) (x5 : Int32)
    (h : (x5 = 0 → Φ (.inl (some (.int 0))) M) ∧ (¬ x5 = 0 → ((m_sh M a1).1 = 8) ∧ CallVC l G d mPe_readClause 136 [.ref a0, .ref a1, .int x2, .ref a3, .int x4, .int x5] [] mTo_takeSign [.ref a1, .int 59] M bc bs Φ)) :
    Ev l G d mPe_readClause 125 [.ref a0, .ref a1, .int x2, .ref a3, .int x4, .int x5] [] M bc bs Φ := by
  refine Ev.iload dPe_readClause_125 rfl ?_
  refine Ev.if_eq 143 (by decide) dPe_readClause_127 (fun c => ?_) (fun c => ?_)
  · replace h := h.1 c
    refine Ev.iconst (v := 0) dPe_readClause_143 (by decide) ?_
    exact Ev.iret dPe_readClause_144 rfl rfl h
  · replace h := h.2 c
    refine Ev.aload_n dPe_readClause_130 rfl ?_
    refine Ev.bipush (v := 59) dPe_readClause_131 (by decide) ?_
    have g1 := h.1
    replace h := h.2
    exact Ev.vcV (z := mTo_takeSign) (ci := 8) [.int 59] [] rfl dPe_readClause_133 oTo_takeSign rfl w916 iTo_takeSign sTo_takeSign (by decide) rfl g1 (Nat.le_of_ble_eq_true rfl) h
theorem bPe_readClause_136 {l : Launch} {G : Gx} {d : Nat} {bc bs : Nat} {Φ : OutV → Mm → Prop} (M : Mm) (a0 : Nat) (a1 : Nat) (x2 : Int32) (a3 : Nat) (x4 : Int32) (x5 : Int32) (s0 : Int32)
    (h : (s0 = 0 → Φ (.inl (some (.int 0))) M) ∧ (¬ s0 = 0 → Φ (.inl (some (.int 1))) M)) :
    Ev l G d mPe_readClause 136 [.ref a0, .ref a1, .int x2, .ref a3, .int x4, .int x5] [.int s0] M bc bs Φ := by
  refine Ev.if_eq 143 (by decide) dPe_readClause_136 (fun c => ?_) (fun c => ?_)
  · replace h := h.1 c
    refine Ev.iconst (v := 0) dPe_readClause_143 (by decide) ?_
    exact Ev.iret dPe_readClause_144 rfl rfl h
  · replace h := h.2 c
    refine Ev.iconst (v := 1) dPe_readClause_139 (by decide) ?_
    refine Ev.goto 144 dPe_readClause_140 (by decide) ?_
    exact Ev.iret dPe_readClause_144 rfl rfl h
theorem dPe_readPerson_0 : decode mPe_readPerson.2.1 0 = .ok (.iconst 0, 1) := by decide +kernel
theorem dPe_readPerson_1 : decode mPe_readPerson.2.1 1 = .ok (.istore_n 2, 1) := by decide +kernel
theorem dPe_readPerson_2 : decode mPe_readPerson.2.1 2 = .ok (.iload_n 2, 1) := by decide +kernel
theorem dPe_readPerson_3 : decode mPe_readPerson.2.1 3 = .ok (.iconst 5, 1) := by decide +kernel
theorem dPe_readPerson_4 : decode mPe_readPerson.2.1 4 = .ok (.if_icmp .ge 41, 3) := by decide +kernel
theorem dPe_readPerson_7 : decode mPe_readPerson.2.1 7 = .ok (.aload_n 1, 1) := by decide +kernel
theorem dPe_readPerson_8 : decode mPe_readPerson.2.1 8 = .ok (.getstatic 76, 3) := by decide +kernel
theorem dPe_readPerson_11 : decode mPe_readPerson.2.1 11 = .ok (.iload_n 2, 1) := by decide +kernel
theorem dPe_readPerson_12 : decode mPe_readPerson.2.1 12 = .ok (.iaload, 1) := by decide +kernel
theorem dPe_readPerson_13 : decode mPe_readPerson.2.1 13 = .ok (.getstatic 79, 3) := by decide +kernel
theorem dPe_readPerson_16 : decode mPe_readPerson.2.1 16 = .ok (.iload_n 2, 1) := by decide +kernel
theorem dPe_readPerson_17 : decode mPe_readPerson.2.1 17 = .ok (.iaload, 1) := by decide +kernel
theorem dPe_readPerson_18 : decode mPe_readPerson.2.1 18 = .ok (.invokevirtual 82, 3) := by decide +kernel
theorem dPe_readPerson_21 : decode mPe_readPerson.2.1 21 = .ok (.istore_n 3, 1) := by decide +kernel
theorem dPe_readPerson_22 : decode mPe_readPerson.2.1 22 = .ok (.iload_n 3, 1) := by decide +kernel
theorem dPe_readPerson_23 : decode mPe_readPerson.2.1 23 = .ok (.iconst (-1), 1) := by decide +kernel
theorem dPe_readPerson_24 : decode mPe_readPerson.2.1 24 = .ok (.if_icmp .ne 5, 3) := by decide +kernel
theorem dPe_readPerson_27 : decode mPe_readPerson.2.1 27 = .ok (.iconst 0, 1) := by decide +kernel
theorem dPe_readPerson_28 : decode mPe_readPerson.2.1 28 = .ok (.ireturn, 1) := by decide +kernel
theorem dPe_readPerson_29 : decode mPe_readPerson.2.1 29 = .ok (.aload_n 0, 1) := by decide +kernel
theorem dPe_readPerson_30 : decode mPe_readPerson.2.1 30 = .ok (.aload_n 0, 1) := by decide +kernel
theorem dPe_readPerson_31 : decode mPe_readPerson.2.1 31 = .ok (.getfield 18, 3) := by decide +kernel
theorem dPe_readPerson_34 : decode mPe_readPerson.2.1 34 = .ok (.iload_n 2, 1) := by decide +kernel
theorem dPe_readPerson_35 : decode mPe_readPerson.2.1 35 = .ok (.iload_n 3, 1) := by decide +kernel
theorem dPe_readPerson_36 : decode mPe_readPerson.2.1 36 = .ok (.invokevirtual 86, 3) := by decide +kernel
theorem dPe_readPerson_39 : decode mPe_readPerson.2.1 39 = .ok (.iinc 2 1, 3) := by decide +kernel
theorem dPe_readPerson_42 : decode mPe_readPerson.2.1 42 = .ok (.goto (-40), 3) := by decide +kernel
theorem dPe_readPerson_45 : decode mPe_readPerson.2.1 45 = .ok (.aload_n 0, 1) := by decide +kernel
theorem dPe_readPerson_46 : decode mPe_readPerson.2.1 46 = .ok (.aload_n 0, 1) := by decide +kernel
theorem dPe_readPerson_47 : decode mPe_readPerson.2.1 47 = .ok (.getfield 18, 3) := by decide +kernel
theorem dPe_readPerson_50 : decode mPe_readPerson.2.1 50 = .ok (.iconst 5, 1) := by decide +kernel
theorem dPe_readPerson_51 : decode mPe_readPerson.2.1 51 = .ok (.iconst 0, 1) := by decide +kernel
theorem dPe_readPerson_52 : decode mPe_readPerson.2.1 52 = .ok (.invokevirtual 86, 3) := by decide +kernel
theorem dPe_readPerson_55 : decode mPe_readPerson.2.1 55 = .ok (.aload_n 0, 1) := by decide +kernel
theorem dPe_readPerson_56 : decode mPe_readPerson.2.1 56 = .ok (.aload_n 0, 1) := by decide +kernel
theorem dPe_readPerson_57 : decode mPe_readPerson.2.1 57 = .ok (.getfield 18, 3) := by decide +kernel
theorem dPe_readPerson_60 : decode mPe_readPerson.2.1 60 = .ok (.bipush 6, 2) := by decide +kernel
theorem dPe_readPerson_62 : decode mPe_readPerson.2.1 62 = .ok (.iconst 3, 1) := by decide +kernel
theorem dPe_readPerson_63 : decode mPe_readPerson.2.1 63 = .ok (.invokevirtual 86, 3) := by decide +kernel
theorem dPe_readPerson_66 : decode mPe_readPerson.2.1 66 = .ok (.aload_n 0, 1) := by decide +kernel
theorem dPe_readPerson_67 : decode mPe_readPerson.2.1 67 = .ok (.aload_n 0, 1) := by decide +kernel
theorem dPe_readPerson_68 : decode mPe_readPerson.2.1 68 = .ok (.getfield 18, 3) := by decide +kernel
theorem dPe_readPerson_71 : decode mPe_readPerson.2.1 71 = .ok (.bipush 7, 2) := by decide +kernel
theorem dPe_readPerson_73 : decode mPe_readPerson.2.1 73 = .ok (.iconst 0, 1) := by decide +kernel
theorem dPe_readPerson_74 : decode mPe_readPerson.2.1 74 = .ok (.invokevirtual 86, 3) := by decide +kernel
theorem dPe_readPerson_77 : decode mPe_readPerson.2.1 77 = .ok (.aload_n 0, 1) := by decide +kernel
theorem dPe_readPerson_78 : decode mPe_readPerson.2.1 78 = .ok (.dup, 1) := by decide +kernel
theorem dPe_readPerson_79 : decode mPe_readPerson.2.1 79 = .ok (.getfield 18, 3) := by decide +kernel
theorem dPe_readPerson_82 : decode mPe_readPerson.2.1 82 = .ok (.iconst 1, 1) := by decide +kernel
theorem dPe_readPerson_83 : decode mPe_readPerson.2.1 83 = .ok (.iadd, 1) := by decide +kernel
theorem dPe_readPerson_84 : decode mPe_readPerson.2.1 84 = .ok (.putfield 18, 3) := by decide +kernel
theorem dPe_readPerson_87 : decode mPe_readPerson.2.1 87 = .ok (.iconst 1, 1) := by decide +kernel
theorem dPe_readPerson_88 : decode mPe_readPerson.2.1 88 = .ok (.ireturn, 1) := by decide +kernel
theorem bPe_readPerson_0 {l : Launch} {G : Gx} {d : Nat} {bc bs : Nat} {Φ : OutV → Mm → Prop} (M : Mm) (a0 : Nat) (a1 : Nat)
    (h : Ev l G d mPe_readPerson 2 [.ref a0, .ref a1, .int 0, .null] [] M bc bs Φ) :
    Ev l G d mPe_readPerson 0 [.ref a0, .ref a1, .null, .null] [] M bc bs Φ := by
  refine Ev.iconst (v := 0) dPe_readPerson_0 (by decide) ?_
  refine Ev.istore_n dPe_readPerson_1 (by decide) ?_
  show Ev l G d mPe_readPerson (_ + _) [.ref a0, .ref a1, .int 0, .null] [] M bc bs Φ
  exact h
theorem w903 : Cond.methodLink "BowingRow$People" 86 ⟨"BowingRow$People", "setFact", "(III)V"⟩ ∈ lwg := lwg_of 903 (by decide +kernel) (by decide +kernel)
theorem w895 : Cond.fieldLinkNest "BowingRow$People" 76 "BowingRow" "LEAST_FACT" "[I" "BowingRow" ∈ lwx := lwx_of 895 (by decide +kernel) (by decide +kernel)
theorem w897 : Cond.fieldLinkNest "BowingRow$People" 79 "BowingRow" "MOST_FACT" "[I" "BowingRow" ∈ lwx := lwx_of 897 (by decide +kernel) (by decide +kernel)
def mTo_takeNumber : MR := (⟨"BowingRow$Tokens", "takeNumber", "(II)I"⟩, prog_10_method_13_code, 5, (Option.some .int))
theorem oTo_takeNumber : MOK mTo_takeNumber 2 := ⟨lwg_of 902 (by decide +kernel) (by decide +kernel), lwg_of 92 (by decide +kernel) (by decide +kernel), ⟨by decide +kernel, by decide +kernel⟩, by decide +kernel, by decide⟩
theorem iTo_takeNumber : Cond.instanceMethod mTo_takeNumber.1 ∈ lwg := lwg_of 900 (by decide +kernel) (by decide +kernel)
theorem sTo_takeNumber : Cond.selects mTo_takeNumber.1.cls mTo_takeNumber.1 mTo_takeNumber.1 ∈ lwg := lwg_of 901 (by decide +kernel) (by decide +kernel)
theorem w899 : Cond.methodLink "BowingRow$People" 82 ⟨"BowingRow$Tokens", "takeNumber", "(II)I"⟩ ∈ lwg := lwg_of 899 (by decide +kernel) (by decide +kernel)
theorem bPe_readPerson_2 {l : Launch} {G : Gx} {d : Nat} {bc bs : Nat} {Φ : OutV → Mm → Prop} (M : Mm) (a0 : Nat) (a1 : Nat) (x2 : Int32) (u3 : Value)
    (h : (5 ≤ x2 → ((m_sh M a0).1 = 6) ∧ CallVC l G d mPe_readPerson 55 [.ref a0, .ref a1, .int x2, u3] [] mPe_setFact [.ref a0, .int (m_i M a0 2), .int 5, .int 0] M bc bs Φ) ∧ (¬ 5 ≤ x2 → (vp_in x2 5) ∧ ((m_sh M a1).1 = 8) ∧ CallVC l G d mPe_readPerson 21 [.ref a0, .ref a1, .int x2, u3] [] mTo_takeNumber [.ref a1, .int (cLo x2.toNatClampNeg), .int (cHi x2.toNatClampNeg)] M bc bs Φ)) :
    Ev l G d mPe_readPerson 2 [.ref a0, .ref a1, .int x2, u3] [] M bc bs Φ := by
  refine Ev.iload_n dPe_readPerson_2 rfl ?_
  refine Ev.iconst (v := 5) dPe_readPerson_3 (by decide) ?_
  refine Ev.icmp_ge 45 (by decide) dPe_readPerson_4 (fun c => ?_) (fun c => ?_)
  · replace h := h.1 c
    refine Ev.aload_n dPe_readPerson_45 rfl ?_
    refine Ev.aload_n dPe_readPerson_46 rfl ?_
    have g1 := h.1
    replace h := h.2
    refine Ev.getI dPe_readPerson_47 (Or.inl fPe_18) rfl g1 ?_
    refine Ev.iconst (v := 5) dPe_readPerson_50 (by decide) ?_
    refine Ev.iconst (v := 0) dPe_readPerson_51 (by decide) ?_
    exact Ev.vcV (z := mPe_setFact) (ci := 6) [.int (m_i M a0 2), .int 5, .int 0] [] rfl dPe_readPerson_52 oPe_setFact rfl w903 iPe_setFact sPe_setFact (by decide) rfl g1 (Nat.le_of_ble_eq_true rfl) h
  · replace h := h.2 c
    refine Ev.aload_n dPe_readPerson_7 rfl ?_
    refine Ev.gets (C := "BowingRow") (n := "LEAST_FACT") (ds := "[I") (v := .ref 25) dPe_readPerson_8 (by decide +kernel) (Or.inr ⟨_, w895⟩) ?_
    refine Ev.iload_n dPe_readPerson_11 rfl ?_
    have g2 := h.1
    replace h := h.2
    refine Ev.tleast dPe_readPerson_12 g2 ?_
    refine Ev.gets (C := "BowingRow") (n := "MOST_FACT") (ds := "[I") (v := .ref 26) dPe_readPerson_13 (by decide +kernel) (Or.inr ⟨_, w897⟩) ?_
    refine Ev.iload_n dPe_readPerson_16 rfl ?_
    refine Ev.tmost dPe_readPerson_17 g2 ?_
    have g3 := h.1
    replace h := h.2
    exact Ev.vcV (z := mTo_takeNumber) (ci := 8) [.int (cLo x2.toNatClampNeg), .int (cHi x2.toNatClampNeg)] [] rfl dPe_readPerson_18 oTo_takeNumber rfl w899 iTo_takeNumber sTo_takeNumber (by decide) rfl g3 (Nat.le_of_ble_eq_true rfl) h
theorem bPe_readPerson_21 {l : Launch} {G : Gx} {d : Nat} {bc bs : Nat} {Φ : OutV → Mm → Prop} (M : Mm) (a0 : Nat) (a1 : Nat) (x2 : Int32) (u3 : Value) (s0 : Int32)
    (h : (¬ s0 = ((-1)) → ((m_sh M a0).1 = 6) ∧ CallVC l G d mPe_readPerson 39 [.ref a0, .ref a1, .int x2, .int s0] [] mPe_setFact [.ref a0, .int (m_i M a0 2), .int x2, .int s0] M bc bs Φ) ∧ (s0 = ((-1)) → Φ (.inl (some (.int 0))) M)) :
    Ev l G d mPe_readPerson 21 [.ref a0, .ref a1, .int x2, u3] [.int s0] M bc bs Φ := by
  refine Ev.istore_n dPe_readPerson_21 (by decide) ?_
  show Ev l G d mPe_readPerson (_ + _) [.ref a0, .ref a1, .int x2, .int s0] [] M bc bs Φ
  refine Ev.iload_n dPe_readPerson_22 rfl ?_
  refine Ev.iconst (v := (-1)) dPe_readPerson_23 (by decide) ?_
  refine Ev.icmp_ne 29 (by decide) dPe_readPerson_24 (fun c => ?_) (fun c => ?_)
  · replace h := h.1 c
    refine Ev.aload_n dPe_readPerson_29 rfl ?_
    refine Ev.aload_n dPe_readPerson_30 rfl ?_
    have g1 := h.1
    replace h := h.2
    refine Ev.getI dPe_readPerson_31 (Or.inl fPe_18) rfl g1 ?_
    refine Ev.iload_n dPe_readPerson_34 rfl ?_
    refine Ev.iload_n dPe_readPerson_35 rfl ?_
    exact Ev.vcV (z := mPe_setFact) (ci := 6) [.int (m_i M a0 2), .int x2, .int s0] [] rfl dPe_readPerson_36 oPe_setFact rfl w903 iPe_setFact sPe_setFact (by decide) rfl g1 (Nat.le_of_ble_eq_true rfl) h
  · replace h := h.2 c
    refine Ev.iconst (v := 0) dPe_readPerson_27 (by decide) ?_
    exact Ev.iret dPe_readPerson_28 rfl rfl h
theorem bPe_readPerson_39 {l : Launch} {G : Gx} {d : Nat} {bc bs : Nat} {Φ : OutV → Mm → Prop} (M : Mm) (a0 : Nat) (a1 : Nat) (x2 : Int32) (x3 : Int32)
    (h : Ev l G d mPe_readPerson 2 [.ref a0, .ref a1, .int (x2 + 1), .int x3] [] M bc bs Φ) :
    Ev l G d mPe_readPerson 39 [.ref a0, .ref a1, .int x2, .int x3] [] M bc bs Φ := by
  refine Ev.iinc (v := x2 + 1) dPe_readPerson_39 (by decide) rfl rfl ?_
  show Ev l G d mPe_readPerson (_ + _) [.ref a0, .ref a1, .int (x2 + 1), .int x3] [] M bc bs Φ
  refine Ev.goto 2 dPe_readPerson_42 (by decide) ?_
  exact h
theorem bPe_readPerson_55 {l : Launch} {G : Gx} {d : Nat} {bc bs : Nat} {Φ : OutV → Mm → Prop} (M : Mm) (a0 : Nat) (a1 : Nat) (x2 : Int32) (u3 : Value)
    (h : ((m_sh M a0).1 = 6) ∧ CallVC l G d mPe_readPerson 66 [.ref a0, .ref a1, .int x2, u3] [] mPe_setFact [.ref a0, .int (m_i M a0 2), .int 6, .int 3] M bc bs Φ) :
    Ev l G d mPe_readPerson 55 [.ref a0, .ref a1, .int x2, u3] [] M bc bs Φ := by
  refine Ev.aload_n dPe_readPerson_55 rfl ?_
  refine Ev.aload_n dPe_readPerson_56 rfl ?_
  have g1 := h.1
  replace h := h.2
  refine Ev.getI dPe_readPerson_57 (Or.inl fPe_18) rfl g1 ?_
  refine Ev.bipush (v := 6) dPe_readPerson_60 (by decide) ?_
  refine Ev.iconst (v := 3) dPe_readPerson_62 (by decide) ?_
  exact Ev.vcV (z := mPe_setFact) (ci := 6) [.int (m_i M a0 2), .int 6, .int 3] [] rfl dPe_readPerson_63 oPe_setFact rfl w903 iPe_setFact sPe_setFact (by decide) rfl g1 (Nat.le_of_ble_eq_true rfl) h
theorem bPe_readPerson_66 {l : Launch} {G : Gx} {d : Nat} {bc bs : Nat} {Φ : OutV → Mm → Prop} (M : Mm) (a0 : Nat) (a1 : Nat) (x2 : Int32) (u3 : Value)
    (h : ((m_sh M a0).1 = 6) ∧ CallVC l G d mPe_readPerson 77 [.ref a0, .ref a1, .int x2, u3] [] mPe_setFact [.ref a0, .int (m_i M a0 2), .int 7, .int 0] M bc bs Φ) :
    Ev l G d mPe_readPerson 66 [.ref a0, .ref a1, .int x2, u3] [] M bc bs Φ := by
  refine Ev.aload_n dPe_readPerson_66 rfl ?_
  refine Ev.aload_n dPe_readPerson_67 rfl ?_
  have g1 := h.1
  replace h := h.2
  refine Ev.getI dPe_readPerson_68 (Or.inl fPe_18) rfl g1 ?_
  refine Ev.bipush (v := 7) dPe_readPerson_71 (by decide) ?_
  refine Ev.iconst (v := 0) dPe_readPerson_73 (by decide) ?_
  exact Ev.vcV (z := mPe_setFact) (ci := 6) [.int (m_i M a0 2), .int 7, .int 0] [] rfl dPe_readPerson_74 oPe_setFact rfl w903 iPe_setFact sPe_setFact (by decide) rfl g1 (Nat.le_of_ble_eq_true rfl) h
theorem bPe_readPerson_77 {l : Launch} {G : Gx} {d : Nat} {bc bs : Nat} {Φ : OutV → Mm → Prop} (M : Mm) (a0 : Nat) (a1 : Nat) (x2 : Int32) (u3 : Value)
    (h : ((m_sh M a0).1 = 6) ∧ Φ (.inl (some (.int 1))) (m_si M a0 2 ((m_i M a0 2) + 1))) :
    Ev l G d mPe_readPerson 77 [.ref a0, .ref a1, .int x2, u3] [] M bc bs Φ := by
  refine Ev.aload_n dPe_readPerson_77 rfl ?_
  refine Ev.dup dPe_readPerson_78 rfl ?_
  have g1 := h.1
  replace h := h.2
  refine Ev.getI dPe_readPerson_79 (Or.inl fPe_18) rfl g1 ?_
  refine Ev.iconst (v := 1) dPe_readPerson_82 (by decide) ?_
  refine Ev.iadd dPe_readPerson_83 ?_
  refine Ev.putI dPe_readPerson_84 ⟨_, Or.inl ⟨fPe_18, (fun h => by cases h)⟩⟩ rfl ⟨rfl, rfl⟩ g1 ?_
  refine Ev.iconst (v := 1) dPe_readPerson_87 (by decide) ?_
  exact Ev.iret dPe_readPerson_88 rfl rfl h
theorem dPe_readKnows_0 : decode mPe_readKnows.2.1 0 = .ok (.aload_n 1, 1) := by decide +kernel
theorem dPe_readKnows_1 : decode mPe_readKnows.2.1 1 = .ok (.iconst 0, 1) := by decide +kernel
theorem dPe_readKnows_2 : decode mPe_readKnows.2.1 2 = .ok (.aload_n 0, 1) := by decide +kernel
theorem dPe_readKnows_3 : decode mPe_readKnows.2.1 3 = .ok (.getfield 18, 3) := by decide +kernel
theorem dPe_readKnows_6 : decode mPe_readKnows.2.1 6 = .ok (.iconst 1, 1) := by decide +kernel
theorem dPe_readKnows_7 : decode mPe_readKnows.2.1 7 = .ok (.isub, 1) := by decide +kernel
theorem dPe_readKnows_8 : decode mPe_readKnows.2.1 8 = .ok (.invokevirtual 82, 3) := by decide +kernel
theorem dPe_readKnows_11 : decode mPe_readKnows.2.1 11 = .ok (.istore_n 2, 1) := by decide +kernel
theorem dPe_readKnows_12 : decode mPe_readKnows.2.1 12 = .ok (.iload_n 2, 1) := by decide +kernel
theorem dPe_readKnows_13 : decode mPe_readKnows.2.1 13 = .ok (.iconst (-1), 1) := by decide +kernel
theorem dPe_readKnows_14 : decode mPe_readKnows.2.1 14 = .ok (.if_icmp .ne 5, 3) := by decide +kernel
theorem dPe_readKnows_17 : decode mPe_readKnows.2.1 17 = .ok (.iconst 0, 1) := by decide +kernel
theorem dPe_readKnows_18 : decode mPe_readKnows.2.1 18 = .ok (.ireturn, 1) := by decide +kernel
theorem dPe_readKnows_19 : decode mPe_readKnows.2.1 19 = .ok (.aload_n 1, 1) := by decide +kernel
theorem dPe_readKnows_20 : decode mPe_readKnows.2.1 20 = .ok (.iload_n 2, 1) := by decide +kernel
theorem dPe_readKnows_21 : decode mPe_readKnows.2.1 21 = .ok (.invokevirtual 90, 3) := by decide +kernel
theorem dPe_readKnows_24 : decode mPe_readKnows.2.1 24 = .ok (.ifCond .eq 9, 3) := by decide +kernel
theorem dPe_readKnows_27 : decode mPe_readKnows.2.1 27 = .ok (.aload_n 1, 1) := by decide +kernel
theorem dPe_readKnows_28 : decode mPe_readKnows.2.1 28 = .ok (.iconst 2, 1) := by decide +kernel
theorem dPe_readKnows_29 : decode mPe_readKnows.2.1 29 = .ok (.invokevirtual 54, 3) := by decide +kernel
theorem dPe_readKnows_32 : decode mPe_readKnows.2.1 32 = .ok (.ireturn, 1) := by decide +kernel
theorem dPe_readKnows_33 : decode mPe_readKnows.2.1 33 = .ok (.aload_n 1, 1) := by decide +kernel
theorem dPe_readKnows_34 : decode mPe_readKnows.2.1 34 = .ok (.iconst 0, 1) := by decide +kernel
theorem dPe_readKnows_35 : decode mPe_readKnows.2.1 35 = .ok (.aload_n 0, 1) := by decide +kernel
theorem dPe_readKnows_36 : decode mPe_readKnows.2.1 36 = .ok (.getfield 18, 3) := by decide +kernel
theorem dPe_readKnows_39 : decode mPe_readKnows.2.1 39 = .ok (.iconst 1, 1) := by decide +kernel
theorem dPe_readKnows_40 : decode mPe_readKnows.2.1 40 = .ok (.isub, 1) := by decide +kernel
theorem dPe_readKnows_41 : decode mPe_readKnows.2.1 41 = .ok (.invokevirtual 82, 3) := by decide +kernel
theorem dPe_readKnows_44 : decode mPe_readKnows.2.1 44 = .ok (.istore_n 3, 1) := by decide +kernel
theorem dPe_readKnows_45 : decode mPe_readKnows.2.1 45 = .ok (.iload_n 3, 1) := by decide +kernel
theorem dPe_readKnows_46 : decode mPe_readKnows.2.1 46 = .ok (.iconst (-1), 1) := by decide +kernel
theorem dPe_readKnows_47 : decode mPe_readKnows.2.1 47 = .ok (.if_icmp .ne 5, 3) := by decide +kernel
theorem dPe_readKnows_50 : decode mPe_readKnows.2.1 50 = .ok (.iconst 0, 1) := by decide +kernel
theorem dPe_readKnows_51 : decode mPe_readKnows.2.1 51 = .ok (.ireturn, 1) := by decide +kernel
theorem dPe_readKnows_52 : decode mPe_readKnows.2.1 52 = .ok (.aload_n 0, 1) := by decide +kernel
theorem dPe_readKnows_53 : decode mPe_readKnows.2.1 53 = .ok (.iload_n 2, 1) := by decide +kernel
theorem dPe_readKnows_54 : decode mPe_readKnows.2.1 54 = .ok (.bipush 7, 2) := by decide +kernel
theorem dPe_readKnows_56 : decode mPe_readKnows.2.1 56 = .ok (.aload_n 0, 1) := by decide +kernel
theorem dPe_readKnows_57 : decode mPe_readKnows.2.1 57 = .ok (.iload_n 2, 1) := by decide +kernel
theorem dPe_readKnows_58 : decode mPe_readKnows.2.1 58 = .ok (.bipush 7, 2) := by decide +kernel
theorem dPe_readKnows_60 : decode mPe_readKnows.2.1 60 = .ok (.invokevirtual 93, 3) := by decide +kernel
theorem dPe_readKnows_63 : decode mPe_readKnows.2.1 63 = .ok (.iconst 1, 1) := by decide +kernel
theorem dPe_readKnows_64 : decode mPe_readKnows.2.1 64 = .ok (.iload_n 3, 1) := by decide +kernel
theorem dPe_readKnows_65 : decode mPe_readKnows.2.1 65 = .ok (.ishl, 1) := by decide +kernel
theorem dPe_readKnows_66 : decode mPe_readKnows.2.1 66 = .ok (.ior, 1) := by decide +kernel
theorem dPe_readKnows_67 : decode mPe_readKnows.2.1 67 = .ok (.invokevirtual 86, 3) := by decide +kernel
theorem dPe_readKnows_70 : decode mPe_readKnows.2.1 70 = .ok (.aload_n 0, 1) := by decide +kernel
theorem dPe_readKnows_71 : decode mPe_readKnows.2.1 71 = .ok (.iload_n 3, 1) := by decide +kernel
theorem dPe_readKnows_72 : decode mPe_readKnows.2.1 72 = .ok (.bipush 7, 2) := by decide +kernel
theorem dPe_readKnows_74 : decode mPe_readKnows.2.1 74 = .ok (.aload_n 0, 1) := by decide +kernel
theorem dPe_readKnows_75 : decode mPe_readKnows.2.1 75 = .ok (.iload_n 3, 1) := by decide +kernel
theorem dPe_readKnows_76 : decode mPe_readKnows.2.1 76 = .ok (.bipush 7, 2) := by decide +kernel
theorem dPe_readKnows_78 : decode mPe_readKnows.2.1 78 = .ok (.invokevirtual 93, 3) := by decide +kernel
theorem dPe_readKnows_81 : decode mPe_readKnows.2.1 81 = .ok (.iconst 1, 1) := by decide +kernel
theorem dPe_readKnows_82 : decode mPe_readKnows.2.1 82 = .ok (.iload_n 2, 1) := by decide +kernel
theorem dPe_readKnows_83 : decode mPe_readKnows.2.1 83 = .ok (.ishl, 1) := by decide +kernel
theorem dPe_readKnows_84 : decode mPe_readKnows.2.1 84 = .ok (.ior, 1) := by decide +kernel
theorem dPe_readKnows_85 : decode mPe_readKnows.2.1 85 = .ok (.invokevirtual 86, 3) := by decide +kernel
theorem dPe_readKnows_88 : decode mPe_readKnows.2.1 88 = .ok (.iconst 1, 1) := by decide +kernel
theorem dPe_readKnows_89 : decode mPe_readKnows.2.1 89 = .ok (.ireturn, 1) := by decide +kernel
theorem bPe_readKnows_0 {l : Launch} {G : Gx} {d : Nat} {bc bs : Nat} {Φ : OutV → Mm → Prop} (M : Mm) (a0 : Nat) (a1 : Nat)
    (h : ((m_sh M a0).1 = 6) ∧ ((m_sh M a1).1 = 8) ∧ CallVC l G d mPe_readKnows 11 [.ref a0, .ref a1, .null, .null] [] mTo_takeNumber [.ref a1, .int 0, .int ((m_i M a0 2) - 1)] M bc bs Φ) :
    Ev l G d mPe_readKnows 0 [.ref a0, .ref a1, .null, .null] [] M bc bs Φ := by
  refine Ev.aload_n dPe_readKnows_0 rfl ?_
  refine Ev.iconst (v := 0) dPe_readKnows_1 (by decide) ?_
  refine Ev.aload_n dPe_readKnows_2 rfl ?_
  have g1 := h.1
  replace h := h.2
  refine Ev.getI dPe_readKnows_3 (Or.inl fPe_18) rfl g1 ?_
  refine Ev.iconst (v := 1) dPe_readKnows_6 (by decide) ?_
  refine Ev.isub dPe_readKnows_7 ?_
  have g2 := h.1
  replace h := h.2
  exact Ev.vcV (z := mTo_takeNumber) (ci := 8) [.int 0, .int ((m_i M a0 2) - 1)] [] rfl dPe_readKnows_8 oTo_takeNumber rfl w899 iTo_takeNumber sTo_takeNumber (by decide) rfl g2 (Nat.le_of_ble_eq_true rfl) h
def mTo_isNumber : MR := (⟨"BowingRow$Tokens", "isNumber", "(I)Z"⟩, prog_10_method_10_code, 2, (Option.some .boolean))
theorem oTo_isNumber : MOK mTo_isNumber 1 := ⟨lwg_of 911 (by decide +kernel) (by decide +kernel), lwg_of 92 (by decide +kernel) (by decide +kernel), ⟨by decide +kernel, by decide +kernel⟩, by decide +kernel, by decide⟩
theorem iTo_isNumber : Cond.instanceMethod mTo_isNumber.1 ∈ lwg := lwg_of 909 (by decide +kernel) (by decide +kernel)
theorem sTo_isNumber : Cond.selects mTo_isNumber.1.cls mTo_isNumber.1 mTo_isNumber.1 ∈ lwg := lwg_of 910 (by decide +kernel) (by decide +kernel)
theorem w908 : Cond.methodLink "BowingRow$People" 90 ⟨"BowingRow$Tokens", "isNumber", "(I)Z"⟩ ∈ lwg := lwg_of 908 (by decide +kernel) (by decide +kernel)
theorem bPe_readKnows_11 {l : Launch} {G : Gx} {d : Nat} {bc bs : Nat} {Φ : OutV → Mm → Prop} (M : Mm) (a0 : Nat) (a1 : Nat) (u2 : Value) (u3 : Value) (s0 : Int32)
    (h : (¬ s0 = ((-1)) → ((m_sh M a1).1 = 8) ∧ CallVC l G d mPe_readKnows 24 [.ref a0, .ref a1, .int s0, u3] [] mTo_isNumber [.ref a1, .int s0] M bc bs Φ) ∧ (s0 = ((-1)) → Φ (.inl (some (.int 0))) M)) :
    Ev l G d mPe_readKnows 11 [.ref a0, .ref a1, u2, u3] [.int s0] M bc bs Φ := by
  refine Ev.istore_n dPe_readKnows_11 (by decide) ?_
  show Ev l G d mPe_readKnows (_ + _) [.ref a0, .ref a1, .int s0, u3] [] M bc bs Φ
  refine Ev.iload_n dPe_readKnows_12 rfl ?_
  refine Ev.iconst (v := (-1)) dPe_readKnows_13 (by decide) ?_
  refine Ev.icmp_ne 19 (by decide) dPe_readKnows_14 (fun c => ?_) (fun c => ?_)
  · replace h := h.1 c
    refine Ev.aload_n dPe_readKnows_19 rfl ?_
    refine Ev.iload_n dPe_readKnows_20 rfl ?_
    have g1 := h.1
    replace h := h.2
    exact Ev.vcV (z := mTo_isNumber) (ci := 8) [.int s0] [] rfl dPe_readKnows_21 oTo_isNumber rfl w908 iTo_isNumber sTo_isNumber (by decide) rfl g1 (Nat.le_of_ble_eq_true rfl) h
  · replace h := h.2 c
    refine Ev.iconst (v := 0) dPe_readKnows_17 (by decide) ?_
    exact Ev.iret dPe_readKnows_18 rfl rfl h
theorem bPe_readKnows_24 {l : Launch} {G : Gx} {d : Nat} {bc bs : Nat} {Φ : OutV → Mm → Prop} (M : Mm) (a0 : Nat) (a1 : Nat) (x2 : Int32) (u3 : Value) (s0 : Int32)
    (h : (s0 = 0 → ((m_sh M a0).1 = 6) ∧ ((m_sh M a1).1 = 8) ∧ CallVC l G d mPe_readKnows 44 [.ref a0, .ref a1, .int x2, u3] [] mTo_takeNumber [.ref a1, .int 0, .int ((m_i M a0 2) - 1)] M bc bs Φ) ∧ (¬ s0 = 0 → ((m_sh M a1).1 = 8) ∧ CallVC l G d mPe_readKnows 32 [.ref a0, .ref a1, .int x2, u3] [] mTo_fail [.ref a1, .int 2] M bc bs Φ)) :
    Ev l G d mPe_readKnows 24 [.ref a0, .ref a1, .int x2, u3] [.int s0] M bc bs Φ := by
  refine Ev.if_eq 33 (by decide) dPe_readKnows_24 (fun c => ?_) (fun c => ?_)
  · replace h := h.1 c
    refine Ev.aload_n dPe_readKnows_33 rfl ?_
    refine Ev.iconst (v := 0) dPe_readKnows_34 (by decide) ?_
    refine Ev.aload_n dPe_readKnows_35 rfl ?_
    have g1 := h.1
    replace h := h.2
    refine Ev.getI dPe_readKnows_36 (Or.inl fPe_18) rfl g1 ?_
    refine Ev.iconst (v := 1) dPe_readKnows_39 (by decide) ?_
    refine Ev.isub dPe_readKnows_40 ?_
    have g2 := h.1
    replace h := h.2
    exact Ev.vcV (z := mTo_takeNumber) (ci := 8) [.int 0, .int ((m_i M a0 2) - 1)] [] rfl dPe_readKnows_41 oTo_takeNumber rfl w899 iTo_takeNumber sTo_takeNumber (by decide) rfl g2 (Nat.le_of_ble_eq_true rfl) h
  · replace h := h.2 c
    refine Ev.aload_n dPe_readKnows_27 rfl ?_
    refine Ev.iconst (v := 2) dPe_readKnows_28 (by decide) ?_
    have g3 := h.1
    replace h := h.2
    exact Ev.vcV (z := mTo_fail) (ci := 8) [.int 2] [] rfl dPe_readKnows_29 oTo_fail rfl w883 iTo_fail sTo_fail (by decide) rfl g3 (Nat.le_of_ble_eq_true rfl) h
theorem bPe_readKnows_32 {l : Launch} {G : Gx} {d : Nat} {bc bs : Nat} {Φ : OutV → Mm → Prop} (M : Mm) (a0 : Nat) (a1 : Nat) (x2 : Int32) (u3 : Value) (s0 : Int32)
    (h : (narrow .boolean (.int s0) = .int s0) ∧ Φ (.inl (some (.int s0))) M) :
    Ev l G d mPe_readKnows 32 [.ref a0, .ref a1, .int x2, u3] [.int s0] M bc bs Φ := by
  have g1 := h.1
  replace h := h.2
  exact Ev.iret dPe_readKnows_32 rfl g1 h
theorem bPe_readKnows_44 {l : Launch} {G : Gx} {d : Nat} {bc bs : Nat} {Φ : OutV → Mm → Prop} (M : Mm) (a0 : Nat) (a1 : Nat) (x2 : Int32) (u3 : Value) (s0 : Int32)
    (h : (¬ s0 = ((-1)) → ((m_sh M a0).1 = 6) ∧ CallVC l G d mPe_readKnows 63 [.ref a0, .ref a1, .int x2, .int s0] [.int 7, .int x2, .ref a0] mPe_fact [.ref a0, .int x2, .int 7] M bc bs Φ) ∧ (s0 = ((-1)) → Φ (.inl (some (.int 0))) M)) :
    Ev l G d mPe_readKnows 44 [.ref a0, .ref a1, .int x2, u3] [.int s0] M bc bs Φ := by
  refine Ev.istore_n dPe_readKnows_44 (by decide) ?_
  show Ev l G d mPe_readKnows (_ + _) [.ref a0, .ref a1, .int x2, .int s0] [] M bc bs Φ
  refine Ev.iload_n dPe_readKnows_45 rfl ?_
  refine Ev.iconst (v := (-1)) dPe_readKnows_46 (by decide) ?_
  refine Ev.icmp_ne 52 (by decide) dPe_readKnows_47 (fun c => ?_) (fun c => ?_)
  · replace h := h.1 c
    refine Ev.aload_n dPe_readKnows_52 rfl ?_
    refine Ev.iload_n dPe_readKnows_53 rfl ?_
    refine Ev.bipush (v := 7) dPe_readKnows_54 (by decide) ?_
    refine Ev.aload_n dPe_readKnows_56 rfl ?_
    refine Ev.iload_n dPe_readKnows_57 rfl ?_
    refine Ev.bipush (v := 7) dPe_readKnows_58 (by decide) ?_
    have g1 := h.1
    replace h := h.2
    exact Ev.vcV (z := mPe_fact) (ci := 6) [.int x2, .int 7] [.int 7, .int x2, .ref a0] rfl dPe_readKnows_60 oPe_fact rfl w587 iPe_fact sPe_fact (by decide) rfl g1 (Nat.le_of_ble_eq_true rfl) h
  · replace h := h.2 c
    refine Ev.iconst (v := 0) dPe_readKnows_50 (by decide) ?_
    exact Ev.iret dPe_readKnows_51 rfl rfl h
theorem bPe_readKnows_63 {l : Launch} {G : Gx} {d : Nat} {bc bs : Nat} {Φ : OutV → Mm → Prop} (M : Mm) (a0 : Nat) (a1 : Nat) (x2 : Int32) (x3 : Int32) (r0 : Nat) (s1 : Int32) (s2 : Int32) (s3 : Int32)
    (h : ((m_sh M r0).1 = 6) ∧ CallVC l G d mPe_readKnows 70 [.ref a0, .ref a1, .int x2, .int x3] [] mPe_setFact [.ref r0, .int s1, .int s2, .int (s3 ||| (1 <<< (x3 &&& 31)))] M bc bs Φ) :
    Ev l G d mPe_readKnows 63 [.ref a0, .ref a1, .int x2, .int x3] [.int s3, .int s2, .int s1, .ref r0] M bc bs Φ := by
  refine Ev.iconst (v := 1) dPe_readKnows_63 (by decide) ?_
  refine Ev.iload_n dPe_readKnows_64 rfl ?_
  refine Ev.ishl dPe_readKnows_65 ?_
  refine Ev.ior dPe_readKnows_66 ?_
  have g1 := h.1
  replace h := h.2
  exact Ev.vcV (z := mPe_setFact) (ci := 6) [.int s1, .int s2, .int (s3 ||| (1 <<< (x3 &&& 31)))] [] rfl dPe_readKnows_67 oPe_setFact rfl w903 iPe_setFact sPe_setFact (by decide) rfl g1 (Nat.le_of_ble_eq_true rfl) h
theorem bPe_readKnows_70 {l : Launch} {G : Gx} {d : Nat} {bc bs : Nat} {Φ : OutV → Mm → Prop} (M : Mm) (a0 : Nat) (a1 : Nat) (x2 : Int32) (x3 : Int32)
    (h : ((m_sh M a0).1 = 6) ∧ CallVC l G d mPe_readKnows 81 [.ref a0, .ref a1, .int x2, .int x3] [.int 7, .int x3, .ref a0] mPe_fact [.ref a0, .int x3, .int 7] M bc bs Φ) :
    Ev l G d mPe_readKnows 70 [.ref a0, .ref a1, .int x2, .int x3] [] M bc bs Φ := by
  refine Ev.aload_n dPe_readKnows_70 rfl ?_
  refine Ev.iload_n dPe_readKnows_71 rfl ?_
  refine Ev.bipush (v := 7) dPe_readKnows_72 (by decide) ?_
  refine Ev.aload_n dPe_readKnows_74 rfl ?_
  refine Ev.iload_n dPe_readKnows_75 rfl ?_
  refine Ev.bipush (v := 7) dPe_readKnows_76 (by decide) ?_
  have g1 := h.1
  replace h := h.2
  exact Ev.vcV (z := mPe_fact) (ci := 6) [.int x3, .int 7] [.int 7, .int x3, .ref a0] rfl dPe_readKnows_78 oPe_fact rfl w587 iPe_fact sPe_fact (by decide) rfl g1 (Nat.le_of_ble_eq_true rfl) h
theorem bPe_readKnows_81 {l : Launch} {G : Gx} {d : Nat} {bc bs : Nat} {Φ : OutV → Mm → Prop} (M : Mm) (a0 : Nat) (a1 : Nat) (x2 : Int32) (x3 : Int32) (r0 : Nat) (s1 : Int32) (s2 : Int32) (s3 : Int32)
    (h : ((m_sh M r0).1 = 6) ∧ CallVC l G d mPe_readKnows 88 [.ref a0, .ref a1, .int x2, .int x3] [] mPe_setFact [.ref r0, .int s1, .int s2, .int (s3 ||| (1 <<< (x2 &&& 31)))] M bc bs Φ) :
    Ev l G d mPe_readKnows 81 [.ref a0, .ref a1, .int x2, .int x3] [.int s3, .int s2, .int s1, .ref r0] M bc bs Φ := by
  refine Ev.iconst (v := 1) dPe_readKnows_81 (by decide) ?_
  refine Ev.iload_n dPe_readKnows_82 rfl ?_
  refine Ev.ishl dPe_readKnows_83 ?_
  refine Ev.ior dPe_readKnows_84 ?_
  have g1 := h.1
  replace h := h.2
  exact Ev.vcV (z := mPe_setFact) (ci := 6) [.int s1, .int s2, .int (s3 ||| (1 <<< (x2 &&& 31)))] [] rfl dPe_readKnows_85 oPe_setFact rfl w903 iPe_setFact sPe_setFact (by decide) rfl g1 (Nat.le_of_ble_eq_true rfl) h
theorem bPe_readKnows_88 {l : Launch} {G : Gx} {d : Nat} {bc bs : Nat} {Φ : OutV → Mm → Prop} (M : Mm) (a0 : Nat) (a1 : Nat) (x2 : Int32) (x3 : Int32)
    (h : Φ (.inl (some (.int 1))) M) :
    Ev l G d mPe_readKnows 88 [.ref a0, .ref a1, .int x2, .int x3] [] M bc bs Φ := by
  refine Ev.iconst (v := 1) dPe_readKnows_88 (by decide) ?_
  exact Ev.iret dPe_readKnows_89 rfl rfl h
theorem dPe_readHabit_0 : decode mPe_readHabit.2.1 0 = .ok (.aload_n 1, 1) := by decide +kernel
theorem dPe_readHabit_1 : decode mPe_readHabit.2.1 1 = .ok (.iconst 0, 1) := by decide +kernel
theorem dPe_readHabit_2 : decode mPe_readHabit.2.1 2 = .ok (.aload_n 0, 1) := by decide +kernel
theorem dPe_readHabit_3 : decode mPe_readHabit.2.1 3 = .ok (.getfield 18, 3) := by decide +kernel
theorem dPe_readHabit_6 : decode mPe_readHabit.2.1 6 = .ok (.iconst 1, 1) := by decide +kernel
theorem dPe_readHabit_7 : decode mPe_readHabit.2.1 7 = .ok (.isub, 1) := by decide +kernel
theorem dPe_readHabit_8 : decode mPe_readHabit.2.1 8 = .ok (.invokevirtual 82, 3) := by decide +kernel
theorem dPe_readHabit_11 : decode mPe_readHabit.2.1 11 = .ok (.istore_n 3, 1) := by decide +kernel
theorem dPe_readHabit_12 : decode mPe_readHabit.2.1 12 = .ok (.iload_n 3, 1) := by decide +kernel
theorem dPe_readHabit_13 : decode mPe_readHabit.2.1 13 = .ok (.iconst (-1), 1) := by decide +kernel
theorem dPe_readHabit_14 : decode mPe_readHabit.2.1 14 = .ok (.if_icmp .ne 5, 3) := by decide +kernel
theorem dPe_readHabit_17 : decode mPe_readHabit.2.1 17 = .ok (.iconst 0, 1) := by decide +kernel
theorem dPe_readHabit_18 : decode mPe_readHabit.2.1 18 = .ok (.ireturn, 1) := by decide +kernel
theorem dPe_readHabit_19 : decode mPe_readHabit.2.1 19 = .ok (.aload_n 1, 1) := by decide +kernel
theorem dPe_readHabit_20 : decode mPe_readHabit.2.1 20 = .ok (.aload_n 2, 1) := by decide +kernel
theorem dPe_readHabit_21 : decode mPe_readHabit.2.1 21 = .ok (.getfield 96, 3) := by decide +kernel
theorem dPe_readHabit_24 : decode mPe_readHabit.2.1 24 = .ok (.aload_n 2, 1) := by decide +kernel
theorem dPe_readHabit_25 : decode mPe_readHabit.2.1 25 = .ok (.getfield 99, 3) := by decide +kernel
theorem dPe_readHabit_28 : decode mPe_readHabit.2.1 28 = .ok (.invokevirtual 82, 3) := by decide +kernel
theorem dPe_readHabit_31 : decode mPe_readHabit.2.1 31 = .ok (.istore 4, 2) := by decide +kernel
theorem dPe_readHabit_33 : decode mPe_readHabit.2.1 33 = .ok (.iload 4, 2) := by decide +kernel
theorem dPe_readHabit_35 : decode mPe_readHabit.2.1 35 = .ok (.iconst (-1), 1) := by decide +kernel
theorem dPe_readHabit_36 : decode mPe_readHabit.2.1 36 = .ok (.if_icmp .ne 5, 3) := by decide +kernel
theorem dPe_readHabit_39 : decode mPe_readHabit.2.1 39 = .ok (.iconst 0, 1) := by decide +kernel
theorem dPe_readHabit_40 : decode mPe_readHabit.2.1 40 = .ok (.ireturn, 1) := by decide +kernel
theorem dPe_readHabit_41 : decode mPe_readHabit.2.1 41 = .ok (.aload_n 0, 1) := by decide +kernel
theorem dPe_readHabit_42 : decode mPe_readHabit.2.1 42 = .ok (.iload_n 3, 1) := by decide +kernel
theorem dPe_readHabit_43 : decode mPe_readHabit.2.1 43 = .ok (.aload_n 2, 1) := by decide +kernel
theorem dPe_readHabit_44 : decode mPe_readHabit.2.1 44 = .ok (.getstatic 48, 3) := by decide +kernel
theorem dPe_readHabit_47 : decode mPe_readHabit.2.1 47 = .ok (.if_acmp .ne 7, 3) := by decide +kernel
theorem dPe_readHabit_50 : decode mPe_readHabit.2.1 50 = .ok (.iconst 5, 1) := by decide +kernel
theorem dPe_readHabit_51 : decode mPe_readHabit.2.1 51 = .ok (.goto 5, 3) := by decide +kernel
theorem dPe_readHabit_54 : decode mPe_readHabit.2.1 54 = .ok (.bipush 6, 2) := by decide +kernel
theorem dPe_readHabit_56 : decode mPe_readHabit.2.1 56 = .ok (.iload 4, 2) := by decide +kernel
theorem dPe_readHabit_58 : decode mPe_readHabit.2.1 58 = .ok (.invokevirtual 86, 3) := by decide +kernel
theorem dPe_readHabit_61 : decode mPe_readHabit.2.1 61 = .ok (.iconst 1, 1) := by decide +kernel
theorem dPe_readHabit_62 : decode mPe_readHabit.2.1 62 = .ok (.ireturn, 1) := by decide +kernel
theorem bPe_readHabit_0 {l : Launch} {G : Gx} {d : Nat} {bc bs : Nat} {Φ : OutV → Mm → Prop} (M : Mm) (a0 : Nat) (a1 : Nat) (a2 : Nat)
    (h : ((m_sh M a0).1 = 6) ∧ ((m_sh M a1).1 = 8) ∧ CallVC l G d mPe_readHabit 11 [.ref a0, .ref a1, .ref a2, .null, .null] [] mTo_takeNumber [.ref a1, .int 0, .int ((m_i M a0 2) - 1)] M bc bs Φ) :
    Ev l G d mPe_readHabit 0 [.ref a0, .ref a1, .ref a2, .null, .null] [] M bc bs Φ := by
  refine Ev.aload_n dPe_readHabit_0 rfl ?_
  refine Ev.iconst (v := 0) dPe_readHabit_1 (by decide) ?_
  refine Ev.aload_n dPe_readHabit_2 rfl ?_
  have g1 := h.1
  replace h := h.2
  refine Ev.getI dPe_readHabit_3 (Or.inl fPe_18) rfl g1 ?_
  refine Ev.iconst (v := 1) dPe_readHabit_6 (by decide) ?_
  refine Ev.isub dPe_readHabit_7 ?_
  have g2 := h.1
  replace h := h.2
  exact Ev.vcV (z := mTo_takeNumber) (ci := 8) [.int 0, .int ((m_i M a0 2) - 1)] [] rfl dPe_readHabit_8 oTo_takeNumber rfl w899 iTo_takeNumber sTo_takeNumber (by decide) rfl g2 (Nat.le_of_ble_eq_true rfl) h
theorem w1851 : Cond.fieldLink "BowingRow$People" 96 "BowingRow$Word" "least" "I" ∈ lwg := lwg_of 1851 (by decide +kernel) (by decide +kernel)
theorem w1852 : Cond.fieldLink "BowingRow$People" 99 "BowingRow$Word" "most" "I" ∈ lwg := lwg_of 1852 (by decide +kernel) (by decide +kernel)
theorem bPe_readHabit_11 {l : Launch} {G : Gx} {d : Nat} {bc bs : Nat} {Φ : OutV → Mm → Prop} (M : Mm) (a0 : Nat) (a1 : Nat) (a2 : Nat) (u3 : Value) (u4 : Value) (s0 : Int32)
    (h : (¬ s0 = ((-1)) → (1 ≤ a2 ∧ a2 ≤ 23) ∧ ((m_sh M a1).1 = 8) ∧ CallVC l G d mPe_readHabit 31 [.ref a0, .ref a1, .ref a2, .int s0, u4] [] mTo_takeNumber [.ref a1, .int (wLo a2), .int (wHi a2)] M bc bs Φ) ∧ (s0 = ((-1)) → Φ (.inl (some (.int 0))) M)) :
    Ev l G d mPe_readHabit 11 [.ref a0, .ref a1, .ref a2, u3, u4] [.int s0] M bc bs Φ := by
  refine Ev.istore_n dPe_readHabit_11 (by decide) ?_
  show Ev l G d mPe_readHabit (_ + _) [.ref a0, .ref a1, .ref a2, .int s0, u4] [] M bc bs Φ
  refine Ev.iload_n dPe_readHabit_12 rfl ?_
  refine Ev.iconst (v := (-1)) dPe_readHabit_13 (by decide) ?_
  refine Ev.icmp_ne 19 (by decide) dPe_readHabit_14 (fun c => ?_) (fun c => ?_)
  · replace h := h.1 c
    refine Ev.aload_n dPe_readHabit_19 rfl ?_
    refine Ev.aload_n dPe_readHabit_20 rfl ?_
    have g1 := h.1
    replace h := h.2
    refine Ev.getF dPe_readHabit_21 (wLo_ok _ g1) w1851 ?_
    refine Ev.aload_n dPe_readHabit_24 rfl ?_
    refine Ev.getF dPe_readHabit_25 (wHi_ok _ g1) w1852 ?_
    have g2 := h.1
    replace h := h.2
    exact Ev.vcV (z := mTo_takeNumber) (ci := 8) [.int (wLo a2), .int (wHi a2)] [] rfl dPe_readHabit_28 oTo_takeNumber rfl w899 iTo_takeNumber sTo_takeNumber (by decide) rfl g2 (Nat.le_of_ble_eq_true rfl) h
  · replace h := h.2 c
    refine Ev.iconst (v := 0) dPe_readHabit_17 (by decide) ?_
    exact Ev.iret dPe_readHabit_18 rfl rfl h
theorem bPe_readHabit_31 {l : Launch} {G : Gx} {d : Nat} {bc bs : Nat} {Φ : OutV → Mm → Prop} (M : Mm) (a0 : Nat) (a1 : Nat) (a2 : Nat) (x3 : Int32) (u4 : Value) (s0 : Int32)
    (h : (¬ s0 = ((-1)) → (1 ≤ a2 ∧ a2 ≤ 23) ∧ (¬ a2 = 4 → ((m_sh M a0).1 = 6) ∧ CallVC l G d mPe_readHabit 61 [.ref a0, .ref a1, .ref a2, .int x3, .int s0] [] mPe_setFact [.ref a0, .int x3, .int 6, .int s0] M bc bs Φ) ∧ (a2 = 4 → ((m_sh M a0).1 = 6) ∧ CallVC l G d mPe_readHabit 61 [.ref a0, .ref a1, .ref a2, .int x3, .int s0] [] mPe_setFact [.ref a0, .int x3, .int 5, .int s0] M bc bs Φ)) ∧ (s0 = ((-1)) → Φ (.inl (some (.int 0))) M)) :
    Ev l G d mPe_readHabit 31 [.ref a0, .ref a1, .ref a2, .int x3, u4] [.int s0] M bc bs Φ := by
  refine Ev.istore dPe_readHabit_31 (by decide) ?_
  show Ev l G d mPe_readHabit (_ + _) [.ref a0, .ref a1, .ref a2, .int x3, .int s0] [] M bc bs Φ
  refine Ev.iload dPe_readHabit_33 rfl ?_
  refine Ev.iconst (v := (-1)) dPe_readHabit_35 (by decide) ?_
  refine Ev.icmp_ne 41 (by decide) dPe_readHabit_36 (fun c => ?_) (fun c => ?_)
  · replace h := h.1 c
    refine Ev.aload_n dPe_readHabit_41 rfl ?_
    refine Ev.iload_n dPe_readHabit_42 rfl ?_
    refine Ev.aload_n dPe_readHabit_43 rfl ?_
    refine Ev.gets (C := "BowingRow$Word") (n := "WAY") (ds := "LBowingRow$Word;") (v := .ref 4) dPe_readHabit_44 (by decide +kernel) (Or.inl w879) ?_
    have g1 := h.1
    replace h := h.2
    refine Ev.acmp_ne 54 (by decide) dPe_readHabit_47 g1 (by decide) (fun c => ?_) (fun c => ?_)
    · replace h := h.1 c
      refine Ev.bipush (v := 6) dPe_readHabit_54 (by decide) ?_
      refine Ev.iload dPe_readHabit_56 rfl ?_
      have g2 := h.1
      replace h := h.2
      exact Ev.vcV (z := mPe_setFact) (ci := 6) [.int x3, .int 6, .int s0] [] rfl dPe_readHabit_58 oPe_setFact rfl w903 iPe_setFact sPe_setFact (by decide) rfl g2 (Nat.le_of_ble_eq_true rfl) h
    · replace h := h.2 c
      refine Ev.iconst (v := 5) dPe_readHabit_50 (by decide) ?_
      refine Ev.goto 56 dPe_readHabit_51 (by decide) ?_
      refine Ev.iload dPe_readHabit_56 rfl ?_
      have g3 := h.1
      replace h := h.2
      exact Ev.vcV (z := mPe_setFact) (ci := 6) [.int x3, .int 5, .int s0] [] rfl dPe_readHabit_58 oPe_setFact rfl w903 iPe_setFact sPe_setFact (by decide) rfl g3 (Nat.le_of_ble_eq_true rfl) h
  · replace h := h.2 c
    refine Ev.iconst (v := 0) dPe_readHabit_39 (by decide) ?_
    exact Ev.iret dPe_readHabit_40 rfl rfl h
theorem bPe_readHabit_61 {l : Launch} {G : Gx} {d : Nat} {bc bs : Nat} {Φ : OutV → Mm → Prop} (M : Mm) (a0 : Nat) (a1 : Nat) (a2 : Nat) (x3 : Int32) (x4 : Int32)
    (h : Φ (.inl (some (.int 1))) M) :
    Ev l G d mPe_readHabit 61 [.ref a0, .ref a1, .ref a2, .int x3, .int x4] [] M bc bs Φ := by
  refine Ev.iconst (v := 1) dPe_readHabit_61 (by decide) ?_
  exact Ev.iret dPe_readHabit_62 rfl rfl h
theorem dPe_lineUp_0 : decode mPe_lineUp.2.1 0 = .ok (.iconst 0, 1) := by decide +kernel
theorem dPe_lineUp_1 : decode mPe_lineUp.2.1 1 = .ok (.istore_n 1, 1) := by decide +kernel
theorem dPe_lineUp_2 : decode mPe_lineUp.2.1 2 = .ok (.iload_n 1, 1) := by decide +kernel
theorem dPe_lineUp_3 : decode mPe_lineUp.2.1 3 = .ok (.aload_n 0, 1) := by decide +kernel
theorem dPe_lineUp_4 : decode mPe_lineUp.2.1 4 = .ok (.getfield 18, 3) := by decide +kernel
theorem dPe_lineUp_7 : decode mPe_lineUp.2.1 7 = .ok (.if_icmp .ge 64, 3) := by decide +kernel
theorem dPe_lineUp_10 : decode mPe_lineUp.2.1 10 = .ok (.iload_n 1, 1) := by decide +kernel
theorem dPe_lineUp_11 : decode mPe_lineUp.2.1 11 = .ok (.istore_n 2, 1) := by decide +kernel
theorem dPe_lineUp_12 : decode mPe_lineUp.2.1 12 = .ok (.iload_n 2, 1) := by decide +kernel
theorem dPe_lineUp_13 : decode mPe_lineUp.2.1 13 = .ok (.ifCond .le 45, 3) := by decide +kernel
theorem dPe_lineUp_16 : decode mPe_lineUp.2.1 16 = .ok (.aload_n 0, 1) := by decide +kernel
theorem dPe_lineUp_17 : decode mPe_lineUp.2.1 17 = .ok (.aload_n 0, 1) := by decide +kernel
theorem dPe_lineUp_18 : decode mPe_lineUp.2.1 18 = .ok (.getfield 15, 3) := by decide +kernel
theorem dPe_lineUp_21 : decode mPe_lineUp.2.1 21 = .ok (.iload_n 2, 1) := by decide +kernel
theorem dPe_lineUp_22 : decode mPe_lineUp.2.1 22 = .ok (.iconst 1, 1) := by decide +kernel
theorem dPe_lineUp_23 : decode mPe_lineUp.2.1 23 = .ok (.isub, 1) := by decide +kernel
theorem dPe_lineUp_24 : decode mPe_lineUp.2.1 24 = .ok (.iaload, 1) := by decide +kernel
theorem dPe_lineUp_25 : decode mPe_lineUp.2.1 25 = .ok (.iconst 0, 1) := by decide +kernel
theorem dPe_lineUp_26 : decode mPe_lineUp.2.1 26 = .ok (.invokevirtual 93, 3) := by decide +kernel
theorem dPe_lineUp_29 : decode mPe_lineUp.2.1 29 = .ok (.aload_n 0, 1) := by decide +kernel
theorem dPe_lineUp_30 : decode mPe_lineUp.2.1 30 = .ok (.iload_n 1, 1) := by decide +kernel
theorem dPe_lineUp_31 : decode mPe_lineUp.2.1 31 = .ok (.iconst 0, 1) := by decide +kernel
theorem dPe_lineUp_32 : decode mPe_lineUp.2.1 32 = .ok (.invokevirtual 93, 3) := by decide +kernel
theorem dPe_lineUp_35 : decode mPe_lineUp.2.1 35 = .ok (.if_icmp .le 23, 3) := by decide +kernel
theorem dPe_lineUp_38 : decode mPe_lineUp.2.1 38 = .ok (.aload_n 0, 1) := by decide +kernel
theorem dPe_lineUp_39 : decode mPe_lineUp.2.1 39 = .ok (.getfield 15, 3) := by decide +kernel
theorem dPe_lineUp_42 : decode mPe_lineUp.2.1 42 = .ok (.iload_n 2, 1) := by decide +kernel
theorem dPe_lineUp_43 : decode mPe_lineUp.2.1 43 = .ok (.aload_n 0, 1) := by decide +kernel
theorem dPe_lineUp_44 : decode mPe_lineUp.2.1 44 = .ok (.getfield 15, 3) := by decide +kernel
theorem dPe_lineUp_47 : decode mPe_lineUp.2.1 47 = .ok (.iload_n 2, 1) := by decide +kernel
theorem dPe_lineUp_48 : decode mPe_lineUp.2.1 48 = .ok (.iconst 1, 1) := by decide +kernel
theorem dPe_lineUp_49 : decode mPe_lineUp.2.1 49 = .ok (.isub, 1) := by decide +kernel
theorem dPe_lineUp_50 : decode mPe_lineUp.2.1 50 = .ok (.iaload, 1) := by decide +kernel
theorem dPe_lineUp_51 : decode mPe_lineUp.2.1 51 = .ok (.iastore, 1) := by decide +kernel
theorem dPe_lineUp_52 : decode mPe_lineUp.2.1 52 = .ok (.iinc 2 (-1), 3) := by decide +kernel
theorem dPe_lineUp_55 : decode mPe_lineUp.2.1 55 = .ok (.goto (-43), 3) := by decide +kernel
theorem dPe_lineUp_58 : decode mPe_lineUp.2.1 58 = .ok (.aload_n 0, 1) := by decide +kernel
theorem dPe_lineUp_59 : decode mPe_lineUp.2.1 59 = .ok (.getfield 15, 3) := by decide +kernel
theorem dPe_lineUp_62 : decode mPe_lineUp.2.1 62 = .ok (.iload_n 2, 1) := by decide +kernel
theorem dPe_lineUp_63 : decode mPe_lineUp.2.1 63 = .ok (.iload_n 1, 1) := by decide +kernel
theorem dPe_lineUp_64 : decode mPe_lineUp.2.1 64 = .ok (.iastore, 1) := by decide +kernel
theorem dPe_lineUp_65 : decode mPe_lineUp.2.1 65 = .ok (.iinc 1 1, 3) := by decide +kernel
theorem dPe_lineUp_68 : decode mPe_lineUp.2.1 68 = .ok (.goto (-66), 3) := by decide +kernel
theorem dPe_lineUp_71 : decode mPe_lineUp.2.1 71 = .ok (.return_, 1) := by decide +kernel
theorem bPe_lineUp_0 {l : Launch} {G : Gx} {d : Nat} {bc bs : Nat} {Φ : OutV → Mm → Prop} (M : Mm) (a0 : Nat)
    (h : Ev l G d mPe_lineUp 2 [.ref a0, .int 0, .null] [] M bc bs Φ) :
    Ev l G d mPe_lineUp 0 [.ref a0, .null, .null] [] M bc bs Φ := by
  refine Ev.iconst (v := 0) dPe_lineUp_0 (by decide) ?_
  refine Ev.istore_n dPe_lineUp_1 (by decide) ?_
  show Ev l G d mPe_lineUp (_ + _) [.ref a0, .int 0, .null] [] M bc bs Φ
  exact h
theorem bPe_lineUp_2 {l : Launch} {G : Gx} {d : Nat} {bc bs : Nat} {Φ : OutV → Mm → Prop} (M : Mm) (a0 : Nat) (x1 : Int32) (u2 : Value)
    (h : ((m_sh M a0).1 = 6) ∧ ((m_i M a0 2) ≤ x1 → Φ (.inl none) M) ∧ (¬ (m_i M a0 2) ≤ x1 → Ev l G d mPe_lineUp 12 [.ref a0, .int x1, .int x1] [] M bc bs Φ)) :
    Ev l G d mPe_lineUp 2 [.ref a0, .int x1, u2] [] M bc bs Φ := by
  refine Ev.iload_n dPe_lineUp_2 rfl ?_
  refine Ev.aload_n dPe_lineUp_3 rfl ?_
  have g1 := h.1
  replace h := h.2
  refine Ev.getI dPe_lineUp_4 (Or.inl fPe_18) rfl g1 ?_
  refine Ev.icmp_ge 71 (by decide) dPe_lineUp_7 (fun c => ?_) (fun c => ?_)
  · replace h := h.1 c
    exact Ev.vret dPe_lineUp_71 rfl h
  · replace h := h.2 c
    refine Ev.iload_n dPe_lineUp_10 rfl ?_
    refine Ev.istore_n dPe_lineUp_11 (by decide) ?_
    show Ev l G d mPe_lineUp (_ + _) [.ref a0, .int x1, .int x1] [] M bc bs Φ
    exact h
theorem bPe_lineUp_12 {l : Launch} {G : Gx} {d : Nat} {bc bs : Nat} {Φ : OutV → Mm → Prop} (M : Mm) (a0 : Nat) (x1 : Int32) (x2 : Int32)
    (h : (x2 ≤ 0 → Ev l G d mPe_lineUp 58 [.ref a0, .int x1, .int x2] [] M bc bs Φ) ∧ (¬ x2 ≤ 0 → ((m_sh M a0).1 = 6) ∧ ((m_sh M (m_r M a0 1)).1 = 20) ∧ (vp_in (x2 - 1) (m_sh M (m_r M a0 1)).2) ∧ CallVC l G d mPe_lineUp 29 [.ref a0, .int x1, .int x2] [] mPe_fact [.ref a0, .int (m_i M (m_r M a0 1) (x2 - 1).toNatClampNeg), .int 0] M bc bs Φ)) :
    Ev l G d mPe_lineUp 12 [.ref a0, .int x1, .int x2] [] M bc bs Φ := by
  refine Ev.iload_n dPe_lineUp_12 rfl ?_
  refine Ev.if_le 58 (by decide) dPe_lineUp_13 (fun c => ?_) (fun c => ?_)
  · replace h := h.1 c
    exact h
  · replace h := h.2 c
    refine Ev.aload_n dPe_lineUp_16 rfl ?_
    refine Ev.aload_n dPe_lineUp_17 rfl ?_
    have g1 := h.1
    replace h := h.2
    refine Ev.getR dPe_lineUp_18 (Or.inl fPe_15) rfl g1 ?_
    refine Ev.iload_n dPe_lineUp_21 rfl ?_
    refine Ev.iconst (v := 1) dPe_lineUp_22 (by decide) ?_
    refine Ev.isub dPe_lineUp_23 ?_
    have g2 := h.1
    replace h := h.2
    have g3 := h.1
    replace h := h.2
    refine Ev.iald2 dPe_lineUp_24 g2 g3 ?_
    refine Ev.iconst (v := 0) dPe_lineUp_25 (by decide) ?_
    exact Ev.vcV (z := mPe_fact) (ci := 6) [.int (m_i M (m_r M a0 1) (x2 - 1).toNatClampNeg), .int 0] [] rfl dPe_lineUp_26 oPe_fact rfl w587 iPe_fact sPe_fact (by decide) rfl g1 (Nat.le_of_ble_eq_true rfl) h
theorem bPe_lineUp_29 {l : Launch} {G : Gx} {d : Nat} {bc bs : Nat} {Φ : OutV → Mm → Prop} (M : Mm) (a0 : Nat) (x1 : Int32) (x2 : Int32) (s0 : Int32)
    (h : ((m_sh M a0).1 = 6) ∧ CallVC l G d mPe_lineUp 35 [.ref a0, .int x1, .int x2] [.int s0] mPe_fact [.ref a0, .int x1, .int 0] M bc bs Φ) :
    Ev l G d mPe_lineUp 29 [.ref a0, .int x1, .int x2] [.int s0] M bc bs Φ := by
  refine Ev.aload_n dPe_lineUp_29 rfl ?_
  refine Ev.iload_n dPe_lineUp_30 rfl ?_
  refine Ev.iconst (v := 0) dPe_lineUp_31 (by decide) ?_
  have g1 := h.1
  replace h := h.2
  exact Ev.vcV (z := mPe_fact) (ci := 6) [.int x1, .int 0] [.int s0] rfl dPe_lineUp_32 oPe_fact rfl w587 iPe_fact sPe_fact (by decide) rfl g1 (Nat.le_of_ble_eq_true rfl) h
theorem bPe_lineUp_35 {l : Launch} {G : Gx} {d : Nat} {bc bs : Nat} {Φ : OutV → Mm → Prop} (M : Mm) (a0 : Nat) (x1 : Int32) (x2 : Int32) (s0 : Int32) (s1 : Int32)
    (h : (s0 ≤ s1 → Ev l G d mPe_lineUp 58 [.ref a0, .int x1, .int x2] [] M bc bs Φ) ∧ (¬ s0 ≤ s1 → ((m_sh M a0).1 = 6) ∧ ((m_sh M (m_r M a0 1)).1 = 20) ∧ (vp_in (x2 - 1) (m_sh M (m_r M a0 1)).2) ∧ (vp_in x2 (m_sh M (m_r M a0 1)).2) ∧ Ev l G d mPe_lineUp 12 [.ref a0, .int x1, .int (x2 + (-1))] [] (m_si M (m_r M a0 1) x2.toNatClampNeg (m_i M (m_r M a0 1) (x2 - 1).toNatClampNeg)) bc bs Φ)) :
    Ev l G d mPe_lineUp 35 [.ref a0, .int x1, .int x2] [.int s1, .int s0] M bc bs Φ := by
  refine Ev.icmp_le 58 (by decide) dPe_lineUp_35 (fun c => ?_) (fun c => ?_)
  · replace h := h.1 c
    exact h
  · replace h := h.2 c
    refine Ev.aload_n dPe_lineUp_38 rfl ?_
    have g1 := h.1
    replace h := h.2
    refine Ev.getR dPe_lineUp_39 (Or.inl fPe_15) rfl g1 ?_
    refine Ev.iload_n dPe_lineUp_42 rfl ?_
    refine Ev.aload_n dPe_lineUp_43 rfl ?_
    refine Ev.getR dPe_lineUp_44 (Or.inl fPe_15) rfl g1 ?_
    refine Ev.iload_n dPe_lineUp_47 rfl ?_
    refine Ev.iconst (v := 1) dPe_lineUp_48 (by decide) ?_
    refine Ev.isub dPe_lineUp_49 ?_
    have g2 := h.1
    replace h := h.2
    have g3 := h.1
    replace h := h.2
    refine Ev.iald2 dPe_lineUp_50 g2 g3 ?_
    have g4 := h.1
    replace h := h.2
    refine Ev.iast2 dPe_lineUp_51 g2 g4 ?_
    refine Ev.iinc (v := x2 + (-1)) dPe_lineUp_52 (by decide) rfl rfl ?_
    show Ev l G d mPe_lineUp (_ + _) [.ref a0, .int x1, .int (x2 + (-1))] [] (m_si M (m_r M a0 1) x2.toNatClampNeg (m_i M (m_r M a0 1) (x2 - 1).toNatClampNeg)) bc bs Φ
    refine Ev.goto 12 dPe_lineUp_55 (by decide) ?_
    exact h
theorem bPe_lineUp_58 {l : Launch} {G : Gx} {d : Nat} {bc bs : Nat} {Φ : OutV → Mm → Prop} (M : Mm) (a0 : Nat) (x1 : Int32) (x2 : Int32)
    (h : ((m_sh M a0).1 = 6) ∧ ((m_sh M (m_r M a0 1)).1 = 20) ∧ (vp_in x2 (m_sh M (m_r M a0 1)).2) ∧ Ev l G d mPe_lineUp 2 [.ref a0, .int (x1 + 1), .int x2] [] (m_si M (m_r M a0 1) x2.toNatClampNeg x1) bc bs Φ) :
    Ev l G d mPe_lineUp 58 [.ref a0, .int x1, .int x2] [] M bc bs Φ := by
  refine Ev.aload_n dPe_lineUp_58 rfl ?_
  have g1 := h.1
  replace h := h.2
  refine Ev.getR dPe_lineUp_59 (Or.inl fPe_15) rfl g1 ?_
  refine Ev.iload_n dPe_lineUp_62 rfl ?_
  refine Ev.iload_n dPe_lineUp_63 rfl ?_
  have g2 := h.1
  replace h := h.2
  have g3 := h.1
  replace h := h.2
  refine Ev.iast2 dPe_lineUp_64 g2 g3 ?_
  refine Ev.iinc (v := x1 + 1) dPe_lineUp_65 (by decide) rfl rfl ?_
  show Ev l G d mPe_lineUp (_ + _) [.ref a0, .int (x1 + 1), .int x2] [] (m_si M (m_r M a0 1) x2.toNatClampNeg x1) bc bs Φ
  refine Ev.goto 2 dPe_lineUp_68 (by decide) ?_
  exact h
