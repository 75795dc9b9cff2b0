def mIf_init : MR := (⟨"BowingRow$InForce", "<init>", "(LBowingRow$Law;LBowingRow$People;)V"⟩, prog_5_method_1_code, 3, none)
theorem oIf_init : MOK mIf_init 2 := ⟨lwg_of 228 (by decide +kernel) (by decide +kernel), lwg_of 95 (by decide +kernel) (by decide +kernel), ⟨by decide +kernel, by decide +kernel⟩, by decide +kernel, by decide⟩
theorem iIf_init : Cond.instanceMethod mIf_init.1 ∈ lwg := lwg_of 227 (by decide +kernel) (by decide +kernel)
theorem dIf_init_0 : decode mIf_init.2.1 0 = .ok (.aload_n 0, 1) := by decide +kernel
theorem dIf_init_1 : decode mIf_init.2.1 1 = .ok (.invokespecial 3, 3) := by decide +kernel
theorem dIf_init_4 : decode mIf_init.2.1 4 = .ok (.aload_n 0, 1) := by decide +kernel
theorem dIf_init_5 : decode mIf_init.2.1 5 = .ok (.bipush 10, 2) := by decide +kernel
theorem dIf_init_7 : decode mIf_init.2.1 7 = .ok (.newarray .int, 2) := by decide +kernel
theorem dIf_init_9 : decode mIf_init.2.1 9 = .ok (.putfield 9, 3) := by decide +kernel
theorem dIf_init_12 : decode mIf_init.2.1 12 = .ok (.aload_n 0, 1) := by decide +kernel
theorem dIf_init_13 : decode mIf_init.2.1 13 = .ok (.sipush 1088, 3) := by decide +kernel
theorem dIf_init_16 : decode mIf_init.2.1 16 = .ok (.newarray .byte, 2) := by decide +kernel
theorem dIf_init_18 : decode mIf_init.2.1 18 = .ok (.putfield 15, 3) := by decide +kernel
theorem dIf_init_21 : decode mIf_init.2.1 21 = .ok (.aload_n 0, 1) := by decide +kernel
theorem dIf_init_22 : decode mIf_init.2.1 22 = .ok (.sipush 1088, 3) := by decide +kernel
theorem dIf_init_25 : decode mIf_init.2.1 25 = .ok (.newarray .byte, 2) := by decide +kernel
theorem dIf_init_27 : decode mIf_init.2.1 27 = .ok (.putfield 19, 3) := by decide +kernel
theorem dIf_init_30 : decode mIf_init.2.1 30 = .ok (.aload_n 0, 1) := by decide +kernel
theorem dIf_init_31 : decode mIf_init.2.1 31 = .ok (.iconst (-1), 1) := by decide +kernel
theorem dIf_init_32 : decode mIf_init.2.1 32 = .ok (.putfield 22, 3) := by decide +kernel
theorem dIf_init_35 : decode mIf_init.2.1 35 = .ok (.aload_n 0, 1) := by decide +kernel
theorem dIf_init_36 : decode mIf_init.2.1 36 = .ok (.iconst (-1), 1) := by decide +kernel
theorem dIf_init_37 : decode mIf_init.2.1 37 = .ok (.putfield 26, 3) := by decide +kernel
theorem dIf_init_40 : decode mIf_init.2.1 40 = .ok (.aload_n 0, 1) := by decide +kernel
theorem dIf_init_41 : decode mIf_init.2.1 41 = .ok (.aload_n 1, 1) := by decide +kernel
theorem dIf_init_42 : decode mIf_init.2.1 42 = .ok (.putfield 29, 3) := by decide +kernel
theorem dIf_init_45 : decode mIf_init.2.1 45 = .ok (.aload_n 0, 1) := by decide +kernel
theorem dIf_init_46 : decode mIf_init.2.1 46 = .ok (.aload_n 2, 1) := by decide +kernel
theorem dIf_init_47 : decode mIf_init.2.1 47 = .ok (.putfield 33, 3) := by decide +kernel
theorem dIf_init_50 : decode mIf_init.2.1 50 = .ok (.aload_n 0, 1) := by decide +kernel
theorem dIf_init_51 : decode mIf_init.2.1 51 = .ok (.invokevirtual 37, 3) := by decide +kernel
theorem dIf_init_54 : decode mIf_init.2.1 54 = .ok (.return_, 1) := by decide +kernel
theorem w229 : Cond.methodLink "BowingRow$InForce" 3 ⟨"java/lang/Object", "<init>", "()V"⟩ ∈ lwg := lwg_of 229 (by decide +kernel) (by decide +kernel)
theorem fIf_9 : FOK "BowingRow$InForce" 9 3 0 true := ⟨RX3, TX3, nFd 3, rfl, by decide, rfl, by decide, rfl, lwg_of 237 (by decide +kernel) (by decide +kernel)⟩
theorem bIf_init_0 {l : Launch} {G : Gx} {d : Nat} {bc bs : Nat} {Φ : OutV → Mm → Prop} (M : Mm) (a0 : Nat) (a1 : Nat) (a2 : Nat)
    (h : (a0 ≠ 0 ∧ 1 ≤ d) ∧ (1 ≤ bc ∧ 10 ≤ bs) ∧ ((m_sh (m_al M (20, 10)) a0).1 = 3) ∧ Ev l G d mIf_init 12 [.ref a0, .ref a1, .ref a2] [] (m_sr (m_al M (20, 10)) a0 0 (m_nx M)) (bc - 1) (bs - 10) Φ) :
    Ev l G d mIf_init 0 [.ref a0, .ref a1, .ref a2] [] M bc bs Φ := by
  refine Ev.aload_n dIf_init_0 rfl ?_
  have g1 := h.1
  replace h := h.2
  refine Ev.objInit dIf_init_1 w229 w_oi w_oc (Nat.le_of_ble_eq_true rfl) g1.2 g1.1 ?_
  refine Ev.aload_n dIf_init_4 rfl ?_
  refine Ev.bipush (v := 10) dIf_init_5 (by decide) ?_
  have g2 := h.1
  replace h := h.2
  refine Ev.newI2 10 dIf_init_7 w164 (by decide) (by decide) (by decide) g2 ?_
  have g3 := h.1
  replace h := h.2
  refine Ev.putR dIf_init_9 ⟨_, Or.inl ⟨fIf_9, (fun _ => ⟨rfl, fun r hr => by cases hr; rfl⟩)⟩⟩ rfl (fun ad => fitR (by first | exact Or.inl ⟨_, rfl⟩ | exact Or.inr ⟨_, rfl⟩) _ ad) g3 ?_
  exact h
theorem w163 : Cond.arrayClass .byte ∈ lwg := lwg_of 163 (by decide +kernel) (by decide +kernel)
theorem fIf_15 : FOK "BowingRow$InForce" 15 3 3 true := ⟨RX3, TX3, nFd 3, rfl, by decide, rfl, by decide, rfl, lwg_of 242 (by decide +kernel) (by decide +kernel)⟩
theorem bIf_init_12 {l : Launch} {G : Gx} {d : Nat} {bc bs : Nat} {Φ : OutV → Mm → Prop} (M : Mm) (a0 : Nat) (a1 : Nat) (a2 : Nat)
    (h : (1 ≤ bc ∧ 1088 ≤ bs) ∧ ((m_sh (m_al M (21, 1088)) a0).1 = 3) ∧ Ev l G d mIf_init 21 [.ref a0, .ref a1, .ref a2] [] (m_sr (m_al M (21, 1088)) a0 3 (m_nx M)) (bc - 1) (bs - 1088) Φ) :
    Ev l G d mIf_init 12 [.ref a0, .ref a1, .ref a2] [] M bc bs Φ := by
  refine Ev.aload_n dIf_init_12 rfl ?_
  refine Ev.sipush (v := 1088) dIf_init_13 (by decide) ?_
  have g1 := h.1
  replace h := h.2
  refine Ev.newB2 1088 dIf_init_16 w163 (by decide) (by decide) (by decide) g1 ?_
  have g2 := h.1
  replace h := h.2
  refine Ev.putR dIf_init_18 ⟨_, Or.inl ⟨fIf_15, (fun _ => ⟨rfl, fun r hr => by cases hr; rfl⟩)⟩⟩ rfl (fun ad => fitR (by first | exact Or.inl ⟨_, rfl⟩ | exact Or.inr ⟨_, rfl⟩) _ ad) g2 ?_
  exact h
theorem fIf_19 : FOK "BowingRow$InForce" 19 3 4 true := ⟨RX3, TX3, nFd 3, rfl, by decide, rfl, by decide, rfl, lwg_of 243 (by decide +kernel) (by decide +kernel)⟩
theorem bIf_init_21 {l : Launch} {G : Gx} {d : Nat} {bc bs : Nat} {Φ : OutV → Mm → Prop} (M : Mm) (a0 : Nat) (a1 : Nat) (a2 : Nat)
    (h : (1 ≤ bc ∧ 1088 ≤ bs) ∧ ((m_sh (m_al M (21, 1088)) a0).1 = 3) ∧ Ev l G d mIf_init 30 [.ref a0, .ref a1, .ref a2] [] (m_sr (m_al M (21, 1088)) a0 4 (m_nx M)) (bc - 1) (bs - 1088) Φ) :
    Ev l G d mIf_init 21 [.ref a0, .ref a1, .ref a2] [] M bc bs Φ := by
  refine Ev.aload_n dIf_init_21 rfl ?_
  refine Ev.sipush (v := 1088) dIf_init_22 (by decide) ?_
  have g1 := h.1
  replace h := h.2
  refine Ev.newB2 1088 dIf_init_25 w163 (by decide) (by decide) (by decide) g1 ?_
  have g2 := h.1
  replace h := h.2
  refine Ev.putR dIf_init_27 ⟨_, Or.inl ⟨fIf_19, (fun _ => ⟨rfl, fun r hr => by cases hr; rfl⟩)⟩⟩ rfl (fun ad => fitR (by first | exact Or.inl ⟨_, rfl⟩ | exact Or.inr ⟨_, rfl⟩) _ ad) g2 ?_
  exact h
theorem fIf_22 : FOK "BowingRow$InForce" 22 3 5 false := ⟨RX3, TX3, nFd 3, rfl, by decide, rfl, by decide, rfl, lwg_of 244 (by decide +kernel) (by decide +kernel)⟩
theorem bIf_init_30 {l : Launch} {G : Gx} {d : Nat} {bc bs : Nat} {Φ : OutV → Mm → Prop} (M : Mm) (a0 : Nat) (a1 : Nat) (a2 : Nat)
    (h : ((m_sh M a0).1 = 3) ∧ Ev l G d mIf_init 35 [.ref a0, .ref a1, .ref a2] [] (m_si M a0 5 ((-1))) bc bs Φ) :
    Ev l G d mIf_init 30 [.ref a0, .ref a1, .ref a2] [] M bc bs Φ := by
  refine Ev.aload_n dIf_init_30 rfl ?_
  refine Ev.iconst (v := (-1)) dIf_init_31 (by decide) ?_
  have g1 := h.1
  replace h := h.2
  refine Ev.putI dIf_init_32 ⟨_, Or.inl ⟨fIf_22, (fun h => by cases h)⟩⟩ rfl ⟨rfl, rfl⟩ g1 ?_
  exact h
theorem fIf_26 : FOK "BowingRow$InForce" 26 3 6 false := ⟨RX3, TX3, nFd 3, rfl, by decide, rfl, by decide, rfl, lwg_of 245 (by decide +kernel) (by decide +kernel)⟩
theorem bIf_init_35 {l : Launch} {G : Gx} {d : Nat} {bc bs : Nat} {Φ : OutV → Mm → Prop} (M : Mm) (a0 : Nat) (a1 : Nat) (a2 : Nat)
    (h : ((m_sh M a0).1 = 3) ∧ Ev l G d mIf_init 40 [.ref a0, .ref a1, .ref a2] [] (m_si M a0 6 ((-1))) bc bs Φ) :
    Ev l G d mIf_init 35 [.ref a0, .ref a1, .ref a2] [] M bc bs Φ := by
  refine Ev.aload_n dIf_init_35 rfl ?_
  refine Ev.iconst (v := (-1)) dIf_init_36 (by decide) ?_
  have g1 := h.1
  replace h := h.2
  refine Ev.putI dIf_init_37 ⟨_, Or.inl ⟨fIf_26, (fun h => by cases h)⟩⟩ rfl ⟨rfl, rfl⟩ g1 ?_
  exact h
theorem fIf_29 : FOK "BowingRow$InForce" 29 3 1 false := ⟨RX3, TX3, nFd 3, rfl, by decide, rfl, by decide, rfl, lwg_of 240 (by decide +kernel) (by decide +kernel)⟩
theorem bIf_init_40 {l : Launch} {G : Gx} {d : Nat} {bc bs : Nat} {Φ : OutV → Mm → Prop} (M : Mm) (a0 : Nat) (a1 : Nat) (a2 : Nat)
    (h : ((m_sh M a0).1 = 3) ∧ Ev l G d mIf_init 45 [.ref a0, .ref a1, .ref a2] [] (m_sr M a0 1 a1) bc bs Φ) :
    Ev l G d mIf_init 40 [.ref a0, .ref a1, .ref a2] [] M bc bs Φ := by
  refine Ev.aload_n dIf_init_40 rfl ?_
  refine Ev.aload_n dIf_init_41 rfl ?_
  have g1 := h.1
  replace h := h.2
  refine Ev.putR dIf_init_42 ⟨_, Or.inl ⟨fIf_29, (fun h => by cases h)⟩⟩ rfl (fun ad => fitR (by first | exact Or.inl ⟨_, rfl⟩ | exact Or.inr ⟨_, rfl⟩) _ ad) g1 ?_
  exact h
theorem fIf_33 : FOK "BowingRow$InForce" 33 3 2 false := ⟨RX3, TX3, nFd 3, rfl, by decide, rfl, by decide, rfl, lwg_of 241 (by decide +kernel) (by decide +kernel)⟩
theorem bIf_init_45 {l : Launch} {G : Gx} {d : Nat} {bc bs : Nat} {Φ : OutV → Mm → Prop} (M : Mm) (a0 : Nat) (a1 : Nat) (a2 : Nat)
    (h : ((m_sh M a0).1 = 3) ∧ Ev l G d mIf_init 50 [.ref a0, .ref a1, .ref a2] [] (m_sr M a0 2 a2) bc bs Φ) :
    Ev l G d mIf_init 45 [.ref a0, .ref a1, .ref a2] [] M bc bs Φ := by
  refine Ev.aload_n dIf_init_45 rfl ?_
  refine Ev.aload_n dIf_init_46 rfl ?_
  have g1 := h.1
  replace h := h.2
  refine Ev.putR dIf_init_47 ⟨_, Or.inl ⟨fIf_33, (fun h => by cases h)⟩⟩ rfl (fun ad => fitR (by first | exact Or.inl ⟨_, rfl⟩ | exact Or.inr ⟨_, rfl⟩) _ ad) g1 ?_
  exact h
def mIf_setWithout : MR := (⟨"BowingRow$InForce", "setWithout", "()V"⟩, prog_5_method_2_code, 1, none)
theorem oIf_setWithout : MOK mIf_setWithout 0 := ⟨lwg_of 233 (by decide +kernel) (by decide +kernel), lwg_of 95 (by decide +kernel) (by decide +kernel), ⟨by decide +kernel, by decide +kernel⟩, by decide +kernel, by decide⟩
theorem iIf_setWithout : Cond.instanceMethod mIf_setWithout.1 ∈ lwg := lwg_of 232 (by decide +kernel) (by decide +kernel)
theorem sIf_setWithout : Cond.selects mIf_setWithout.1.cls mIf_setWithout.1 mIf_setWithout.1 ∈ lwg := lwg_of 0 (by decide +kernel) (by decide +kernel)
theorem w230 : Cond.methodLink "BowingRow$InForce" 37 ⟨"BowingRow$InForce", "setWithout", "()V"⟩ ∈ lwg := lwg_of 230 (by decide +kernel) (by decide +kernel)
theorem bIf_init_50 {l : Launch} {G : Gx} {d : Nat} {bc bs : Nat} {Φ : OutV → Mm → Prop} (M : Mm) (a0 : Nat) (a1 : Nat) (a2 : Nat)
    (h : ((m_sh M a0).1 = 3) ∧ CallVC l G d mIf_init 54 [.ref a0, .ref a1, .ref a2] [] mIf_setWithout [.ref a0] M bc bs Φ) :
    Ev l G d mIf_init 50 [.ref a0, .ref a1, .ref a2] [] M bc bs Φ := by
  refine Ev.aload_n dIf_init_50 rfl ?_
  have g1 := h.1
  replace h := h.2
  exact Ev.vcV (z := mIf_setWithout) (ci := 3) [] [] rfl dIf_init_51 oIf_setWithout rfl w230 iIf_setWithout sIf_setWithout (by decide) rfl g1 (Nat.le_of_ble_eq_true rfl) h
theorem bIf_init_54 {l : Launch} {G : Gx} {d : Nat} {bc bs : Nat} {Φ : OutV → Mm → Prop} (M : Mm) (a0 : Nat) (a1 : Nat) (a2 : Nat)
    (h : Φ (.inl none) M) :
    Ev l G d mIf_init 54 [.ref a0, .ref a1, .ref a2] [] M bc bs Φ := by
  exact Ev.vret dIf_init_54 rfl h
theorem dIf_setWithout_0 : decode mIf_setWithout.2.1 0 = .ok (.aload_n 0, 1) := by decide +kernel
theorem dIf_setWithout_1 : decode mIf_setWithout.2.1 1 = .ok (.getfield 9, 3) := by decide +kernel
theorem dIf_setWithout_4 : decode mIf_setWithout.2.1 4 = .ok (.iconst (-1), 1) := by decide +kernel
theorem dIf_setWithout_5 : decode mIf_setWithout.2.1 5 = .ok (.invokestatic 40, 3) := by decide +kernel
theorem dIf_setWithout_8 : decode mIf_setWithout.2.1 8 = .ok (.aload_n 0, 1) := by decide +kernel
theorem dIf_setWithout_9 : decode mIf_setWithout.2.1 9 = .ok (.getfield 9, 3) := by decide +kernel
theorem dIf_setWithout_12 : decode mIf_setWithout.2.1 12 = .ok (.iconst 5, 1) := by decide +kernel
theorem dIf_setWithout_13 : decode mIf_setWithout.2.1 13 = .ok (.sipush 999, 3) := by decide +kernel
theorem dIf_setWithout_16 : decode mIf_setWithout.2.1 16 = .ok (.iastore, 1) := by decide +kernel
theorem dIf_setWithout_17 : decode mIf_setWithout.2.1 17 = .ok (.aload_n 0, 1) := by decide +kernel
theorem dIf_setWithout_18 : decode mIf_setWithout.2.1 18 = .ok (.getfield 9, 3) := by decide +kernel
theorem dIf_setWithout_21 : decode mIf_setWithout.2.1 21 = .ok (.bipush 6, 2) := by decide +kernel
theorem dIf_setWithout_23 : decode mIf_setWithout.2.1 23 = .ok (.iconst 0, 1) := by decide +kernel
theorem dIf_setWithout_24 : decode mIf_setWithout.2.1 24 = .ok (.iastore, 1) := by decide +kernel
theorem dIf_setWithout_25 : decode mIf_setWithout.2.1 25 = .ok (.return_, 1) := by decide +kernel
theorem w234 : Cond.methodLink "BowingRow$InForce" 40 ⟨"java/util/Arrays", "fill", "([II)V"⟩ ∈ lwg := lwg_of 234 (by decide +kernel) (by decide +kernel)
theorem bIf_setWithout_0 {l : Launch} {G : Gx} {d : Nat} {bc bs : Nat} {Φ : OutV → Mm → Prop} (M : Mm) (a0 : Nat)
    (h : ((m_sh M a0).1 = 3) ∧ CallVC l G d mIf_setWithout 8 [.ref a0] [] mjA_fill [.ref (m_r M a0 0), .int ((-1))] M bc bs Φ) :
    Ev l G d mIf_setWithout 0 [.ref a0] [] M bc bs Φ := by
  refine Ev.aload_n dIf_setWithout_0 rfl ?_
  have g1 := h.1
  replace h := h.2
  refine Ev.getR dIf_setWithout_1 (Or.inl fIf_9) rfl g1 ?_
  refine Ev.iconst (v := (-1)) dIf_setWithout_4 (by decide) ?_
  exact Ev.vcS (z := mjA_fill) [.ref (m_r M a0 0), .int ((-1))] [] rfl dIf_setWithout_5 ojA_fill rfl w234 ijA_fill (Nat.le_of_ble_eq_true rfl) h
theorem bIf_setWithout_8 {l : Launch} {G : Gx} {d : Nat} {bc bs : Nat} {Φ : OutV → Mm → Prop} (M : Mm) (a0 : Nat)
    (h : ((m_sh M a0).1 = 3) ∧ ((m_sh M (m_r M a0 0)).1 = 20) ∧ (vp_in 5 (m_sh M (m_r M a0 0)).2) ∧ (vp_in 6 (m_sh M (m_r M a0 0)).2) ∧ Φ (.inl none) (m_si (m_si M (m_r M a0 0) (5 : Int32).toNatClampNeg 999) (m_r M a0 0) (6 : Int32).toNatClampNeg 0)) :
    Ev l G d mIf_setWithout 8 [.ref a0] [] M bc bs Φ := by
  refine Ev.aload_n dIf_setWithout_8 rfl ?_
  have g1 := h.1
  replace h := h.2
  refine Ev.getR dIf_setWithout_9 (Or.inl fIf_9) rfl g1 ?_
  refine Ev.iconst (v := 5) dIf_setWithout_12 (by decide) ?_
  refine Ev.sipush (v := 999) dIf_setWithout_13 (by decide) ?_
  have g2 := h.1
  replace h := h.2
  have g3 := h.1
  replace h := h.2
  refine Ev.iast2 dIf_setWithout_16 g2 g3 ?_
  refine Ev.aload_n dIf_setWithout_17 rfl ?_
  refine Ev.getR dIf_setWithout_18 (Or.inl fIf_9) rfl g1 ?_
  refine Ev.bipush (v := 6) dIf_setWithout_21 (by decide) ?_
  refine Ev.iconst (v := 0) dIf_setWithout_23 (by decide) ?_
  have g4 := h.1
  replace h := h.2
  refine Ev.iast2 dIf_setWithout_24 g2 g4 ?_
  exact Ev.vret dIf_setWithout_25 rfl h
def mIf_mustOffer : MR := (⟨"BowingRow$InForce", "mustOffer", "(III)Z"⟩, prog_5_method_5_code, 5, (Option.some .boolean))
theorem oIf_mustOffer : MOK mIf_mustOffer 3 := ⟨lwg_of 608 (by decide +kernel) (by decide +kernel), lwg_of 95 (by decide +kernel) (by decide +kernel), ⟨by decide +kernel, by decide +kernel⟩, by decide +kernel, by decide⟩
theorem iIf_mustOffer : Cond.instanceMethod mIf_mustOffer.1 ∈ lwg := lwg_of 606 (by decide +kernel) (by decide +kernel)
theorem sIf_mustOffer : Cond.selects mIf_mustOffer.1.cls mIf_mustOffer.1 mIf_mustOffer.1 ∈ lwg := lwg_of 607 (by decide +kernel) (by decide +kernel)
theorem dIf_mustOffer_0 : decode mIf_mustOffer.2.1 0 = .ok (.aload_n 0, 1) := by decide +kernel
theorem dIf_mustOffer_1 : decode mIf_mustOffer.2.1 1 = .ok (.getfield 9, 3) := by decide +kernel
theorem dIf_mustOffer_4 : decode mIf_mustOffer.2.1 4 = .ok (.bipush 9, 2) := by decide +kernel
theorem dIf_mustOffer_6 : decode mIf_mustOffer.2.1 6 = .ok (.iaload, 1) := by decide +kernel
theorem dIf_mustOffer_7 : decode mIf_mustOffer.2.1 7 = .ok (.iconst (-1), 1) := by decide +kernel
theorem dIf_mustOffer_8 : decode mIf_mustOffer.2.1 8 = .ok (.if_icmp .ne 5, 3) := by decide +kernel
theorem dIf_mustOffer_11 : decode mIf_mustOffer.2.1 11 = .ok (.iconst 0, 1) := by decide +kernel
theorem dIf_mustOffer_12 : decode mIf_mustOffer.2.1 12 = .ok (.ireturn, 1) := by decide +kernel
theorem dIf_mustOffer_13 : decode mIf_mustOffer.2.1 13 = .ok (.iload_n 1, 1) := by decide +kernel
theorem dIf_mustOffer_14 : decode mIf_mustOffer.2.1 14 = .ok (.bipush 8, 2) := by decide +kernel
theorem dIf_mustOffer_16 : decode mIf_mustOffer.2.1 16 = .ok (.imul, 1) := by decide +kernel
theorem dIf_mustOffer_17 : decode mIf_mustOffer.2.1 17 = .ok (.iload_n 2, 1) := by decide +kernel
theorem dIf_mustOffer_18 : decode mIf_mustOffer.2.1 18 = .ok (.iadd, 1) := by decide +kernel
theorem dIf_mustOffer_19 : decode mIf_mustOffer.2.1 19 = .ok (.bipush 17, 2) := by decide +kernel
theorem dIf_mustOffer_21 : decode mIf_mustOffer.2.1 21 = .ok (.imul, 1) := by decide +kernel
theorem dIf_mustOffer_22 : decode mIf_mustOffer.2.1 22 = .ok (.iload_n 3, 1) := by decide +kernel
theorem dIf_mustOffer_23 : decode mIf_mustOffer.2.1 23 = .ok (.iadd, 1) := by decide +kernel
theorem dIf_mustOffer_24 : decode mIf_mustOffer.2.1 24 = .ok (.istore 4, 2) := by decide +kernel
theorem dIf_mustOffer_26 : decode mIf_mustOffer.2.1 26 = .ok (.aload_n 0, 1) := by decide +kernel
theorem dIf_mustOffer_27 : decode mIf_mustOffer.2.1 27 = .ok (.getfield 15, 3) := by decide +kernel
theorem dIf_mustOffer_30 : decode mIf_mustOffer.2.1 30 = .ok (.iload 4, 2) := by decide +kernel
theorem dIf_mustOffer_32 : decode mIf_mustOffer.2.1 32 = .ok (.baload, 1) := by decide +kernel
theorem dIf_mustOffer_33 : decode mIf_mustOffer.2.1 33 = .ok (.ifCond .ne 34, 3) := by decide +kernel
theorem dIf_mustOffer_36 : decode mIf_mustOffer.2.1 36 = .ok (.aload_n 0, 1) := by decide +kernel
theorem dIf_mustOffer_37 : decode mIf_mustOffer.2.1 37 = .ok (.getfield 15, 3) := by decide +kernel
theorem dIf_mustOffer_40 : decode mIf_mustOffer.2.1 40 = .ok (.iload 4, 2) := by decide +kernel
theorem dIf_mustOffer_42 : decode mIf_mustOffer.2.1 42 = .ok (.aload_n 0, 1) := by decide +kernel
theorem dIf_mustOffer_43 : decode mIf_mustOffer.2.1 43 = .ok (.getfield 29, 3) := by decide +kernel
theorem dIf_mustOffer_46 : decode mIf_mustOffer.2.1 46 = .ok (.aload_n 0, 1) := by decide +kernel
theorem dIf_mustOffer_47 : decode mIf_mustOffer.2.1 47 = .ok (.getfield 9, 3) := by decide +kernel
theorem dIf_mustOffer_50 : decode mIf_mustOffer.2.1 50 = .ok (.bipush 9, 2) := by decide +kernel
theorem dIf_mustOffer_52 : decode mIf_mustOffer.2.1 52 = .ok (.iaload, 1) := by decide +kernel
theorem dIf_mustOffer_53 : decode mIf_mustOffer.2.1 53 = .ok (.aload_n 0, 1) := by decide +kernel
theorem dIf_mustOffer_54 : decode mIf_mustOffer.2.1 54 = .ok (.getfield 33, 3) := by decide +kernel
theorem dIf_mustOffer_57 : decode mIf_mustOffer.2.1 57 = .ok (.iload_n 1, 1) := by decide +kernel
theorem dIf_mustOffer_58 : decode mIf_mustOffer.2.1 58 = .ok (.iload_n 2, 1) := by decide +kernel
theorem dIf_mustOffer_59 : decode mIf_mustOffer.2.1 59 = .ok (.iload_n 3, 1) := by decide +kernel
theorem dIf_mustOffer_60 : decode mIf_mustOffer.2.1 60 = .ok (.invokevirtual 58, 3) := by decide +kernel
theorem dIf_mustOffer_63 : decode mIf_mustOffer.2.1 63 = .ok (.iconst 1, 1) := by decide +kernel
theorem dIf_mustOffer_64 : decode mIf_mustOffer.2.1 64 = .ok (.iadd, 1) := by decide +kernel
theorem dIf_mustOffer_65 : decode mIf_mustOffer.2.1 65 = .ok (.i2b, 1) := by decide +kernel
theorem dIf_mustOffer_66 : decode mIf_mustOffer.2.1 66 = .ok (.bastore, 1) := by decide +kernel
theorem dIf_mustOffer_67 : decode mIf_mustOffer.2.1 67 = .ok (.aload_n 0, 1) := by decide +kernel
theorem dIf_mustOffer_68 : decode mIf_mustOffer.2.1 68 = .ok (.getfield 15, 3) := by decide +kernel
theorem dIf_mustOffer_71 : decode mIf_mustOffer.2.1 71 = .ok (.iload 4, 2) := by decide +kernel
theorem dIf_mustOffer_73 : decode mIf_mustOffer.2.1 73 = .ok (.baload, 1) := by decide +kernel
theorem dIf_mustOffer_74 : decode mIf_mustOffer.2.1 74 = .ok (.iconst 1, 1) := by decide +kernel
theorem dIf_mustOffer_75 : decode mIf_mustOffer.2.1 75 = .ok (.if_icmp .eq 7, 3) := by decide +kernel
theorem dIf_mustOffer_78 : decode mIf_mustOffer.2.1 78 = .ok (.iconst 1, 1) := by decide +kernel
theorem dIf_mustOffer_79 : decode mIf_mustOffer.2.1 79 = .ok (.goto 4, 3) := by decide +kernel
theorem dIf_mustOffer_82 : decode mIf_mustOffer.2.1 82 = .ok (.iconst 0, 1) := by decide +kernel
theorem dIf_mustOffer_83 : decode mIf_mustOffer.2.1 83 = .ok (.ireturn, 1) := by decide +kernel
theorem w609 : Cond.methodLink "BowingRow$InForce" 58 ⟨"BowingRow$Law", "valueOf", "(ILBowingRow$People;III)I"⟩ ∈ lwg := lwg_of 609 (by decide +kernel) (by decide +kernel)
theorem bIf_mustOffer_0 {l : Launch} {G : Gx} {d : Nat} {bc bs : Nat} {Φ : OutV → Mm → Prop} (M : Mm) (a0 : Nat) (x1 : Int32) (x2 : Int32) (x3 : Int32)
    (h : ((m_sh M a0).1 = 3) ∧ ((m_sh M (m_r M a0 0)).1 = 20) ∧ (vp_in 9 (m_sh M (m_r M a0 0)).2) ∧ (¬ (m_i M (m_r M a0 0) (9 : Int32).toNatClampNeg) = ((-1)) → ((m_sh M (m_r M a0 3)).1 = 21) ∧ (vp_in ((((x1 * 8) + x2) * 17) + x3) (m_sh M (m_r M a0 3)).2) ∧ (¬ (m_i M (m_r M a0 3) ((((x1 * 8) + x2) * 17) + x3).toNatClampNeg) = 0 → Ev l G d mIf_mustOffer 67 [.ref a0, .int x1, .int x2, .int x3, .int ((((x1 * 8) + x2) * 17) + x3)] [] M bc bs Φ) ∧ ((m_i M (m_r M a0 3) ((((x1 * 8) + x2) * 17) + x3).toNatClampNeg) = 0 → ((m_sh M (m_r M a0 1)).1 = 4) ∧ CallVC l G d mIf_mustOffer 63 [.ref a0, .int x1, .int x2, .int x3, .int ((((x1 * 8) + x2) * 17) + x3)] [.int ((((x1 * 8) + x2) * 17) + x3), .ref (m_r M a0 3)] mLa_valueOf [.ref (m_r M a0 1), .int (m_i M (m_r M a0 0) (9 : Int32).toNatClampNeg), .ref (m_r M a0 2), .int x1, .int x2, .int x3] M bc bs Φ)) ∧ ((m_i M (m_r M a0 0) (9 : Int32).toNatClampNeg) = ((-1)) → Φ (.inl (some (.int 0))) M)) :
    Ev l G d mIf_mustOffer 0 [.ref a0, .int x1, .int x2, .int x3, .null] [] M bc bs Φ := by
  refine Ev.aload_n dIf_mustOffer_0 rfl ?_
  have g1 := h.1
  replace h := h.2
  refine Ev.getR dIf_mustOffer_1 (Or.inl fIf_9) rfl g1 ?_
  refine Ev.bipush (v := 9) dIf_mustOffer_4 (by decide) ?_
  have g2 := h.1
  replace h := h.2
  have g3 := h.1
  replace h := h.2
  refine Ev.iald2 dIf_mustOffer_6 g2 g3 ?_
  refine Ev.iconst (v := (-1)) dIf_mustOffer_7 (by decide) ?_
  refine Ev.icmp_ne 13 (by decide) dIf_mustOffer_8 (fun c => ?_) (fun c => ?_)
  · replace h := h.1 c
    refine Ev.iload_n dIf_mustOffer_13 rfl ?_
    refine Ev.bipush (v := 8) dIf_mustOffer_14 (by decide) ?_
    refine Ev.imul dIf_mustOffer_16 ?_
    refine Ev.iload_n dIf_mustOffer_17 rfl ?_
    refine Ev.iadd dIf_mustOffer_18 ?_
    refine Ev.bipush (v := 17) dIf_mustOffer_19 (by decide) ?_
    refine Ev.imul dIf_mustOffer_21 ?_
    refine Ev.iload_n dIf_mustOffer_22 rfl ?_
    refine Ev.iadd dIf_mustOffer_23 ?_
    refine Ev.istore dIf_mustOffer_24 (by decide) ?_
    show Ev l G d mIf_mustOffer (_ + _) [.ref a0, .int x1, .int x2, .int x3, .int ((((x1 * 8) + x2) * 17) + x3)] [] M bc bs Φ
    refine Ev.aload_n dIf_mustOffer_26 rfl ?_
    refine Ev.getR dIf_mustOffer_27 (Or.inl fIf_15) rfl g1 ?_
    refine Ev.iload dIf_mustOffer_30 rfl ?_
    have g4 := h.1
    replace h := h.2
    have g5 := h.1
    replace h := h.2
    refine Ev.bald2 dIf_mustOffer_32 g4 g5 ?_
    refine Ev.if_ne 67 (by decide) dIf_mustOffer_33 (fun c => ?_) (fun c => ?_)
    · replace h := h.1 c
      exact h
    · replace h := h.2 c
      refine Ev.aload_n dIf_mustOffer_36 rfl ?_
      refine Ev.getR dIf_mustOffer_37 (Or.inl fIf_15) rfl g1 ?_
      refine Ev.iload dIf_mustOffer_40 rfl ?_
      refine Ev.aload_n dIf_mustOffer_42 rfl ?_
      refine Ev.getR dIf_mustOffer_43 (Or.inl fIf_29) rfl g1 ?_
      refine Ev.aload_n dIf_mustOffer_46 rfl ?_
      refine Ev.getR dIf_mustOffer_47 (Or.inl fIf_9) rfl g1 ?_
      refine Ev.bipush (v := 9) dIf_mustOffer_50 (by decide) ?_
      refine Ev.iald2 dIf_mustOffer_52 g2 g3 ?_
      refine Ev.aload_n dIf_mustOffer_53 rfl ?_
      refine Ev.getR dIf_mustOffer_54 (Or.inl fIf_33) rfl g1 ?_
      refine Ev.iload_n dIf_mustOffer_57 rfl ?_
      refine Ev.iload_n dIf_mustOffer_58 rfl ?_
      refine Ev.iload_n dIf_mustOffer_59 rfl ?_
      have g6 := h.1
      replace h := h.2
      exact Ev.vcV (z := mLa_valueOf) (ci := 4) [.int (m_i M (m_r M a0 0) (9 : Int32).toNatClampNeg), .ref (m_r M a0 2), .int x1, .int x2, .int x3] [.int ((((x1 * 8) + x2) * 17) + x3), .ref (m_r M a0 3)] rfl dIf_mustOffer_60 oLa_valueOf rfl w609 iLa_valueOf sLa_valueOf (by decide) rfl g6 (Nat.le_of_ble_eq_true rfl) h
  · replace h := h.2 c
    refine Ev.iconst (v := 0) dIf_mustOffer_11 (by decide) ?_
    exact Ev.iret dIf_mustOffer_12 rfl rfl h
theorem bIf_mustOffer_63 {l : Launch} {G : Gx} {d : Nat} {bc bs : Nat} {Φ : OutV → Mm → Prop} (M : Mm) (a0 : Nat) (x1 : Int32) (x2 : Int32) (x3 : Int32) (x4 : Int32) (r0 : Nat) (s1 : Int32) (s2 : Int32)
    (h : ((m_sh M r0).1 = 21) ∧ (vp_in s1 (m_sh M r0).2) ∧ Ev l G d mIf_mustOffer 67 [.ref a0, .int x1, .int x2, .int x3, .int x4] [] (m_si M r0 s1.toNatClampNeg (vp_nar .byte ((s2 + 1).toInt8.toInt32))) bc bs Φ) :
    Ev l G d mIf_mustOffer 63 [.ref a0, .int x1, .int x2, .int x3, .int x4] [.int s2, .int s1, .ref r0] M bc bs Φ := by
  refine Ev.iconst (v := 1) dIf_mustOffer_63 (by decide) ?_
  refine Ev.iadd dIf_mustOffer_64 ?_
  refine Ev.i2b dIf_mustOffer_65 ?_
  have g1 := h.1
  replace h := h.2
  have g2 := h.1
  replace h := h.2
  refine Ev.bast2 dIf_mustOffer_66 g1 g2 ?_
  exact h
theorem bIf_mustOffer_67 {l : Launch} {G : Gx} {d : Nat} {bc bs : Nat} {Φ : OutV → Mm → Prop} (M : Mm) (a0 : Nat) (x1 : Int32) (x2 : Int32) (x3 : Int32) (x4 : Int32)
    (h : ((m_sh M a0).1 = 3) ∧ ((m_sh M (m_r M a0 3)).1 = 21) ∧ (vp_in x4 (m_sh M (m_r M a0 3)).2) ∧ ((m_i M (m_r M a0 3) x4.toNatClampNeg) = 1 → Φ (.inl (some (.int 0))) M) ∧ (¬ (m_i M (m_r M a0 3) x4.toNatClampNeg) = 1 → Φ (.inl (some (.int 1))) M)) :
    Ev l G d mIf_mustOffer 67 [.ref a0, .int x1, .int x2, .int x3, .int x4] [] M bc bs Φ := by
  refine Ev.aload_n dIf_mustOffer_67 rfl ?_
  have g1 := h.1
  replace h := h.2
  refine Ev.getR dIf_mustOffer_68 (Or.inl fIf_15) rfl g1 ?_
  refine Ev.iload dIf_mustOffer_71 rfl ?_
  have g2 := h.1
  replace h := h.2
  have g3 := h.1
  replace h := h.2
  refine Ev.bald2 dIf_mustOffer_73 g2 g3 ?_
  refine Ev.iconst (v := 1) dIf_mustOffer_74 (by decide) ?_
  refine Ev.icmp_eq 82 (by decide) dIf_mustOffer_75 (fun c => ?_) (fun c => ?_)
  · replace h := h.1 c
    refine Ev.iconst (v := 0) dIf_mustOffer_82 (by decide) ?_
    exact Ev.iret dIf_mustOffer_83 rfl rfl h
  · replace h := h.2 c
    refine Ev.iconst (v := 1) dIf_mustOffer_78 (by decide) ?_
    refine Ev.goto 83 dIf_mustOffer_79 (by decide) ?_
    exact Ev.iret dIf_mustOffer_83 rfl rfl h
def mIf_passWorth : MR := (⟨"BowingRow$InForce", "passWorth", "(III)I"⟩, prog_5_method_6_code, 6, (Option.some .int))
theorem oIf_passWorth : MOK mIf_passWorth 3 := ⟨lwg_of 636 (by decide +kernel) (by decide +kernel), lwg_of 95 (by decide +kernel) (by decide +kernel), ⟨by decide +kernel, by decide +kernel⟩, by decide +kernel, by decide⟩
theorem iIf_passWorth : Cond.instanceMethod mIf_passWorth.1 ∈ lwg := lwg_of 634 (by decide +kernel) (by decide +kernel)
theorem sIf_passWorth : Cond.selects mIf_passWorth.1.cls mIf_passWorth.1 mIf_passWorth.1 ∈ lwg := lwg_of 635 (by decide +kernel) (by decide +kernel)
theorem dIf_passWorth_0 : decode mIf_passWorth.2.1 0 = .ok (.aload_n 0, 1) := by decide +kernel
theorem dIf_passWorth_1 : decode mIf_passWorth.2.1 1 = .ok (.getfield 9, 3) := by decide +kernel
theorem dIf_passWorth_4 : decode mIf_passWorth.2.1 4 = .ok (.bipush 8, 2) := by decide +kernel
theorem dIf_passWorth_6 : decode mIf_passWorth.2.1 6 = .ok (.iaload, 1) := by decide +kernel
theorem dIf_passWorth_7 : decode mIf_passWorth.2.1 7 = .ok (.iconst (-1), 1) := by decide +kernel
theorem dIf_passWorth_8 : decode mIf_passWorth.2.1 8 = .ok (.if_icmp .ne 5, 3) := by decide +kernel
theorem dIf_passWorth_11 : decode mIf_passWorth.2.1 11 = .ok (.iconst 1, 1) := by decide +kernel
theorem dIf_passWorth_12 : decode mIf_passWorth.2.1 12 = .ok (.ireturn, 1) := by decide +kernel
theorem dIf_passWorth_13 : decode mIf_passWorth.2.1 13 = .ok (.iload_n 1, 1) := by decide +kernel
theorem dIf_passWorth_14 : decode mIf_passWorth.2.1 14 = .ok (.bipush 8, 2) := by decide +kernel
theorem dIf_passWorth_16 : decode mIf_passWorth.2.1 16 = .ok (.imul, 1) := by decide +kernel
theorem dIf_passWorth_17 : decode mIf_passWorth.2.1 17 = .ok (.iload_n 2, 1) := by decide +kernel
theorem dIf_passWorth_18 : decode mIf_passWorth.2.1 18 = .ok (.iadd, 1) := by decide +kernel
theorem dIf_passWorth_19 : decode mIf_passWorth.2.1 19 = .ok (.bipush 17, 2) := by decide +kernel
theorem dIf_passWorth_21 : decode mIf_passWorth.2.1 21 = .ok (.imul, 1) := by decide +kernel
theorem dIf_passWorth_22 : decode mIf_passWorth.2.1 22 = .ok (.iload_n 3, 1) := by decide +kernel
theorem dIf_passWorth_23 : decode mIf_passWorth.2.1 23 = .ok (.iadd, 1) := by decide +kernel
theorem dIf_passWorth_24 : decode mIf_passWorth.2.1 24 = .ok (.istore 4, 2) := by decide +kernel
theorem dIf_passWorth_26 : decode mIf_passWorth.2.1 26 = .ok (.aload_n 0, 1) := by decide +kernel
theorem dIf_passWorth_27 : decode mIf_passWorth.2.1 27 = .ok (.getfield 19, 3) := by decide +kernel
theorem dIf_passWorth_30 : decode mIf_passWorth.2.1 30 = .ok (.iload 4, 2) := by decide +kernel
theorem dIf_passWorth_32 : decode mIf_passWorth.2.1 32 = .ok (.baload, 1) := by decide +kernel
theorem dIf_passWorth_33 : decode mIf_passWorth.2.1 33 = .ok (.ifCond .ne 47, 3) := by decide +kernel
theorem dIf_passWorth_36 : decode mIf_passWorth.2.1 36 = .ok (.aload_n 0, 1) := by decide +kernel
theorem dIf_passWorth_37 : decode mIf_passWorth.2.1 37 = .ok (.getfield 29, 3) := by decide +kernel
theorem dIf_passWorth_40 : decode mIf_passWorth.2.1 40 = .ok (.aload_n 0, 1) := by decide +kernel
theorem dIf_passWorth_41 : decode mIf_passWorth.2.1 41 = .ok (.getfield 9, 3) := by decide +kernel
theorem dIf_passWorth_44 : decode mIf_passWorth.2.1 44 = .ok (.bipush 8, 2) := by decide +kernel
theorem dIf_passWorth_46 : decode mIf_passWorth.2.1 46 = .ok (.iaload, 1) := by decide +kernel
theorem dIf_passWorth_47 : decode mIf_passWorth.2.1 47 = .ok (.aload_n 0, 1) := by decide +kernel
theorem dIf_passWorth_48 : decode mIf_passWorth.2.1 48 = .ok (.getfield 33, 3) := by decide +kernel
theorem dIf_passWorth_51 : decode mIf_passWorth.2.1 51 = .ok (.iload_n 1, 1) := by decide +kernel
theorem dIf_passWorth_52 : decode mIf_passWorth.2.1 52 = .ok (.iload_n 2, 1) := by decide +kernel
theorem dIf_passWorth_53 : decode mIf_passWorth.2.1 53 = .ok (.iload_n 3, 1) := by decide +kernel
theorem dIf_passWorth_54 : decode mIf_passWorth.2.1 54 = .ok (.invokevirtual 58, 3) := by decide +kernel
theorem dIf_passWorth_57 : decode mIf_passWorth.2.1 57 = .ok (.istore 5, 2) := by decide +kernel
theorem dIf_passWorth_59 : decode mIf_passWorth.2.1 59 = .ok (.aload_n 0, 1) := by decide +kernel
theorem dIf_passWorth_60 : decode mIf_passWorth.2.1 60 = .ok (.getfield 19, 3) := by decide +kernel
theorem dIf_passWorth_63 : decode mIf_passWorth.2.1 63 = .ok (.iload 4, 2) := by decide +kernel
theorem dIf_passWorth_65 : decode mIf_passWorth.2.1 65 = .ok (.iconst 0, 1) := by decide +kernel
theorem dIf_passWorth_66 : decode mIf_passWorth.2.1 66 = .ok (.bipush 99, 2) := by decide +kernel
theorem dIf_passWorth_68 : decode mIf_passWorth.2.1 68 = .ok (.iload 5, 2) := by decide +kernel
theorem dIf_passWorth_70 : decode mIf_passWorth.2.1 70 = .ok (.invokestatic 62, 3) := by decide +kernel
theorem dIf_passWorth_73 : decode mIf_passWorth.2.1 73 = .ok (.invokestatic 68, 3) := by decide +kernel
theorem dIf_passWorth_76 : decode mIf_passWorth.2.1 76 = .ok (.iconst 1, 1) := by decide +kernel
theorem dIf_passWorth_77 : decode mIf_passWorth.2.1 77 = .ok (.iadd, 1) := by decide +kernel
theorem dIf_passWorth_78 : decode mIf_passWorth.2.1 78 = .ok (.i2b, 1) := by decide +kernel
theorem dIf_passWorth_79 : decode mIf_passWorth.2.1 79 = .ok (.bastore, 1) := by decide +kernel
theorem dIf_passWorth_80 : decode mIf_passWorth.2.1 80 = .ok (.aload_n 0, 1) := by decide +kernel
theorem dIf_passWorth_81 : decode mIf_passWorth.2.1 81 = .ok (.getfield 19, 3) := by decide +kernel
theorem dIf_passWorth_84 : decode mIf_passWorth.2.1 84 = .ok (.iload 4, 2) := by decide +kernel
theorem dIf_passWorth_86 : decode mIf_passWorth.2.1 86 = .ok (.baload, 1) := by decide +kernel
theorem dIf_passWorth_87 : decode mIf_passWorth.2.1 87 = .ok (.iconst 1, 1) := by decide +kernel
theorem dIf_passWorth_88 : decode mIf_passWorth.2.1 88 = .ok (.isub, 1) := by decide +kernel
theorem dIf_passWorth_89 : decode mIf_passWorth.2.1 89 = .ok (.ireturn, 1) := by decide +kernel
theorem bIf_passWorth_0 {l : Launch} {G : Gx} {d : Nat} {bc bs : Nat} {Φ : OutV → Mm → Prop} (M : Mm) (a0 : Nat) (x1 : Int32) (x2 : Int32) (x3 : Int32)
    (h : ((m_sh M a0).1 = 3) ∧ ((m_sh M (m_r M a0 0)).1 = 20) ∧ (vp_in 8 (m_sh M (m_r M a0 0)).2) ∧ (¬ (m_i M (m_r M a0 0) (8 : Int32).toNatClampNeg) = ((-1)) → ((m_sh M (m_r M a0 4)).1 = 21) ∧ (vp_in ((((x1 * 8) + x2) * 17) + x3) (m_sh M (m_r M a0 4)).2) ∧ (¬ (m_i M (m_r M a0 4) ((((x1 * 8) + x2) * 17) + x3).toNatClampNeg) = 0 → Ev l G d mIf_passWorth 80 [.ref a0, .int x1, .int x2, .int x3, .int ((((x1 * 8) + x2) * 17) + x3), .null] [] M bc bs Φ) ∧ ((m_i M (m_r M a0 4) ((((x1 * 8) + x2) * 17) + x3).toNatClampNeg) = 0 → ((m_sh M (m_r M a0 1)).1 = 4) ∧ CallVC l G d mIf_passWorth 57 [.ref a0, .int x1, .int x2, .int x3, .int ((((x1 * 8) + x2) * 17) + x3), .null] [] mLa_valueOf [.ref (m_r M a0 1), .int (m_i M (m_r M a0 0) (8 : Int32).toNatClampNeg), .ref (m_r M a0 2), .int x1, .int x2, .int x3] M bc bs Φ)) ∧ ((m_i M (m_r M a0 0) (8 : Int32).toNatClampNeg) = ((-1)) → Φ (.inl (some (.int 1))) M)) :
    Ev l G d mIf_passWorth 0 [.ref a0, .int x1, .int x2, .int x3, .null, .null] [] M bc bs Φ := by
  refine Ev.aload_n dIf_passWorth_0 rfl ?_
  have g1 := h.1
  replace h := h.2
  refine Ev.getR dIf_passWorth_1 (Or.inl fIf_9) rfl g1 ?_
  refine Ev.bipush (v := 8) dIf_passWorth_4 (by decide) ?_
  have g2 := h.1
  replace h := h.2
  have g3 := h.1
  replace h := h.2
  refine Ev.iald2 dIf_passWorth_6 g2 g3 ?_
  refine Ev.iconst (v := (-1)) dIf_passWorth_7 (by decide) ?_
  refine Ev.icmp_ne 13 (by decide) dIf_passWorth_8 (fun c => ?_) (fun c => ?_)
  · replace h := h.1 c
    refine Ev.iload_n dIf_passWorth_13 rfl ?_
    refine Ev.bipush (v := 8) dIf_passWorth_14 (by decide) ?_
    refine Ev.imul dIf_passWorth_16 ?_
    refine Ev.iload_n dIf_passWorth_17 rfl ?_
    refine Ev.iadd dIf_passWorth_18 ?_
    refine Ev.bipush (v := 17) dIf_passWorth_19 (by decide) ?_
    refine Ev.imul dIf_passWorth_21 ?_
    refine Ev.iload_n dIf_passWorth_22 rfl ?_
    refine Ev.iadd dIf_passWorth_23 ?_
    refine Ev.istore dIf_passWorth_24 (by decide) ?_
    show Ev l G d mIf_passWorth (_ + _) [.ref a0, .int x1, .int x2, .int x3, .int ((((x1 * 8) + x2) * 17) + x3), .null] [] M bc bs Φ
    refine Ev.aload_n dIf_passWorth_26 rfl ?_
    refine Ev.getR dIf_passWorth_27 (Or.inl fIf_19) rfl g1 ?_
    refine Ev.iload dIf_passWorth_30 rfl ?_
    have g4 := h.1
    replace h := h.2
    have g5 := h.1
    replace h := h.2
    refine Ev.bald2 dIf_passWorth_32 g4 g5 ?_
    refine Ev.if_ne 80 (by decide) dIf_passWorth_33 (fun c => ?_) (fun c => ?_)
    · replace h := h.1 c
      exact h
    · replace h := h.2 c
      refine Ev.aload_n dIf_passWorth_36 rfl ?_
      refine Ev.getR dIf_passWorth_37 (Or.inl fIf_29) rfl g1 ?_
      refine Ev.aload_n dIf_passWorth_40 rfl ?_
      refine Ev.getR dIf_passWorth_41 (Or.inl fIf_9) rfl g1 ?_
      refine Ev.bipush (v := 8) dIf_passWorth_44 (by decide) ?_
      refine Ev.iald2 dIf_passWorth_46 g2 g3 ?_
      refine Ev.aload_n dIf_passWorth_47 rfl ?_
      refine Ev.getR dIf_passWorth_48 (Or.inl fIf_33) rfl g1 ?_
      refine Ev.iload_n dIf_passWorth_51 rfl ?_
      refine Ev.iload_n dIf_passWorth_52 rfl ?_
      refine Ev.iload_n dIf_passWorth_53 rfl ?_
      have g6 := h.1
      replace h := h.2
      exact Ev.vcV (z := mLa_valueOf) (ci := 4) [.int (m_i M (m_r M a0 0) (8 : Int32).toNatClampNeg), .ref (m_r M a0 2), .int x1, .int x2, .int x3] [] rfl dIf_passWorth_54 oLa_valueOf rfl w609 iLa_valueOf sLa_valueOf (by decide) rfl g6 (Nat.le_of_ble_eq_true rfl) h
  · replace h := h.2 c
    refine Ev.iconst (v := 1) dIf_passWorth_11 (by decide) ?_
    exact Ev.iret dIf_passWorth_12 rfl rfl h
theorem w637 : Cond.methodLink "BowingRow$InForce" 62 ⟨"java/lang/Math", "min", "(II)I"⟩ ∈ lwg := lwg_of 637 (by decide +kernel) (by decide +kernel)
theorem w640 : Cond.methodLink "BowingRow$InForce" 68 ⟨"java/lang/Math", "max", "(II)I"⟩ ∈ lwg := lwg_of 640 (by decide +kernel) (by decide +kernel)
theorem bIf_passWorth_57 {l : Launch} {G : Gx} {d : Nat} {bc bs : Nat} {Φ : OutV → Mm → Prop} (M : Mm) (a0 : Nat) (x1 : Int32) (x2 : Int32) (x3 : Int32) (x4 : Int32) (u5 : Value) (s0 : Int32)
    (h : ((m_sh M a0).1 = 3) ∧ (1 ≤ d) ∧ ((m_sh M (m_r M a0 4)).1 = 21) ∧ (vp_in x4 (m_sh M (m_r M a0 4)).2) ∧ Ev l G d mIf_passWorth 80 [.ref a0, .int x1, .int x2, .int x3, .int x4, .int s0] [] (m_si M (m_r M a0 4) x4.toNatClampNeg (vp_nar .byte (((if (0 : Int32) < (if s0 < 99 then s0 else 99) then (if s0 < 99 then s0 else 99) else 0) + 1).toInt8.toInt32))) bc bs Φ) :
    Ev l G d mIf_passWorth 57 [.ref a0, .int x1, .int x2, .int x3, .int x4, u5] [.int s0] M bc bs Φ := by
  refine Ev.istore dIf_passWorth_57 (by decide) ?_
  show Ev l G d mIf_passWorth (_ + _) [.ref a0, .int x1, .int x2, .int x3, .int x4, .int s0] [] M bc bs Φ
  refine Ev.aload_n dIf_passWorth_59 rfl ?_
  have g1 := h.1
  replace h := h.2
  refine Ev.getR dIf_passWorth_60 (Or.inl fIf_19) rfl g1 ?_
  refine Ev.iload dIf_passWorth_63 rfl ?_
  refine Ev.iconst (v := 0) dIf_passWorth_65 (by decide) ?_
  refine Ev.bipush (v := 99) dIf_passWorth_66 (by decide) ?_
  refine Ev.iload dIf_passWorth_68 rfl ?_
  have g2 := h.1
  replace h := h.2
  refine Ev.mmin dIf_passWorth_70 w637 w_min_s w115 w_min_c (Nat.le_of_ble_eq_true rfl) g2 ?_
  refine Ev.mmax dIf_passWorth_73 w640 w_max_s w115 w_max_c (Nat.le_of_ble_eq_true rfl) g2 ?_
  refine Ev.iconst (v := 1) dIf_passWorth_76 (by decide) ?_
  refine Ev.iadd dIf_passWorth_77 ?_
  refine Ev.i2b dIf_passWorth_78 ?_
  have g3 := h.1
  replace h := h.2
  have g4 := h.1
  replace h := h.2
  refine Ev.bast2 dIf_passWorth_79 g3 g4 ?_
  exact h
theorem bIf_passWorth_80 {l : Launch} {G : Gx} {d : Nat} {bc bs : Nat} {Φ : OutV → Mm → Prop} (M : Mm) (a0 : Nat) (x1 : Int32) (x2 : Int32) (x3 : Int32) (x4 : Int32) (u5 : Value)
    (h : ((m_sh M a0).1 = 3) ∧ ((m_sh M (m_r M a0 4)).1 = 21) ∧ (vp_in x4 (m_sh M (m_r M a0 4)).2) ∧ Φ (.inl (some (.int ((m_i M (m_r M a0 4) x4.toNatClampNeg) - 1)))) M) :
    Ev l G d mIf_passWorth 80 [.ref a0, .int x1, .int x2, .int x3, .int x4, u5] [] M bc bs Φ := by
  refine Ev.aload_n dIf_passWorth_80 rfl ?_
  have g1 := h.1
  replace h := h.2
  refine Ev.getR dIf_passWorth_81 (Or.inl fIf_19) rfl g1 ?_
  refine Ev.iload dIf_passWorth_84 rfl ?_
  have g2 := h.1
  replace h := h.2
  have g3 := h.1
  replace h := h.2
  refine Ev.bald2 dIf_passWorth_86 g2 g3 ?_
  refine Ev.iconst (v := 1) dIf_passWorth_87 (by decide) ?_
  refine Ev.isub dIf_passWorth_88 ?_
  exact Ev.iret dIf_passWorth_89 rfl rfl h
def mIf_take : MR := (⟨"BowingRow$InForce", "take", "(LBowingRow$Law;LBowingRow$People;I)V"⟩, prog_5_method_3_code, 6, none)
theorem oIf_take : MOK mIf_take 3 := ⟨lwg_of 664 (by decide +kernel) (by decide +kernel), lwg_of 95 (by decide +kernel) (by decide +kernel), ⟨by decide +kernel, by decide +kernel⟩, by decide +kernel, by decide⟩
theorem iIf_take : Cond.instanceMethod mIf_take.1 ∈ lwg := lwg_of 662 (by decide +kernel) (by decide +kernel)
theorem sIf_take : Cond.selects mIf_take.1.cls mIf_take.1 mIf_take.1 ∈ lwg := lwg_of 663 (by decide +kernel) (by decide +kernel)
theorem dIf_take_0 : decode mIf_take.2.1 0 = .ok (.aload_n 0, 1) := by decide +kernel
theorem dIf_take_1 : decode mIf_take.2.1 1 = .ok (.aload_n 1, 1) := by decide +kernel
theorem dIf_take_2 : decode mIf_take.2.1 2 = .ok (.putfield 29, 3) := by decide +kernel
theorem dIf_take_5 : decode mIf_take.2.1 5 = .ok (.aload_n 0, 1) := by decide +kernel
theorem dIf_take_6 : decode mIf_take.2.1 6 = .ok (.aload_n 2, 1) := by decide +kernel
theorem dIf_take_7 : decode mIf_take.2.1 7 = .ok (.putfield 33, 3) := by decide +kernel
theorem dIf_take_10 : decode mIf_take.2.1 10 = .ok (.aload_n 0, 1) := by decide +kernel
theorem dIf_take_11 : decode mIf_take.2.1 11 = .ok (.invokevirtual 37, 3) := by decide +kernel
theorem dIf_take_14 : decode mIf_take.2.1 14 = .ok (.iconst 0, 1) := by decide +kernel
theorem dIf_take_15 : decode mIf_take.2.1 15 = .ok (.istore 4, 2) := by decide +kernel
theorem dIf_take_17 : decode mIf_take.2.1 17 = .ok (.iload 4, 2) := by decide +kernel
theorem dIf_take_19 : decode mIf_take.2.1 19 = .ok (.aload_n 1, 1) := by decide +kernel
theorem dIf_take_20 : decode mIf_take.2.1 20 = .ok (.getfield 46, 3) := by decide +kernel
theorem dIf_take_23 : decode mIf_take.2.1 23 = .ok (.if_icmp .ge 60, 3) := by decide +kernel
theorem dIf_take_26 : decode mIf_take.2.1 26 = .ok (.aload_n 1, 1) := by decide +kernel
theorem dIf_take_27 : decode mIf_take.2.1 27 = .ok (.getfield 51, 3) := by decide +kernel
theorem dIf_take_30 : decode mIf_take.2.1 30 = .ok (.iload 4, 2) := by decide +kernel
theorem dIf_take_32 : decode mIf_take.2.1 32 = .ok (.iaload, 1) := by decide +kernel
theorem dIf_take_33 : decode mIf_take.2.1 33 = .ok (.istore 5, 2) := by decide +kernel
theorem dIf_take_35 : decode mIf_take.2.1 35 = .ok (.iload_n 3, 1) := by decide +kernel
theorem dIf_take_36 : decode mIf_take.2.1 36 = .ok (.iload 4, 2) := by decide +kernel
theorem dIf_take_38 : decode mIf_take.2.1 38 = .ok (.ishr, 1) := by decide +kernel
theorem dIf_take_39 : decode mIf_take.2.1 39 = .ok (.iconst 1, 1) := by decide +kernel
theorem dIf_take_40 : decode mIf_take.2.1 40 = .ok (.iand, 1) := by decide +kernel
theorem dIf_take_41 : decode mIf_take.2.1 41 = .ok (.ifCond .ne 36, 3) := by decide +kernel
theorem dIf_take_44 : decode mIf_take.2.1 44 = .ok (.aload_n 0, 1) := by decide +kernel
theorem dIf_take_45 : decode mIf_take.2.1 45 = .ok (.getfield 9, 3) := by decide +kernel
theorem dIf_take_48 : decode mIf_take.2.1 48 = .ok (.iload 5, 2) := by decide +kernel
theorem dIf_take_50 : decode mIf_take.2.1 50 = .ok (.iload 5, 2) := by decide +kernel
theorem dIf_take_52 : decode mIf_take.2.1 52 = .ok (.bipush 8, 2) := by decide +kernel
theorem dIf_take_54 : decode mIf_take.2.1 54 = .ok (.if_icmp .eq 10, 3) := by decide +kernel
theorem dIf_take_57 : decode mIf_take.2.1 57 = .ok (.iload 5, 2) := by decide +kernel
theorem dIf_take_59 : decode mIf_take.2.1 59 = .ok (.bipush 9, 2) := by decide +kernel
theorem dIf_take_61 : decode mIf_take.2.1 61 = .ok (.if_icmp .ne 8, 3) := by decide +kernel
theorem dIf_take_64 : decode mIf_take.2.1 64 = .ok (.iload 4, 2) := by decide +kernel
theorem dIf_take_66 : decode mIf_take.2.1 66 = .ok (.goto 10, 3) := by decide +kernel
theorem dIf_take_69 : decode mIf_take.2.1 69 = .ok (.aload_n 1, 1) := by decide +kernel
theorem dIf_take_70 : decode mIf_take.2.1 70 = .ok (.getfield 54, 3) := by decide +kernel
theorem dIf_take_73 : decode mIf_take.2.1 73 = .ok (.iload 4, 2) := by decide +kernel
theorem dIf_take_75 : decode mIf_take.2.1 75 = .ok (.iaload, 1) := by decide +kernel
theorem dIf_take_76 : decode mIf_take.2.1 76 = .ok (.iastore, 1) := by decide +kernel
theorem dIf_take_77 : decode mIf_take.2.1 77 = .ok (.iinc 4 1, 3) := by decide +kernel
theorem dIf_take_80 : decode mIf_take.2.1 80 = .ok (.goto (-63), 3) := by decide +kernel
theorem dIf_take_83 : decode mIf_take.2.1 83 = .ok (.aload_n 0, 1) := by decide +kernel
theorem dIf_take_84 : decode mIf_take.2.1 84 = .ok (.getfield 9, 3) := by decide +kernel
theorem dIf_take_87 : decode mIf_take.2.1 87 = .ok (.bipush 9, 2) := by decide +kernel
theorem dIf_take_89 : decode mIf_take.2.1 89 = .ok (.iaload, 1) := by decide +kernel
theorem dIf_take_90 : decode mIf_take.2.1 90 = .ok (.aload_n 0, 1) := by decide +kernel
theorem dIf_take_91 : decode mIf_take.2.1 91 = .ok (.getfield 22, 3) := by decide +kernel
theorem dIf_take_94 : decode mIf_take.2.1 94 = .ok (.if_icmp .eq 22, 3) := by decide +kernel
theorem dIf_take_97 : decode mIf_take.2.1 97 = .ok (.aload_n 0, 1) := by decide +kernel
theorem dIf_take_98 : decode mIf_take.2.1 98 = .ok (.getfield 15, 3) := by decide +kernel
theorem dIf_take_101 : decode mIf_take.2.1 101 = .ok (.iconst 0, 1) := by decide +kernel
theorem dIf_take_102 : decode mIf_take.2.1 102 = .ok (.invokestatic 55, 3) := by decide +kernel
theorem dIf_take_105 : decode mIf_take.2.1 105 = .ok (.aload_n 0, 1) := by decide +kernel
theorem dIf_take_106 : decode mIf_take.2.1 106 = .ok (.aload_n 0, 1) := by decide +kernel
theorem dIf_take_107 : decode mIf_take.2.1 107 = .ok (.getfield 9, 3) := by decide +kernel
theorem dIf_take_110 : decode mIf_take.2.1 110 = .ok (.bipush 9, 2) := by decide +kernel
theorem dIf_take_112 : decode mIf_take.2.1 112 = .ok (.iaload, 1) := by decide +kernel
theorem dIf_take_113 : decode mIf_take.2.1 113 = .ok (.putfield 22, 3) := by decide +kernel
theorem dIf_take_116 : decode mIf_take.2.1 116 = .ok (.aload_n 0, 1) := by decide +kernel
theorem dIf_take_117 : decode mIf_take.2.1 117 = .ok (.getfield 9, 3) := by decide +kernel
theorem dIf_take_120 : decode mIf_take.2.1 120 = .ok (.bipush 8, 2) := by decide +kernel
theorem dIf_take_122 : decode mIf_take.2.1 122 = .ok (.iaload, 1) := by decide +kernel
theorem dIf_take_123 : decode mIf_take.2.1 123 = .ok (.aload_n 0, 1) := by decide +kernel
theorem dIf_take_124 : decode mIf_take.2.1 124 = .ok (.getfield 26, 3) := by decide +kernel
theorem dIf_take_127 : decode mIf_take.2.1 127 = .ok (.if_icmp .eq 22, 3) := by decide +kernel
theorem dIf_take_130 : decode mIf_take.2.1 130 = .ok (.aload_n 0, 1) := by decide +kernel
theorem dIf_take_131 : decode mIf_take.2.1 131 = .ok (.getfield 19, 3) := by decide +kernel
theorem dIf_take_134 : decode mIf_take.2.1 134 = .ok (.iconst 0, 1) := by decide +kernel
theorem dIf_take_135 : decode mIf_take.2.1 135 = .ok (.invokestatic 55, 3) := by decide +kernel
theorem dIf_take_138 : decode mIf_take.2.1 138 = .ok (.aload_n 0, 1) := by decide +kernel
theorem dIf_take_139 : decode mIf_take.2.1 139 = .ok (.aload_n 0, 1) := by decide +kernel
theorem dIf_take_140 : decode mIf_take.2.1 140 = .ok (.getfield 9, 3) := by decide +kernel
theorem dIf_take_143 : decode mIf_take.2.1 143 = .ok (.bipush 8, 2) := by decide +kernel
theorem dIf_take_145 : decode mIf_take.2.1 145 = .ok (.iaload, 1) := by decide +kernel
theorem dIf_take_146 : decode mIf_take.2.1 146 = .ok (.putfield 26, 3) := by decide +kernel
theorem dIf_take_149 : decode mIf_take.2.1 149 = .ok (.return_, 1) := by decide +kernel
theorem bIf_take_0 {l : Launch} {G : Gx} {d : Nat} {bc bs : Nat} {Φ : OutV → Mm → Prop} (M : Mm) (a0 : Nat) (a1 : Nat) (a2 : Nat) (x3 : Int32)
    (h : ((m_sh M a0).1 = 3) ∧ Ev l G d mIf_take 10 [.ref a0, .ref a1, .ref a2, .int x3, .null, .null] [] (m_sr (m_sr M a0 1 a1) a0 2 a2) bc bs Φ) :
    Ev l G d mIf_take 0 [.ref a0, .ref a1, .ref a2, .int x3, .null, .null] [] M bc bs Φ := by
  refine Ev.aload_n dIf_take_0 rfl ?_
  refine Ev.aload_n dIf_take_1 rfl ?_
  have g1 := h.1
  replace h := h.2
  refine Ev.putR dIf_take_2 ⟨_, Or.inl ⟨fIf_29, (fun h => by cases h)⟩⟩ rfl (fun ad => fitR (by first | exact Or.inl ⟨_, rfl⟩ | exact Or.inr ⟨_, rfl⟩) _ ad) g1 ?_
  refine Ev.aload_n dIf_take_5 rfl ?_
  refine Ev.aload_n dIf_take_6 rfl ?_
  refine Ev.putR dIf_take_7 ⟨_, Or.inl ⟨fIf_33, (fun h => by cases h)⟩⟩ rfl (fun ad => fitR (by first | exact Or.inl ⟨_, rfl⟩ | exact Or.inr ⟨_, rfl⟩) _ ad) g1 ?_
  exact h
theorem bIf_take_10 {l : Launch} {G : Gx} {d : Nat} {bc bs : Nat} {Φ : OutV → Mm → Prop} (M : Mm) (a0 : Nat) (a1 : Nat) (a2 : Nat) (x3 : Int32) (u4 : Value) (u5 : Value)
    (h : ((m_sh M a0).1 = 3) ∧ CallVC l G d mIf_take 14 [.ref a0, .ref a1, .ref a2, .int x3, u4, u5] [] mIf_setWithout [.ref a0] M bc bs Φ) :
    Ev l G d mIf_take 10 [.ref a0, .ref a1, .ref a2, .int x3, u4, u5] [] M bc bs Φ := by
  refine Ev.aload_n dIf_take_10 rfl ?_
  have g1 := h.1
  replace h := h.2
  exact Ev.vcV (z := mIf_setWithout) (ci := 3) [] [] rfl dIf_take_11 oIf_setWithout rfl w230 iIf_setWithout sIf_setWithout (by decide) rfl g1 (Nat.le_of_ble_eq_true rfl) h
theorem bIf_take_14 {l : Launch} {G : Gx} {d : Nat} {bc bs : Nat} {Φ : OutV → Mm → Prop} (M : Mm) (a0 : Nat) (a1 : Nat) (a2 : Nat) (x3 : Int32) (u4 : Value) (u5 : Value)
    (h : Ev l G d mIf_take 17 [.ref a0, .ref a1, .ref a2, .int x3, .int 0, u5] [] M bc bs Φ) :
    Ev l G d mIf_take 14 [.ref a0, .ref a1, .ref a2, .int x3, u4, u5] [] M bc bs Φ := by
  refine Ev.iconst (v := 0) dIf_take_14 (by decide) ?_
  refine Ev.istore dIf_take_15 (by decide) ?_
  show Ev l G d mIf_take (_ + _) [.ref a0, .ref a1, .ref a2, .int x3, .int 0, u5] [] M bc bs Φ
  exact h
theorem fIf_46 : FOK "BowingRow$InForce" 46 4 7 false := ⟨RX4, TX4, nFd 4, rfl, by decide, rfl, by decide, rfl, lwg_of 205 (by decide +kernel) (by decide +kernel)⟩
theorem w665 : Cond.methodLink "BowingRow$InForce" 55 ⟨"java/util/Arrays", "fill", "([BB)V"⟩ ∈ lwg := lwg_of 665 (by decide +kernel) (by decide +kernel)
theorem fIf_51 : FON "BowingRow$InForce" 51 4 0 true := ⟨RX4, TX4, nFd 4, "BowingRow", rfl, by decide, rfl, by decide, rfl, lwx_of 195 (by decide +kernel) (by decide +kernel)⟩
theorem fIf_54 : FON "BowingRow$InForce" 54 4 1 true := ⟨RX4, TX4, nFd 4, "BowingRow", rfl, by decide, rfl, by decide, rfl, lwx_of 197 (by decide +kernel) (by decide +kernel)⟩
theorem bIf_take_17 {l : Launch} {G : Gx} {d : Nat} {bc bs : Nat} {Φ : OutV → Mm → Prop} (M : Mm) (a0 : Nat) (a1 : Nat) (a2 : Nat) (x3 : Int32) (x4 : Int32) (u5 : Value)
    (h : ((m_sh M a1).1 = 4) ∧ ((m_i M a1 7) ≤ x4 → ((m_sh M a0).1 = 3) ∧ ((m_sh M (m_r M a0 0)).1 = 20) ∧ (vp_in 9 (m_sh M (m_r M a0 0)).2) ∧ ((m_i M (m_r M a0 0) (9 : Int32).toNatClampNeg) = (m_i M a0 5) → Ev l G d mIf_take 116 [.ref a0, .ref a1, .ref a2, .int x3, .int x4, u5] [] M bc bs Φ) ∧ (¬ (m_i M (m_r M a0 0) (9 : Int32).toNatClampNeg) = (m_i M a0 5) → CallVC l G d mIf_take 105 [.ref a0, .ref a1, .ref a2, .int x3, .int x4, u5] [] mjA_fill_2 [.ref (m_r M a0 3), .int 0] M bc bs Φ)) ∧ (¬ (m_i M a1 7) ≤ x4 → ((m_sh M (m_r M a1 0)).1 = 20) ∧ (vp_in x4 (m_sh M (m_r M a1 0)).2) ∧ (¬ ((x3 >>> (x4 &&& 31)) &&& 1) = 0 → Ev l G d mIf_take 77 [.ref a0, .ref a1, .ref a2, .int x3, .int x4, .int (m_i M (m_r M a1 0) x4.toNatClampNeg)] [] M bc bs Φ) ∧ (((x3 >>> (x4 &&& 31)) &&& 1) = 0 → ((m_sh M a0).1 = 3) ∧ ((m_i M (m_r M a1 0) x4.toNatClampNeg) = 8 → ((m_sh M (m_r M a0 0)).1 = 20) ∧ (vp_in (m_i M (m_r M a1 0) x4.toNatClampNeg) (m_sh M (m_r M a0 0)).2) ∧ Ev l G d mIf_take 77 [.ref a0, .ref a1, .ref a2, .int x3, .int x4, .int (m_i M (m_r M a1 0) x4.toNatClampNeg)] [] (m_si M (m_r M a0 0) (m_i M (m_r M a1 0) x4.toNatClampNeg).toNatClampNeg x4) bc bs Φ) ∧ (¬ (m_i M (m_r M a1 0) x4.toNatClampNeg) = 8 → (¬ (m_i M (m_r M a1 0) x4.toNatClampNeg) = 9 → ((m_sh M (m_r M a1 1)).1 = 20) ∧ (vp_in x4 (m_sh M (m_r M a1 1)).2) ∧ ((m_sh M (m_r M a0 0)).1 = 20) ∧ (vp_in (m_i M (m_r M a1 0) x4.toNatClampNeg) (m_sh M (m_r M a0 0)).2) ∧ Ev l G d mIf_take 77 [.ref a0, .ref a1, .ref a2, .int x3, .int x4, .int (m_i M (m_r M a1 0) x4.toNatClampNeg)] [] (m_si M (m_r M a0 0) (m_i M (m_r M a1 0) x4.toNatClampNeg).toNatClampNeg (m_i M (m_r M a1 1) x4.toNatClampNeg)) bc bs Φ) ∧ ((m_i M (m_r M a1 0) x4.toNatClampNeg) = 9 → ((m_sh M (m_r M a0 0)).1 = 20) ∧ (vp_in (m_i M (m_r M a1 0) x4.toNatClampNeg) (m_sh M (m_r M a0 0)).2) ∧ Ev l G d mIf_take 77 [.ref a0, .ref a1, .ref a2, .int x3, .int x4, .int (m_i M (m_r M a1 0) x4.toNatClampNeg)] [] (m_si M (m_r M a0 0) (m_i M (m_r M a1 0) x4.toNatClampNeg).toNatClampNeg x4) bc bs Φ))))) :
    Ev l G d mIf_take 17 [.ref a0, .ref a1, .ref a2, .int x3, .int x4, u5] [] M bc bs Φ := by
  refine Ev.iload dIf_take_17 rfl ?_
  refine Ev.aload_n dIf_take_19 rfl ?_
  have g1 := h.1
  replace h := h.2
  refine Ev.getI dIf_take_20 (Or.inl fIf_46) rfl g1 ?_
  refine Ev.icmp_ge 83 (by decide) dIf_take_23 (fun c => ?_) (fun c => ?_)
  · replace h := h.1 c
    refine Ev.aload_n dIf_take_83 rfl ?_
    have g2 := h.1
    replace h := h.2
    refine Ev.getR dIf_take_84 (Or.inl fIf_9) rfl g2 ?_
    refine Ev.bipush (v := 9) dIf_take_87 (by decide) ?_
    have g3 := h.1
    replace h := h.2
    have g4 := h.1
    replace h := h.2
    refine Ev.iald2 dIf_take_89 g3 g4 ?_
    refine Ev.aload_n dIf_take_90 rfl ?_
    refine Ev.getI dIf_take_91 (Or.inl fIf_22) rfl g2 ?_
    refine Ev.icmp_eq 116 (by decide) dIf_take_94 (fun c => ?_) (fun c => ?_)
    · replace h := h.1 c
      exact h
    · replace h := h.2 c
      refine Ev.aload_n dIf_take_97 rfl ?_
      refine Ev.getR dIf_take_98 (Or.inl fIf_15) rfl g2 ?_
      refine Ev.iconst (v := 0) dIf_take_101 (by decide) ?_
      exact Ev.vcS (z := mjA_fill_2) [.ref (m_r M a0 3), .int 0] [] rfl dIf_take_102 ojA_fill_2 rfl w665 ijA_fill_2 (Nat.le_of_ble_eq_true rfl) h
  · replace h := h.2 c
    refine Ev.aload_n dIf_take_26 rfl ?_
    refine Ev.getR dIf_take_27 (Or.inr fIf_51) rfl g1 ?_
    refine Ev.iload dIf_take_30 rfl ?_
    have g5 := h.1
    replace h := h.2
    have g6 := h.1
    replace h := h.2
    refine Ev.iald2 dIf_take_32 g5 g6 ?_
    refine Ev.istore dIf_take_33 (by decide) ?_
    show Ev l G d mIf_take (_ + _) [.ref a0, .ref a1, .ref a2, .int x3, .int x4, .int (m_i M (m_r M a1 0) x4.toNatClampNeg)] [] M bc bs Φ
    refine Ev.iload_n dIf_take_35 rfl ?_
    refine Ev.iload dIf_take_36 rfl ?_
    refine Ev.ishr dIf_take_38 ?_
    refine Ev.iconst (v := 1) dIf_take_39 (by decide) ?_
    refine Ev.iand dIf_take_40 ?_
    refine Ev.if_ne 77 (by decide) dIf_take_41 (fun c => ?_) (fun c => ?_)
    · replace h := h.1 c
      exact h
    · replace h := h.2 c
      refine Ev.aload_n dIf_take_44 rfl ?_
      have g7 := h.1
      replace h := h.2
      refine Ev.getR dIf_take_45 (Or.inl fIf_9) rfl g7 ?_
      refine Ev.iload dIf_take_48 rfl ?_
      refine Ev.iload dIf_take_50 rfl ?_
      refine Ev.bipush (v := 8) dIf_take_52 (by decide) ?_
      refine Ev.icmp_eq 64 (by decide) dIf_take_54 (fun c => ?_) (fun c => ?_)
      · replace h := h.1 c
        refine Ev.iload dIf_take_64 rfl ?_
        refine Ev.goto 76 dIf_take_66 (by decide) ?_
        have g8 := h.1
        replace h := h.2
        have g9 := h.1
        replace h := h.2
        refine Ev.iast2 dIf_take_76 g8 g9 ?_
        exact h
      · replace h := h.2 c
        refine Ev.iload dIf_take_57 rfl ?_
        refine Ev.bipush (v := 9) dIf_take_59 (by decide) ?_
        refine Ev.icmp_ne 69 (by decide) dIf_take_61 (fun c => ?_) (fun c => ?_)
        · replace h := h.1 c
          refine Ev.aload_n dIf_take_69 rfl ?_
          refine Ev.getR dIf_take_70 (Or.inr fIf_54) rfl g1 ?_
          refine Ev.iload dIf_take_73 rfl ?_
          have g10 := h.1
          replace h := h.2
          have g11 := h.1
          replace h := h.2
          refine Ev.iald2 dIf_take_75 g10 g11 ?_
          have g12 := h.1
          replace h := h.2
          have g13 := h.1
          replace h := h.2
          refine Ev.iast2 dIf_take_76 g12 g13 ?_
          exact h
        · replace h := h.2 c
          refine Ev.iload dIf_take_64 rfl ?_
          refine Ev.goto 76 dIf_take_66 (by decide) ?_
          have g14 := h.1
          replace h := h.2
          have g15 := h.1
          replace h := h.2
          refine Ev.iast2 dIf_take_76 g14 g15 ?_
          exact h
theorem bIf_take_77 {l : Launch} {G : Gx} {d : Nat} {bc bs : Nat} {Φ : OutV → Mm → Prop} (M : Mm) (a0 : Nat) (a1 : Nat) (a2 : Nat) (x3 : Int32) (x4 : Int32) (x5 : Int32)
    (h : Ev l G d mIf_take 17 [.ref a0, .ref a1, .ref a2, .int x3, .int (x4 + 1), .int x5] [] M bc bs Φ) :
    Ev l G d mIf_take 77 [.ref a0, .ref a1, .ref a2, .int x3, .int x4, .int x5] [] M bc bs Φ := by
  refine Ev.iinc (v := x4 + 1) dIf_take_77 (by decide) rfl rfl ?_
  show Ev l G d mIf_take (_ + _) [.ref a0, .ref a1, .ref a2, .int x3, .int (x4 + 1), .int x5] [] M bc bs Φ
  refine Ev.goto 17 dIf_take_80 (by decide) ?_
  exact h
theorem bIf_take_105 {l : Launch} {G : Gx} {d : Nat} {bc bs : Nat} {Φ : OutV → Mm → Prop} (M : Mm) (a0 : Nat) (a1 : Nat) (a2 : Nat) (x3 : Int32) (x4 : Int32) (u5 : Value)
    (h : ((m_sh M a0).1 = 3) ∧ ((m_sh M (m_r M a0 0)).1 = 20) ∧ (vp_in 9 (m_sh M (m_r M a0 0)).2) ∧ Ev l G d mIf_take 116 [.ref a0, .ref a1, .ref a2, .int x3, .int x4, u5] [] (m_si M a0 5 (m_i M (m_r M a0 0) (9 : Int32).toNatClampNeg)) bc bs Φ) :
    Ev l G d mIf_take 105 [.ref a0, .ref a1, .ref a2, .int x3, .int x4, u5] [] M bc bs Φ := by
  refine Ev.aload_n dIf_take_105 rfl ?_
  refine Ev.aload_n dIf_take_106 rfl ?_
  have g1 := h.1
  replace h := h.2
  refine Ev.getR dIf_take_107 (Or.inl fIf_9) rfl g1 ?_
  refine Ev.bipush (v := 9) dIf_take_110 (by decide) ?_
  have g2 := h.1
  replace h := h.2
  have g3 := h.1
  replace h := h.2
  refine Ev.iald2 dIf_take_112 g2 g3 ?_
  refine Ev.putI dIf_take_113 ⟨_, Or.inl ⟨fIf_22, (fun h => by cases h)⟩⟩ rfl ⟨rfl, rfl⟩ g1 ?_
  exact h
theorem bIf_take_116 {l : Launch} {G : Gx} {d : Nat} {bc bs : Nat} {Φ : OutV → Mm → Prop} (M : Mm) (a0 : Nat) (a1 : Nat) (a2 : Nat) (x3 : Int32) (x4 : Int32) (u5 : Value)
    (h : ((m_sh M a0).1 = 3) ∧ ((m_sh M (m_r M a0 0)).1 = 20) ∧ (vp_in 8 (m_sh M (m_r M a0 0)).2) ∧ ((m_i M (m_r M a0 0) (8 : Int32).toNatClampNeg) = (m_i M a0 6) → Φ (.inl none) M) ∧ (¬ (m_i M (m_r M a0 0) (8 : Int32).toNatClampNeg) = (m_i M a0 6) → CallVC l G d mIf_take 138 [.ref a0, .ref a1, .ref a2, .int x3, .int x4, u5] [] mjA_fill_2 [.ref (m_r M a0 4), .int 0] M bc bs Φ)) :
    Ev l G d mIf_take 116 [.ref a0, .ref a1, .ref a2, .int x3, .int x4, u5] [] M bc bs Φ := by
  refine Ev.aload_n dIf_take_116 rfl ?_
  have g1 := h.1
  replace h := h.2
  refine Ev.getR dIf_take_117 (Or.inl fIf_9) rfl g1 ?_
  refine Ev.bipush (v := 8) dIf_take_120 (by decide) ?_
  have g2 := h.1
  replace h := h.2
  have g3 := h.1
  replace h := h.2
  refine Ev.iald2 dIf_take_122 g2 g3 ?_
  refine Ev.aload_n dIf_take_123 rfl ?_
  refine Ev.getI dIf_take_124 (Or.inl fIf_26) rfl g1 ?_
  refine Ev.icmp_eq 149 (by decide) dIf_take_127 (fun c => ?_) (fun c => ?_)
  · replace h := h.1 c
    exact Ev.vret dIf_take_149 rfl h
  · replace h := h.2 c
    refine Ev.aload_n dIf_take_130 rfl ?_
    refine Ev.getR dIf_take_131 (Or.inl fIf_19) rfl g1 ?_
    refine Ev.iconst (v := 0) dIf_take_134 (by decide) ?_
    exact Ev.vcS (z := mjA_fill_2) [.ref (m_r M a0 4), .int 0] [] rfl dIf_take_135 ojA_fill_2 rfl w665 ijA_fill_2 (Nat.le_of_ble_eq_true rfl) h
theorem bIf_take_138 {l : Launch} {G : Gx} {d : Nat} {bc bs : Nat} {Φ : OutV → Mm → Prop} (M : Mm) (a0 : Nat) (a1 : Nat) (a2 : Nat) (x3 : Int32) (x4 : Int32) (u5 : Value)
    (h : ((m_sh M a0).1 = 3) ∧ ((m_sh M (m_r M a0 0)).1 = 20) ∧ (vp_in 8 (m_sh M (m_r M a0 0)).2) ∧ Φ (.inl none) (m_si M a0 6 (m_i M (m_r M a0 0) (8 : Int32).toNatClampNeg))) :
    Ev l G d mIf_take 138 [.ref a0, .ref a1, .ref a2, .int x3, .int x4, u5] [] M bc bs Φ := by
  refine Ev.aload_n dIf_take_138 rfl ?_
  refine Ev.aload_n dIf_take_139 rfl ?_
  have g1 := h.1
  replace h := h.2
  refine Ev.getR dIf_take_140 (Or.inl fIf_9) rfl g1 ?_
  refine Ev.bipush (v := 8) dIf_take_143 (by decide) ?_
  have g2 := h.1
  replace h := h.2
  have g3 := h.1
  replace h := h.2
  refine Ev.iald2 dIf_take_145 g2 g3 ?_
  refine Ev.putI dIf_take_146 ⟨_, Or.inl ⟨fIf_26, (fun h => by cases h)⟩⟩ rfl ⟨rfl, rfl⟩ g1 ?_
  exact Ev.vret dIf_take_149 rfl h
def mIf_forgetAnswers : MR := (⟨"BowingRow$InForce", "forgetAnswers", "()V"⟩, prog_5_method_4_code, 1, none)
theorem oIf_forgetAnswers : MOK mIf_forgetAnswers 0 := ⟨lwg_of 931 (by decide +kernel) (by decide +kernel), lwg_of 95 (by decide +kernel) (by decide +kernel), ⟨by decide +kernel, by decide +kernel⟩, by decide +kernel, by decide⟩
theorem iIf_forgetAnswers : Cond.instanceMethod mIf_forgetAnswers.1 ∈ lwg := lwg_of 929 (by decide +kernel) (by decide +kernel)
theorem sIf_forgetAnswers : Cond.selects mIf_forgetAnswers.1.cls mIf_forgetAnswers.1 mIf_forgetAnswers.1 ∈ lwg := lwg_of 930 (by decide +kernel) (by decide +kernel)
theorem dIf_forgetAnswers_0 : decode mIf_forgetAnswers.2.1 0 = .ok (.aload_n 0, 1) := by decide +kernel
theorem dIf_forgetAnswers_1 : decode mIf_forgetAnswers.2.1 1 = .ok (.getfield 15, 3) := by decide +kernel
theorem dIf_forgetAnswers_4 : decode mIf_forgetAnswers.2.1 4 = .ok (.iconst 0, 1) := by decide +kernel
theorem dIf_forgetAnswers_5 : decode mIf_forgetAnswers.2.1 5 = .ok (.invokestatic 55, 3) := by decide +kernel
theorem dIf_forgetAnswers_8 : decode mIf_forgetAnswers.2.1 8 = .ok (.aload_n 0, 1) := by decide +kernel
theorem dIf_forgetAnswers_9 : decode mIf_forgetAnswers.2.1 9 = .ok (.getfield 19, 3) := by decide +kernel
theorem dIf_forgetAnswers_12 : decode mIf_forgetAnswers.2.1 12 = .ok (.iconst 0, 1) := by decide +kernel
theorem dIf_forgetAnswers_13 : decode mIf_forgetAnswers.2.1 13 = .ok (.invokestatic 55, 3) := by decide +kernel
theorem dIf_forgetAnswers_16 : decode mIf_forgetAnswers.2.1 16 = .ok (.return_, 1) := by decide +kernel
theorem bIf_forgetAnswers_0 {l : Launch} {G : Gx} {d : Nat} {bc bs : Nat} {Φ : OutV → Mm → Prop} (M : Mm) (a0 : Nat)
    (h : ((m_sh M a0).1 = 3) ∧ CallVC l G d mIf_forgetAnswers 8 [.ref a0] [] mjA_fill_2 [.ref (m_r M a0 3), .int 0] M bc bs Φ) :
    Ev l G d mIf_forgetAnswers 0 [.ref a0] [] M bc bs Φ := by
  refine Ev.aload_n dIf_forgetAnswers_0 rfl ?_
  have g1 := h.1
  replace h := h.2
  refine Ev.getR dIf_forgetAnswers_1 (Or.inl fIf_15) rfl g1 ?_
  refine Ev.iconst (v := 0) dIf_forgetAnswers_4 (by decide) ?_
  exact Ev.vcS (z := mjA_fill_2) [.ref (m_r M a0 3), .int 0] [] rfl dIf_forgetAnswers_5 ojA_fill_2 rfl w665 ijA_fill_2 (Nat.le_of_ble_eq_true rfl) h
theorem bIf_forgetAnswers_8 {l : Launch} {G : Gx} {d : Nat} {bc bs : Nat} {Φ : OutV → Mm → Prop} (M : Mm) (a0 : Nat)
    (h : ((m_sh M a0).1 = 3) ∧ CallVC l G d mIf_forgetAnswers 16 [.ref a0] [] mjA_fill_2 [.ref (m_r M a0 4), .int 0] M bc bs Φ) :
    Ev l G d mIf_forgetAnswers 8 [.ref a0] [] M bc bs Φ := by
  refine Ev.aload_n dIf_forgetAnswers_8 rfl ?_
  have g1 := h.1
  replace h := h.2
  refine Ev.getR dIf_forgetAnswers_9 (Or.inl fIf_19) rfl g1 ?_
  refine Ev.iconst (v := 0) dIf_forgetAnswers_12 (by decide) ?_
  exact Ev.vcS (z := mjA_fill_2) [.ref (m_r M a0 4), .int 0] [] rfl dIf_forgetAnswers_13 ojA_fill_2 rfl w665 ijA_fill_2 (Nat.le_of_ble_eq_true rfl) h
theorem bIf_forgetAnswers_16 {l : Launch} {G : Gx} {d : Nat} {bc bs : Nat} {Φ : OutV → Mm → Prop} (M : Mm) (a0 : Nat)
    (h : Φ (.inl none) M) :
    Ev l G d mIf_forgetAnswers 16 [.ref a0] [] M bc bs Φ := by
  exact Ev.vret dIf_forgetAnswers_16 rfl h
