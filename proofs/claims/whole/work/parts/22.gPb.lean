def mPb_init : MR := (⟨"BowingRow$PassBook", "<init>", "()V"⟩, prog_7_method_1_code, 1, none)
theorem oPb_init : MOK mPb_init 0 := ⟨lwg_of 273 (by decide +kernel) (by decide +kernel), lwg_of 98 (by decide +kernel) (by decide +kernel), ⟨by decide +kernel, by decide +kernel⟩, by decide +kernel, by decide⟩
theorem iPb_init : Cond.instanceMethod mPb_init.1 ∈ lwg := lwg_of 272 (by decide +kernel) (by decide +kernel)
theorem dPb_init_0 : decode mPb_init.2.1 0 = .ok (.aload_n 0, 1) := by decide +kernel
theorem dPb_init_1 : decode mPb_init.2.1 1 = .ok (.invokespecial 3, 3) := by decide +kernel
theorem dPb_init_4 : decode mPb_init.2.1 4 = .ok (.aload_n 0, 1) := by decide +kernel
theorem dPb_init_5 : decode mPb_init.2.1 5 = .ok (.bipush 28, 2) := by decide +kernel
theorem dPb_init_7 : decode mPb_init.2.1 7 = .ok (.newarray .int, 2) := by decide +kernel
theorem dPb_init_9 : decode mPb_init.2.1 9 = .ok (.putfield 11, 3) := by decide +kernel
theorem dPb_init_12 : decode mPb_init.2.1 12 = .ok (.aload_n 0, 1) := by decide +kernel
theorem dPb_init_13 : decode mPb_init.2.1 13 = .ok (.bipush 28, 2) := by decide +kernel
theorem dPb_init_15 : decode mPb_init.2.1 15 = .ok (.newarray .int, 2) := by decide +kernel
theorem dPb_init_17 : decode mPb_init.2.1 17 = .ok (.putfield 15, 3) := by decide +kernel
theorem dPb_init_20 : decode mPb_init.2.1 20 = .ok (.aload_n 0, 1) := by decide +kernel
theorem dPb_init_21 : decode mPb_init.2.1 21 = .ok (.bipush 28, 2) := by decide +kernel
theorem dPb_init_23 : decode mPb_init.2.1 23 = .ok (.newarray .int, 2) := by decide +kernel
theorem dPb_init_25 : decode mPb_init.2.1 25 = .ok (.putfield 18, 3) := by decide +kernel
theorem dPb_init_28 : decode mPb_init.2.1 28 = .ok (.aload_n 0, 1) := by decide +kernel
theorem dPb_init_29 : decode mPb_init.2.1 29 = .ok (.bipush 28, 2) := by decide +kernel
theorem dPb_init_31 : decode mPb_init.2.1 31 = .ok (.newarray .int, 2) := by decide +kernel
theorem dPb_init_33 : decode mPb_init.2.1 33 = .ok (.putfield 21, 3) := by decide +kernel
theorem dPb_init_36 : decode mPb_init.2.1 36 = .ok (.aload_n 0, 1) := by decide +kernel
theorem dPb_init_37 : decode mPb_init.2.1 37 = .ok (.bipush 64, 2) := by decide +kernel
theorem dPb_init_39 : decode mPb_init.2.1 39 = .ok (.newarray .int, 2) := by decide +kernel
theorem dPb_init_41 : decode mPb_init.2.1 41 = .ok (.putfield 24, 3) := by decide +kernel
theorem dPb_init_44 : decode mPb_init.2.1 44 = .ok (.aload_n 0, 1) := by decide +kernel
theorem dPb_init_45 : decode mPb_init.2.1 45 = .ok (.bipush 8, 2) := by decide +kernel
theorem dPb_init_47 : decode mPb_init.2.1 47 = .ok (.newarray .int, 2) := by decide +kernel
theorem dPb_init_49 : decode mPb_init.2.1 49 = .ok (.putfield 27, 3) := by decide +kernel
theorem dPb_init_52 : decode mPb_init.2.1 52 = .ok (.return_, 1) := by decide +kernel
theorem w274 : Cond.methodLink "BowingRow$PassBook" 3 ⟨"java/lang/Object", "<init>", "()V"⟩ ∈ lwg := lwg_of 274 (by decide +kernel) (by decide +kernel)
theorem w126 : Cond.instanceMethod ⟨"java/lang/Object", "<init>", "()V"⟩ ∈ lwg := lwg_of 126 (by decide +kernel) (by decide +kernel)
theorem w164 : Cond.arrayClass .int ∈ lwg := lwg_of 164 (by decide +kernel) (by decide +kernel)
theorem fPb_11 : FOK "BowingRow$PassBook" 11 5 0 true := ⟨RX5, TX5, nFd 5, rfl, by decide, rfl, by decide, rfl, lwg_of 275 (by decide +kernel) (by decide +kernel)⟩
theorem bPb_init_0 {l : Launch} {G : Gx} {d : Nat} {bc bs : Nat} {Φ : OutV → Mm → Prop} (M : Mm) (a0 : Nat)
    (h : (a0 ≠ 0 ∧ 1 ≤ d) ∧ (1 ≤ bc ∧ 28 ≤ bs) ∧ ((m_sh (m_al M (20, 28)) a0).1 = 5) ∧ Ev l G d mPb_init 12 [.ref a0] [] (m_sr (m_al M (20, 28)) a0 0 (m_nx M)) (bc - 1) (bs - 28) Φ) :
    Ev l G d mPb_init 0 [.ref a0] [] M bc bs Φ := by
  refine Ev.aload_n dPb_init_0 rfl ?_
  have g1 := h.1
  replace h := h.2
  refine Ev.objInit dPb_init_1 w274 w_oi w_oc (Nat.le_of_ble_eq_true rfl) g1.2 g1.1 ?_
  refine Ev.aload_n dPb_init_4 rfl ?_
  refine Ev.bipush (v := 28) dPb_init_5 (by decide) ?_
  have g2 := h.1
  replace h := h.2
  refine Ev.newI2 28 dPb_init_7 w164 (by decide) (by decide) (by decide) g2 ?_
  have g3 := h.1
  replace h := h.2
  refine Ev.putR dPb_init_9 ⟨_, Or.inl ⟨fPb_11, (fun _ => ⟨rfl, fun r hr => by cases hr; rfl⟩)⟩⟩ rfl (fun ad => fitR (by first | exact Or.inl ⟨_, rfl⟩ | exact Or.inr ⟨_, rfl⟩) _ ad) g3 ?_
  exact h
theorem fPb_15 : FOK "BowingRow$PassBook" 15 5 1 true := ⟨RX5, TX5, nFd 5, rfl, by decide, rfl, by decide, rfl, lwg_of 276 (by decide +kernel) (by decide +kernel)⟩
theorem bPb_init_12 {l : Launch} {G : Gx} {d : Nat} {bc bs : Nat} {Φ : OutV → Mm → Prop} (M : Mm) (a0 : Nat)
    (h : (1 ≤ bc ∧ 28 ≤ bs) ∧ ((m_sh (m_al M (20, 28)) a0).1 = 5) ∧ Ev l G d mPb_init 20 [.ref a0] [] (m_sr (m_al M (20, 28)) a0 1 (m_nx M)) (bc - 1) (bs - 28) Φ) :
    Ev l G d mPb_init 12 [.ref a0] [] M bc bs Φ := by
  refine Ev.aload_n dPb_init_12 rfl ?_
  refine Ev.bipush (v := 28) dPb_init_13 (by decide) ?_
  have g1 := h.1
  replace h := h.2
  refine Ev.newI2 28 dPb_init_15 w164 (by decide) (by decide) (by decide) g1 ?_
  have g2 := h.1
  replace h := h.2
  refine Ev.putR dPb_init_17 ⟨_, Or.inl ⟨fPb_15, (fun _ => ⟨rfl, fun r hr => by cases hr; rfl⟩)⟩⟩ rfl (fun ad => fitR (by first | exact Or.inl ⟨_, rfl⟩ | exact Or.inr ⟨_, rfl⟩) _ ad) g2 ?_
  exact h
theorem fPb_18 : FOK "BowingRow$PassBook" 18 5 2 true := ⟨RX5, TX5, nFd 5, rfl, by decide, rfl, by decide, rfl, lwg_of 277 (by decide +kernel) (by decide +kernel)⟩
theorem bPb_init_20 {l : Launch} {G : Gx} {d : Nat} {bc bs : Nat} {Φ : OutV → Mm → Prop} (M : Mm) (a0 : Nat)
    (h : (1 ≤ bc ∧ 28 ≤ bs) ∧ ((m_sh (m_al M (20, 28)) a0).1 = 5) ∧ Ev l G d mPb_init 28 [.ref a0] [] (m_sr (m_al M (20, 28)) a0 2 (m_nx M)) (bc - 1) (bs - 28) Φ) :
    Ev l G d mPb_init 20 [.ref a0] [] M bc bs Φ := by
  refine Ev.aload_n dPb_init_20 rfl ?_
  refine Ev.bipush (v := 28) dPb_init_21 (by decide) ?_
  have g1 := h.1
  replace h := h.2
  refine Ev.newI2 28 dPb_init_23 w164 (by decide) (by decide) (by decide) g1 ?_
  have g2 := h.1
  replace h := h.2
  refine Ev.putR dPb_init_25 ⟨_, Or.inl ⟨fPb_18, (fun _ => ⟨rfl, fun r hr => by cases hr; rfl⟩)⟩⟩ rfl (fun ad => fitR (by first | exact Or.inl ⟨_, rfl⟩ | exact Or.inr ⟨_, rfl⟩) _ ad) g2 ?_
  exact h
theorem fPb_21 : FOK "BowingRow$PassBook" 21 5 3 true := ⟨RX5, TX5, nFd 5, rfl, by decide, rfl, by decide, rfl, lwg_of 278 (by decide +kernel) (by decide +kernel)⟩
theorem bPb_init_28 {l : Launch} {G : Gx} {d : Nat} {bc bs : Nat} {Φ : OutV → Mm → Prop} (M : Mm) (a0 : Nat)
    (h : (1 ≤ bc ∧ 28 ≤ bs) ∧ ((m_sh (m_al M (20, 28)) a0).1 = 5) ∧ Ev l G d mPb_init 36 [.ref a0] [] (m_sr (m_al M (20, 28)) a0 3 (m_nx M)) (bc - 1) (bs - 28) Φ) :
    Ev l G d mPb_init 28 [.ref a0] [] M bc bs Φ := by
  refine Ev.aload_n dPb_init_28 rfl ?_
  refine Ev.bipush (v := 28) dPb_init_29 (by decide) ?_
  have g1 := h.1
  replace h := h.2
  refine Ev.newI2 28 dPb_init_31 w164 (by decide) (by decide) (by decide) g1 ?_
  have g2 := h.1
  replace h := h.2
  refine Ev.putR dPb_init_33 ⟨_, Or.inl ⟨fPb_21, (fun _ => ⟨rfl, fun r hr => by cases hr; rfl⟩)⟩⟩ rfl (fun ad => fitR (by first | exact Or.inl ⟨_, rfl⟩ | exact Or.inr ⟨_, rfl⟩) _ ad) g2 ?_
  exact h
theorem fPb_24 : FOK "BowingRow$PassBook" 24 5 4 true := ⟨RX5, TX5, nFd 5, rfl, by decide, rfl, by decide, rfl, lwg_of 279 (by decide +kernel) (by decide +kernel)⟩
theorem bPb_init_36 {l : Launch} {G : Gx} {d : Nat} {bc bs : Nat} {Φ : OutV → Mm → Prop} (M : Mm) (a0 : Nat)
    (h : (1 ≤ bc ∧ 64 ≤ bs) ∧ ((m_sh (m_al M (20, 64)) a0).1 = 5) ∧ Ev l G d mPb_init 44 [.ref a0] [] (m_sr (m_al M (20, 64)) a0 4 (m_nx M)) (bc - 1) (bs - 64) Φ) :
    Ev l G d mPb_init 36 [.ref a0] [] M bc bs Φ := by
  refine Ev.aload_n dPb_init_36 rfl ?_
  refine Ev.bipush (v := 64) dPb_init_37 (by decide) ?_
  have g1 := h.1
  replace h := h.2
  refine Ev.newI2 64 dPb_init_39 w164 (by decide) (by decide) (by decide) g1 ?_
  have g2 := h.1
  replace h := h.2
  refine Ev.putR dPb_init_41 ⟨_, Or.inl ⟨fPb_24, (fun _ => ⟨rfl, fun r hr => by cases hr; rfl⟩)⟩⟩ rfl (fun ad => fitR (by first | exact Or.inl ⟨_, rfl⟩ | exact Or.inr ⟨_, rfl⟩) _ ad) g2 ?_
  exact h
theorem fPb_27 : FOK "BowingRow$PassBook" 27 5 5 true := ⟨RX5, TX5, nFd 5, rfl, by decide, rfl, by decide, rfl, lwg_of 280 (by decide +kernel) (by decide +kernel)⟩
theorem bPb_init_44 {l : Launch} {G : Gx} {d : Nat} {bc bs : Nat} {Φ : OutV → Mm → Prop} (M : Mm) (a0 : Nat)
    (h : (1 ≤ bc ∧ 8 ≤ bs) ∧ ((m_sh (m_al M (20, 8)) a0).1 = 5) ∧ Ev l G d mPb_init 52 [.ref a0] [] (m_sr (m_al M (20, 8)) a0 5 (m_nx M)) (bc - 1) (bs - 8) Φ) :
    Ev l G d mPb_init 44 [.ref a0] [] M bc bs Φ := by
  refine Ev.aload_n dPb_init_44 rfl ?_
  refine Ev.bipush (v := 8) dPb_init_45 (by decide) ?_
  have g1 := h.1
  replace h := h.2
  refine Ev.newI2 8 dPb_init_47 w164 (by decide) (by decide) (by decide) g1 ?_
  have g2 := h.1
  replace h := h.2
  refine Ev.putR dPb_init_49 ⟨_, Or.inl ⟨fPb_27, (fun _ => ⟨rfl, fun r hr => by cases hr; rfl⟩)⟩⟩ rfl (fun ad => fitR (by first | exact Or.inl ⟨_, rfl⟩ | exact Or.inr ⟨_, rfl⟩) _ ad) g2 ?_
  exact h
theorem bPb_init_52 {l : Launch} {G : Gx} {d : Nat} {bc bs : Nat} {Φ : OutV → Mm → Prop} (M : Mm) (a0 : Nat)
    (h : Φ (.inl none) M) :
    Ev l G d mPb_init 52 [.ref a0] [] M bc bs Φ := by
  exact Ev.vret dPb_init_52 rfl h
def mPb_balanceAt : MR := (⟨"BowingRow$PassBook", "balanceAt", "(II)V"⟩, prog_7_method_3_code, 4, none)
theorem oPb_balanceAt : MOK mPb_balanceAt 2 := ⟨lwg_of 591 (by decide +kernel) (by decide +kernel), lwg_of 98 (by decide +kernel) (by decide +kernel), ⟨by decide +kernel, by decide +kernel⟩, by decide +kernel, by decide⟩
theorem iPb_balanceAt : Cond.instanceMethod mPb_balanceAt.1 ∈ lwg := lwg_of 589 (by decide +kernel) (by decide +kernel)
theorem sPb_balanceAt : Cond.selects mPb_balanceAt.1.cls mPb_balanceAt.1 mPb_balanceAt.1 ∈ lwg := lwg_of 590 (by decide +kernel) (by decide +kernel)
theorem dPb_balanceAt_0 : decode mPb_balanceAt.2.1 0 = .ok (.aload_n 0, 1) := by decide +kernel
theorem dPb_balanceAt_1 : decode mPb_balanceAt.2.1 1 = .ok (.getfield 27, 3) := by decide +kernel
theorem dPb_balanceAt_4 : decode mPb_balanceAt.2.1 4 = .ok (.iconst 0, 1) := by decide +kernel
theorem dPb_balanceAt_5 : decode mPb_balanceAt.2.1 5 = .ok (.invokestatic 34, 3) := by decide +kernel
theorem dPb_balanceAt_8 : decode mPb_balanceAt.2.1 8 = .ok (.iconst 0, 1) := by decide +kernel
theorem dPb_balanceAt_9 : decode mPb_balanceAt.2.1 9 = .ok (.istore_n 3, 1) := by decide +kernel
theorem dPb_balanceAt_10 : decode mPb_balanceAt.2.1 10 = .ok (.iload_n 3, 1) := by decide +kernel
theorem dPb_balanceAt_11 : decode mPb_balanceAt.2.1 11 = .ok (.aload_n 0, 1) := by decide +kernel
theorem dPb_balanceAt_12 : decode mPb_balanceAt.2.1 12 = .ok (.getfield 30, 3) := by decide +kernel
theorem dPb_balanceAt_15 : decode mPb_balanceAt.2.1 15 = .ok (.if_icmp .ge 66, 3) := by decide +kernel
theorem dPb_balanceAt_18 : decode mPb_balanceAt.2.1 18 = .ok (.iload_n 2, 1) := by decide +kernel
theorem dPb_balanceAt_19 : decode mPb_balanceAt.2.1 19 = .ok (.iconst (-1), 1) := by decide +kernel
theorem dPb_balanceAt_20 : decode mPb_balanceAt.2.1 20 = .ok (.if_icmp .eq 15, 3) := by decide +kernel
theorem dPb_balanceAt_23 : decode mPb_balanceAt.2.1 23 = .ok (.iload_n 1, 1) := by decide +kernel
theorem dPb_balanceAt_24 : decode mPb_balanceAt.2.1 24 = .ok (.aload_n 0, 1) := by decide +kernel
theorem dPb_balanceAt_25 : decode mPb_balanceAt.2.1 25 = .ok (.getfield 21, 3) := by decide +kernel
theorem dPb_balanceAt_28 : decode mPb_balanceAt.2.1 28 = .ok (.iload_n 3, 1) := by decide +kernel
theorem dPb_balanceAt_29 : decode mPb_balanceAt.2.1 29 = .ok (.iaload, 1) := by decide +kernel
theorem dPb_balanceAt_30 : decode mPb_balanceAt.2.1 30 = .ok (.isub, 1) := by decide +kernel
theorem dPb_balanceAt_31 : decode mPb_balanceAt.2.1 31 = .ok (.iload_n 2, 1) := by decide +kernel
theorem dPb_balanceAt_32 : decode mPb_balanceAt.2.1 32 = .ok (.if_icmp .gt 43, 3) := by decide +kernel
theorem dPb_balanceAt_35 : decode mPb_balanceAt.2.1 35 = .ok (.aload_n 0, 1) := by decide +kernel
theorem dPb_balanceAt_36 : decode mPb_balanceAt.2.1 36 = .ok (.getfield 27, 3) := by decide +kernel
theorem dPb_balanceAt_39 : decode mPb_balanceAt.2.1 39 = .ok (.aload_n 0, 1) := by decide +kernel
theorem dPb_balanceAt_40 : decode mPb_balanceAt.2.1 40 = .ok (.getfield 11, 3) := by decide +kernel
theorem dPb_balanceAt_43 : decode mPb_balanceAt.2.1 43 = .ok (.iload_n 3, 1) := by decide +kernel
theorem dPb_balanceAt_44 : decode mPb_balanceAt.2.1 44 = .ok (.iaload, 1) := by decide +kernel
theorem dPb_balanceAt_45 : decode mPb_balanceAt.2.1 45 = .ok (.dup2, 1) := by decide +kernel
theorem dPb_balanceAt_46 : decode mPb_balanceAt.2.1 46 = .ok (.iaload, 1) := by decide +kernel
theorem dPb_balanceAt_47 : decode mPb_balanceAt.2.1 47 = .ok (.aload_n 0, 1) := by decide +kernel
theorem dPb_balanceAt_48 : decode mPb_balanceAt.2.1 48 = .ok (.getfield 18, 3) := by decide +kernel
theorem dPb_balanceAt_51 : decode mPb_balanceAt.2.1 51 = .ok (.iload_n 3, 1) := by decide +kernel
theorem dPb_balanceAt_52 : decode mPb_balanceAt.2.1 52 = .ok (.iaload, 1) := by decide +kernel
theorem dPb_balanceAt_53 : decode mPb_balanceAt.2.1 53 = .ok (.iadd, 1) := by decide +kernel
theorem dPb_balanceAt_54 : decode mPb_balanceAt.2.1 54 = .ok (.iastore, 1) := by decide +kernel
theorem dPb_balanceAt_55 : decode mPb_balanceAt.2.1 55 = .ok (.aload_n 0, 1) := by decide +kernel
theorem dPb_balanceAt_56 : decode mPb_balanceAt.2.1 56 = .ok (.getfield 27, 3) := by decide +kernel
theorem dPb_balanceAt_59 : decode mPb_balanceAt.2.1 59 = .ok (.aload_n 0, 1) := by decide +kernel
theorem dPb_balanceAt_60 : decode mPb_balanceAt.2.1 60 = .ok (.getfield 15, 3) := by decide +kernel
theorem dPb_balanceAt_63 : decode mPb_balanceAt.2.1 63 = .ok (.iload_n 3, 1) := by decide +kernel
theorem dPb_balanceAt_64 : decode mPb_balanceAt.2.1 64 = .ok (.iaload, 1) := by decide +kernel
theorem dPb_balanceAt_65 : decode mPb_balanceAt.2.1 65 = .ok (.dup2, 1) := by decide +kernel
theorem dPb_balanceAt_66 : decode mPb_balanceAt.2.1 66 = .ok (.iaload, 1) := by decide +kernel
theorem dPb_balanceAt_67 : decode mPb_balanceAt.2.1 67 = .ok (.aload_n 0, 1) := by decide +kernel
theorem dPb_balanceAt_68 : decode mPb_balanceAt.2.1 68 = .ok (.getfield 18, 3) := by decide +kernel
theorem dPb_balanceAt_71 : decode mPb_balanceAt.2.1 71 = .ok (.iload_n 3, 1) := by decide +kernel
theorem dPb_balanceAt_72 : decode mPb_balanceAt.2.1 72 = .ok (.iaload, 1) := by decide +kernel
theorem dPb_balanceAt_73 : decode mPb_balanceAt.2.1 73 = .ok (.isub, 1) := by decide +kernel
theorem dPb_balanceAt_74 : decode mPb_balanceAt.2.1 74 = .ok (.iastore, 1) := by decide +kernel
theorem dPb_balanceAt_75 : decode mPb_balanceAt.2.1 75 = .ok (.iinc 3 1, 3) := by decide +kernel
theorem dPb_balanceAt_78 : decode mPb_balanceAt.2.1 78 = .ok (.goto (-68), 3) := by decide +kernel
theorem dPb_balanceAt_81 : decode mPb_balanceAt.2.1 81 = .ok (.return_, 1) := by decide +kernel
theorem w592 : Cond.methodLink "BowingRow$PassBook" 34 ⟨"java/util/Arrays", "fill", "([II)V"⟩ ∈ lwg := lwg_of 592 (by decide +kernel) (by decide +kernel)
theorem bPb_balanceAt_0 {l : Launch} {G : Gx} {d : Nat} {bc bs : Nat} {Φ : OutV → Mm → Prop} (M : Mm) (a0 : Nat) (x1 : Int32) (x2 : Int32)
    (h : ((m_sh M a0).1 = 5) ∧ CallVC l G d mPb_balanceAt 8 [.ref a0, .int x1, .int x2, .null] [] mjA_fill [.ref (m_r M a0 5), .int 0] M bc bs Φ) :
    Ev l G d mPb_balanceAt 0 [.ref a0, .int x1, .int x2, .null] [] M bc bs Φ := by
  refine Ev.aload_n dPb_balanceAt_0 rfl ?_
  have g1 := h.1
  replace h := h.2
  refine Ev.getR dPb_balanceAt_1 (Or.inl fPb_27) rfl g1 ?_
  refine Ev.iconst (v := 0) dPb_balanceAt_4 (by decide) ?_
  exact Ev.vcS (z := mjA_fill) [.ref (m_r M a0 5), .int 0] [] rfl dPb_balanceAt_5 ojA_fill rfl w592 ijA_fill (Nat.le_of_ble_eq_true rfl) h
theorem bPb_balanceAt_8 {l : Launch} {G : Gx} {d : Nat} {bc bs : Nat} {Φ : OutV → Mm → Prop} (M : Mm) (a0 : Nat) (x1 : Int32) (x2 : Int32) (u3 : Value)
    (h : Ev l G d mPb_balanceAt 10 [.ref a0, .int x1, .int x2, .int 0] [] M bc bs Φ) :
    Ev l G d mPb_balanceAt 8 [.ref a0, .int x1, .int x2, u3] [] M bc bs Φ := by
  refine Ev.iconst (v := 0) dPb_balanceAt_8 (by decide) ?_
  refine Ev.istore_n dPb_balanceAt_9 (by decide) ?_
  show Ev l G d mPb_balanceAt (_ + _) [.ref a0, .int x1, .int x2, .int 0] [] M bc bs Φ
  exact h
theorem fPb_30 : FOK "BowingRow$PassBook" 30 5 6 false := ⟨RX5, TX5, nFd 5, rfl, by decide, rfl, by decide, rfl, lwg_of 283 (by decide +kernel) (by decide +kernel)⟩
theorem bPb_balanceAt_10 {l : Launch} {G : Gx} {d : Nat} {bc bs : Nat} {Φ : OutV → Mm → Prop} (M : Mm) (a0 : Nat) (x1 : Int32) (x2 : Int32) (x3 : Int32)
    (h : ((m_sh M a0).1 = 5) ∧ ((m_i M a0 6) ≤ x3 → Φ (.inl none) M) ∧ (¬ (m_i M a0 6) ≤ x3 → (x2 = ((-1)) → Ev l G d mPb_balanceAt 35 [.ref a0, .int x1, .int x2, .int x3] [] M bc bs Φ) ∧ (¬ x2 = ((-1)) → ((m_sh M (m_r M a0 3)).1 = 20) ∧ (vp_in x3 (m_sh M (m_r M a0 3)).2) ∧ (x2 < (x1 - (m_i M (m_r M a0 3) x3.toNatClampNeg)) → Ev l G d mPb_balanceAt 75 [.ref a0, .int x1, .int x2, .int x3] [] M bc bs Φ) ∧ (¬ x2 < (x1 - (m_i M (m_r M a0 3) x3.toNatClampNeg)) → Ev l G d mPb_balanceAt 35 [.ref a0, .int x1, .int x2, .int x3] [] M bc bs Φ)))) :
    Ev l G d mPb_balanceAt 10 [.ref a0, .int x1, .int x2, .int x3] [] M bc bs Φ := by
  refine Ev.iload_n dPb_balanceAt_10 rfl ?_
  refine Ev.aload_n dPb_balanceAt_11 rfl ?_
  have g1 := h.1
  replace h := h.2
  refine Ev.getI dPb_balanceAt_12 (Or.inl fPb_30) rfl g1 ?_
  refine Ev.icmp_ge 81 (by decide) dPb_balanceAt_15 (fun c => ?_) (fun c => ?_)
  · replace h := h.1 c
    exact Ev.vret dPb_balanceAt_81 rfl h
  · replace h := h.2 c
    refine Ev.iload_n dPb_balanceAt_18 rfl ?_
    refine Ev.iconst (v := (-1)) dPb_balanceAt_19 (by decide) ?_
    refine Ev.icmp_eq 35 (by decide) dPb_balanceAt_20 (fun c => ?_) (fun c => ?_)
    · replace h := h.1 c
      exact h
    · replace h := h.2 c
      refine Ev.iload_n dPb_balanceAt_23 rfl ?_
      refine Ev.aload_n dPb_balanceAt_24 rfl ?_
      refine Ev.getR dPb_balanceAt_25 (Or.inl fPb_21) rfl g1 ?_
      refine Ev.iload_n dPb_balanceAt_28 rfl ?_
      have g2 := h.1
      replace h := h.2
      have g3 := h.1
      replace h := h.2
      refine Ev.iald2 dPb_balanceAt_29 g2 g3 ?_
      refine Ev.isub dPb_balanceAt_30 ?_
      refine Ev.iload_n dPb_balanceAt_31 rfl ?_
      refine Ev.icmp_gt 75 (by decide) dPb_balanceAt_32 (fun c => ?_) (fun c => ?_)
      · replace h := h.1 c
        exact h
      · replace h := h.2 c
        exact h
theorem bPb_balanceAt_35 {l : Launch} {G : Gx} {d : Nat} {bc bs : Nat} {Φ : OutV → Mm → Prop} (M : Mm) (a0 : Nat) (x1 : Int32) (x2 : Int32) (x3 : Int32)
    (h : ((m_sh M a0).1 = 5) ∧ ((m_sh M (m_r M a0 0)).1 = 20) ∧ (vp_in x3 (m_sh M (m_r M a0 0)).2) ∧ ((m_sh M (m_r M a0 5)).1 = 20) ∧ (vp_in (m_i M (m_r M a0 0) x3.toNatClampNeg) (m_sh M (m_r M a0 5)).2) ∧ ((m_sh M (m_r M a0 2)).1 = 20) ∧ (vp_in x3 (m_sh M (m_r M a0 2)).2) ∧ ((m_sh M (m_r M a0 1)).1 = 20) ∧ (vp_in x3 (m_sh M (m_r M a0 1)).2) ∧ (vp_in (m_i (m_si M (m_r M a0 5) (m_i M (m_r M a0 0) x3.toNatClampNeg).toNatClampNeg ((m_i M (m_r M a0 5) (m_i M (m_r M a0 0) x3.toNatClampNeg).toNatClampNeg) + (m_i M (m_r M a0 2) x3.toNatClampNeg))) (m_r M a0 1) x3.toNatClampNeg) (m_sh M (m_r M a0 5)).2) ∧ Ev l G d mPb_balanceAt 75 [.ref a0, .int x1, .int x2, .int x3] [] (m_si (m_si M (m_r M a0 5) (m_i M (m_r M a0 0) x3.toNatClampNeg).toNatClampNeg ((m_i M (m_r M a0 5) (m_i M (m_r M a0 0) x3.toNatClampNeg).toNatClampNeg) + (m_i M (m_r M a0 2) x3.toNatClampNeg))) (m_r M a0 5) (m_i (m_si M (m_r M a0 5) (m_i M (m_r M a0 0) x3.toNatClampNeg).toNatClampNeg ((m_i M (m_r M a0 5) (m_i M (m_r M a0 0) x3.toNatClampNeg).toNatClampNeg) + (m_i M (m_r M a0 2) x3.toNatClampNeg))) (m_r M a0 1) x3.toNatClampNeg).toNatClampNeg ((m_i (m_si M (m_r M a0 5) (m_i M (m_r M a0 0) x3.toNatClampNeg).toNatClampNeg ((m_i M (m_r M a0 5) (m_i M (m_r M a0 0) x3.toNatClampNeg).toNatClampNeg) + (m_i M (m_r M a0 2) x3.toNatClampNeg))) (m_r M a0 5) (m_i (m_si M (m_r M a0 5) (m_i M (m_r M a0 0) x3.toNatClampNeg).toNatClampNeg ((m_i M (m_r M a0 5) (m_i M (m_r M a0 0) x3.toNatClampNeg).toNatClampNeg) + (m_i M (m_r M a0 2) x3.toNatClampNeg))) (m_r M a0 1) x3.toNatClampNeg).toNatClampNeg) - (m_i (m_si M (m_r M a0 5) (m_i M (m_r M a0 0) x3.toNatClampNeg).toNatClampNeg ((m_i M (m_r M a0 5) (m_i M (m_r M a0 0) x3.toNatClampNeg).toNatClampNeg) + (m_i M (m_r M a0 2) x3.toNatClampNeg))) (m_r M a0 2) x3.toNatClampNeg))) bc bs Φ) :
    Ev l G d mPb_balanceAt 35 [.ref a0, .int x1, .int x2, .int x3] [] M bc bs Φ := by
  refine Ev.aload_n dPb_balanceAt_35 rfl ?_
  have g1 := h.1
  replace h := h.2
  refine Ev.getR dPb_balanceAt_36 (Or.inl fPb_27) rfl g1 ?_
  refine Ev.aload_n dPb_balanceAt_39 rfl ?_
  refine Ev.getR dPb_balanceAt_40 (Or.inl fPb_11) rfl g1 ?_
  refine Ev.iload_n dPb_balanceAt_43 rfl ?_
  have g2 := h.1
  replace h := h.2
  have g3 := h.1
  replace h := h.2
  refine Ev.iald2 dPb_balanceAt_44 g2 g3 ?_
  refine Ev.dup2 dPb_balanceAt_45 rfl rfl ?_
  have g4 := h.1
  replace h := h.2
  have g5 := h.1
  replace h := h.2
  refine Ev.iald2 dPb_balanceAt_46 g4 g5 ?_
  refine Ev.aload_n dPb_balanceAt_47 rfl ?_
  refine Ev.getR dPb_balanceAt_48 (Or.inl fPb_18) rfl g1 ?_
  refine Ev.iload_n dPb_balanceAt_51 rfl ?_
  have g6 := h.1
  replace h := h.2
  have g7 := h.1
  replace h := h.2
  refine Ev.iald2 dPb_balanceAt_52 g6 g7 ?_
  refine Ev.iadd dPb_balanceAt_53 ?_
  refine Ev.iast2 dPb_balanceAt_54 g4 g5 ?_
  refine Ev.aload_n dPb_balanceAt_55 rfl ?_
  refine Ev.getR dPb_balanceAt_56 (Or.inl fPb_27) rfl g1 ?_
  refine Ev.aload_n dPb_balanceAt_59 rfl ?_
  refine Ev.getR dPb_balanceAt_60 (Or.inl fPb_15) rfl g1 ?_
  refine Ev.iload_n dPb_balanceAt_63 rfl ?_
  have g8 := h.1
  replace h := h.2
  have g9 := h.1
  replace h := h.2
  refine Ev.iald2 dPb_balanceAt_64 g8 g9 ?_
  refine Ev.dup2 dPb_balanceAt_65 rfl rfl ?_
  have g10 := h.1
  replace h := h.2
  refine Ev.iald2 dPb_balanceAt_66 g4 g10 ?_
  refine Ev.aload_n dPb_balanceAt_67 rfl ?_
  refine Ev.getR dPb_balanceAt_68 (Or.inl fPb_18) rfl g1 ?_
  refine Ev.iload_n dPb_balanceAt_71 rfl ?_
  refine Ev.iald2 dPb_balanceAt_72 g6 g7 ?_
  refine Ev.isub dPb_balanceAt_73 ?_
  refine Ev.iast2 dPb_balanceAt_74 g4 g10 ?_
  exact h
theorem bPb_balanceAt_75 {l : Launch} {G : Gx} {d : Nat} {bc bs : Nat} {Φ : OutV → Mm → Prop} (M : Mm) (a0 : Nat) (x1 : Int32) (x2 : Int32) (x3 : Int32)
    (h : Ev l G d mPb_balanceAt 10 [.ref a0, .int x1, .int x2, .int (x3 + 1)] [] M bc bs Φ) :
    Ev l G d mPb_balanceAt 75 [.ref a0, .int x1, .int x2, .int x3] [] M bc bs Φ := by
  refine Ev.iinc (v := x3 + 1) dPb_balanceAt_75 (by decide) rfl rfl ?_
  show Ev l G d mPb_balanceAt (_ + _) [.ref a0, .int x1, .int x2, .int (x3 + 1)] [] M bc bs Φ
  refine Ev.goto 10 dPb_balanceAt_78 (by decide) ?_
  exact h
def mPb_write : MR := (⟨"BowingRow$PassBook", "write", "(IIII)V"⟩, prog_7_method_2_code, 5, none)
theorem oPb_write : MOK mPb_write 4 := ⟨lwg_of 646 (by decide +kernel) (by decide +kernel), lwg_of 98 (by decide +kernel) (by decide +kernel), ⟨by decide +kernel, by decide +kernel⟩, by decide +kernel, by decide⟩
theorem iPb_write : Cond.instanceMethod mPb_write.1 ∈ lwg := lwg_of 644 (by decide +kernel) (by decide +kernel)
theorem sPb_write : Cond.selects mPb_write.1.cls mPb_write.1 mPb_write.1 ∈ lwg := lwg_of 645 (by decide +kernel) (by decide +kernel)
theorem dPb_write_0 : decode mPb_write.2.1 0 = .ok (.aload_n 0, 1) := by decide +kernel
theorem dPb_write_1 : decode mPb_write.2.1 1 = .ok (.getfield 30, 3) := by decide +kernel
theorem dPb_write_4 : decode mPb_write.2.1 4 = .ok (.bipush 28, 2) := by decide +kernel
theorem dPb_write_6 : decode mPb_write.2.1 6 = .ok (.if_icmp .ge 54, 3) := by decide +kernel
theorem dPb_write_9 : decode mPb_write.2.1 9 = .ok (.aload_n 0, 1) := by decide +kernel
theorem dPb_write_10 : decode mPb_write.2.1 10 = .ok (.getfield 11, 3) := by decide +kernel
theorem dPb_write_13 : decode mPb_write.2.1 13 = .ok (.aload_n 0, 1) := by decide +kernel
theorem dPb_write_14 : decode mPb_write.2.1 14 = .ok (.getfield 30, 3) := by decide +kernel
theorem dPb_write_17 : decode mPb_write.2.1 17 = .ok (.iload_n 1, 1) := by decide +kernel
theorem dPb_write_18 : decode mPb_write.2.1 18 = .ok (.iastore, 1) := by decide +kernel
theorem dPb_write_19 : decode mPb_write.2.1 19 = .ok (.aload_n 0, 1) := by decide +kernel
theorem dPb_write_20 : decode mPb_write.2.1 20 = .ok (.getfield 15, 3) := by decide +kernel
theorem dPb_write_23 : decode mPb_write.2.1 23 = .ok (.aload_n 0, 1) := by decide +kernel
theorem dPb_write_24 : decode mPb_write.2.1 24 = .ok (.getfield 30, 3) := by decide +kernel
theorem dPb_write_27 : decode mPb_write.2.1 27 = .ok (.iload_n 2, 1) := by decide +kernel
theorem dPb_write_28 : decode mPb_write.2.1 28 = .ok (.iastore, 1) := by decide +kernel
theorem dPb_write_29 : decode mPb_write.2.1 29 = .ok (.aload_n 0, 1) := by decide +kernel
theorem dPb_write_30 : decode mPb_write.2.1 30 = .ok (.getfield 18, 3) := by decide +kernel
theorem dPb_write_33 : decode mPb_write.2.1 33 = .ok (.aload_n 0, 1) := by decide +kernel
theorem dPb_write_34 : decode mPb_write.2.1 34 = .ok (.getfield 30, 3) := by decide +kernel
theorem dPb_write_37 : decode mPb_write.2.1 37 = .ok (.iload_n 3, 1) := by decide +kernel
theorem dPb_write_38 : decode mPb_write.2.1 38 = .ok (.iastore, 1) := by decide +kernel
theorem dPb_write_39 : decode mPb_write.2.1 39 = .ok (.aload_n 0, 1) := by decide +kernel
theorem dPb_write_40 : decode mPb_write.2.1 40 = .ok (.getfield 21, 3) := by decide +kernel
theorem dPb_write_43 : decode mPb_write.2.1 43 = .ok (.aload_n 0, 1) := by decide +kernel
theorem dPb_write_44 : decode mPb_write.2.1 44 = .ok (.getfield 30, 3) := by decide +kernel
theorem dPb_write_47 : decode mPb_write.2.1 47 = .ok (.iload 4, 2) := by decide +kernel
theorem dPb_write_49 : decode mPb_write.2.1 49 = .ok (.iastore, 1) := by decide +kernel
theorem dPb_write_50 : decode mPb_write.2.1 50 = .ok (.aload_n 0, 1) := by decide +kernel
theorem dPb_write_51 : decode mPb_write.2.1 51 = .ok (.dup, 1) := by decide +kernel
theorem dPb_write_52 : decode mPb_write.2.1 52 = .ok (.getfield 30, 3) := by decide +kernel
theorem dPb_write_55 : decode mPb_write.2.1 55 = .ok (.iconst 1, 1) := by decide +kernel
theorem dPb_write_56 : decode mPb_write.2.1 56 = .ok (.iadd, 1) := by decide +kernel
theorem dPb_write_57 : decode mPb_write.2.1 57 = .ok (.putfield 30, 3) := by decide +kernel
theorem dPb_write_60 : decode mPb_write.2.1 60 = .ok (.return_, 1) := by decide +kernel
theorem bPb_write_0 {l : Launch} {G : Gx} {d : Nat} {bc bs : Nat} {Φ : OutV → Mm → Prop} (M : Mm) (a0 : Nat) (x1 : Int32) (x2 : Int32) (x3 : Int32) (x4 : Int32)
    (h : ((m_sh M a0).1 = 5) ∧ (28 ≤ (m_i M a0 6) → Φ (.inl none) M) ∧ (¬ 28 ≤ (m_i M a0 6) → ((m_sh M (m_r M a0 0)).1 = 20) ∧ (vp_in (m_i M a0 6) (m_sh M (m_r M a0 0)).2) ∧ ((m_sh M (m_r M a0 1)).1 = 20) ∧ (vp_in (m_i (m_si M (m_r M a0 0) (m_i M a0 6).toNatClampNeg x1) a0 6) (m_sh M (m_r M a0 1)).2) ∧ Ev l G d mPb_write 29 [.ref a0, .int x1, .int x2, .int x3, .int x4] [] (m_si (m_si M (m_r M a0 0) (m_i M a0 6).toNatClampNeg x1) (m_r M a0 1) (m_i (m_si M (m_r M a0 0) (m_i M a0 6).toNatClampNeg x1) a0 6).toNatClampNeg x2) bc bs Φ)) :
    Ev l G d mPb_write 0 [.ref a0, .int x1, .int x2, .int x3, .int x4] [] M bc bs Φ := by
  refine Ev.aload_n dPb_write_0 rfl ?_
  have g1 := h.1
  replace h := h.2
  refine Ev.getI dPb_write_1 (Or.inl fPb_30) rfl g1 ?_
  refine Ev.bipush (v := 28) dPb_write_4 (by decide) ?_
  refine Ev.icmp_ge 60 (by decide) dPb_write_6 (fun c => ?_) (fun c => ?_)
  · replace h := h.1 c
    exact Ev.vret dPb_write_60 rfl h
  · replace h := h.2 c
    refine Ev.aload_n dPb_write_9 rfl ?_
    refine Ev.getR dPb_write_10 (Or.inl fPb_11) rfl g1 ?_
    refine Ev.aload_n dPb_write_13 rfl ?_
    refine Ev.getI dPb_write_14 (Or.inl fPb_30) rfl g1 ?_
    refine Ev.iload_n dPb_write_17 rfl ?_
    have g2 := h.1
    replace h := h.2
    have g3 := h.1
    replace h := h.2
    refine Ev.iast2 dPb_write_18 g2 g3 ?_
    refine Ev.aload_n dPb_write_19 rfl ?_
    refine Ev.getR dPb_write_20 (Or.inl fPb_15) rfl g1 ?_
    refine Ev.aload_n dPb_write_23 rfl ?_
    refine Ev.getI dPb_write_24 (Or.inl fPb_30) rfl g1 ?_
    refine Ev.iload_n dPb_write_27 rfl ?_
    have g4 := h.1
    replace h := h.2
    have g5 := h.1
    replace h := h.2
    refine Ev.iast2 dPb_write_28 g4 g5 ?_
    exact h
theorem bPb_write_29 {l : Launch} {G : Gx} {d : Nat} {bc bs : Nat} {Φ : OutV → Mm → Prop} (M : Mm) (a0 : Nat) (x1 : Int32) (x2 : Int32) (x3 : Int32) (x4 : Int32)
    (h : ((m_sh M a0).1 = 5) ∧ ((m_sh M (m_r M a0 2)).1 = 20) ∧ (vp_in (m_i M a0 6) (m_sh M (m_r M a0 2)).2) ∧ ((m_sh M (m_r M a0 3)).1 = 20) ∧ (vp_in (m_i (m_si M (m_r M a0 2) (m_i M a0 6).toNatClampNeg x3) a0 6) (m_sh M (m_r M a0 3)).2) ∧ Ev l G d mPb_write 50 [.ref a0, .int x1, .int x2, .int x3, .int x4] [] (m_si (m_si M (m_r M a0 2) (m_i M a0 6).toNatClampNeg x3) (m_r M a0 3) (m_i (m_si M (m_r M a0 2) (m_i M a0 6).toNatClampNeg x3) a0 6).toNatClampNeg x4) bc bs Φ) :
    Ev l G d mPb_write 29 [.ref a0, .int x1, .int x2, .int x3, .int x4] [] M bc bs Φ := by
  refine Ev.aload_n dPb_write_29 rfl ?_
  have g1 := h.1
  replace h := h.2
  refine Ev.getR dPb_write_30 (Or.inl fPb_18) rfl g1 ?_
  refine Ev.aload_n dPb_write_33 rfl ?_
  refine Ev.getI dPb_write_34 (Or.inl fPb_30) rfl g1 ?_
  refine Ev.iload_n dPb_write_37 rfl ?_
  have g2 := h.1
  replace h := h.2
  have g3 := h.1
  replace h := h.2
  refine Ev.iast2 dPb_write_38 g2 g3 ?_
  refine Ev.aload_n dPb_write_39 rfl ?_
  refine Ev.getR dPb_write_40 (Or.inl fPb_21) rfl g1 ?_
  refine Ev.aload_n dPb_write_43 rfl ?_
  refine Ev.getI dPb_write_44 (Or.inl fPb_30) rfl g1 ?_
  refine Ev.iload dPb_write_47 rfl ?_
  have g4 := h.1
  replace h := h.2
  have g5 := h.1
  replace h := h.2
  refine Ev.iast2 dPb_write_49 g4 g5 ?_
  exact h
theorem bPb_write_50 {l : Launch} {G : Gx} {d : Nat} {bc bs : Nat} {Φ : OutV → Mm → Prop} (M : Mm) (a0 : Nat) (x1 : Int32) (x2 : Int32) (x3 : Int32) (x4 : Int32)
    (h : ((m_sh M a0).1 = 5) ∧ Φ (.inl none) (m_si M a0 6 ((m_i M a0 6) + 1))) :
    Ev l G d mPb_write 50 [.ref a0, .int x1, .int x2, .int x3, .int x4] [] M bc bs Φ := by
  refine Ev.aload_n dPb_write_50 rfl ?_
  refine Ev.dup dPb_write_51 rfl ?_
  have g1 := h.1
  replace h := h.2
  refine Ev.getI dPb_write_52 (Or.inl fPb_30) rfl g1 ?_
  refine Ev.iconst (v := 1) dPb_write_55 (by decide) ?_
  refine Ev.iadd dPb_write_56 ?_
  refine Ev.putI dPb_write_57 ⟨_, Or.inl ⟨fPb_30, (fun h => by cases h)⟩⟩ rfl ⟨rfl, rfl⟩ g1 ?_
  exact Ev.vret dPb_write_60 rfl h
def mPb_given : MR := (⟨"BowingRow$PassBook", "given", "(II)I"⟩, prog_7_method_4_code, 5, (Option.some .int))
theorem oPb_given : MOK mPb_given 2 := ⟨lwg_of 1142 (by decide +kernel) (by decide +kernel), lwg_of 98 (by decide +kernel) (by decide +kernel), ⟨by decide +kernel, by decide +kernel⟩, by decide +kernel, by decide⟩
theorem iPb_given : Cond.instanceMethod mPb_given.1 ∈ lwg := lwg_of 1140 (by decide +kernel) (by decide +kernel)
theorem sPb_given : Cond.selects mPb_given.1.cls mPb_given.1 mPb_given.1 ∈ lwg := lwg_of 1141 (by decide +kernel) (by decide +kernel)
theorem dPb_given_0 : decode mPb_given.2.1 0 = .ok (.iconst 0, 1) := by decide +kernel
theorem dPb_given_1 : decode mPb_given.2.1 1 = .ok (.istore_n 3, 1) := by decide +kernel
theorem dPb_given_2 : decode mPb_given.2.1 2 = .ok (.iconst 0, 1) := by decide +kernel
theorem dPb_given_3 : decode mPb_given.2.1 3 = .ok (.istore 4, 2) := by decide +kernel
theorem dPb_given_5 : decode mPb_given.2.1 5 = .ok (.iload 4, 2) := by decide +kernel
theorem dPb_given_7 : decode mPb_given.2.1 7 = .ok (.aload_n 0, 1) := by decide +kernel
theorem dPb_given_8 : decode mPb_given.2.1 8 = .ok (.getfield 30, 3) := by decide +kernel
theorem dPb_given_11 : decode mPb_given.2.1 11 = .ok (.if_icmp .ge 41, 3) := by decide +kernel
theorem dPb_given_14 : decode mPb_given.2.1 14 = .ok (.aload_n 0, 1) := by decide +kernel
theorem dPb_given_15 : decode mPb_given.2.1 15 = .ok (.getfield 11, 3) := by decide +kernel
theorem dPb_given_18 : decode mPb_given.2.1 18 = .ok (.iload 4, 2) := by decide +kernel
theorem dPb_given_20 : decode mPb_given.2.1 20 = .ok (.iaload, 1) := by decide +kernel
theorem dPb_given_21 : decode mPb_given.2.1 21 = .ok (.iload_n 1, 1) := by decide +kernel
theorem dPb_given_22 : decode mPb_given.2.1 22 = .ok (.if_icmp .ne 24, 3) := by decide +kernel
theorem dPb_given_25 : decode mPb_given.2.1 25 = .ok (.aload_n 0, 1) := by decide +kernel
theorem dPb_given_26 : decode mPb_given.2.1 26 = .ok (.getfield 15, 3) := by decide +kernel
theorem dPb_given_29 : decode mPb_given.2.1 29 = .ok (.iload 4, 2) := by decide +kernel
theorem dPb_given_31 : decode mPb_given.2.1 31 = .ok (.iaload, 1) := by decide +kernel
theorem dPb_given_32 : decode mPb_given.2.1 32 = .ok (.iload_n 2, 1) := by decide +kernel
theorem dPb_given_33 : decode mPb_given.2.1 33 = .ok (.if_icmp .ne 13, 3) := by decide +kernel
theorem dPb_given_36 : decode mPb_given.2.1 36 = .ok (.iload_n 3, 1) := by decide +kernel
theorem dPb_given_37 : decode mPb_given.2.1 37 = .ok (.aload_n 0, 1) := by decide +kernel
theorem dPb_given_38 : decode mPb_given.2.1 38 = .ok (.getfield 18, 3) := by decide +kernel
theorem dPb_given_41 : decode mPb_given.2.1 41 = .ok (.iload 4, 2) := by decide +kernel
theorem dPb_given_43 : decode mPb_given.2.1 43 = .ok (.iaload, 1) := by decide +kernel
theorem dPb_given_44 : decode mPb_given.2.1 44 = .ok (.iadd, 1) := by decide +kernel
theorem dPb_given_45 : decode mPb_given.2.1 45 = .ok (.istore_n 3, 1) := by decide +kernel
theorem dPb_given_46 : decode mPb_given.2.1 46 = .ok (.iinc 4 1, 3) := by decide +kernel
theorem dPb_given_49 : decode mPb_given.2.1 49 = .ok (.goto (-44), 3) := by decide +kernel
theorem dPb_given_52 : decode mPb_given.2.1 52 = .ok (.iload_n 3, 1) := by decide +kernel
theorem dPb_given_53 : decode mPb_given.2.1 53 = .ok (.ireturn, 1) := by decide +kernel
theorem bPb_given_0 {l : Launch} {G : Gx} {d : Nat} {bc bs : Nat} {Φ : OutV → Mm → Prop} (M : Mm) (a0 : Nat) (x1 : Int32) (x2 : Int32)
    (h : Ev l G d mPb_given 5 [.ref a0, .int x1, .int x2, .int 0, .int 0] [] M bc bs Φ) :
    Ev l G d mPb_given 0 [.ref a0, .int x1, .int x2, .null, .null] [] M bc bs Φ := by
  refine Ev.iconst (v := 0) dPb_given_0 (by decide) ?_
  refine Ev.istore_n dPb_given_1 (by decide) ?_
  show Ev l G d mPb_given (_ + _) [.ref a0, .int x1, .int x2, .int 0, .null] [] M bc bs Φ
  refine Ev.iconst (v := 0) dPb_given_2 (by decide) ?_
  refine Ev.istore dPb_given_3 (by decide) ?_
  show Ev l G d mPb_given (_ + _) [.ref a0, .int x1, .int x2, .int 0, .int 0] [] M bc bs Φ
  exact h
theorem bPb_given_5 {l : Launch} {G : Gx} {d : Nat} {bc bs : Nat} {Φ : OutV → Mm → Prop} (M : Mm) (a0 : Nat) (x1 : Int32) (x2 : Int32) (x3 : Int32) (x4 : Int32)
    (h : ((m_sh M a0).1 = 5) ∧ ((m_i M a0 6) ≤ x4 → Φ (.inl (some (.int x3))) M) ∧ (¬ (m_i M a0 6) ≤ x4 → ((m_sh M (m_r M a0 0)).1 = 20) ∧ (vp_in x4 (m_sh M (m_r M a0 0)).2) ∧ (¬ (m_i M (m_r M a0 0) x4.toNatClampNeg) = x1 → Ev l G d mPb_given 46 [.ref a0, .int x1, .int x2, .int x3, .int x4] [] M bc bs Φ) ∧ ((m_i M (m_r M a0 0) x4.toNatClampNeg) = x1 → ((m_sh M (m_r M a0 1)).1 = 20) ∧ (vp_in x4 (m_sh M (m_r M a0 1)).2) ∧ (¬ (m_i M (m_r M a0 1) x4.toNatClampNeg) = x2 → Ev l G d mPb_given 46 [.ref a0, .int x1, .int x2, .int x3, .int x4] [] M bc bs Φ) ∧ ((m_i M (m_r M a0 1) x4.toNatClampNeg) = x2 → ((m_sh M (m_r M a0 2)).1 = 20) ∧ (vp_in x4 (m_sh M (m_r M a0 2)).2) ∧ Ev l G d mPb_given 46 [.ref a0, .int x1, .int x2, .int (x3 + (m_i M (m_r M a0 2) x4.toNatClampNeg)), .int x4] [] M bc bs Φ)))) :
    Ev l G d mPb_given 5 [.ref a0, .int x1, .int x2, .int x3, .int x4] [] M bc bs Φ := by
  refine Ev.iload dPb_given_5 rfl ?_
  refine Ev.aload_n dPb_given_7 rfl ?_
  have g1 := h.1
  replace h := h.2
  refine Ev.getI dPb_given_8 (Or.inl fPb_30) rfl g1 ?_
  refine Ev.icmp_ge 52 (by decide) dPb_given_11 (fun c => ?_) (fun c => ?_)
  · replace h := h.1 c
    refine Ev.iload_n dPb_given_52 rfl ?_
    exact Ev.iret dPb_given_53 rfl rfl h
  · replace h := h.2 c
    refine Ev.aload_n dPb_given_14 rfl ?_
    refine Ev.getR dPb_given_15 (Or.inl fPb_11) rfl g1 ?_
    refine Ev.iload dPb_given_18 rfl ?_
    have g2 := h.1
    replace h := h.2
    have g3 := h.1
    replace h := h.2
    refine Ev.iald2 dPb_given_20 g2 g3 ?_
    refine Ev.iload_n dPb_given_21 rfl ?_
    refine Ev.icmp_ne 46 (by decide) dPb_given_22 (fun c => ?_) (fun c => ?_)
    · replace h := h.1 c
      exact h
    · replace h := h.2 c
      refine Ev.aload_n dPb_given_25 rfl ?_
      refine Ev.getR dPb_given_26 (Or.inl fPb_15) rfl g1 ?_
      refine Ev.iload dPb_given_29 rfl ?_
      have g4 := h.1
      replace h := h.2
      have g5 := h.1
      replace h := h.2
      refine Ev.iald2 dPb_given_31 g4 g5 ?_
      refine Ev.iload_n dPb_given_32 rfl ?_
      refine Ev.icmp_ne 46 (by decide) dPb_given_33 (fun c => ?_) (fun c => ?_)
      · replace h := h.1 c
        exact h
      · replace h := h.2 c
        refine Ev.iload_n dPb_given_36 rfl ?_
        refine Ev.aload_n dPb_given_37 rfl ?_
        refine Ev.getR dPb_given_38 (Or.inl fPb_18) rfl g1 ?_
        refine Ev.iload dPb_given_41 rfl ?_
        have g6 := h.1
        replace h := h.2
        have g7 := h.1
        replace h := h.2
        refine Ev.iald2 dPb_given_43 g6 g7 ?_
        refine Ev.iadd dPb_given_44 ?_
        refine Ev.istore_n dPb_given_45 (by decide) ?_
        show Ev l G d mPb_given (_ + _) [.ref a0, .int x1, .int x2, .int (x3 + (m_i M (m_r M a0 2) x4.toNatClampNeg)), .int x4] [] M bc bs Φ
        exact h
theorem bPb_given_46 {l : Launch} {G : Gx} {d : Nat} {bc bs : Nat} {Φ : OutV → Mm → Prop} (M : Mm) (a0 : Nat) (x1 : Int32) (x2 : Int32) (x3 : Int32) (x4 : Int32)
    (h : Ev l G d mPb_given 5 [.ref a0, .int x1, .int x2, .int x3, .int (x4 + 1)] [] M bc bs Φ) :
    Ev l G d mPb_given 46 [.ref a0, .int x1, .int x2, .int x3, .int x4] [] M bc bs Φ := by
  refine Ev.iinc (v := x4 + 1) dPb_given_46 (by decide) rfl rfl ?_
  show Ev l G d mPb_given (_ + _) [.ref a0, .int x1, .int x2, .int x3, .int (x4 + 1)] [] M bc bs Φ
  refine Ev.goto 5 dPb_given_49 (by decide) ?_
  exact h
def mPb_debt : MR := (⟨"BowingRow$PassBook", "debt", "(II)I"⟩, prog_7_method_5_code, 5, (Option.some .int))
theorem oPb_debt : MOK mPb_debt 2 := ⟨lwg_of 1153 (by decide +kernel) (by decide +kernel), lwg_of 98 (by decide +kernel) (by decide +kernel), ⟨by decide +kernel, by decide +kernel⟩, by decide +kernel, by decide⟩
theorem iPb_debt : Cond.instanceMethod mPb_debt.1 ∈ lwg := lwg_of 1151 (by decide +kernel) (by decide +kernel)
theorem sPb_debt : Cond.selects mPb_debt.1.cls mPb_debt.1 mPb_debt.1 ∈ lwg := lwg_of 1152 (by decide +kernel) (by decide +kernel)
theorem dPb_debt_0 : decode mPb_debt.2.1 0 = .ok (.iconst 0, 1) := by decide +kernel
theorem dPb_debt_1 : decode mPb_debt.2.1 1 = .ok (.istore_n 3, 1) := by decide +kernel
theorem dPb_debt_2 : decode mPb_debt.2.1 2 = .ok (.iload_n 3, 1) := by decide +kernel
theorem dPb_debt_3 : decode mPb_debt.2.1 3 = .ok (.bipush 8, 2) := by decide +kernel
theorem dPb_debt_5 : decode mPb_debt.2.1 5 = .ok (.if_icmp .ge 56, 3) := by decide +kernel
theorem dPb_debt_8 : decode mPb_debt.2.1 8 = .ok (.iconst 0, 1) := by decide +kernel
theorem dPb_debt_9 : decode mPb_debt.2.1 9 = .ok (.istore 4, 2) := by decide +kernel
theorem dPb_debt_11 : decode mPb_debt.2.1 11 = .ok (.iload 4, 2) := by decide +kernel
theorem dPb_debt_13 : decode mPb_debt.2.1 13 = .ok (.bipush 8, 2) := by decide +kernel
theorem dPb_debt_15 : decode mPb_debt.2.1 15 = .ok (.if_icmp .ge 40, 3) := by decide +kernel
theorem dPb_debt_18 : decode mPb_debt.2.1 18 = .ok (.aload_n 0, 1) := by decide +kernel
theorem dPb_debt_19 : decode mPb_debt.2.1 19 = .ok (.getfield 24, 3) := by decide +kernel
theorem dPb_debt_22 : decode mPb_debt.2.1 22 = .ok (.iload_n 3, 1) := by decide +kernel
theorem dPb_debt_23 : decode mPb_debt.2.1 23 = .ok (.bipush 8, 2) := by decide +kernel
theorem dPb_debt_25 : decode mPb_debt.2.1 25 = .ok (.imul, 1) := by decide +kernel
theorem dPb_debt_26 : decode mPb_debt.2.1 26 = .ok (.iload 4, 2) := by decide +kernel
theorem dPb_debt_28 : decode mPb_debt.2.1 28 = .ok (.iadd, 1) := by decide +kernel
theorem dPb_debt_29 : decode mPb_debt.2.1 29 = .ok (.iconst 0, 1) := by decide +kernel
theorem dPb_debt_30 : decode mPb_debt.2.1 30 = .ok (.aload_n 0, 1) := by decide +kernel
theorem dPb_debt_31 : decode mPb_debt.2.1 31 = .ok (.iload 4, 2) := by decide +kernel
theorem dPb_debt_33 : decode mPb_debt.2.1 33 = .ok (.iload_n 3, 1) := by decide +kernel
theorem dPb_debt_34 : decode mPb_debt.2.1 34 = .ok (.invokevirtual 40, 3) := by decide +kernel
theorem dPb_debt_37 : decode mPb_debt.2.1 37 = .ok (.aload_n 0, 1) := by decide +kernel
theorem dPb_debt_38 : decode mPb_debt.2.1 38 = .ok (.iload_n 3, 1) := by decide +kernel
theorem dPb_debt_39 : decode mPb_debt.2.1 39 = .ok (.iload 4, 2) := by decide +kernel
theorem dPb_debt_41 : decode mPb_debt.2.1 41 = .ok (.invokevirtual 40, 3) := by decide +kernel
theorem dPb_debt_44 : decode mPb_debt.2.1 44 = .ok (.isub, 1) := by decide +kernel
theorem dPb_debt_45 : decode mPb_debt.2.1 45 = .ok (.invokestatic 44, 3) := by decide +kernel
theorem dPb_debt_48 : decode mPb_debt.2.1 48 = .ok (.iastore, 1) := by decide +kernel
theorem dPb_debt_49 : decode mPb_debt.2.1 49 = .ok (.iinc 4 1, 3) := by decide +kernel
theorem dPb_debt_52 : decode mPb_debt.2.1 52 = .ok (.goto (-41), 3) := by decide +kernel
theorem dPb_debt_55 : decode mPb_debt.2.1 55 = .ok (.iinc 3 1, 3) := by decide +kernel
theorem dPb_debt_58 : decode mPb_debt.2.1 58 = .ok (.goto (-56), 3) := by decide +kernel
theorem dPb_debt_61 : decode mPb_debt.2.1 61 = .ok (.iconst 0, 1) := by decide +kernel
theorem dPb_debt_62 : decode mPb_debt.2.1 62 = .ok (.istore_n 3, 1) := by decide +kernel
theorem dPb_debt_63 : decode mPb_debt.2.1 63 = .ok (.iload_n 3, 1) := by decide +kernel
theorem dPb_debt_64 : decode mPb_debt.2.1 64 = .ok (.aload_n 0, 1) := by decide +kernel
theorem dPb_debt_65 : decode mPb_debt.2.1 65 = .ok (.getfield 24, 3) := by decide +kernel
theorem dPb_debt_68 : decode mPb_debt.2.1 68 = .ok (.arraylength, 1) := by decide +kernel
theorem dPb_debt_69 : decode mPb_debt.2.1 69 = .ok (.if_icmp .ge 19, 3) := by decide +kernel
theorem dPb_debt_72 : decode mPb_debt.2.1 72 = .ok (.aload_n 0, 1) := by decide +kernel
theorem dPb_debt_73 : decode mPb_debt.2.1 73 = .ok (.invokevirtual 49, 3) := by decide +kernel
theorem dPb_debt_76 : decode mPb_debt.2.1 76 = .ok (.ifCond .ne 6, 3) := by decide +kernel
theorem dPb_debt_79 : decode mPb_debt.2.1 79 = .ok (.goto 9, 3) := by decide +kernel
theorem dPb_debt_82 : decode mPb_debt.2.1 82 = .ok (.iinc 3 1, 3) := by decide +kernel
theorem dPb_debt_85 : decode mPb_debt.2.1 85 = .ok (.goto (-22), 3) := by decide +kernel
theorem dPb_debt_88 : decode mPb_debt.2.1 88 = .ok (.aload_n 0, 1) := by decide +kernel
theorem dPb_debt_89 : decode mPb_debt.2.1 89 = .ok (.getfield 24, 3) := by decide +kernel
theorem dPb_debt_92 : decode mPb_debt.2.1 92 = .ok (.iload_n 1, 1) := by decide +kernel
theorem dPb_debt_93 : decode mPb_debt.2.1 93 = .ok (.bipush 8, 2) := by decide +kernel
theorem dPb_debt_95 : decode mPb_debt.2.1 95 = .ok (.imul, 1) := by decide +kernel
theorem dPb_debt_96 : decode mPb_debt.2.1 96 = .ok (.iload_n 2, 1) := by decide +kernel
theorem dPb_debt_97 : decode mPb_debt.2.1 97 = .ok (.iadd, 1) := by decide +kernel
theorem dPb_debt_98 : decode mPb_debt.2.1 98 = .ok (.iaload, 1) := by decide +kernel
theorem dPb_debt_99 : decode mPb_debt.2.1 99 = .ok (.ireturn, 1) := by decide +kernel
theorem bPb_debt_0 {l : Launch} {G : Gx} {d : Nat} {bc bs : Nat} {Φ : OutV → Mm → Prop} (M : Mm) (a0 : Nat) (x1 : Int32) (x2 : Int32)
    (h : Ev l G d mPb_debt 2 [.ref a0, .int x1, .int x2, .int 0, .null] [] M bc bs Φ) :
    Ev l G d mPb_debt 0 [.ref a0, .int x1, .int x2, .null, .null] [] M bc bs Φ := by
  refine Ev.iconst (v := 0) dPb_debt_0 (by decide) ?_
  refine Ev.istore_n dPb_debt_1 (by decide) ?_
  show Ev l G d mPb_debt (_ + _) [.ref a0, .int x1, .int x2, .int 0, .null] [] M bc bs Φ
  exact h
theorem bPb_debt_2 {l : Launch} {G : Gx} {d : Nat} {bc bs : Nat} {Φ : OutV → Mm → Prop} (M : Mm) (a0 : Nat) (x1 : Int32) (x2 : Int32) (x3 : Int32) (u4 : Value)
    (h : (8 ≤ x3 → Ev l G d mPb_debt 63 [.ref a0, .int x1, .int x2, .int 0, u4] [] M bc bs Φ) ∧ (¬ 8 ≤ x3 → Ev l G d mPb_debt 11 [.ref a0, .int x1, .int x2, .int x3, .int 0] [] M bc bs Φ)) :
    Ev l G d mPb_debt 2 [.ref a0, .int x1, .int x2, .int x3, u4] [] M bc bs Φ := by
  refine Ev.iload_n dPb_debt_2 rfl ?_
  refine Ev.bipush (v := 8) dPb_debt_3 (by decide) ?_
  refine Ev.icmp_ge 61 (by decide) dPb_debt_5 (fun c => ?_) (fun c => ?_)
  · replace h := h.1 c
    refine Ev.iconst (v := 0) dPb_debt_61 (by decide) ?_
    refine Ev.istore_n dPb_debt_62 (by decide) ?_
    show Ev l G d mPb_debt (_ + _) [.ref a0, .int x1, .int x2, .int 0, u4] [] M bc bs Φ
    exact h
  · replace h := h.2 c
    refine Ev.iconst (v := 0) dPb_debt_8 (by decide) ?_
    refine Ev.istore dPb_debt_9 (by decide) ?_
    show Ev l G d mPb_debt (_ + _) [.ref a0, .int x1, .int x2, .int x3, .int 0] [] M bc bs Φ
    exact h
theorem w1154 : Cond.methodLink "BowingRow$PassBook" 40 ⟨"BowingRow$PassBook", "given", "(II)I"⟩ ∈ lwg := lwg_of 1154 (by decide +kernel) (by decide +kernel)
theorem bPb_debt_11 {l : Launch} {G : Gx} {d : Nat} {bc bs : Nat} {Φ : OutV → Mm → Prop} (M : Mm) (a0 : Nat) (x1 : Int32) (x2 : Int32) (x3 : Int32) (x4 : Int32)
    (h : (8 ≤ x4 → Ev l G d mPb_debt 2 [.ref a0, .int x1, .int x2, .int (x3 + 1), .int x4] [] M bc bs Φ) ∧ (¬ 8 ≤ x4 → ((m_sh M a0).1 = 5) ∧ CallVC l G d mPb_debt 37 [.ref a0, .int x1, .int x2, .int x3, .int x4] [.int 0, .int ((x3 * 8) + x4), .ref (m_r M a0 4)] mPb_given [.ref a0, .int x4, .int x3] M bc bs Φ)) :
    Ev l G d mPb_debt 11 [.ref a0, .int x1, .int x2, .int x3, .int x4] [] M bc bs Φ := by
  refine Ev.iload dPb_debt_11 rfl ?_
  refine Ev.bipush (v := 8) dPb_debt_13 (by decide) ?_
  refine Ev.icmp_ge 55 (by decide) dPb_debt_15 (fun c => ?_) (fun c => ?_)
  · replace h := h.1 c
    refine Ev.iinc (v := x3 + 1) dPb_debt_55 (by decide) rfl rfl ?_
    show Ev l G d mPb_debt (_ + _) [.ref a0, .int x1, .int x2, .int (x3 + 1), .int x4] [] M bc bs Φ
    refine Ev.goto 2 dPb_debt_58 (by decide) ?_
    exact h
  · replace h := h.2 c
    refine Ev.aload_n dPb_debt_18 rfl ?_
    have g1 := h.1
    replace h := h.2
    refine Ev.getR dPb_debt_19 (Or.inl fPb_24) rfl g1 ?_
    refine Ev.iload_n dPb_debt_22 rfl ?_
    refine Ev.bipush (v := 8) dPb_debt_23 (by decide) ?_
    refine Ev.imul dPb_debt_25 ?_
    refine Ev.iload dPb_debt_26 rfl ?_
    refine Ev.iadd dPb_debt_28 ?_
    refine Ev.iconst (v := 0) dPb_debt_29 (by decide) ?_
    refine Ev.aload_n dPb_debt_30 rfl ?_
    refine Ev.iload dPb_debt_31 rfl ?_
    refine Ev.iload_n dPb_debt_33 rfl ?_
    exact Ev.vcV (z := mPb_given) (ci := 5) [.int x4, .int x3] [.int 0, .int ((x3 * 8) + x4), .ref (m_r M a0 4)] rfl dPb_debt_34 oPb_given rfl w1154 iPb_given sPb_given (by decide) rfl g1 (Nat.le_of_ble_eq_true rfl) h
theorem bPb_debt_37 {l : Launch} {G : Gx} {d : Nat} {bc bs : Nat} {Φ : OutV → Mm → Prop} (M : Mm) (a0 : Nat) (x1 : Int32) (x2 : Int32) (x3 : Int32) (x4 : Int32) (r0 : Nat) (s1 : Int32) (s2 : Int32) (s3 : Int32)
    (h : ((m_sh M a0).1 = 5) ∧ CallVC l G d mPb_debt 44 [.ref a0, .int x1, .int x2, .int x3, .int x4] [.int s3, .int s2, .int s1, .ref r0] mPb_given [.ref a0, .int x3, .int x4] M bc bs Φ) :
    Ev l G d mPb_debt 37 [.ref a0, .int x1, .int x2, .int x3, .int x4] [.int s3, .int s2, .int s1, .ref r0] M bc bs Φ := by
  refine Ev.aload_n dPb_debt_37 rfl ?_
  refine Ev.iload_n dPb_debt_38 rfl ?_
  refine Ev.iload dPb_debt_39 rfl ?_
  have g1 := h.1
  replace h := h.2
  exact Ev.vcV (z := mPb_given) (ci := 5) [.int x3, .int x4] [.int s3, .int s2, .int s1, .ref r0] rfl dPb_debt_41 oPb_given rfl w1154 iPb_given sPb_given (by decide) rfl g1 (Nat.le_of_ble_eq_true rfl) h
theorem w_max_s : Cond.static Lib.Math.max.name ∈ lwg := lwg_of 641 (by decide +kernel) (by decide +kernel)
theorem w_max_c : Cond.code Lib.Math.max.name Lib.Math.max.code 2 (some .int) ∈ lwg := lwg_of 642 (by decide +kernel) (by decide +kernel)
theorem w1155 : Cond.methodLink "BowingRow$PassBook" 44 ⟨"java/lang/Math", "max", "(II)I"⟩ ∈ lwg := lwg_of 1155 (by decide +kernel) (by decide +kernel)
theorem w115 : Cond.initialized "java/lang/Math" ∈ lwg := lwg_of 115 (by decide +kernel) (by decide +kernel)
theorem bPb_debt_44 {l : Launch} {G : Gx} {d : Nat} {bc bs : Nat} {Φ : OutV → Mm → Prop} (M : Mm) (a0 : Nat) (x1 : Int32) (x2 : Int32) (x3 : Int32) (x4 : Int32) (r0 : Nat) (s1 : Int32) (s2 : Int32) (s3 : Int32) (s4 : Int32)
    (h : (1 ≤ d) ∧ ((m_sh M r0).1 = 20) ∧ (vp_in s1 (m_sh M r0).2) ∧ Ev l G d mPb_debt 11 [.ref a0, .int x1, .int x2, .int x3, .int (x4 + 1)] [] (m_si M r0 s1.toNatClampNeg (if s2 < (s3 - s4) then (s3 - s4) else s2)) bc bs Φ) :
    Ev l G d mPb_debt 44 [.ref a0, .int x1, .int x2, .int x3, .int x4] [.int s4, .int s3, .int s2, .int s1, .ref r0] M bc bs Φ := by
  refine Ev.isub dPb_debt_44 ?_
  have g1 := h.1
  replace h := h.2
  refine Ev.mmax dPb_debt_45 w1155 w_max_s w115 w_max_c (Nat.le_of_ble_eq_true rfl) g1 ?_
  have g2 := h.1
  replace h := h.2
  have g3 := h.1
  replace h := h.2
  refine Ev.iast2 dPb_debt_48 g2 g3 ?_
  refine Ev.iinc (v := x4 + 1) dPb_debt_49 (by decide) rfl rfl ?_
  show Ev l G d mPb_debt (_ + _) [.ref a0, .int x1, .int x2, .int x3, .int (x4 + 1)] [] (m_si M r0 s1.toNatClampNeg (if s2 < (s3 - s4) then (s3 - s4) else s2)) bc bs Φ
  refine Ev.goto 11 dPb_debt_52 (by decide) ?_
  exact h
def mPb_setOffRound : MR := (⟨"BowingRow$PassBook", "setOffRound", "()Z"⟩, prog_7_method_6_code, 4, (Option.some .boolean))
theorem oPb_setOffRound : MOK mPb_setOffRound 0 := ⟨lwg_of 1159 (by decide +kernel) (by decide +kernel), lwg_of 98 (by decide +kernel) (by decide +kernel), ⟨by decide +kernel, by decide +kernel⟩, by decide +kernel, by decide⟩
theorem iPb_setOffRound : Cond.instanceMethod mPb_setOffRound.1 ∈ lwg := lwg_of 1158 (by decide +kernel) (by decide +kernel)
theorem sPb_setOffRound : Cond.selects mPb_setOffRound.1.cls mPb_setOffRound.1 mPb_setOffRound.1 ∈ lwg := lwg_of 30 (by decide +kernel) (by decide +kernel)
theorem w1156 : Cond.methodLink "BowingRow$PassBook" 49 ⟨"BowingRow$PassBook", "setOffRound", "()Z"⟩ ∈ lwg := lwg_of 1156 (by decide +kernel) (by decide +kernel)
theorem bPb_debt_63 {l : Launch} {G : Gx} {d : Nat} {bc bs : Nat} {Φ : OutV → Mm → Prop} (M : Mm) (a0 : Nat) (x1 : Int32) (x2 : Int32) (x3 : Int32) (u4 : Value)
    (h : ((m_sh M a0).1 = 5) ∧ ((m_sh M (m_r M a0 4)).1 = 20) ∧ ((Int32.ofNat (m_sh M (m_r M a0 4)).2) ≤ x3 → Ev l G d mPb_debt 88 [.ref a0, .int x1, .int x2, .int x3, u4] [] M bc bs Φ) ∧ (¬ (Int32.ofNat (m_sh M (m_r M a0 4)).2) ≤ x3 → CallVC l G d mPb_debt 76 [.ref a0, .int x1, .int x2, .int x3, u4] [] mPb_setOffRound [.ref a0] M bc bs Φ)) :
    Ev l G d mPb_debt 63 [.ref a0, .int x1, .int x2, .int x3, u4] [] M bc bs Φ := by
  refine Ev.iload_n dPb_debt_63 rfl ?_
  refine Ev.aload_n dPb_debt_64 rfl ?_
  have g1 := h.1
  replace h := h.2
  refine Ev.getR dPb_debt_65 (Or.inl fPb_24) rfl g1 ?_
  have g2 := h.1
  replace h := h.2
  refine Ev.alen2 20 (by decide) dPb_debt_68 g2 ?_
  refine Ev.icmp_ge 88 (by decide) dPb_debt_69 (fun c => ?_) (fun c => ?_)
  · replace h := h.1 c
    exact h
  · replace h := h.2 c
    refine Ev.aload_n dPb_debt_72 rfl ?_
    exact Ev.vcV (z := mPb_setOffRound) (ci := 5) [] [] rfl dPb_debt_73 oPb_setOffRound rfl w1156 iPb_setOffRound sPb_setOffRound (by decide) rfl g1 (Nat.le_of_ble_eq_true rfl) h
theorem bPb_debt_76 {l : Launch} {G : Gx} {d : Nat} {bc bs : Nat} {Φ : OutV → Mm → Prop} (M : Mm) (a0 : Nat) (x1 : Int32) (x2 : Int32) (x3 : Int32) (u4 : Value) (s0 : Int32)
    (h : (¬ s0 = 0 → Ev l G d mPb_debt 63 [.ref a0, .int x1, .int x2, .int (x3 + 1), u4] [] M bc bs Φ) ∧ (s0 = 0 → Ev l G d mPb_debt 88 [.ref a0, .int x1, .int x2, .int x3, u4] [] M bc bs Φ)) :
    Ev l G d mPb_debt 76 [.ref a0, .int x1, .int x2, .int x3, u4] [.int s0] M bc bs Φ := by
  refine Ev.if_ne 82 (by decide) dPb_debt_76 (fun c => ?_) (fun c => ?_)
  · replace h := h.1 c
    refine Ev.iinc (v := x3 + 1) dPb_debt_82 (by decide) rfl rfl ?_
    show Ev l G d mPb_debt (_ + _) [.ref a0, .int x1, .int x2, .int (x3 + 1), u4] [] M bc bs Φ
    refine Ev.goto 63 dPb_debt_85 (by decide) ?_
    exact h
  · replace h := h.2 c
    refine Ev.goto 88 dPb_debt_79 (by decide) ?_
    exact h
theorem bPb_debt_88 {l : Launch} {G : Gx} {d : Nat} {bc bs : Nat} {Φ : OutV → Mm → Prop} (M : Mm) (a0 : Nat) (x1 : Int32) (x2 : Int32) (x3 : Int32) (u4 : Value)
    (h : ((m_sh M a0).1 = 5) ∧ ((m_sh M (m_r M a0 4)).1 = 20) ∧ (vp_in ((x1 * 8) + x2) (m_sh M (m_r M a0 4)).2) ∧ Φ (.inl (some (.int (m_i M (m_r M a0 4) ((x1 * 8) + x2).toNatClampNeg)))) M) :
    Ev l G d mPb_debt 88 [.ref a0, .int x1, .int x2, .int x3, u4] [] M bc bs Φ := by
  refine Ev.aload_n dPb_debt_88 rfl ?_
  have g1 := h.1
  replace h := h.2
  refine Ev.getR dPb_debt_89 (Or.inl fPb_24) rfl g1 ?_
  refine Ev.iload_n dPb_debt_92 rfl ?_
  refine Ev.bipush (v := 8) dPb_debt_93 (by decide) ?_
  refine Ev.imul dPb_debt_95 ?_
  refine Ev.iload_n dPb_debt_96 rfl ?_
  refine Ev.iadd dPb_debt_97 ?_
  have g2 := h.1
  replace h := h.2
  have g3 := h.1
  replace h := h.2
  refine Ev.iald2 dPb_debt_98 g2 g3 ?_
  exact Ev.iret dPb_debt_99 rfl rfl h
theorem dPb_setOffRound_0 : decode mPb_setOffRound.2.1 0 = .ok (.iconst 0, 1) := by decide +kernel
theorem dPb_setOffRound_1 : decode mPb_setOffRound.2.1 1 = .ok (.istore_n 1, 1) := by decide +kernel
theorem dPb_setOffRound_2 : decode mPb_setOffRound.2.1 2 = .ok (.iload_n 1, 1) := by decide +kernel
theorem dPb_setOffRound_3 : decode mPb_setOffRound.2.1 3 = .ok (.bipush 8, 2) := by decide +kernel
theorem dPb_setOffRound_5 : decode mPb_setOffRound.2.1 5 = .ok (.if_icmp .ge 68, 3) := by decide +kernel
theorem dPb_setOffRound_8 : decode mPb_setOffRound.2.1 8 = .ok (.iload_n 1, 1) := by decide +kernel
theorem dPb_setOffRound_9 : decode mPb_setOffRound.2.1 9 = .ok (.iconst 1, 1) := by decide +kernel
theorem dPb_setOffRound_10 : decode mPb_setOffRound.2.1 10 = .ok (.iadd, 1) := by decide +kernel
theorem dPb_setOffRound_11 : decode mPb_setOffRound.2.1 11 = .ok (.istore_n 2, 1) := by decide +kernel
theorem dPb_setOffRound_12 : decode mPb_setOffRound.2.1 12 = .ok (.iload_n 2, 1) := by decide +kernel
theorem dPb_setOffRound_13 : decode mPb_setOffRound.2.1 13 = .ok (.bipush 8, 2) := by decide +kernel
theorem dPb_setOffRound_15 : decode mPb_setOffRound.2.1 15 = .ok (.if_icmp .ge 52, 3) := by decide +kernel
theorem dPb_setOffRound_18 : decode mPb_setOffRound.2.1 18 = .ok (.iload_n 1, 1) := by decide +kernel
theorem dPb_setOffRound_19 : decode mPb_setOffRound.2.1 19 = .ok (.iconst 1, 1) := by decide +kernel
theorem dPb_setOffRound_20 : decode mPb_setOffRound.2.1 20 = .ok (.iadd, 1) := by decide +kernel
theorem dPb_setOffRound_21 : decode mPb_setOffRound.2.1 21 = .ok (.istore_n 3, 1) := by decide +kernel
theorem dPb_setOffRound_22 : decode mPb_setOffRound.2.1 22 = .ok (.iload_n 3, 1) := by decide +kernel
theorem dPb_setOffRound_23 : decode mPb_setOffRound.2.1 23 = .ok (.bipush 8, 2) := by decide +kernel
theorem dPb_setOffRound_25 : decode mPb_setOffRound.2.1 25 = .ok (.if_icmp .ge 36, 3) := by decide +kernel
theorem dPb_setOffRound_28 : decode mPb_setOffRound.2.1 28 = .ok (.aload_n 0, 1) := by decide +kernel
theorem dPb_setOffRound_29 : decode mPb_setOffRound.2.1 29 = .ok (.iload_n 1, 1) := by decide +kernel
theorem dPb_setOffRound_30 : decode mPb_setOffRound.2.1 30 = .ok (.bipush 8, 2) := by decide +kernel
theorem dPb_setOffRound_32 : decode mPb_setOffRound.2.1 32 = .ok (.imul, 1) := by decide +kernel
theorem dPb_setOffRound_33 : decode mPb_setOffRound.2.1 33 = .ok (.iload_n 2, 1) := by decide +kernel
theorem dPb_setOffRound_34 : decode mPb_setOffRound.2.1 34 = .ok (.iadd, 1) := by decide +kernel
theorem dPb_setOffRound_35 : decode mPb_setOffRound.2.1 35 = .ok (.iload_n 2, 1) := by decide +kernel
theorem dPb_setOffRound_36 : decode mPb_setOffRound.2.1 36 = .ok (.bipush 8, 2) := by decide +kernel
theorem dPb_setOffRound_38 : decode mPb_setOffRound.2.1 38 = .ok (.imul, 1) := by decide +kernel
theorem dPb_setOffRound_39 : decode mPb_setOffRound.2.1 39 = .ok (.iload_n 3, 1) := by decide +kernel
theorem dPb_setOffRound_40 : decode mPb_setOffRound.2.1 40 = .ok (.iadd, 1) := by decide +kernel
theorem dPb_setOffRound_41 : decode mPb_setOffRound.2.1 41 = .ok (.iload_n 3, 1) := by decide +kernel
theorem dPb_setOffRound_42 : decode mPb_setOffRound.2.1 42 = .ok (.bipush 8, 2) := by decide +kernel
theorem dPb_setOffRound_44 : decode mPb_setOffRound.2.1 44 = .ok (.imul, 1) := by decide +kernel
theorem dPb_setOffRound_45 : decode mPb_setOffRound.2.1 45 = .ok (.iload_n 1, 1) := by decide +kernel
theorem dPb_setOffRound_46 : decode mPb_setOffRound.2.1 46 = .ok (.iadd, 1) := by decide +kernel
theorem dPb_setOffRound_47 : decode mPb_setOffRound.2.1 47 = .ok (.invokevirtual 53, 3) := by decide +kernel
theorem dPb_setOffRound_50 : decode mPb_setOffRound.2.1 50 = .ok (.ifCond .eq 5, 3) := by decide +kernel
theorem dPb_setOffRound_53 : decode mPb_setOffRound.2.1 53 = .ok (.iconst 1, 1) := by decide +kernel
theorem dPb_setOffRound_54 : decode mPb_setOffRound.2.1 54 = .ok (.ireturn, 1) := by decide +kernel
theorem dPb_setOffRound_55 : decode mPb_setOffRound.2.1 55 = .ok (.iinc 3 1, 3) := by decide +kernel
theorem dPb_setOffRound_58 : decode mPb_setOffRound.2.1 58 = .ok (.goto (-36), 3) := by decide +kernel
theorem dPb_setOffRound_61 : decode mPb_setOffRound.2.1 61 = .ok (.iinc 2 1, 3) := by decide +kernel
theorem dPb_setOffRound_64 : decode mPb_setOffRound.2.1 64 = .ok (.goto (-52), 3) := by decide +kernel
theorem dPb_setOffRound_67 : decode mPb_setOffRound.2.1 67 = .ok (.iinc 1 1, 3) := by decide +kernel
theorem dPb_setOffRound_70 : decode mPb_setOffRound.2.1 70 = .ok (.goto (-68), 3) := by decide +kernel
theorem dPb_setOffRound_73 : decode mPb_setOffRound.2.1 73 = .ok (.iconst 0, 1) := by decide +kernel
theorem dPb_setOffRound_74 : decode mPb_setOffRound.2.1 74 = .ok (.ireturn, 1) := by decide +kernel
theorem bPb_setOffRound_0 {l : Launch} {G : Gx} {d : Nat} {bc bs : Nat} {Φ : OutV → Mm → Prop} (M : Mm) (a0 : Nat)
    (h : Ev l G d mPb_setOffRound 2 [.ref a0, .int 0, .null, .null] [] M bc bs Φ) :
    Ev l G d mPb_setOffRound 0 [.ref a0, .null, .null, .null] [] M bc bs Φ := by
  refine Ev.iconst (v := 0) dPb_setOffRound_0 (by decide) ?_
  refine Ev.istore_n dPb_setOffRound_1 (by decide) ?_
  show Ev l G d mPb_setOffRound (_ + _) [.ref a0, .int 0, .null, .null] [] M bc bs Φ
  exact h
theorem bPb_setOffRound_2 {l : Launch} {G : Gx} {d : Nat} {bc bs : Nat} {Φ : OutV → Mm → Prop} (M : Mm) (a0 : Nat) (x1 : Int32) (u2 : Value) (u3 : Value)
    (h : (8 ≤ x1 → Φ (.inl (some (.int 0))) M) ∧ (¬ 8 ≤ x1 → Ev l G d mPb_setOffRound 12 [.ref a0, .int x1, .int (x1 + 1), u3] [] M bc bs Φ)) :
    Ev l G d mPb_setOffRound 2 [.ref a0, .int x1, u2, u3] [] M bc bs Φ := by
  refine Ev.iload_n dPb_setOffRound_2 rfl ?_
  refine Ev.bipush (v := 8) dPb_setOffRound_3 (by decide) ?_
  refine Ev.icmp_ge 73 (by decide) dPb_setOffRound_5 (fun c => ?_) (fun c => ?_)
  · replace h := h.1 c
    refine Ev.iconst (v := 0) dPb_setOffRound_73 (by decide) ?_
    exact Ev.iret dPb_setOffRound_74 rfl rfl h
  · replace h := h.2 c
    refine Ev.iload_n dPb_setOffRound_8 rfl ?_
    refine Ev.iconst (v := 1) dPb_setOffRound_9 (by decide) ?_
    refine Ev.iadd dPb_setOffRound_10 ?_
    refine Ev.istore_n dPb_setOffRound_11 (by decide) ?_
    show Ev l G d mPb_setOffRound (_ + _) [.ref a0, .int x1, .int (x1 + 1), u3] [] M bc bs Φ
    exact h
theorem bPb_setOffRound_12 {l : Launch} {G : Gx} {d : Nat} {bc bs : Nat} {Φ : OutV → Mm → Prop} (M : Mm) (a0 : Nat) (x1 : Int32) (x2 : Int32) (u3 : Value)
    (h : (8 ≤ x2 → Ev l G d mPb_setOffRound 2 [.ref a0, .int (x1 + 1), .int x2, u3] [] M bc bs Φ) ∧ (¬ 8 ≤ x2 → Ev l G d mPb_setOffRound 22 [.ref a0, .int x1, .int x2, .int (x1 + 1)] [] M bc bs Φ)) :
    Ev l G d mPb_setOffRound 12 [.ref a0, .int x1, .int x2, u3] [] M bc bs Φ := by
  refine Ev.iload_n dPb_setOffRound_12 rfl ?_
  refine Ev.bipush (v := 8) dPb_setOffRound_13 (by decide) ?_
  refine Ev.icmp_ge 67 (by decide) dPb_setOffRound_15 (fun c => ?_) (fun c => ?_)
  · replace h := h.1 c
    refine Ev.iinc (v := x1 + 1) dPb_setOffRound_67 (by decide) rfl rfl ?_
    show Ev l G d mPb_setOffRound (_ + _) [.ref a0, .int (x1 + 1), .int x2, u3] [] M bc bs Φ
    refine Ev.goto 2 dPb_setOffRound_70 (by decide) ?_
    exact h
  · replace h := h.2 c
    refine Ev.iload_n dPb_setOffRound_18 rfl ?_
    refine Ev.iconst (v := 1) dPb_setOffRound_19 (by decide) ?_
    refine Ev.iadd dPb_setOffRound_20 ?_
    refine Ev.istore_n dPb_setOffRound_21 (by decide) ?_
    show Ev l G d mPb_setOffRound (_ + _) [.ref a0, .int x1, .int x2, .int (x1 + 1)] [] M bc bs Φ
    exact h
def mPb_setOff : MR := (⟨"BowingRow$PassBook", "setOff", "(III)Z"⟩, prog_7_method_7_code, 5, (Option.some .boolean))
theorem oPb_setOff : MOK mPb_setOff 3 := ⟨lwg_of 1163 (by decide +kernel) (by decide +kernel), lwg_of 98 (by decide +kernel) (by decide +kernel), ⟨by decide +kernel, by decide +kernel⟩, by decide +kernel, by decide⟩
theorem iPb_setOff : Cond.instanceMethod mPb_setOff.1 ∈ lwg := lwg_of 1162 (by decide +kernel) (by decide +kernel)
theorem sPb_setOff : Cond.selects mPb_setOff.1.cls mPb_setOff.1 mPb_setOff.1 ∈ lwg := lwg_of 31 (by decide +kernel) (by decide +kernel)
theorem w1160 : Cond.methodLink "BowingRow$PassBook" 53 ⟨"BowingRow$PassBook", "setOff", "(III)Z"⟩ ∈ lwg := lwg_of 1160 (by decide +kernel) (by decide +kernel)
theorem bPb_setOffRound_22 {l : Launch} {G : Gx} {d : Nat} {bc bs : Nat} {Φ : OutV → Mm → Prop} (M : Mm) (a0 : Nat) (x1 : Int32) (x2 : Int32) (x3 : Int32)
    (h : (8 ≤ x3 → Ev l G d mPb_setOffRound 12 [.ref a0, .int x1, .int (x2 + 1), .int x3] [] M bc bs Φ) ∧ (¬ 8 ≤ x3 → ((m_sh M a0).1 = 5) ∧ CallVC l G d mPb_setOffRound 50 [.ref a0, .int x1, .int x2, .int x3] [] mPb_setOff [.ref a0, .int ((x1 * 8) + x2), .int ((x2 * 8) + x3), .int ((x3 * 8) + x1)] M bc bs Φ)) :
    Ev l G d mPb_setOffRound 22 [.ref a0, .int x1, .int x2, .int x3] [] M bc bs Φ := by
  refine Ev.iload_n dPb_setOffRound_22 rfl ?_
  refine Ev.bipush (v := 8) dPb_setOffRound_23 (by decide) ?_
  refine Ev.icmp_ge 61 (by decide) dPb_setOffRound_25 (fun c => ?_) (fun c => ?_)
  · replace h := h.1 c
    refine Ev.iinc (v := x2 + 1) dPb_setOffRound_61 (by decide) rfl rfl ?_
    show Ev l G d mPb_setOffRound (_ + _) [.ref a0, .int x1, .int (x2 + 1), .int x3] [] M bc bs Φ
    refine Ev.goto 12 dPb_setOffRound_64 (by decide) ?_
    exact h
  · replace h := h.2 c
    refine Ev.aload_n dPb_setOffRound_28 rfl ?_
    refine Ev.iload_n dPb_setOffRound_29 rfl ?_
    refine Ev.bipush (v := 8) dPb_setOffRound_30 (by decide) ?_
    refine Ev.imul dPb_setOffRound_32 ?_
    refine Ev.iload_n dPb_setOffRound_33 rfl ?_
    refine Ev.iadd dPb_setOffRound_34 ?_
    refine Ev.iload_n dPb_setOffRound_35 rfl ?_
    refine Ev.bipush (v := 8) dPb_setOffRound_36 (by decide) ?_
    refine Ev.imul dPb_setOffRound_38 ?_
    refine Ev.iload_n dPb_setOffRound_39 rfl ?_
    refine Ev.iadd dPb_setOffRound_40 ?_
    refine Ev.iload_n dPb_setOffRound_41 rfl ?_
    refine Ev.bipush (v := 8) dPb_setOffRound_42 (by decide) ?_
    refine Ev.imul dPb_setOffRound_44 ?_
    refine Ev.iload_n dPb_setOffRound_45 rfl ?_
    refine Ev.iadd dPb_setOffRound_46 ?_
    have g1 := h.1
    replace h := h.2
    exact Ev.vcV (z := mPb_setOff) (ci := 5) [.int ((x1 * 8) + x2), .int ((x2 * 8) + x3), .int ((x3 * 8) + x1)] [] rfl dPb_setOffRound_47 oPb_setOff rfl w1160 iPb_setOff sPb_setOff (by decide) rfl g1 (Nat.le_of_ble_eq_true rfl) h
theorem bPb_setOffRound_50 {l : Launch} {G : Gx} {d : Nat} {bc bs : Nat} {Φ : OutV → Mm → Prop} (M : Mm) (a0 : Nat) (x1 : Int32) (x2 : Int32) (x3 : Int32) (s0 : Int32)
    (h : (s0 = 0 → Ev l G d mPb_setOffRound 22 [.ref a0, .int x1, .int x2, .int (x3 + 1)] [] M bc bs Φ) ∧ (¬ s0 = 0 → Φ (.inl (some (.int 1))) M)) :
    Ev l G d mPb_setOffRound 50 [.ref a0, .int x1, .int x2, .int x3] [.int s0] M bc bs Φ := by
  refine Ev.if_eq 55 (by decide) dPb_setOffRound_50 (fun c => ?_) (fun c => ?_)
  · replace h := h.1 c
    refine Ev.iinc (v := x3 + 1) dPb_setOffRound_55 (by decide) rfl rfl ?_
    show Ev l G d mPb_setOffRound (_ + _) [.ref a0, .int x1, .int x2, .int (x3 + 1)] [] M bc bs Φ
    refine Ev.goto 22 dPb_setOffRound_58 (by decide) ?_
    exact h
  · replace h := h.2 c
    refine Ev.iconst (v := 1) dPb_setOffRound_53 (by decide) ?_
    exact Ev.iret dPb_setOffRound_54 rfl rfl h
theorem dPb_setOff_0 : decode mPb_setOff.2.1 0 = .ok (.aload_n 0, 1) := by decide +kernel
theorem dPb_setOff_1 : decode mPb_setOff.2.1 1 = .ok (.getfield 24, 3) := by decide +kernel
theorem dPb_setOff_4 : decode mPb_setOff.2.1 4 = .ok (.iload_n 1, 1) := by decide +kernel
theorem dPb_setOff_5 : decode mPb_setOff.2.1 5 = .ok (.iaload, 1) := by decide +kernel
theorem dPb_setOff_6 : decode mPb_setOff.2.1 6 = .ok (.aload_n 0, 1) := by decide +kernel
theorem dPb_setOff_7 : decode mPb_setOff.2.1 7 = .ok (.getfield 24, 3) := by decide +kernel
theorem dPb_setOff_10 : decode mPb_setOff.2.1 10 = .ok (.iload_n 2, 1) := by decide +kernel
theorem dPb_setOff_11 : decode mPb_setOff.2.1 11 = .ok (.iaload, 1) := by decide +kernel
theorem dPb_setOff_12 : decode mPb_setOff.2.1 12 = .ok (.aload_n 0, 1) := by decide +kernel
theorem dPb_setOff_13 : decode mPb_setOff.2.1 13 = .ok (.getfield 24, 3) := by decide +kernel
theorem dPb_setOff_16 : decode mPb_setOff.2.1 16 = .ok (.iload_n 3, 1) := by decide +kernel
theorem dPb_setOff_17 : decode mPb_setOff.2.1 17 = .ok (.iaload, 1) := by decide +kernel
theorem dPb_setOff_18 : decode mPb_setOff.2.1 18 = .ok (.invokestatic 57, 3) := by decide +kernel
theorem dPb_setOff_21 : decode mPb_setOff.2.1 21 = .ok (.invokestatic 57, 3) := by decide +kernel
theorem dPb_setOff_24 : decode mPb_setOff.2.1 24 = .ok (.istore 4, 2) := by decide +kernel
theorem dPb_setOff_26 : decode mPb_setOff.2.1 26 = .ok (.aload_n 0, 1) := by decide +kernel
theorem dPb_setOff_27 : decode mPb_setOff.2.1 27 = .ok (.getfield 24, 3) := by decide +kernel
theorem dPb_setOff_30 : decode mPb_setOff.2.1 30 = .ok (.iload_n 1, 1) := by decide +kernel
theorem dPb_setOff_31 : decode mPb_setOff.2.1 31 = .ok (.dup2, 1) := by decide +kernel
theorem dPb_setOff_32 : decode mPb_setOff.2.1 32 = .ok (.iaload, 1) := by decide +kernel
theorem dPb_setOff_33 : decode mPb_setOff.2.1 33 = .ok (.iload 4, 2) := by decide +kernel
theorem dPb_setOff_35 : decode mPb_setOff.2.1 35 = .ok (.isub, 1) := by decide +kernel
theorem dPb_setOff_36 : decode mPb_setOff.2.1 36 = .ok (.iastore, 1) := by decide +kernel
theorem dPb_setOff_37 : decode mPb_setOff.2.1 37 = .ok (.aload_n 0, 1) := by decide +kernel
theorem dPb_setOff_38 : decode mPb_setOff.2.1 38 = .ok (.getfield 24, 3) := by decide +kernel
theorem dPb_setOff_41 : decode mPb_setOff.2.1 41 = .ok (.iload_n 2, 1) := by decide +kernel
theorem dPb_setOff_42 : decode mPb_setOff.2.1 42 = .ok (.dup2, 1) := by decide +kernel
theorem dPb_setOff_43 : decode mPb_setOff.2.1 43 = .ok (.iaload, 1) := by decide +kernel
theorem dPb_setOff_44 : decode mPb_setOff.2.1 44 = .ok (.iload 4, 2) := by decide +kernel
theorem dPb_setOff_46 : decode mPb_setOff.2.1 46 = .ok (.isub, 1) := by decide +kernel
theorem dPb_setOff_47 : decode mPb_setOff.2.1 47 = .ok (.iastore, 1) := by decide +kernel
theorem dPb_setOff_48 : decode mPb_setOff.2.1 48 = .ok (.aload_n 0, 1) := by decide +kernel
theorem dPb_setOff_49 : decode mPb_setOff.2.1 49 = .ok (.getfield 24, 3) := by decide +kernel
theorem dPb_setOff_52 : decode mPb_setOff.2.1 52 = .ok (.iload_n 3, 1) := by decide +kernel
theorem dPb_setOff_53 : decode mPb_setOff.2.1 53 = .ok (.dup2, 1) := by decide +kernel
theorem dPb_setOff_54 : decode mPb_setOff.2.1 54 = .ok (.iaload, 1) := by decide +kernel
theorem dPb_setOff_55 : decode mPb_setOff.2.1 55 = .ok (.iload 4, 2) := by decide +kernel
theorem dPb_setOff_57 : decode mPb_setOff.2.1 57 = .ok (.isub, 1) := by decide +kernel
theorem dPb_setOff_58 : decode mPb_setOff.2.1 58 = .ok (.iastore, 1) := by decide +kernel
theorem dPb_setOff_59 : decode mPb_setOff.2.1 59 = .ok (.iload 4, 2) := by decide +kernel
theorem dPb_setOff_61 : decode mPb_setOff.2.1 61 = .ok (.ifCond .le 7, 3) := by decide +kernel
theorem dPb_setOff_64 : decode mPb_setOff.2.1 64 = .ok (.iconst 1, 1) := by decide +kernel
theorem dPb_setOff_65 : decode mPb_setOff.2.1 65 = .ok (.goto 4, 3) := by decide +kernel
theorem dPb_setOff_68 : decode mPb_setOff.2.1 68 = .ok (.iconst 0, 1) := by decide +kernel
theorem dPb_setOff_69 : decode mPb_setOff.2.1 69 = .ok (.ireturn, 1) := by decide +kernel
theorem w_min_s : Cond.static Lib.Math.min.name ∈ lwg := lwg_of 638 (by decide +kernel) (by decide +kernel)
theorem w_min_c : Cond.code Lib.Math.min.name Lib.Math.min.code 2 (some .int) ∈ lwg := lwg_of 639 (by decide +kernel) (by decide +kernel)
theorem w1164 : Cond.methodLink "BowingRow$PassBook" 57 ⟨"java/lang/Math", "min", "(II)I"⟩ ∈ lwg := lwg_of 1164 (by decide +kernel) (by decide +kernel)
theorem bPb_setOff_0 {l : Launch} {G : Gx} {d : Nat} {bc bs : Nat} {Φ : OutV → Mm → Prop} (M : Mm) (a0 : Nat) (x1 : Int32) (x2 : Int32) (x3 : Int32)
    (h : ((m_sh M a0).1 = 5) ∧ ((m_sh M (m_r M a0 4)).1 = 20) ∧ (vp_in x1 (m_sh M (m_r M a0 4)).2) ∧ (vp_in x2 (m_sh M (m_r M a0 4)).2) ∧ (vp_in x3 (m_sh M (m_r M a0 4)).2) ∧ (1 ≤ d) ∧ Ev l G d mPb_setOff 48 [.ref a0, .int x1, .int x2, .int x3, .int (if (if (m_i M (m_r M a0 4) x3.toNatClampNeg) < (m_i M (m_r M a0 4) x2.toNatClampNeg) then (m_i M (m_r M a0 4) x3.toNatClampNeg) else (m_i M (m_r M a0 4) x2.toNatClampNeg)) < (m_i M (m_r M a0 4) x1.toNatClampNeg) then (if (m_i M (m_r M a0 4) x3.toNatClampNeg) < (m_i M (m_r M a0 4) x2.toNatClampNeg) then (m_i M (m_r M a0 4) x3.toNatClampNeg) else (m_i M (m_r M a0 4) x2.toNatClampNeg)) else (m_i M (m_r M a0 4) x1.toNatClampNeg))] [] (m_si (m_si M (m_r M a0 4) x1.toNatClampNeg ((m_i M (m_r M a0 4) x1.toNatClampNeg) - (if (if (m_i M (m_r M a0 4) x3.toNatClampNeg) < (m_i M (m_r M a0 4) x2.toNatClampNeg) then (m_i M (m_r M a0 4) x3.toNatClampNeg) else (m_i M (m_r M a0 4) x2.toNatClampNeg)) < (m_i M (m_r M a0 4) x1.toNatClampNeg) then (if (m_i M (m_r M a0 4) x3.toNatClampNeg) < (m_i M (m_r M a0 4) x2.toNatClampNeg) then (m_i M (m_r M a0 4) x3.toNatClampNeg) else (m_i M (m_r M a0 4) x2.toNatClampNeg)) else (m_i M (m_r M a0 4) x1.toNatClampNeg)))) (m_r M a0 4) x2.toNatClampNeg ((m_i (m_si M (m_r M a0 4) x1.toNatClampNeg ((m_i M (m_r M a0 4) x1.toNatClampNeg) - (if (if (m_i M (m_r M a0 4) x3.toNatClampNeg) < (m_i M (m_r M a0 4) x2.toNatClampNeg) then (m_i M (m_r M a0 4) x3.toNatClampNeg) else (m_i M (m_r M a0 4) x2.toNatClampNeg)) < (m_i M (m_r M a0 4) x1.toNatClampNeg) then (if (m_i M (m_r M a0 4) x3.toNatClampNeg) < (m_i M (m_r M a0 4) x2.toNatClampNeg) then (m_i M (m_r M a0 4) x3.toNatClampNeg) else (m_i M (m_r M a0 4) x2.toNatClampNeg)) else (m_i M (m_r M a0 4) x1.toNatClampNeg)))) (m_r M a0 4) x2.toNatClampNeg) - (if (if (m_i M (m_r M a0 4) x3.toNatClampNeg) < (m_i M (m_r M a0 4) x2.toNatClampNeg) then (m_i M (m_r M a0 4) x3.toNatClampNeg) else (m_i M (m_r M a0 4) x2.toNatClampNeg)) < (m_i M (m_r M a0 4) x1.toNatClampNeg) then (if (m_i M (m_r M a0 4) x3.toNatClampNeg) < (m_i M (m_r M a0 4) x2.toNatClampNeg) then (m_i M (m_r M a0 4) x3.toNatClampNeg) else (m_i M (m_r M a0 4) x2.toNatClampNeg)) else (m_i M (m_r M a0 4) x1.toNatClampNeg)))) bc bs Φ) :
    Ev l G d mPb_setOff 0 [.ref a0, .int x1, .int x2, .int x3, .null] [] M bc bs Φ := by
  refine Ev.aload_n dPb_setOff_0 rfl ?_
  have g1 := h.1
  replace h := h.2
  refine Ev.getR dPb_setOff_1 (Or.inl fPb_24) rfl g1 ?_
  refine Ev.iload_n dPb_setOff_4 rfl ?_
  have g2 := h.1
  replace h := h.2
  have g3 := h.1
  replace h := h.2
  refine Ev.iald2 dPb_setOff_5 g2 g3 ?_
  refine Ev.aload_n dPb_setOff_6 rfl ?_
  refine Ev.getR dPb_setOff_7 (Or.inl fPb_24) rfl g1 ?_
  refine Ev.iload_n dPb_setOff_10 rfl ?_
  have g4 := h.1
  replace h := h.2
  refine Ev.iald2 dPb_setOff_11 g2 g4 ?_
  refine Ev.aload_n dPb_setOff_12 rfl ?_
  refine Ev.getR dPb_setOff_13 (Or.inl fPb_24) rfl g1 ?_
  refine Ev.iload_n dPb_setOff_16 rfl ?_
  have g5 := h.1
  replace h := h.2
  refine Ev.iald2 dPb_setOff_17 g2 g5 ?_
  have g6 := h.1
  replace h := h.2
  refine Ev.mmin dPb_setOff_18 w1164 w_min_s w115 w_min_c (Nat.le_of_ble_eq_true rfl) g6 ?_
  refine Ev.mmin dPb_setOff_21 w1164 w_min_s w115 w_min_c (Nat.le_of_ble_eq_true rfl) g6 ?_
  refine Ev.istore dPb_setOff_24 (by decide) ?_
  show Ev l G d mPb_setOff (_ + _) [.ref a0, .int x1, .int x2, .int x3, .int (if (if (m_i M (m_r M a0 4) x3.toNatClampNeg) < (m_i M (m_r M a0 4) x2.toNatClampNeg) then (m_i M (m_r M a0 4) x3.toNatClampNeg) else (m_i M (m_r M a0 4) x2.toNatClampNeg)) < (m_i M (m_r M a0 4) x1.toNatClampNeg) then (if (m_i M (m_r M a0 4) x3.toNatClampNeg) < (m_i M (m_r M a0 4) x2.toNatClampNeg) then (m_i M (m_r M a0 4) x3.toNatClampNeg) else (m_i M (m_r M a0 4) x2.toNatClampNeg)) else (m_i M (m_r M a0 4) x1.toNatClampNeg))] [] M bc bs Φ
  refine Ev.aload_n dPb_setOff_26 rfl ?_
  refine Ev.getR dPb_setOff_27 (Or.inl fPb_24) rfl g1 ?_
  refine Ev.iload_n dPb_setOff_30 rfl ?_
  refine Ev.dup2 dPb_setOff_31 rfl rfl ?_
  refine Ev.iald2 dPb_setOff_32 g2 g3 ?_
  refine Ev.iload dPb_setOff_33 rfl ?_
  refine Ev.isub dPb_setOff_35 ?_
  refine Ev.iast2 dPb_setOff_36 g2 g3 ?_
  refine Ev.aload_n dPb_setOff_37 rfl ?_
  refine Ev.getR dPb_setOff_38 (Or.inl fPb_24) rfl g1 ?_
  refine Ev.iload_n dPb_setOff_41 rfl ?_
  refine Ev.dup2 dPb_setOff_42 rfl rfl ?_
  refine Ev.iald2 dPb_setOff_43 g2 g4 ?_
  refine Ev.iload dPb_setOff_44 rfl ?_
  refine Ev.isub dPb_setOff_46 ?_
  refine Ev.iast2 dPb_setOff_47 g2 g4 ?_
  exact h
theorem bPb_setOff_48 {l : Launch} {G : Gx} {d : Nat} {bc bs : Nat} {Φ : OutV → Mm → Prop} (M : Mm) (a0 : Nat) (x1 : Int32) (x2 : Int32) (x3 : Int32) (x4 : Int32)
    (h : ((m_sh M a0).1 = 5) ∧ ((m_sh M (m_r M a0 4)).1 = 20) ∧ (vp_in x3 (m_sh M (m_r M a0 4)).2) ∧ (x4 ≤ 0 → Φ (.inl (some (.int 0))) (m_si M (m_r M a0 4) x3.toNatClampNeg ((m_i M (m_r M a0 4) x3.toNatClampNeg) - x4))) ∧ (¬ x4 ≤ 0 → Φ (.inl (some (.int 1))) (m_si M (m_r M a0 4) x3.toNatClampNeg ((m_i M (m_r M a0 4) x3.toNatClampNeg) - x4)))) :
    Ev l G d mPb_setOff 48 [.ref a0, .int x1, .int x2, .int x3, .int x4] [] M bc bs Φ := by
  refine Ev.aload_n dPb_setOff_48 rfl ?_
  have g1 := h.1
  replace h := h.2
  refine Ev.getR dPb_setOff_49 (Or.inl fPb_24) rfl g1 ?_
  refine Ev.iload_n dPb_setOff_52 rfl ?_
  refine Ev.dup2 dPb_setOff_53 rfl rfl ?_
  have g2 := h.1
  replace h := h.2
  have g3 := h.1
  replace h := h.2
  refine Ev.iald2 dPb_setOff_54 g2 g3 ?_
  refine Ev.iload dPb_setOff_55 rfl ?_
  refine Ev.isub dPb_setOff_57 ?_
  refine Ev.iast2 dPb_setOff_58 g2 g3 ?_
  refine Ev.iload dPb_setOff_59 rfl ?_
  refine Ev.if_le 68 (by decide) dPb_setOff_61 (fun c => ?_) (fun c => ?_)
  · replace h := h.1 c
    refine Ev.iconst (v := 0) dPb_setOff_68 (by decide) ?_
    exact Ev.iret dPb_setOff_69 rfl rfl h
  · replace h := h.2 c
    refine Ev.iconst (v := 1) dPb_setOff_64 (by decide) ?_
    refine Ev.goto 69 dPb_setOff_65 (by decide) ?_
    exact Ev.iret dPb_setOff_69 rfl rfl h
