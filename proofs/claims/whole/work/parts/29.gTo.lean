def mTo_init : MR := (⟨"BowingRow$Tokens", "<init>", "()V"⟩, prog_10_method_1_code, 1, none)
theorem oTo_init : MOK mTo_init 0 := ⟨lwg_of 132 (by decide +kernel) (by decide +kernel), lwg_of 92 (by decide +kernel) (by decide +kernel), ⟨by decide +kernel, by decide +kernel⟩, by decide +kernel, by decide⟩
theorem iTo_init : Cond.instanceMethod mTo_init.1 ∈ lwg := lwg_of 131 (by decide +kernel) (by decide +kernel)
theorem dTo_init_0 : decode mTo_init.2.1 0 = .ok (.aload_n 0, 1) := by decide +kernel
theorem dTo_init_1 : decode mTo_init.2.1 1 = .ok (.invokespecial 3, 3) := by decide +kernel
theorem dTo_init_4 : decode mTo_init.2.1 4 = .ok (.aload_n 0, 1) := by decide +kernel
theorem dTo_init_5 : decode mTo_init.2.1 5 = .ok (.sipush 501, 3) := by decide +kernel
theorem dTo_init_8 : decode mTo_init.2.1 8 = .ok (.newarray .int, 2) := by decide +kernel
theorem dTo_init_10 : decode mTo_init.2.1 10 = .ok (.putfield 9, 3) := by decide +kernel
theorem dTo_init_13 : decode mTo_init.2.1 13 = .ok (.aload_n 0, 1) := by decide +kernel
theorem dTo_init_14 : decode mTo_init.2.1 14 = .ok (.sipush 501, 3) := by decide +kernel
theorem dTo_init_17 : decode mTo_init.2.1 17 = .ok (.newarray .int, 2) := by decide +kernel
theorem dTo_init_19 : decode mTo_init.2.1 19 = .ok (.putfield 15, 3) := by decide +kernel
theorem dTo_init_22 : decode mTo_init.2.1 22 = .ok (.aload_n 0, 1) := by decide +kernel
theorem dTo_init_23 : decode mTo_init.2.1 23 = .ok (.sipush 501, 3) := by decide +kernel
theorem dTo_init_26 : decode mTo_init.2.1 26 = .ok (.newarray .int, 2) := by decide +kernel
theorem dTo_init_28 : decode mTo_init.2.1 28 = .ok (.putfield 18, 3) := by decide +kernel
theorem dTo_init_31 : decode mTo_init.2.1 31 = .ok (.aload_n 0, 1) := by decide +kernel
theorem dTo_init_32 : decode mTo_init.2.1 32 = .ok (.sipush 501, 3) := by decide +kernel
theorem dTo_init_35 : decode mTo_init.2.1 35 = .ok (.anewarray 21, 3) := by decide +kernel
theorem dTo_init_38 : decode mTo_init.2.1 38 = .ok (.putfield 23, 3) := by decide +kernel
theorem dTo_init_41 : decode mTo_init.2.1 41 = .ok (.return_, 1) := by decide +kernel
theorem w133 : Cond.methodLink "BowingRow$Tokens" 3 ⟨"java/lang/Object", "<init>", "()V"⟩ ∈ lwg := lwg_of 133 (by decide +kernel) (by decide +kernel)
theorem fTo_9 : FOK "BowingRow$Tokens" 9 8 0 true := ⟨RX8, TX8, nFd 8, rfl, by decide, rfl, by decide, rfl, lwg_of 136 (by decide +kernel) (by decide +kernel)⟩
theorem bTo_init_0 {l : Launch} {G : Gx} {d : Nat} {bc bs : Nat} {Φ : OutV → Mm → Prop} (M : Mm) (a0 : Nat)
    (h : (a0 ≠ 0 ∧ 1 ≤ d) ∧ (1 ≤ bc ∧ 501 ≤ bs) ∧ ((m_sh (m_al M (20, 501)) a0).1 = 8) ∧ Ev l G d mTo_init 13 [.ref a0] [] (m_sr (m_al M (20, 501)) a0 0 (m_nx M)) (bc - 1) (bs - 501) Φ) :
    Ev l G d mTo_init 0 [.ref a0] [] M bc bs Φ := by
  refine Ev.aload_n dTo_init_0 rfl ?_
  have g1 := h.1
  replace h := h.2
  refine Ev.objInit dTo_init_1 w133 w_oi w_oc (Nat.le_of_ble_eq_true rfl) g1.2 g1.1 ?_
  refine Ev.aload_n dTo_init_4 rfl ?_
  refine Ev.sipush (v := 501) dTo_init_5 (by decide) ?_
  have g2 := h.1
  replace h := h.2
  refine Ev.newI2 501 dTo_init_8 w164 (by decide) (by decide) (by decide) g2 ?_
  have g3 := h.1
  replace h := h.2
  refine Ev.putR dTo_init_10 ⟨_, Or.inl ⟨fTo_9, (fun _ => ⟨rfl, fun r hr => by cases hr; rfl⟩)⟩⟩ rfl (fun ad => fitR (by first | exact Or.inl ⟨_, rfl⟩ | exact Or.inr ⟨_, rfl⟩) _ ad) g3 ?_
  exact h
theorem fTo_15 : FOK "BowingRow$Tokens" 15 8 1 true := ⟨RX8, TX8, nFd 8, rfl, by decide, rfl, by decide, rfl, lwg_of 137 (by decide +kernel) (by decide +kernel)⟩
theorem bTo_init_13 {l : Launch} {G : Gx} {d : Nat} {bc bs : Nat} {Φ : OutV → Mm → Prop} (M : Mm) (a0 : Nat)
    (h : (1 ≤ bc ∧ 501 ≤ bs) ∧ ((m_sh (m_al M (20, 501)) a0).1 = 8) ∧ Ev l G d mTo_init 22 [.ref a0] [] (m_sr (m_al M (20, 501)) a0 1 (m_nx M)) (bc - 1) (bs - 501) Φ) :
    Ev l G d mTo_init 13 [.ref a0] [] M bc bs Φ := by
  refine Ev.aload_n dTo_init_13 rfl ?_
  refine Ev.sipush (v := 501) dTo_init_14 (by decide) ?_
  have g1 := h.1
  replace h := h.2
  refine Ev.newI2 501 dTo_init_17 w164 (by decide) (by decide) (by decide) g1 ?_
  have g2 := h.1
  replace h := h.2
  refine Ev.putR dTo_init_19 ⟨_, Or.inl ⟨fTo_15, (fun _ => ⟨rfl, fun r hr => by cases hr; rfl⟩)⟩⟩ rfl (fun ad => fitR (by first | exact Or.inl ⟨_, rfl⟩ | exact Or.inr ⟨_, rfl⟩) _ ad) g2 ?_
  exact h
theorem fTo_18 : FOK "BowingRow$Tokens" 18 8 2 true := ⟨RX8, TX8, nFd 8, rfl, by decide, rfl, by decide, rfl, lwg_of 138 (by decide +kernel) (by decide +kernel)⟩
theorem bTo_init_22 {l : Launch} {G : Gx} {d : Nat} {bc bs : Nat} {Φ : OutV → Mm → Prop} (M : Mm) (a0 : Nat)
    (h : (1 ≤ bc ∧ 501 ≤ bs) ∧ ((m_sh (m_al M (20, 501)) a0).1 = 8) ∧ Ev l G d mTo_init 31 [.ref a0] [] (m_sr (m_al M (20, 501)) a0 2 (m_nx M)) (bc - 1) (bs - 501) Φ) :
    Ev l G d mTo_init 22 [.ref a0] [] M bc bs Φ := by
  refine Ev.aload_n dTo_init_22 rfl ?_
  refine Ev.sipush (v := 501) dTo_init_23 (by decide) ?_
  have g1 := h.1
  replace h := h.2
  refine Ev.newI2 501 dTo_init_26 w164 (by decide) (by decide) (by decide) g1 ?_
  have g2 := h.1
  replace h := h.2
  refine Ev.putR dTo_init_28 ⟨_, Or.inl ⟨fTo_18, (fun _ => ⟨rfl, fun r hr => by cases hr; rfl⟩)⟩⟩ rfl (fun ad => fitR (by first | exact Or.inl ⟨_, rfl⟩ | exact Or.inr ⟨_, rfl⟩) _ ad) g2 ?_
  exact h
theorem w134 : Cond.classLink "BowingRow$Tokens" 21 "BowingRow$Word" ∈ lwg := lwg_of 134 (by decide +kernel) (by decide +kernel)
theorem w135 : Cond.arrayOver (.object "BowingRow$Word") ∈ lwx := lwx_of 135 (by decide +kernel) (by decide +kernel)
theorem fTo_23 : FOK "BowingRow$Tokens" 23 8 3 true := ⟨RX8, TX8, nFd 8, rfl, by decide, rfl, by decide, rfl, lwg_of 139 (by decide +kernel) (by decide +kernel)⟩
theorem bTo_init_31 {l : Launch} {G : Gx} {d : Nat} {bc bs : Nat} {Φ : OutV → Mm → Prop} (M : Mm) (a0 : Nat)
    (h : (1 ≤ bc ∧ 501 ≤ bs) ∧ ((m_sh (m_al M (32, 501)) a0).1 = 8) ∧ Ev l G d mTo_init 41 [.ref a0] [] (m_sr (m_al M (32, 501)) a0 3 (m_nx M)) (bc - 1) (bs - 501) Φ) :
    Ev l G d mTo_init 31 [.ref a0] [] M bc bs Φ := by
  refine Ev.aload_n dTo_init_31 rfl ?_
  refine Ev.sipush (v := 501) dTo_init_32 (by decide) ?_
  have g1 := h.1
  replace h := h.2
  refine Ev.newQ2 32 5 501 dTo_init_35 (by decide) (fun _ => rfl) w134 w135 (by decide) (by decide) (by decide) g1 ?_
  have g2 := h.1
  replace h := h.2
  refine Ev.putR dTo_init_38 ⟨_, Or.inl ⟨fTo_23, (fun _ => ⟨rfl, fun r hr => by cases hr; rfl⟩)⟩⟩ rfl (fun ad => fitR (by first | exact Or.inl ⟨_, rfl⟩ | exact Or.inr ⟨_, rfl⟩) _ ad) g2 ?_
  exact h
theorem bTo_init_41 {l : Launch} {G : Gx} {d : Nat} {bc bs : Nat} {Φ : OutV → Mm → Prop} (M : Mm) (a0 : Nat)
    (h : Φ (.inl none) M) :
    Ev l G d mTo_init 41 [.ref a0] [] M bc bs Φ := by
  exact Ev.vret dTo_init_41 rfl h
def mTo_cut : MR := (⟨"BowingRow$Tokens", "cut", "([BI)V"⟩, prog_10_method_2_code, 5, none)
theorem oTo_cut : MOK mTo_cut 2 := ⟨lwg_of 793 (by decide +kernel) (by decide +kernel), lwg_of 92 (by decide +kernel) (by decide +kernel), ⟨by decide +kernel, by decide +kernel⟩, by decide +kernel, by decide⟩
theorem iTo_cut : Cond.instanceMethod mTo_cut.1 ∈ lwg := lwg_of 791 (by decide +kernel) (by decide +kernel)
theorem sTo_cut : Cond.selects mTo_cut.1.cls mTo_cut.1 mTo_cut.1 ∈ lwg := lwg_of 792 (by decide +kernel) (by decide +kernel)
theorem dTo_cut_0 : decode mTo_cut.2.1 0 = .ok (.aload_n 0, 1) := by decide +kernel
theorem dTo_cut_1 : decode mTo_cut.2.1 1 = .ok (.iconst 0, 1) := by decide +kernel
theorem dTo_cut_2 : decode mTo_cut.2.1 2 = .ok (.putfield 27, 3) := by decide +kernel
theorem dTo_cut_5 : decode mTo_cut.2.1 5 = .ok (.aload_n 0, 1) := by decide +kernel
theorem dTo_cut_6 : decode mTo_cut.2.1 6 = .ok (.iconst 0, 1) := by decide +kernel
theorem dTo_cut_7 : decode mTo_cut.2.1 7 = .ok (.putfield 31, 3) := by decide +kernel
theorem dTo_cut_10 : decode mTo_cut.2.1 10 = .ok (.aload_n 0, 1) := by decide +kernel
theorem dTo_cut_11 : decode mTo_cut.2.1 11 = .ok (.iconst 0, 1) := by decide +kernel
theorem dTo_cut_12 : decode mTo_cut.2.1 12 = .ok (.putfield 34, 3) := by decide +kernel
theorem dTo_cut_15 : decode mTo_cut.2.1 15 = .ok (.aload_n 0, 1) := by decide +kernel
theorem dTo_cut_16 : decode mTo_cut.2.1 16 = .ok (.iconst (-1), 1) := by decide +kernel
theorem dTo_cut_17 : decode mTo_cut.2.1 17 = .ok (.putfield 37, 3) := by decide +kernel
theorem dTo_cut_20 : decode mTo_cut.2.1 20 = .ok (.iconst 0, 1) := by decide +kernel
theorem dTo_cut_21 : decode mTo_cut.2.1 21 = .ok (.istore_n 3, 1) := by decide +kernel
theorem dTo_cut_22 : decode mTo_cut.2.1 22 = .ok (.iconst 0, 1) := by decide +kernel
theorem dTo_cut_23 : decode mTo_cut.2.1 23 = .ok (.istore 4, 2) := by decide +kernel
theorem dTo_cut_25 : decode mTo_cut.2.1 25 = .ok (.iload 4, 2) := by decide +kernel
theorem dTo_cut_27 : decode mTo_cut.2.1 27 = .ok (.iload_n 2, 1) := by decide +kernel
theorem dTo_cut_28 : decode mTo_cut.2.1 28 = .ok (.if_icmp .ge 36, 3) := by decide +kernel
theorem dTo_cut_31 : decode mTo_cut.2.1 31 = .ok (.iload_n 3, 1) := by decide +kernel
theorem dTo_cut_32 : decode mTo_cut.2.1 32 = .ok (.iload_n 2, 1) := by decide +kernel
theorem dTo_cut_33 : decode mTo_cut.2.1 33 = .ok (.if_icmp .ge 31, 3) := by decide +kernel
theorem dTo_cut_36 : decode mTo_cut.2.1 36 = .ok (.aload_n 1, 1) := by decide +kernel
theorem dTo_cut_37 : decode mTo_cut.2.1 37 = .ok (.iload_n 3, 1) := by decide +kernel
theorem dTo_cut_38 : decode mTo_cut.2.1 38 = .ok (.baload, 1) := by decide +kernel
theorem dTo_cut_39 : decode mTo_cut.2.1 39 = .ok (.bipush 32, 2) := by decide +kernel
theorem dTo_cut_41 : decode mTo_cut.2.1 41 = .ok (.if_icmp .ne 9, 3) := by decide +kernel
theorem dTo_cut_44 : decode mTo_cut.2.1 44 = .ok (.iload_n 3, 1) := by decide +kernel
theorem dTo_cut_45 : decode mTo_cut.2.1 45 = .ok (.iconst 1, 1) := by decide +kernel
theorem dTo_cut_46 : decode mTo_cut.2.1 46 = .ok (.iadd, 1) := by decide +kernel
theorem dTo_cut_47 : decode mTo_cut.2.1 47 = .ok (.goto 10, 3) := by decide +kernel
theorem dTo_cut_50 : decode mTo_cut.2.1 50 = .ok (.aload_n 0, 1) := by decide +kernel
theorem dTo_cut_51 : decode mTo_cut.2.1 51 = .ok (.aload_n 1, 1) := by decide +kernel
theorem dTo_cut_52 : decode mTo_cut.2.1 52 = .ok (.iload_n 2, 1) := by decide +kernel
theorem dTo_cut_53 : decode mTo_cut.2.1 53 = .ok (.iload_n 3, 1) := by decide +kernel
theorem dTo_cut_54 : decode mTo_cut.2.1 54 = .ok (.invokevirtual 40, 3) := by decide +kernel
theorem dTo_cut_57 : decode mTo_cut.2.1 57 = .ok (.istore_n 3, 1) := by decide +kernel
theorem dTo_cut_58 : decode mTo_cut.2.1 58 = .ok (.iinc 4 1, 3) := by decide +kernel
theorem dTo_cut_61 : decode mTo_cut.2.1 61 = .ok (.goto (-36), 3) := by decide +kernel
theorem dTo_cut_64 : decode mTo_cut.2.1 64 = .ok (.aload_n 0, 1) := by decide +kernel
theorem dTo_cut_65 : decode mTo_cut.2.1 65 = .ok (.getfield 9, 3) := by decide +kernel
theorem dTo_cut_68 : decode mTo_cut.2.1 68 = .ok (.aload_n 0, 1) := by decide +kernel
theorem dTo_cut_69 : decode mTo_cut.2.1 69 = .ok (.getfield 27, 3) := by decide +kernel
theorem dTo_cut_72 : decode mTo_cut.2.1 72 = .ok (.iconst 0, 1) := by decide +kernel
theorem dTo_cut_73 : decode mTo_cut.2.1 73 = .ok (.iastore, 1) := by decide +kernel
theorem dTo_cut_74 : decode mTo_cut.2.1 74 = .ok (.aload_n 0, 1) := by decide +kernel
theorem dTo_cut_75 : decode mTo_cut.2.1 75 = .ok (.getfield 18, 3) := by decide +kernel
theorem dTo_cut_78 : decode mTo_cut.2.1 78 = .ok (.aload_n 0, 1) := by decide +kernel
theorem dTo_cut_79 : decode mTo_cut.2.1 79 = .ok (.getfield 27, 3) := by decide +kernel
theorem dTo_cut_82 : decode mTo_cut.2.1 82 = .ok (.iload_n 2, 1) := by decide +kernel
theorem dTo_cut_83 : decode mTo_cut.2.1 83 = .ok (.iastore, 1) := by decide +kernel
theorem dTo_cut_84 : decode mTo_cut.2.1 84 = .ok (.return_, 1) := by decide +kernel
theorem fTo_27 : FOK "BowingRow$Tokens" 27 8 4 false := ⟨RX8, TX8, nFd 8, rfl, by decide, rfl, by decide, rfl, lwg_of 140 (by decide +kernel) (by decide +kernel)⟩
theorem fTo_31 : FOK "BowingRow$Tokens" 31 8 5 false := ⟨RX8, TX8, nFd 8, rfl, by decide, rfl, by decide, rfl, lwg_of 141 (by decide +kernel) (by decide +kernel)⟩
theorem bTo_cut_0 {l : Launch} {G : Gx} {d : Nat} {bc bs : Nat} {Φ : OutV → Mm → Prop} (M : Mm) (a0 : Nat) (a1 : Nat) (x2 : Int32)
    (h : ((m_sh M a0).1 = 8) ∧ Ev l G d mTo_cut 10 [.ref a0, .ref a1, .int x2, .null, .null] [] (m_si (m_si M a0 4 0) a0 5 0) bc bs Φ) :
    Ev l G d mTo_cut 0 [.ref a0, .ref a1, .int x2, .null, .null] [] M bc bs Φ := by
  refine Ev.aload_n dTo_cut_0 rfl ?_
  refine Ev.iconst (v := 0) dTo_cut_1 (by decide) ?_
  have g1 := h.1
  replace h := h.2
  refine Ev.putI dTo_cut_2 ⟨_, Or.inl ⟨fTo_27, (fun h => by cases h)⟩⟩ rfl ⟨rfl, rfl⟩ g1 ?_
  refine Ev.aload_n dTo_cut_5 rfl ?_
  refine Ev.iconst (v := 0) dTo_cut_6 (by decide) ?_
  refine Ev.putI dTo_cut_7 ⟨_, Or.inl ⟨fTo_31, (fun h => by cases h)⟩⟩ rfl ⟨rfl, rfl⟩ g1 ?_
  exact h
theorem fTo_34 : FOK "BowingRow$Tokens" 34 8 6 false := ⟨RX8, TX8, nFd 8, rfl, by decide, rfl, by decide, rfl, lwg_of 142 (by decide +kernel) (by decide +kernel)⟩
theorem fTo_37 : FOK "BowingRow$Tokens" 37 8 7 false := ⟨RX8, TX8, nFd 8, rfl, by decide, rfl, by decide, rfl, lwg_of 144 (by decide +kernel) (by decide +kernel)⟩
theorem bTo_cut_10 {l : Launch} {G : Gx} {d : Nat} {bc bs : Nat} {Φ : OutV → Mm → Prop} (M : Mm) (a0 : Nat) (a1 : Nat) (x2 : Int32) (u3 : Value) (u4 : Value)
    (h : ((m_sh M a0).1 = 8) ∧ Ev l G d mTo_cut 20 [.ref a0, .ref a1, .int x2, u3, u4] [] (m_si (m_si M a0 6 0) a0 7 ((-1))) bc bs Φ) :
    Ev l G d mTo_cut 10 [.ref a0, .ref a1, .int x2, u3, u4] [] M bc bs Φ := by
  refine Ev.aload_n dTo_cut_10 rfl ?_
  refine Ev.iconst (v := 0) dTo_cut_11 (by decide) ?_
  have g1 := h.1
  replace h := h.2
  refine Ev.putI dTo_cut_12 ⟨_, Or.inl ⟨fTo_34, (fun h => by cases h)⟩⟩ rfl ⟨rfl, rfl⟩ g1 ?_
  refine Ev.aload_n dTo_cut_15 rfl ?_
  refine Ev.iconst (v := (-1)) dTo_cut_16 (by decide) ?_
  refine Ev.putI dTo_cut_17 ⟨_, Or.inl ⟨fTo_37, (fun h => by cases h)⟩⟩ rfl ⟨rfl, rfl⟩ g1 ?_
  exact h
theorem bTo_cut_20 {l : Launch} {G : Gx} {d : Nat} {bc bs : Nat} {Φ : OutV → Mm → Prop} (M : Mm) (a0 : Nat) (a1 : Nat) (x2 : Int32) (u3 : Value) (u4 : Value)
    (h : Ev l G d mTo_cut 25 [.ref a0, .ref a1, .int x2, .int 0, .int 0] [] M bc bs Φ) :
    Ev l G d mTo_cut 20 [.ref a0, .ref a1, .int x2, u3, u4] [] M bc bs Φ := by
  refine Ev.iconst (v := 0) dTo_cut_20 (by decide) ?_
  refine Ev.istore_n dTo_cut_21 (by decide) ?_
  show Ev l G d mTo_cut (_ + _) [.ref a0, .ref a1, .int x2, .int 0, u4] [] M bc bs Φ
  refine Ev.iconst (v := 0) dTo_cut_22 (by decide) ?_
  refine Ev.istore dTo_cut_23 (by decide) ?_
  show Ev l G d mTo_cut (_ + _) [.ref a0, .ref a1, .int x2, .int 0, .int 0] [] M bc bs Φ
  exact h
def mTo_cutOne : MR := (⟨"BowingRow$Tokens", "cutOne", "([BII)I"⟩, prog_10_method_3_code, 6, (Option.some .int))
theorem oTo_cutOne : MOK mTo_cutOne 3 := ⟨lwg_of 797 (by decide +kernel) (by decide +kernel), lwg_of 92 (by decide +kernel) (by decide +kernel), ⟨by decide +kernel, by decide +kernel⟩, by decide +kernel, by decide⟩
theorem iTo_cutOne : Cond.instanceMethod mTo_cutOne.1 ∈ lwg := lwg_of 796 (by decide +kernel) (by decide +kernel)
theorem sTo_cutOne : Cond.selects mTo_cutOne.1.cls mTo_cutOne.1 mTo_cutOne.1 ∈ lwg := lwg_of 15 (by decide +kernel) (by decide +kernel)
theorem w794 : Cond.methodLink "BowingRow$Tokens" 40 ⟨"BowingRow$Tokens", "cutOne", "([BII)I"⟩ ∈ lwg := lwg_of 794 (by decide +kernel) (by decide +kernel)
theorem bTo_cut_25 {l : Launch} {G : Gx} {d : Nat} {bc bs : Nat} {Φ : OutV → Mm → Prop} (M : Mm) (a0 : Nat) (a1 : Nat) (x2 : Int32) (x3 : Int32) (x4 : Int32)
    (h : (x2 ≤ x4 → Ev l G d mTo_cut 64 [.ref a0, .ref a1, .int x2, .int x3, .int x4] [] M bc bs Φ) ∧ (¬ x2 ≤ x4 → (x2 ≤ x3 → Ev l G d mTo_cut 64 [.ref a0, .ref a1, .int x2, .int x3, .int x4] [] M bc bs Φ) ∧ (¬ x2 ≤ x3 → ((m_sh M a1).1 = 21) ∧ (vp_in x3 (m_sh M a1).2) ∧ (¬ (m_i M a1 x3.toNatClampNeg) = 32 → ((m_sh M a0).1 = 8) ∧ CallVC l G d mTo_cut 57 [.ref a0, .ref a1, .int x2, .int x3, .int x4] [] mTo_cutOne [.ref a0, .ref a1, .int x2, .int x3] M bc bs Φ) ∧ ((m_i M a1 x3.toNatClampNeg) = 32 → Ev l G d mTo_cut 57 [.ref a0, .ref a1, .int x2, .int x3, .int x4] [.int (x3 + 1)] M bc bs Φ)))) :
    Ev l G d mTo_cut 25 [.ref a0, .ref a1, .int x2, .int x3, .int x4] [] M bc bs Φ := by
  refine Ev.iload dTo_cut_25 rfl ?_
  refine Ev.iload_n dTo_cut_27 rfl ?_
  refine Ev.icmp_ge 64 (by decide) dTo_cut_28 (fun c => ?_) (fun c => ?_)
  · replace h := h.1 c
    exact h
  · replace h := h.2 c
    refine Ev.iload_n dTo_cut_31 rfl ?_
    refine Ev.iload_n dTo_cut_32 rfl ?_
    refine Ev.icmp_ge 64 (by decide) dTo_cut_33 (fun c => ?_) (fun c => ?_)
    · replace h := h.1 c
      exact h
    · replace h := h.2 c
      refine Ev.aload_n dTo_cut_36 rfl ?_
      refine Ev.iload_n dTo_cut_37 rfl ?_
      have g1 := h.1
      replace h := h.2
      have g2 := h.1
      replace h := h.2
      refine Ev.bald2 dTo_cut_38 g1 g2 ?_
      refine Ev.bipush (v := 32) dTo_cut_39 (by decide) ?_
      refine Ev.icmp_ne 50 (by decide) dTo_cut_41 (fun c => ?_) (fun c => ?_)
      · replace h := h.1 c
        refine Ev.aload_n dTo_cut_50 rfl ?_
        refine Ev.aload_n dTo_cut_51 rfl ?_
        refine Ev.iload_n dTo_cut_52 rfl ?_
        refine Ev.iload_n dTo_cut_53 rfl ?_
        have g3 := h.1
        replace h := h.2
        exact Ev.vcV (z := mTo_cutOne) (ci := 8) [.ref a1, .int x2, .int x3] [] rfl dTo_cut_54 oTo_cutOne rfl w794 iTo_cutOne sTo_cutOne (by decide) rfl g3 (Nat.le_of_ble_eq_true rfl) h
      · replace h := h.2 c
        refine Ev.iload_n dTo_cut_44 rfl ?_
        refine Ev.iconst (v := 1) dTo_cut_45 (by decide) ?_
        refine Ev.iadd dTo_cut_46 ?_
        refine Ev.goto 57 dTo_cut_47 (by decide) ?_
        exact h
theorem bTo_cut_57 {l : Launch} {G : Gx} {d : Nat} {bc bs : Nat} {Φ : OutV → Mm → Prop} (M : Mm) (a0 : Nat) (a1 : Nat) (x2 : Int32) (x3 : Int32) (x4 : Int32) (s0 : Int32)
    (h : Ev l G d mTo_cut 25 [.ref a0, .ref a1, .int x2, .int s0, .int (x4 + 1)] [] M bc bs Φ) :
    Ev l G d mTo_cut 57 [.ref a0, .ref a1, .int x2, .int x3, .int x4] [.int s0] M bc bs Φ := by
  refine Ev.istore_n dTo_cut_57 (by decide) ?_
  show Ev l G d mTo_cut (_ + _) [.ref a0, .ref a1, .int x2, .int s0, .int x4] [] M bc bs Φ
  refine Ev.iinc (v := x4 + 1) dTo_cut_58 (by decide) rfl rfl ?_
  show Ev l G d mTo_cut (_ + _) [.ref a0, .ref a1, .int x2, .int s0, .int (x4 + 1)] [] M bc bs Φ
  refine Ev.goto 25 dTo_cut_61 (by decide) ?_
  exact h
theorem bTo_cut_64 {l : Launch} {G : Gx} {d : Nat} {bc bs : Nat} {Φ : OutV → Mm → Prop} (M : Mm) (a0 : Nat) (a1 : Nat) (x2 : Int32) (x3 : Int32) (x4 : Int32)
    (h : ((m_sh M a0).1 = 8) ∧ ((m_sh M (m_r M a0 0)).1 = 20) ∧ (vp_in (m_i M a0 4) (m_sh M (m_r M a0 0)).2) ∧ ((m_sh M (m_r M a0 2)).1 = 20) ∧ (vp_in (m_i (m_si M (m_r M a0 0) (m_i M a0 4).toNatClampNeg 0) a0 4) (m_sh M (m_r M a0 2)).2) ∧ Φ (.inl none) (m_si (m_si M (m_r M a0 0) (m_i M a0 4).toNatClampNeg 0) (m_r M a0 2) (m_i (m_si M (m_r M a0 0) (m_i M a0 4).toNatClampNeg 0) a0 4).toNatClampNeg x2)) :
    Ev l G d mTo_cut 64 [.ref a0, .ref a1, .int x2, .int x3, .int x4] [] M bc bs Φ := by
  refine Ev.aload_n dTo_cut_64 rfl ?_
  have g1 := h.1
  replace h := h.2
  refine Ev.getR dTo_cut_65 (Or.inl fTo_9) rfl g1 ?_
  refine Ev.aload_n dTo_cut_68 rfl ?_
  refine Ev.getI dTo_cut_69 (Or.inl fTo_27) rfl g1 ?_
  refine Ev.iconst (v := 0) dTo_cut_72 (by decide) ?_
  have g2 := h.1
  replace h := h.2
  have g3 := h.1
  replace h := h.2
  refine Ev.iast2 dTo_cut_73 g2 g3 ?_
  refine Ev.aload_n dTo_cut_74 rfl ?_
  refine Ev.getR dTo_cut_75 (Or.inl fTo_18) rfl g1 ?_
  refine Ev.aload_n dTo_cut_78 rfl ?_
  refine Ev.getI dTo_cut_79 (Or.inl fTo_27) rfl g1 ?_
  refine Ev.iload_n dTo_cut_82 rfl ?_
  have g4 := h.1
  replace h := h.2
  have g5 := h.1
  replace h := h.2
  refine Ev.iast2 dTo_cut_83 g4 g5 ?_
  exact Ev.vret dTo_cut_84 rfl h
theorem dTo_cutOne_0 : decode mTo_cutOne.2.1 0 = .ok (.iload_n 3, 1) := by decide +kernel
theorem dTo_cutOne_1 : decode mTo_cutOne.2.1 1 = .ok (.istore 4, 2) := by decide +kernel
theorem dTo_cutOne_3 : decode mTo_cutOne.2.1 3 = .ok (.aload_n 0, 1) := by decide +kernel
theorem dTo_cutOne_4 : decode mTo_cutOne.2.1 4 = .ok (.getfield 18, 3) := by decide +kernel
theorem dTo_cutOne_7 : decode mTo_cutOne.2.1 7 = .ok (.aload_n 0, 1) := by decide +kernel
theorem dTo_cutOne_8 : decode mTo_cutOne.2.1 8 = .ok (.getfield 27, 3) := by decide +kernel
theorem dTo_cutOne_11 : decode mTo_cutOne.2.1 11 = .ok (.iload_n 3, 1) := by decide +kernel
theorem dTo_cutOne_12 : decode mTo_cutOne.2.1 12 = .ok (.iastore, 1) := by decide +kernel
theorem dTo_cutOne_13 : decode mTo_cutOne.2.1 13 = .ok (.aload_n 1, 1) := by decide +kernel
theorem dTo_cutOne_14 : decode mTo_cutOne.2.1 14 = .ok (.iload_n 3, 1) := by decide +kernel
theorem dTo_cutOne_15 : decode mTo_cutOne.2.1 15 = .ok (.baload, 1) := by decide +kernel
theorem dTo_cutOne_16 : decode mTo_cutOne.2.1 16 = .ok (.invokestatic 44, 3) := by decide +kernel
theorem dTo_cutOne_19 : decode mTo_cutOne.2.1 19 = .ok (.ifCond .eq 80, 3) := by decide +kernel
theorem dTo_cutOne_22 : decode mTo_cutOne.2.1 22 = .ok (.iconst 0, 1) := by decide +kernel
theorem dTo_cutOne_23 : decode mTo_cutOne.2.1 23 = .ok (.istore 5, 2) := by decide +kernel
theorem dTo_cutOne_25 : decode mTo_cutOne.2.1 25 = .ok (.iload 4, 2) := by decide +kernel
theorem dTo_cutOne_27 : decode mTo_cutOne.2.1 27 = .ok (.iload_n 2, 1) := by decide +kernel
theorem dTo_cutOne_28 : decode mTo_cutOne.2.1 28 = .ok (.if_icmp .ge 47, 3) := by decide +kernel
theorem dTo_cutOne_31 : decode mTo_cutOne.2.1 31 = .ok (.aload_n 1, 1) := by decide +kernel
theorem dTo_cutOne_32 : decode mTo_cutOne.2.1 32 = .ok (.iload 4, 2) := by decide +kernel
theorem dTo_cutOne_34 : decode mTo_cutOne.2.1 34 = .ok (.baload, 1) := by decide +kernel
theorem dTo_cutOne_35 : decode mTo_cutOne.2.1 35 = .ok (.invokestatic 44, 3) := by decide +kernel
theorem dTo_cutOne_38 : decode mTo_cutOne.2.1 38 = .ok (.ifCond .eq 37, 3) := by decide +kernel
theorem dTo_cutOne_41 : decode mTo_cutOne.2.1 41 = .ok (.iload 5, 2) := by decide +kernel
theorem dTo_cutOne_43 : decode mTo_cutOne.2.1 43 = .ok (.sipush 9999, 3) := by decide +kernel
theorem dTo_cutOne_46 : decode mTo_cutOne.2.1 46 = .ok (.if_icmp .le 8, 3) := by decide +kernel
theorem dTo_cutOne_49 : decode mTo_cutOne.2.1 49 = .ok (.iload 5, 2) := by decide +kernel
theorem dTo_cutOne_51 : decode mTo_cutOne.2.1 51 = .ok (.goto 16, 3) := by decide +kernel
theorem dTo_cutOne_54 : decode mTo_cutOne.2.1 54 = .ok (.iload 5, 2) := by decide +kernel
theorem dTo_cutOne_56 : decode mTo_cutOne.2.1 56 = .ok (.bipush 10, 2) := by decide +kernel
theorem dTo_cutOne_58 : decode mTo_cutOne.2.1 58 = .ok (.imul, 1) := by decide +kernel
theorem dTo_cutOne_59 : decode mTo_cutOne.2.1 59 = .ok (.aload_n 1, 1) := by decide +kernel
theorem dTo_cutOne_60 : decode mTo_cutOne.2.1 60 = .ok (.iload 4, 2) := by decide +kernel
theorem dTo_cutOne_62 : decode mTo_cutOne.2.1 62 = .ok (.baload, 1) := by decide +kernel
theorem dTo_cutOne_63 : decode mTo_cutOne.2.1 63 = .ok (.iadd, 1) := by decide +kernel
theorem dTo_cutOne_64 : decode mTo_cutOne.2.1 64 = .ok (.bipush 48, 2) := by decide +kernel
theorem dTo_cutOne_66 : decode mTo_cutOne.2.1 66 = .ok (.isub, 1) := by decide +kernel
theorem dTo_cutOne_67 : decode mTo_cutOne.2.1 67 = .ok (.istore 5, 2) := by decide +kernel
theorem dTo_cutOne_69 : decode mTo_cutOne.2.1 69 = .ok (.iinc 4 1, 3) := by decide +kernel
theorem dTo_cutOne_72 : decode mTo_cutOne.2.1 72 = .ok (.goto (-47), 3) := by decide +kernel
theorem dTo_cutOne_75 : decode mTo_cutOne.2.1 75 = .ok (.aload_n 0, 1) := by decide +kernel
theorem dTo_cutOne_76 : decode mTo_cutOne.2.1 76 = .ok (.getfield 9, 3) := by decide +kernel
theorem dTo_cutOne_79 : decode mTo_cutOne.2.1 79 = .ok (.aload_n 0, 1) := by decide +kernel
theorem dTo_cutOne_80 : decode mTo_cutOne.2.1 80 = .ok (.getfield 27, 3) := by decide +kernel
theorem dTo_cutOne_83 : decode mTo_cutOne.2.1 83 = .ok (.iconst 1, 1) := by decide +kernel
theorem dTo_cutOne_84 : decode mTo_cutOne.2.1 84 = .ok (.iastore, 1) := by decide +kernel
theorem dTo_cutOne_85 : decode mTo_cutOne.2.1 85 = .ok (.aload_n 0, 1) := by decide +kernel
theorem dTo_cutOne_86 : decode mTo_cutOne.2.1 86 = .ok (.getfield 15, 3) := by decide +kernel
theorem dTo_cutOne_89 : decode mTo_cutOne.2.1 89 = .ok (.aload_n 0, 1) := by decide +kernel
theorem dTo_cutOne_90 : decode mTo_cutOne.2.1 90 = .ok (.getfield 27, 3) := by decide +kernel
theorem dTo_cutOne_93 : decode mTo_cutOne.2.1 93 = .ok (.iload 5, 2) := by decide +kernel
theorem dTo_cutOne_95 : decode mTo_cutOne.2.1 95 = .ok (.iastore, 1) := by decide +kernel
theorem dTo_cutOne_96 : decode mTo_cutOne.2.1 96 = .ok (.goto 88, 3) := by decide +kernel
theorem dTo_cutOne_99 : decode mTo_cutOne.2.1 99 = .ok (.aload_n 1, 1) := by decide +kernel
theorem dTo_cutOne_100 : decode mTo_cutOne.2.1 100 = .ok (.iload_n 3, 1) := by decide +kernel
theorem dTo_cutOne_101 : decode mTo_cutOne.2.1 101 = .ok (.baload, 1) := by decide +kernel
theorem dTo_cutOne_102 : decode mTo_cutOne.2.1 102 = .ok (.invokestatic 48, 3) := by decide +kernel
theorem dTo_cutOne_105 : decode mTo_cutOne.2.1 105 = .ok (.ifCond .eq 54, 3) := by decide +kernel
theorem dTo_cutOne_108 : decode mTo_cutOne.2.1 108 = .ok (.iload 4, 2) := by decide +kernel
theorem dTo_cutOne_110 : decode mTo_cutOne.2.1 110 = .ok (.iload_n 2, 1) := by decide +kernel
theorem dTo_cutOne_111 : decode mTo_cutOne.2.1 111 = .ok (.if_icmp .ge 19, 3) := by decide +kernel
theorem dTo_cutOne_114 : decode mTo_cutOne.2.1 114 = .ok (.aload_n 1, 1) := by decide +kernel
theorem dTo_cutOne_115 : decode mTo_cutOne.2.1 115 = .ok (.iload 4, 2) := by decide +kernel
theorem dTo_cutOne_117 : decode mTo_cutOne.2.1 117 = .ok (.baload, 1) := by decide +kernel
theorem dTo_cutOne_118 : decode mTo_cutOne.2.1 118 = .ok (.invokestatic 48, 3) := by decide +kernel
theorem dTo_cutOne_121 : decode mTo_cutOne.2.1 121 = .ok (.ifCond .eq 9, 3) := by decide +kernel
theorem dTo_cutOne_124 : decode mTo_cutOne.2.1 124 = .ok (.iinc 4 1, 3) := by decide +kernel
theorem dTo_cutOne_127 : decode mTo_cutOne.2.1 127 = .ok (.goto (-19), 3) := by decide +kernel
theorem dTo_cutOne_130 : decode mTo_cutOne.2.1 130 = .ok (.aload_n 0, 1) := by decide +kernel
theorem dTo_cutOne_131 : decode mTo_cutOne.2.1 131 = .ok (.getfield 9, 3) := by decide +kernel
theorem dTo_cutOne_134 : decode mTo_cutOne.2.1 134 = .ok (.aload_n 0, 1) := by decide +kernel
theorem dTo_cutOne_135 : decode mTo_cutOne.2.1 135 = .ok (.getfield 27, 3) := by decide +kernel
theorem dTo_cutOne_138 : decode mTo_cutOne.2.1 138 = .ok (.iconst 2, 1) := by decide +kernel
theorem dTo_cutOne_139 : decode mTo_cutOne.2.1 139 = .ok (.iastore, 1) := by decide +kernel
theorem dTo_cutOne_140 : decode mTo_cutOne.2.1 140 = .ok (.aload_n 0, 1) := by decide +kernel
theorem dTo_cutOne_141 : decode mTo_cutOne.2.1 141 = .ok (.getfield 23, 3) := by decide +kernel
theorem dTo_cutOne_144 : decode mTo_cutOne.2.1 144 = .ok (.aload_n 0, 1) := by decide +kernel
theorem dTo_cutOne_145 : decode mTo_cutOne.2.1 145 = .ok (.getfield 27, 3) := by decide +kernel
theorem dTo_cutOne_148 : decode mTo_cutOne.2.1 148 = .ok (.aload_n 1, 1) := by decide +kernel
theorem dTo_cutOne_149 : decode mTo_cutOne.2.1 149 = .ok (.iload_n 3, 1) := by decide +kernel
theorem dTo_cutOne_150 : decode mTo_cutOne.2.1 150 = .ok (.iload 4, 2) := by decide +kernel
theorem dTo_cutOne_152 : decode mTo_cutOne.2.1 152 = .ok (.invokestatic 51, 3) := by decide +kernel
theorem dTo_cutOne_155 : decode mTo_cutOne.2.1 155 = .ok (.aastore, 1) := by decide +kernel
theorem dTo_cutOne_156 : decode mTo_cutOne.2.1 156 = .ok (.goto 28, 3) := by decide +kernel
theorem dTo_cutOne_159 : decode mTo_cutOne.2.1 159 = .ok (.aload_n 0, 1) := by decide +kernel
theorem dTo_cutOne_160 : decode mTo_cutOne.2.1 160 = .ok (.getfield 9, 3) := by decide +kernel
theorem dTo_cutOne_163 : decode mTo_cutOne.2.1 163 = .ok (.aload_n 0, 1) := by decide +kernel
theorem dTo_cutOne_164 : decode mTo_cutOne.2.1 164 = .ok (.getfield 27, 3) := by decide +kernel
theorem dTo_cutOne_167 : decode mTo_cutOne.2.1 167 = .ok (.iconst 3, 1) := by decide +kernel
theorem dTo_cutOne_168 : decode mTo_cutOne.2.1 168 = .ok (.iastore, 1) := by decide +kernel
theorem dTo_cutOne_169 : decode mTo_cutOne.2.1 169 = .ok (.aload_n 0, 1) := by decide +kernel
theorem dTo_cutOne_170 : decode mTo_cutOne.2.1 170 = .ok (.getfield 15, 3) := by decide +kernel
theorem dTo_cutOne_173 : decode mTo_cutOne.2.1 173 = .ok (.aload_n 0, 1) := by decide +kernel
theorem dTo_cutOne_174 : decode mTo_cutOne.2.1 174 = .ok (.getfield 27, 3) := by decide +kernel
theorem dTo_cutOne_177 : decode mTo_cutOne.2.1 177 = .ok (.aload_n 1, 1) := by decide +kernel
theorem dTo_cutOne_178 : decode mTo_cutOne.2.1 178 = .ok (.iload_n 3, 1) := by decide +kernel
theorem dTo_cutOne_179 : decode mTo_cutOne.2.1 179 = .ok (.baload, 1) := by decide +kernel
theorem dTo_cutOne_180 : decode mTo_cutOne.2.1 180 = .ok (.iastore, 1) := by decide +kernel
theorem dTo_cutOne_181 : decode mTo_cutOne.2.1 181 = .ok (.iinc 4 1, 3) := by decide +kernel
theorem dTo_cutOne_184 : decode mTo_cutOne.2.1 184 = .ok (.aload_n 0, 1) := by decide +kernel
theorem dTo_cutOne_185 : decode mTo_cutOne.2.1 185 = .ok (.dup, 1) := by decide +kernel
theorem dTo_cutOne_186 : decode mTo_cutOne.2.1 186 = .ok (.getfield 27, 3) := by decide +kernel
theorem dTo_cutOne_189 : decode mTo_cutOne.2.1 189 = .ok (.iconst 1, 1) := by decide +kernel
theorem dTo_cutOne_190 : decode mTo_cutOne.2.1 190 = .ok (.iadd, 1) := by decide +kernel
theorem dTo_cutOne_191 : decode mTo_cutOne.2.1 191 = .ok (.putfield 27, 3) := by decide +kernel
theorem dTo_cutOne_194 : decode mTo_cutOne.2.1 194 = .ok (.iload 4, 2) := by decide +kernel
theorem dTo_cutOne_196 : decode mTo_cutOne.2.1 196 = .ok (.ireturn, 1) := by decide +kernel
def mTo_isDigit : MR := (⟨"BowingRow$Tokens", "isDigit", "(B)Z"⟩, prog_10_method_4_code, 1, (Option.some .boolean))
theorem oTo_isDigit : MOK mTo_isDigit 1 := ⟨lwg_of 800 (by decide +kernel) (by decide +kernel), lwg_of 92 (by decide +kernel) (by decide +kernel), ⟨by decide +kernel, by decide +kernel⟩, by decide +kernel, by decide⟩
theorem iTo_isDigit : Cond.static mTo_isDigit.1 ∈ lwg := lwg_of 799 (by decide +kernel) (by decide +kernel)
theorem w798 : Cond.methodLink "BowingRow$Tokens" 44 ⟨"BowingRow$Tokens", "isDigit", "(B)Z"⟩ ∈ lwg := lwg_of 798 (by decide +kernel) (by decide +kernel)
theorem bTo_cutOne_0 {l : Launch} {G : Gx} {d : Nat} {bc bs : Nat} {Φ : OutV → Mm → Prop} (M : Mm) (a0 : Nat) (a1 : Nat) (x2 : Int32) (x3 : Int32)
    (h : ((m_sh M a0).1 = 8) ∧ ((m_sh M (m_r M a0 2)).1 = 20) ∧ (vp_in (m_i M a0 4) (m_sh M (m_r M a0 2)).2) ∧ ((m_sh M a1).1 = 21) ∧ (vp_in x3 (m_sh M a1).2) ∧ CallVC l G d mTo_cutOne 19 [.ref a0, .ref a1, .int x2, .int x3, .int x3, .null] [] mTo_isDigit [.int (m_i (m_si M (m_r M a0 2) (m_i M a0 4).toNatClampNeg x3) a1 x3.toNatClampNeg)] (m_si M (m_r M a0 2) (m_i M a0 4).toNatClampNeg x3) bc bs Φ) :
    Ev l G d mTo_cutOne 0 [.ref a0, .ref a1, .int x2, .int x3, .null, .null] [] M bc bs Φ := by
  refine Ev.iload_n dTo_cutOne_0 rfl ?_
  refine Ev.istore dTo_cutOne_1 (by decide) ?_
  show Ev l G d mTo_cutOne (_ + _) [.ref a0, .ref a1, .int x2, .int x3, .int x3, .null] [] M bc bs Φ
  refine Ev.aload_n dTo_cutOne_3 rfl ?_
  have g1 := h.1
  replace h := h.2
  refine Ev.getR dTo_cutOne_4 (Or.inl fTo_18) rfl g1 ?_
  refine Ev.aload_n dTo_cutOne_7 rfl ?_
  refine Ev.getI dTo_cutOne_8 (Or.inl fTo_27) rfl g1 ?_
  refine Ev.iload_n dTo_cutOne_11 rfl ?_
  have g2 := h.1
  replace h := h.2
  have g3 := h.1
  replace h := h.2
  refine Ev.iast2 dTo_cutOne_12 g2 g3 ?_
  refine Ev.aload_n dTo_cutOne_13 rfl ?_
  refine Ev.iload_n dTo_cutOne_14 rfl ?_
  have g4 := h.1
  replace h := h.2
  have g5 := h.1
  replace h := h.2
  refine Ev.bald2 dTo_cutOne_15 g4 g5 ?_
  exact Ev.vcS (z := mTo_isDigit) [.int (m_i (m_si M (m_r M a0 2) (m_i M a0 4).toNatClampNeg x3) a1 x3.toNatClampNeg)] [] rfl dTo_cutOne_16 oTo_isDigit rfl w798 iTo_isDigit (Nat.le_of_ble_eq_true rfl) h
def mTo_isLetter : MR := (⟨"BowingRow$Tokens", "isLetter", "(B)Z"⟩, prog_10_method_5_code, 1, (Option.some .boolean))
theorem oTo_isLetter : MOK mTo_isLetter 1 := ⟨lwg_of 803 (by decide +kernel) (by decide +kernel), lwg_of 92 (by decide +kernel) (by decide +kernel), ⟨by decide +kernel, by decide +kernel⟩, by decide +kernel, by decide⟩
theorem iTo_isLetter : Cond.static mTo_isLetter.1 ∈ lwg := lwg_of 802 (by decide +kernel) (by decide +kernel)
theorem w801 : Cond.methodLink "BowingRow$Tokens" 48 ⟨"BowingRow$Tokens", "isLetter", "(B)Z"⟩ ∈ lwg := lwg_of 801 (by decide +kernel) (by decide +kernel)
theorem bTo_cutOne_19 {l : Launch} {G : Gx} {d : Nat} {bc bs : Nat} {Φ : OutV → Mm → Prop} (M : Mm) (a0 : Nat) (a1 : Nat) (x2 : Int32) (x3 : Int32) (x4 : Int32) (u5 : Value) (s0 : Int32)
    (h : (s0 = 0 → ((m_sh M a1).1 = 21) ∧ (vp_in x3 (m_sh M a1).2) ∧ CallVC l G d mTo_cutOne 105 [.ref a0, .ref a1, .int x2, .int x3, .int x4, u5] [] mTo_isLetter [.int (m_i M a1 x3.toNatClampNeg)] M bc bs Φ) ∧ (¬ s0 = 0 → Ev l G d mTo_cutOne 25 [.ref a0, .ref a1, .int x2, .int x3, .int x4, .int 0] [] M bc bs Φ)) :
    Ev l G d mTo_cutOne 19 [.ref a0, .ref a1, .int x2, .int x3, .int x4, u5] [.int s0] M bc bs Φ := by
  refine Ev.if_eq 99 (by decide) dTo_cutOne_19 (fun c => ?_) (fun c => ?_)
  · replace h := h.1 c
    refine Ev.aload_n dTo_cutOne_99 rfl ?_
    refine Ev.iload_n dTo_cutOne_100 rfl ?_
    have g1 := h.1
    replace h := h.2
    have g2 := h.1
    replace h := h.2
    refine Ev.bald2 dTo_cutOne_101 g1 g2 ?_
    exact Ev.vcS (z := mTo_isLetter) [.int (m_i M a1 x3.toNatClampNeg)] [] rfl dTo_cutOne_102 oTo_isLetter rfl w801 iTo_isLetter (Nat.le_of_ble_eq_true rfl) h
  · replace h := h.2 c
    refine Ev.iconst (v := 0) dTo_cutOne_22 (by decide) ?_
    refine Ev.istore dTo_cutOne_23 (by decide) ?_
    show Ev l G d mTo_cutOne (_ + _) [.ref a0, .ref a1, .int x2, .int x3, .int x4, .int 0] [] M bc bs Φ
    exact h
theorem bTo_cutOne_25 {l : Launch} {G : Gx} {d : Nat} {bc bs : Nat} {Φ : OutV → Mm → Prop} (M : Mm) (a0 : Nat) (a1 : Nat) (x2 : Int32) (x3 : Int32) (x4 : Int32) (x5 : Int32)
    (h : (x2 ≤ x4 → Ev l G d mTo_cutOne 75 [.ref a0, .ref a1, .int x2, .int x3, .int x4, .int x5] [] M bc bs Φ) ∧ (¬ x2 ≤ x4 → ((m_sh M a1).1 = 21) ∧ (vp_in x4 (m_sh M a1).2) ∧ CallVC l G d mTo_cutOne 38 [.ref a0, .ref a1, .int x2, .int x3, .int x4, .int x5] [] mTo_isDigit [.int (m_i M a1 x4.toNatClampNeg)] M bc bs Φ)) :
    Ev l G d mTo_cutOne 25 [.ref a0, .ref a1, .int x2, .int x3, .int x4, .int x5] [] M bc bs Φ := by
  refine Ev.iload dTo_cutOne_25 rfl ?_
  refine Ev.iload_n dTo_cutOne_27 rfl ?_
  refine Ev.icmp_ge 75 (by decide) dTo_cutOne_28 (fun c => ?_) (fun c => ?_)
  · replace h := h.1 c
    exact h
  · replace h := h.2 c
    refine Ev.aload_n dTo_cutOne_31 rfl ?_
    refine Ev.iload dTo_cutOne_32 rfl ?_
    have g1 := h.1
    replace h := h.2
    have g2 := h.1
    replace h := h.2
    refine Ev.bald2 dTo_cutOne_34 g1 g2 ?_
    exact Ev.vcS (z := mTo_isDigit) [.int (m_i M a1 x4.toNatClampNeg)] [] rfl dTo_cutOne_35 oTo_isDigit rfl w798 iTo_isDigit (Nat.le_of_ble_eq_true rfl) h
theorem bTo_cutOne_38 {l : Launch} {G : Gx} {d : Nat} {bc bs : Nat} {Φ : OutV → Mm → Prop} (M : Mm) (a0 : Nat) (a1 : Nat) (x2 : Int32) (x3 : Int32) (x4 : Int32) (x5 : Int32) (s0 : Int32)
    (h : (s0 = 0 → Ev l G d mTo_cutOne 75 [.ref a0, .ref a1, .int x2, .int x3, .int x4, .int x5] [] M bc bs Φ) ∧ (¬ s0 = 0 → (x5 ≤ 9999 → ((m_sh M a1).1 = 21) ∧ (vp_in x4 (m_sh M a1).2) ∧ Ev l G d mTo_cutOne 25 [.ref a0, .ref a1, .int x2, .int x3, .int (x4 + 1), .int (((x5 * 10) + (m_i M a1 x4.toNatClampNeg)) - 48)] [] M bc bs Φ) ∧ (¬ x5 ≤ 9999 → Ev l G d mTo_cutOne 25 [.ref a0, .ref a1, .int x2, .int x3, .int (x4 + 1), .int x5] [] M bc bs Φ))) :
    Ev l G d mTo_cutOne 38 [.ref a0, .ref a1, .int x2, .int x3, .int x4, .int x5] [.int s0] M bc bs Φ := by
  refine Ev.if_eq 75 (by decide) dTo_cutOne_38 (fun c => ?_) (fun c => ?_)
  · replace h := h.1 c
    exact h
  · replace h := h.2 c
    refine Ev.iload dTo_cutOne_41 rfl ?_
    refine Ev.sipush (v := 9999) dTo_cutOne_43 (by decide) ?_
    refine Ev.icmp_le 54 (by decide) dTo_cutOne_46 (fun c => ?_) (fun c => ?_)
    · replace h := h.1 c
      refine Ev.iload dTo_cutOne_54 rfl ?_
      refine Ev.bipush (v := 10) dTo_cutOne_56 (by decide) ?_
      refine Ev.imul dTo_cutOne_58 ?_
      refine Ev.aload_n dTo_cutOne_59 rfl ?_
      refine Ev.iload dTo_cutOne_60 rfl ?_
      have g1 := h.1
      replace h := h.2
      have g2 := h.1
      replace h := h.2
      refine Ev.bald2 dTo_cutOne_62 g1 g2 ?_
      refine Ev.iadd dTo_cutOne_63 ?_
      refine Ev.bipush (v := 48) dTo_cutOne_64 (by decide) ?_
      refine Ev.isub dTo_cutOne_66 ?_
      refine Ev.istore dTo_cutOne_67 (by decide) ?_
      show Ev l G d mTo_cutOne (_ + _) [.ref a0, .ref a1, .int x2, .int x3, .int x4, .int (((x5 * 10) + (m_i M a1 x4.toNatClampNeg)) - 48)] [] M bc bs Φ
      refine Ev.iinc (v := x4 + 1) dTo_cutOne_69 (by decide) rfl rfl ?_
      show Ev l G d mTo_cutOne (_ + _) [.ref a0, .ref a1, .int x2, .int x3, .int (x4 + 1), .int (((x5 * 10) + (m_i M a1 x4.toNatClampNeg)) - 48)] [] M bc bs Φ
      refine Ev.goto 25 dTo_cutOne_72 (by decide) ?_
      exact h
    · replace h := h.2 c
      refine Ev.iload dTo_cutOne_49 rfl ?_
      refine Ev.goto 67 dTo_cutOne_51 (by decide) ?_
      refine Ev.istore dTo_cutOne_67 (by decide) ?_
      show Ev l G d mTo_cutOne (_ + _) [.ref a0, .ref a1, .int x2, .int x3, .int x4, .int x5] [] M bc bs Φ
      refine Ev.iinc (v := x4 + 1) dTo_cutOne_69 (by decide) rfl rfl ?_
      show Ev l G d mTo_cutOne (_ + _) [.ref a0, .ref a1, .int x2, .int x3, .int (x4 + 1), .int x5] [] M bc bs Φ
      refine Ev.goto 25 dTo_cutOne_72 (by decide) ?_
      exact h
theorem bTo_cutOne_75 {l : Launch} {G : Gx} {d : Nat} {bc bs : Nat} {Φ : OutV → Mm → Prop} (M : Mm) (a0 : Nat) (a1 : Nat) (x2 : Int32) (x3 : Int32) (x4 : Int32) (x5 : Int32)
    (h : ((m_sh M a0).1 = 8) ∧ ((m_sh M (m_r M a0 0)).1 = 20) ∧ (vp_in (m_i M a0 4) (m_sh M (m_r M a0 0)).2) ∧ ((m_sh M (m_r M a0 1)).1 = 20) ∧ (vp_in (m_i (m_si M (m_r M a0 0) (m_i M a0 4).toNatClampNeg 1) a0 4) (m_sh M (m_r M a0 1)).2) ∧ Ev l G d mTo_cutOne 96 [.ref a0, .ref a1, .int x2, .int x3, .int x4, .int x5] [] (m_si (m_si M (m_r M a0 0) (m_i M a0 4).toNatClampNeg 1) (m_r M a0 1) (m_i (m_si M (m_r M a0 0) (m_i M a0 4).toNatClampNeg 1) a0 4).toNatClampNeg x5) bc bs Φ) :
    Ev l G d mTo_cutOne 75 [.ref a0, .ref a1, .int x2, .int x3, .int x4, .int x5] [] M bc bs Φ := by
  refine Ev.aload_n dTo_cutOne_75 rfl ?_
  have g1 := h.1
  replace h := h.2
  refine Ev.getR dTo_cutOne_76 (Or.inl fTo_9) rfl g1 ?_
  refine Ev.aload_n dTo_cutOne_79 rfl ?_
  refine Ev.getI dTo_cutOne_80 (Or.inl fTo_27) rfl g1 ?_
  refine Ev.iconst (v := 1) dTo_cutOne_83 (by decide) ?_
  have g2 := h.1
  replace h := h.2
  have g3 := h.1
  replace h := h.2
  refine Ev.iast2 dTo_cutOne_84 g2 g3 ?_
  refine Ev.aload_n dTo_cutOne_85 rfl ?_
  refine Ev.getR dTo_cutOne_86 (Or.inl fTo_15) rfl g1 ?_
  refine Ev.aload_n dTo_cutOne_89 rfl ?_
  refine Ev.getI dTo_cutOne_90 (Or.inl fTo_27) rfl g1 ?_
  refine Ev.iload dTo_cutOne_93 rfl ?_
  have g4 := h.1
  replace h := h.2
  have g5 := h.1
  replace h := h.2
  refine Ev.iast2 dTo_cutOne_95 g4 g5 ?_
  exact h
theorem bTo_cutOne_96 {l : Launch} {G : Gx} {d : Nat} {bc bs : Nat} {Φ : OutV → Mm → Prop} (M : Mm) (a0 : Nat) (a1 : Nat) (x2 : Int32) (x3 : Int32) (x4 : Int32) (x5 : Int32)
    (h : Ev l G d mTo_cutOne 184 [.ref a0, .ref a1, .int x2, .int x3, .int x4, .int x5] [] M bc bs Φ) :
    Ev l G d mTo_cutOne 96 [.ref a0, .ref a1, .int x2, .int x3, .int x4, .int x5] [] M bc bs Φ := by
  refine Ev.goto 184 dTo_cutOne_96 (by decide) ?_
  exact h
theorem bTo_cutOne_105 {l : Launch} {G : Gx} {d : Nat} {bc bs : Nat} {Φ : OutV → Mm → Prop} (M : Mm) (a0 : Nat) (a1 : Nat) (x2 : Int32) (x3 : Int32) (x4 : Int32) (u5 : Value) (s0 : Int32)
    (h : (s0 = 0 → ((m_sh M a0).1 = 8) ∧ ((m_sh M (m_r M a0 0)).1 = 20) ∧ (vp_in (m_i M a0 4) (m_sh M (m_r M a0 0)).2) ∧ ((m_sh M a1).1 = 21) ∧ (vp_in x3 (m_sh M a1).2) ∧ ((m_sh M (m_r M a0 1)).1 = 20) ∧ (vp_in (m_i (m_si M (m_r M a0 0) (m_i M a0 4).toNatClampNeg 3) a0 4) (m_sh M (m_r M a0 1)).2) ∧ Ev l G d mTo_cutOne 181 [.ref a0, .ref a1, .int x2, .int x3, .int x4, u5] [] (m_si (m_si M (m_r M a0 0) (m_i M a0 4).toNatClampNeg 3) (m_r M a0 1) (m_i (m_si M (m_r M a0 0) (m_i M a0 4).toNatClampNeg 3) a0 4).toNatClampNeg (m_i (m_si M (m_r M a0 0) (m_i M a0 4).toNatClampNeg 3) a1 x3.toNatClampNeg)) bc bs Φ) ∧ (¬ s0 = 0 → Ev l G d mTo_cutOne 108 [.ref a0, .ref a1, .int x2, .int x3, .int x4, u5] [] M bc bs Φ)) :
    Ev l G d mTo_cutOne 105 [.ref a0, .ref a1, .int x2, .int x3, .int x4, u5] [.int s0] M bc bs Φ := by
  refine Ev.if_eq 159 (by decide) dTo_cutOne_105 (fun c => ?_) (fun c => ?_)
  · replace h := h.1 c
    refine Ev.aload_n dTo_cutOne_159 rfl ?_
    have g1 := h.1
    replace h := h.2
    refine Ev.getR dTo_cutOne_160 (Or.inl fTo_9) rfl g1 ?_
    refine Ev.aload_n dTo_cutOne_163 rfl ?_
    refine Ev.getI dTo_cutOne_164 (Or.inl fTo_27) rfl g1 ?_
    refine Ev.iconst (v := 3) dTo_cutOne_167 (by decide) ?_
    have g2 := h.1
    replace h := h.2
    have g3 := h.1
    replace h := h.2
    refine Ev.iast2 dTo_cutOne_168 g2 g3 ?_
    refine Ev.aload_n dTo_cutOne_169 rfl ?_
    refine Ev.getR dTo_cutOne_170 (Or.inl fTo_15) rfl g1 ?_
    refine Ev.aload_n dTo_cutOne_173 rfl ?_
    refine Ev.getI dTo_cutOne_174 (Or.inl fTo_27) rfl g1 ?_
    refine Ev.aload_n dTo_cutOne_177 rfl ?_
    refine Ev.iload_n dTo_cutOne_178 rfl ?_
    have g4 := h.1
    replace h := h.2
    have g5 := h.1
    replace h := h.2
    refine Ev.bald2 dTo_cutOne_179 g4 g5 ?_
    have g6 := h.1
    replace h := h.2
    have g7 := h.1
    replace h := h.2
    refine Ev.iast2 dTo_cutOne_180 g6 g7 ?_
    exact h
  · replace h := h.2 c
    exact h
theorem bTo_cutOne_108 {l : Launch} {G : Gx} {d : Nat} {bc bs : Nat} {Φ : OutV → Mm → Prop} (M : Mm) (a0 : Nat) (a1 : Nat) (x2 : Int32) (x3 : Int32) (x4 : Int32) (u5 : Value)
    (h : (x2 ≤ x4 → Ev l G d mTo_cutOne 130 [.ref a0, .ref a1, .int x2, .int x3, .int x4, u5] [] M bc bs Φ) ∧ (¬ x2 ≤ x4 → ((m_sh M a1).1 = 21) ∧ (vp_in x4 (m_sh M a1).2) ∧ CallVC l G d mTo_cutOne 121 [.ref a0, .ref a1, .int x2, .int x3, .int x4, u5] [] mTo_isLetter [.int (m_i M a1 x4.toNatClampNeg)] M bc bs Φ)) :
    Ev l G d mTo_cutOne 108 [.ref a0, .ref a1, .int x2, .int x3, .int x4, u5] [] M bc bs Φ := by
  refine Ev.iload dTo_cutOne_108 rfl ?_
  refine Ev.iload_n dTo_cutOne_110 rfl ?_
  refine Ev.icmp_ge 130 (by decide) dTo_cutOne_111 (fun c => ?_) (fun c => ?_)
  · replace h := h.1 c
    exact h
  · replace h := h.2 c
    refine Ev.aload_n dTo_cutOne_114 rfl ?_
    refine Ev.iload dTo_cutOne_115 rfl ?_
    have g1 := h.1
    replace h := h.2
    have g2 := h.1
    replace h := h.2
    refine Ev.bald2 dTo_cutOne_117 g1 g2 ?_
    exact Ev.vcS (z := mTo_isLetter) [.int (m_i M a1 x4.toNatClampNeg)] [] rfl dTo_cutOne_118 oTo_isLetter rfl w801 iTo_isLetter (Nat.le_of_ble_eq_true rfl) h
theorem bTo_cutOne_121 {l : Launch} {G : Gx} {d : Nat} {bc bs : Nat} {Φ : OutV → Mm → Prop} (M : Mm) (a0 : Nat) (a1 : Nat) (x2 : Int32) (x3 : Int32) (x4 : Int32) (u5 : Value) (s0 : Int32)
    (h : (s0 = 0 → Ev l G d mTo_cutOne 130 [.ref a0, .ref a1, .int x2, .int x3, .int x4, u5] [] M bc bs Φ) ∧ (¬ s0 = 0 → Ev l G d mTo_cutOne 108 [.ref a0, .ref a1, .int x2, .int x3, .int (x4 + 1), u5] [] M bc bs Φ)) :
    Ev l G d mTo_cutOne 121 [.ref a0, .ref a1, .int x2, .int x3, .int x4, u5] [.int s0] M bc bs Φ := by
  refine Ev.if_eq 130 (by decide) dTo_cutOne_121 (fun c => ?_) (fun c => ?_)
  · replace h := h.1 c
    exact h
  · replace h := h.2 c
    refine Ev.iinc (v := x4 + 1) dTo_cutOne_124 (by decide) rfl rfl ?_
    show Ev l G d mTo_cutOne (_ + _) [.ref a0, .ref a1, .int x2, .int x3, .int (x4 + 1), u5] [] M bc bs Φ
    refine Ev.goto 108 dTo_cutOne_127 (by decide) ?_
    exact h
def mTo_wordFor : MR := (⟨"BowingRow$Tokens", "wordFor", "([BII)LBowingRow$Word;"⟩, prog_10_method_6_code, 6, (Option.some (.object "BowingRow$Word")))
theorem oTo_wordFor : MOK mTo_wordFor 3 := ⟨lwg_of 806 (by decide +kernel) (by decide +kernel), lwg_of 92 (by decide +kernel) (by decide +kernel), ⟨by decide +kernel, by decide +kernel⟩, by decide +kernel, by decide⟩
theorem iTo_wordFor : Cond.static mTo_wordFor.1 ∈ lwg := lwg_of 805 (by decide +kernel) (by decide +kernel)
theorem w804 : Cond.methodLink "BowingRow$Tokens" 51 ⟨"BowingRow$Tokens", "wordFor", "([BII)LBowingRow$Word;"⟩ ∈ lwg := lwg_of 804 (by decide +kernel) (by decide +kernel)
theorem bTo_cutOne_130 {l : Launch} {G : Gx} {d : Nat} {bc bs : Nat} {Φ : OutV → Mm → Prop} (M : Mm) (a0 : Nat) (a1 : Nat) (x2 : Int32) (x3 : Int32) (x4 : Int32) (u5 : Value)
    (h : ((m_sh M a0).1 = 8) ∧ ((m_sh M (m_r M a0 0)).1 = 20) ∧ (vp_in (m_i M a0 4) (m_sh M (m_r M a0 0)).2) ∧ CallVC l G d mTo_cutOne 155 [.ref a0, .ref a1, .int x2, .int x3, .int x4, u5] [.int (m_i (m_si M (m_r M a0 0) (m_i M a0 4).toNatClampNeg 2) a0 4), .ref (m_r M a0 3)] mTo_wordFor [.ref a1, .int x3, .int x4] (m_si M (m_r M a0 0) (m_i M a0 4).toNatClampNeg 2) bc bs Φ) :
    Ev l G d mTo_cutOne 130 [.ref a0, .ref a1, .int x2, .int x3, .int x4, u5] [] M bc bs Φ := by
  refine Ev.aload_n dTo_cutOne_130 rfl ?_
  have g1 := h.1
  replace h := h.2
  refine Ev.getR dTo_cutOne_131 (Or.inl fTo_9) rfl g1 ?_
  refine Ev.aload_n dTo_cutOne_134 rfl ?_
  refine Ev.getI dTo_cutOne_135 (Or.inl fTo_27) rfl g1 ?_
  refine Ev.iconst (v := 2) dTo_cutOne_138 (by decide) ?_
  have g2 := h.1
  replace h := h.2
  have g3 := h.1
  replace h := h.2
  refine Ev.iast2 dTo_cutOne_139 g2 g3 ?_
  refine Ev.aload_n dTo_cutOne_140 rfl ?_
  refine Ev.getR dTo_cutOne_141 (Or.inl fTo_23) rfl g1 ?_
  refine Ev.aload_n dTo_cutOne_144 rfl ?_
  refine Ev.getI dTo_cutOne_145 (Or.inl fTo_27) rfl g1 ?_
  refine Ev.aload_n dTo_cutOne_148 rfl ?_
  refine Ev.iload_n dTo_cutOne_149 rfl ?_
  refine Ev.iload dTo_cutOne_150 rfl ?_
  exact Ev.vcS (z := mTo_wordFor) [.ref a1, .int x3, .int x4] [.int (m_i (m_si M (m_r M a0 0) (m_i M a0 4).toNatClampNeg 2) a0 4), .ref (m_r M a0 3)] rfl dTo_cutOne_152 oTo_wordFor rfl w804 iTo_wordFor (Nat.le_of_ble_eq_true rfl) h
theorem bTo_cutOne_155 {l : Launch} {G : Gx} {d : Nat} {bc bs : Nat} {Φ : OutV → Mm → Prop} (M : Mm) (a0 : Nat) (a1 : Nat) (x2 : Int32) (x3 : Int32) (x4 : Int32) (u5 : Value) (r0 : Nat) (s1 : Int32) (r2 : Nat)
    (h : ((m_sh M r0).1 = 32) ∧ (vp_in s1 (m_sh M r0).2) ∧ (1 ≤ r2 ∧ r2 ≤ 23) ∧ Ev l G d mTo_cutOne 184 [.ref a0, .ref a1, .int x2, .int x3, .int x4, u5] [] (m_sr M r0 s1.toNatClampNeg r2) bc bs Φ) :
    Ev l G d mTo_cutOne 155 [.ref a0, .ref a1, .int x2, .int x3, .int x4, u5] [.ref r2, .int s1, .ref r0] M bc bs Φ := by
  have g1 := h.1
  replace h := h.2
  have g2 := h.1
  replace h := h.2
  have g3 := h.1
  replace h := h.2
  refine Ev.aastW2 dTo_cutOne_155 g1 g2 g3 ?_
  refine Ev.goto 184 dTo_cutOne_156 (by decide) ?_
  exact h
theorem bTo_cutOne_181 {l : Launch} {G : Gx} {d : Nat} {bc bs : Nat} {Φ : OutV → Mm → Prop} (M : Mm) (a0 : Nat) (a1 : Nat) (x2 : Int32) (x3 : Int32) (x4 : Int32) (u5 : Value)
    (h : Ev l G d mTo_cutOne 184 [.ref a0, .ref a1, .int x2, .int x3, .int (x4 + 1), u5] [] M bc bs Φ) :
    Ev l G d mTo_cutOne 181 [.ref a0, .ref a1, .int x2, .int x3, .int x4, u5] [] M bc bs Φ := by
  refine Ev.iinc (v := x4 + 1) dTo_cutOne_181 (by decide) rfl rfl ?_
  show Ev l G d mTo_cutOne (_ + _) [.ref a0, .ref a1, .int x2, .int x3, .int (x4 + 1), u5] [] M bc bs Φ
  exact h
theorem bTo_cutOne_184 {l : Launch} {G : Gx} {d : Nat} {bc bs : Nat} {Φ : OutV → Mm → Prop} (M : Mm) (a0 : Nat) (a1 : Nat) (x2 : Int32) (x3 : Int32) (x4 : Int32) (u5 : Value)
    (h : ((m_sh M a0).1 = 8) ∧ Φ (.inl (some (.int x4))) (m_si M a0 4 ((m_i M a0 4) + 1))) :
    Ev l G d mTo_cutOne 184 [.ref a0, .ref a1, .int x2, .int x3, .int x4, u5] [] M bc bs Φ := by
  refine Ev.aload_n dTo_cutOne_184 rfl ?_
  refine Ev.dup dTo_cutOne_185 rfl ?_
  have g1 := h.1
  replace h := h.2
  refine Ev.getI dTo_cutOne_186 (Or.inl fTo_27) rfl g1 ?_
  refine Ev.iconst (v := 1) dTo_cutOne_189 (by decide) ?_
  refine Ev.iadd dTo_cutOne_190 ?_
  refine Ev.putI dTo_cutOne_191 ⟨_, Or.inl ⟨fTo_27, (fun h => by cases h)⟩⟩ rfl ⟨rfl, rfl⟩ g1 ?_
  refine Ev.iload dTo_cutOne_194 rfl ?_
  exact Ev.iret dTo_cutOne_196 rfl rfl h
theorem dTo_isDigit_0 : decode mTo_isDigit.2.1 0 = .ok (.iload_n 0, 1) := by decide +kernel
theorem dTo_isDigit_1 : decode mTo_isDigit.2.1 1 = .ok (.bipush 48, 2) := by decide +kernel
theorem dTo_isDigit_3 : decode mTo_isDigit.2.1 3 = .ok (.if_icmp .lt 13, 3) := by decide +kernel
theorem dTo_isDigit_6 : decode mTo_isDigit.2.1 6 = .ok (.iload_n 0, 1) := by decide +kernel
theorem dTo_isDigit_7 : decode mTo_isDigit.2.1 7 = .ok (.bipush 57, 2) := by decide +kernel
theorem dTo_isDigit_9 : decode mTo_isDigit.2.1 9 = .ok (.if_icmp .gt 7, 3) := by decide +kernel
theorem dTo_isDigit_12 : decode mTo_isDigit.2.1 12 = .ok (.iconst 1, 1) := by decide +kernel
theorem dTo_isDigit_13 : decode mTo_isDigit.2.1 13 = .ok (.goto 4, 3) := by decide +kernel
theorem dTo_isDigit_16 : decode mTo_isDigit.2.1 16 = .ok (.iconst 0, 1) := by decide +kernel
theorem dTo_isDigit_17 : decode mTo_isDigit.2.1 17 = .ok (.ireturn, 1) := by decide +kernel
theorem bTo_isDigit_0 {l : Launch} {G : Gx} {d : Nat} {bc bs : Nat} {Φ : OutV → Mm → Prop} (M : Mm) (x0 : Int32)
    (h : (x0 < 48 → Φ (.inl (some (.int 0))) M) ∧ (¬ x0 < 48 → (57 < x0 → Φ (.inl (some (.int 0))) M) ∧ (¬ 57 < x0 → Φ (.inl (some (.int 1))) M))) :
    Ev l G d mTo_isDigit 0 [.int x0] [] M bc bs Φ := by
  refine Ev.iload_n dTo_isDigit_0 rfl ?_
  refine Ev.bipush (v := 48) dTo_isDigit_1 (by decide) ?_
  refine Ev.icmp_lt 16 (by decide) dTo_isDigit_3 (fun c => ?_) (fun c => ?_)
  · replace h := h.1 c
    refine Ev.iconst (v := 0) dTo_isDigit_16 (by decide) ?_
    exact Ev.iret dTo_isDigit_17 rfl rfl h
  · replace h := h.2 c
    refine Ev.iload_n dTo_isDigit_6 rfl ?_
    refine Ev.bipush (v := 57) dTo_isDigit_7 (by decide) ?_
    refine Ev.icmp_gt 16 (by decide) dTo_isDigit_9 (fun c => ?_) (fun c => ?_)
    · replace h := h.1 c
      refine Ev.iconst (v := 0) dTo_isDigit_16 (by decide) ?_
      exact Ev.iret dTo_isDigit_17 rfl rfl h
    · replace h := h.2 c
      refine Ev.iconst (v := 1) dTo_isDigit_12 (by decide) ?_
      refine Ev.goto 17 dTo_isDigit_13 (by decide) ?_
      exact Ev.iret dTo_isDigit_17 rfl rfl h
theorem dTo_isLetter_0 : decode mTo_isLetter.2.1 0 = .ok (.iload_n 0, 1) := by decide +kernel
theorem dTo_isLetter_1 : decode mTo_isLetter.2.1 1 = .ok (.bipush 97, 2) := by decide +kernel
theorem dTo_isLetter_3 : decode mTo_isLetter.2.1 3 = .ok (.if_icmp .lt 13, 3) := by decide +kernel
theorem dTo_isLetter_6 : decode mTo_isLetter.2.1 6 = .ok (.iload_n 0, 1) := by decide +kernel
theorem dTo_isLetter_7 : decode mTo_isLetter.2.1 7 = .ok (.bipush 122, 2) := by decide +kernel
theorem dTo_isLetter_9 : decode mTo_isLetter.2.1 9 = .ok (.if_icmp .gt 7, 3) := by decide +kernel
theorem dTo_isLetter_12 : decode mTo_isLetter.2.1 12 = .ok (.iconst 1, 1) := by decide +kernel
theorem dTo_isLetter_13 : decode mTo_isLetter.2.1 13 = .ok (.goto 4, 3) := by decide +kernel
theorem dTo_isLetter_16 : decode mTo_isLetter.2.1 16 = .ok (.iconst 0, 1) := by decide +kernel
theorem dTo_isLetter_17 : decode mTo_isLetter.2.1 17 = .ok (.ireturn, 1) := by decide +kernel
theorem bTo_isLetter_0 {l : Launch} {G : Gx} {d : Nat} {bc bs : Nat} {Φ : OutV → Mm → Prop} (M : Mm) (x0 : Int32)
    (h : (x0 < 97 → Φ (.inl (some (.int 0))) M) ∧ (¬ x0 < 97 → (122 < x0 → Φ (.inl (some (.int 0))) M) ∧ (¬ 122 < x0 → Φ (.inl (some (.int 1))) M))) :
    Ev l G d mTo_isLetter 0 [.int x0] [] M bc bs Φ := by
  refine Ev.iload_n dTo_isLetter_0 rfl ?_
  refine Ev.bipush (v := 97) dTo_isLetter_1 (by decide) ?_
  refine Ev.icmp_lt 16 (by decide) dTo_isLetter_3 (fun c => ?_) (fun c => ?_)
  · replace h := h.1 c
    refine Ev.iconst (v := 0) dTo_isLetter_16 (by decide) ?_
    exact Ev.iret dTo_isLetter_17 rfl rfl h
  · replace h := h.2 c
    refine Ev.iload_n dTo_isLetter_6 rfl ?_
    refine Ev.bipush (v := 122) dTo_isLetter_7 (by decide) ?_
    refine Ev.icmp_gt 16 (by decide) dTo_isLetter_9 (fun c => ?_) (fun c => ?_)
    · replace h := h.1 c
      refine Ev.iconst (v := 0) dTo_isLetter_16 (by decide) ?_
      exact Ev.iret dTo_isLetter_17 rfl rfl h
    · replace h := h.2 c
      refine Ev.iconst (v := 1) dTo_isLetter_12 (by decide) ?_
      refine Ev.goto 17 dTo_isLetter_13 (by decide) ?_
      exact Ev.iret dTo_isLetter_17 rfl rfl h
theorem dTo_wordFor_0 : decode mTo_wordFor.2.1 0 = .ok (.iconst 0, 1) := by decide +kernel
theorem dTo_wordFor_1 : decode mTo_wordFor.2.1 1 = .ok (.istore_n 3, 1) := by decide +kernel
theorem dTo_wordFor_2 : decode mTo_wordFor.2.1 2 = .ok (.iload_n 3, 1) := by decide +kernel
theorem dTo_wordFor_3 : decode mTo_wordFor.2.1 3 = .ok (.getstatic 55, 3) := by decide +kernel
theorem dTo_wordFor_6 : decode mTo_wordFor.2.1 6 = .ok (.arraylength, 1) := by decide +kernel
theorem dTo_wordFor_7 : decode mTo_wordFor.2.1 7 = .ok (.if_icmp .ge 79, 3) := by decide +kernel
theorem dTo_wordFor_10 : decode mTo_wordFor.2.1 10 = .ok (.getstatic 55, 3) := by decide +kernel
theorem dTo_wordFor_13 : decode mTo_wordFor.2.1 13 = .ok (.iload_n 3, 1) := by decide +kernel
theorem dTo_wordFor_14 : decode mTo_wordFor.2.1 14 = .ok (.aaload, 1) := by decide +kernel
theorem dTo_wordFor_15 : decode mTo_wordFor.2.1 15 = .ok (.getfield 58, 3) := by decide +kernel
theorem dTo_wordFor_18 : decode mTo_wordFor.2.1 18 = .ok (.astore 4, 2) := by decide +kernel
theorem dTo_wordFor_20 : decode mTo_wordFor.2.1 20 = .ok (.iconst 0, 1) := by decide +kernel
theorem dTo_wordFor_21 : decode mTo_wordFor.2.1 21 = .ok (.istore 5, 2) := by decide +kernel
theorem dTo_wordFor_23 : decode mTo_wordFor.2.1 23 = .ok (.aload 4, 2) := by decide +kernel
theorem dTo_wordFor_25 : decode mTo_wordFor.2.1 25 = .ok (.invokevirtual 62, 3) := by decide +kernel
theorem dTo_wordFor_28 : decode mTo_wordFor.2.1 28 = .ok (.iload_n 2, 1) := by decide +kernel
theorem dTo_wordFor_29 : decode mTo_wordFor.2.1 29 = .ok (.iload_n 1, 1) := by decide +kernel
theorem dTo_wordFor_30 : decode mTo_wordFor.2.1 30 = .ok (.isub, 1) := by decide +kernel
theorem dTo_wordFor_31 : decode mTo_wordFor.2.1 31 = .ok (.if_icmp .ne 35, 3) := by decide +kernel
theorem dTo_wordFor_34 : decode mTo_wordFor.2.1 34 = .ok (.iload 5, 2) := by decide +kernel
theorem dTo_wordFor_36 : decode mTo_wordFor.2.1 36 = .ok (.aload 4, 2) := by decide +kernel
theorem dTo_wordFor_38 : decode mTo_wordFor.2.1 38 = .ok (.invokevirtual 62, 3) := by decide +kernel
theorem dTo_wordFor_41 : decode mTo_wordFor.2.1 41 = .ok (.if_icmp .ge 25, 3) := by decide +kernel
theorem dTo_wordFor_44 : decode mTo_wordFor.2.1 44 = .ok (.aload 4, 2) := by decide +kernel
theorem dTo_wordFor_46 : decode mTo_wordFor.2.1 46 = .ok (.iload 5, 2) := by decide +kernel
theorem dTo_wordFor_48 : decode mTo_wordFor.2.1 48 = .ok (.invokevirtual 68, 3) := by decide +kernel
theorem dTo_wordFor_51 : decode mTo_wordFor.2.1 51 = .ok (.aload_n 0, 1) := by decide +kernel
theorem dTo_wordFor_52 : decode mTo_wordFor.2.1 52 = .ok (.iload_n 1, 1) := by decide +kernel
theorem dTo_wordFor_53 : decode mTo_wordFor.2.1 53 = .ok (.iload 5, 2) := by decide +kernel
theorem dTo_wordFor_55 : decode mTo_wordFor.2.1 55 = .ok (.iadd, 1) := by decide +kernel
theorem dTo_wordFor_56 : decode mTo_wordFor.2.1 56 = .ok (.baload, 1) := by decide +kernel
theorem dTo_wordFor_57 : decode mTo_wordFor.2.1 57 = .ok (.if_icmp .ne 9, 3) := by decide +kernel
theorem dTo_wordFor_60 : decode mTo_wordFor.2.1 60 = .ok (.iinc 5 1, 3) := by decide +kernel
theorem dTo_wordFor_63 : decode mTo_wordFor.2.1 63 = .ok (.goto (-29), 3) := by decide +kernel
theorem dTo_wordFor_66 : decode mTo_wordFor.2.1 66 = .ok (.iload 5, 2) := by decide +kernel
theorem dTo_wordFor_68 : decode mTo_wordFor.2.1 68 = .ok (.iload_n 2, 1) := by decide +kernel
theorem dTo_wordFor_69 : decode mTo_wordFor.2.1 69 = .ok (.iload_n 1, 1) := by decide +kernel
theorem dTo_wordFor_70 : decode mTo_wordFor.2.1 70 = .ok (.isub, 1) := by decide +kernel
theorem dTo_wordFor_71 : decode mTo_wordFor.2.1 71 = .ok (.if_icmp .ne 9, 3) := by decide +kernel
theorem dTo_wordFor_74 : decode mTo_wordFor.2.1 74 = .ok (.getstatic 55, 3) := by decide +kernel
theorem dTo_wordFor_77 : decode mTo_wordFor.2.1 77 = .ok (.iload_n 3, 1) := by decide +kernel
theorem dTo_wordFor_78 : decode mTo_wordFor.2.1 78 = .ok (.aaload, 1) := by decide +kernel
theorem dTo_wordFor_79 : decode mTo_wordFor.2.1 79 = .ok (.areturn, 1) := by decide +kernel
theorem dTo_wordFor_80 : decode mTo_wordFor.2.1 80 = .ok (.iinc 3 1, 3) := by decide +kernel
theorem dTo_wordFor_83 : decode mTo_wordFor.2.1 83 = .ok (.goto (-81), 3) := by decide +kernel
theorem dTo_wordFor_86 : decode mTo_wordFor.2.1 86 = .ok (.getstatic 72, 3) := by decide +kernel
theorem dTo_wordFor_89 : decode mTo_wordFor.2.1 89 = .ok (.areturn, 1) := by decide +kernel
theorem bTo_wordFor_0 {l : Launch} {G : Gx} {d : Nat} {bc bs : Nat} {Φ : OutV → Mm → Prop} (M : Mm) (a0 : Nat) (x1 : Int32) (x2 : Int32)
    (h : Ev l G d mTo_wordFor 2 [.ref a0, .int x1, .int x2, .int 0, .null, .null] [] M bc bs Φ) :
    Ev l G d mTo_wordFor 0 [.ref a0, .int x1, .int x2, .null, .null, .null] [] M bc bs Φ := by
  refine Ev.iconst (v := 0) dTo_wordFor_0 (by decide) ?_
  refine Ev.istore_n dTo_wordFor_1 (by decide) ?_
  show Ev l G d mTo_wordFor (_ + _) [.ref a0, .int x1, .int x2, .int 0, .null, .null] [] M bc bs Φ
  exact h
theorem w807 : Cond.fieldLinkNest "BowingRow$Tokens" 55 "BowingRow$Word" "ALL" "[LBowingRow$Word;" "BowingRow" ∈ lwx := lwx_of 807 (by decide +kernel) (by decide +kernel)
theorem w857 : Cond.fieldLink "BowingRow$Tokens" 72 "BowingRow$Word" "UNKNOWN" "LBowingRow$Word;" ∈ lwg := lwg_of 857 (by decide +kernel) (by decide +kernel)
theorem w1848 : Cond.fieldLink "BowingRow$Tokens" 58 "BowingRow$Word" "text" "Ljava/lang/String;" ∈ lwg := lwg_of 1848 (by decide +kernel) (by decide +kernel)
def mjS_length : MR := (⟨"java/lang/String", "length", "()I"⟩, prog_26_method_54_code, 1, (Option.some .int))
theorem ojS_length : MOK mjS_length 0 := ⟨lwg_of 812 (by decide +kernel) (by decide +kernel), lwg_of 110 (by decide +kernel) (by decide +kernel), ⟨by decide +kernel, by decide +kernel⟩, by decide +kernel, by decide⟩
theorem ijS_length : Cond.instanceMethod mjS_length.1 ∈ lwg := lwg_of 810 (by decide +kernel) (by decide +kernel)
theorem sjS_length : Cond.selects mjS_length.1.cls mjS_length.1 mjS_length.1 ∈ lwg := lwg_of 811 (by decide +kernel) (by decide +kernel)
theorem w809 : Cond.methodLink "BowingRow$Tokens" 62 ⟨"java/lang/String", "length", "()I"⟩ ∈ lwg := lwg_of 809 (by decide +kernel) (by decide +kernel)
theorem bTo_wordFor_2 {l : Launch} {G : Gx} {d : Nat} {bc bs : Nat} {Φ : OutV → Mm → Prop} (M : Mm) (a0 : Nat) (x1 : Int32) (x2 : Int32) (x3 : Int32) (u4 : Value) (u5 : Value)
    (h : (23 ≤ x3 → Φ (.inl (some (.ref 1))) M) ∧ (¬ 23 ≤ x3 → (vp_in x3 23) ∧ (1 ≤ (x3.toNatClampNeg + 1) ∧ (x3.toNatClampNeg + 1) ≤ 23) ∧ (31 ≤ ((x3.toNatClampNeg + 1) + 30) ∧ ((x3.toNatClampNeg + 1) + 30) ≤ 53) ∧ CallVC l G d mTo_wordFor 28 [.ref a0, .int x1, .int x2, .int x3, .ref ((x3.toNatClampNeg + 1) + 30), .int 0] [] mjS_length [.ref ((x3.toNatClampNeg + 1) + 30)] M bc bs Φ)) :
    Ev l G d mTo_wordFor 2 [.ref a0, .int x1, .int x2, .int x3, u4, u5] [] M bc bs Φ := by
  refine Ev.iload_n dTo_wordFor_2 rfl ?_
  refine Ev.gets (C := "BowingRow$Word") (n := "ALL") (ds := "[LBowingRow$Word;") (v := .ref 24) dTo_wordFor_3 (by decide +kernel) (Or.inr ⟨_, w807⟩) ?_
  refine Ev.tlenA dTo_wordFor_6 ?_
  refine Ev.icmp_ge 86 (by decide) dTo_wordFor_7 (fun c => ?_) (fun c => ?_)
  · replace h := h.1 c
    refine Ev.gets (C := "BowingRow$Word") (n := "UNKNOWN") (ds := "LBowingRow$Word;") (v := .ref 1) dTo_wordFor_86 (by decide +kernel) (Or.inl w857) ?_
    exact Ev.aret dTo_wordFor_89 rfl (by first | exact Or.inl ⟨_, rfl⟩ | exact Or.inr ⟨_, rfl⟩) h
  · replace h := h.2 c
    refine Ev.gets (C := "BowingRow$Word") (n := "ALL") (ds := "[LBowingRow$Word;") (v := .ref 24) dTo_wordFor_10 (by decide +kernel) (Or.inr ⟨_, w807⟩) ?_
    refine Ev.iload_n dTo_wordFor_13 rfl ?_
    have g1 := h.1
    replace h := h.2
    refine Ev.tallW dTo_wordFor_14 g1 ?_
    have g2 := h.1
    replace h := h.2
    refine Ev.getF dTo_wordFor_15 (wTx_ok _ g2) w1848 ?_
    refine Ev.astore dTo_wordFor_18 (by decide) ?_
    show Ev l G d mTo_wordFor (_ + _) [.ref a0, .int x1, .int x2, .int x3, .ref ((x3.toNatClampNeg + 1) + 30), u5] [] M bc bs Φ
    refine Ev.iconst (v := 0) dTo_wordFor_20 (by decide) ?_
    refine Ev.istore dTo_wordFor_21 (by decide) ?_
    show Ev l G d mTo_wordFor (_ + _) [.ref a0, .int x1, .int x2, .int x3, .ref ((x3.toNatClampNeg + 1) + 30), .int 0] [] M bc bs Φ
    refine Ev.aload dTo_wordFor_23 rfl ?_
    have g3 := h.1
    replace h := h.2
    exact Ev.vcT2 (z := mjS_length) (a := ((x3.toNatClampNeg + 1) + 30)) [] [] rfl dTo_wordFor_25 ojS_length rfl w809 ijS_length sjS_length rfl (Nat.le_of_ble_eq_true rfl) g3 h
theorem bTo_wordFor_28 {l : Launch} {G : Gx} {d : Nat} {bc bs : Nat} {Φ : OutV → Mm → Prop} (M : Mm) (a0 : Nat) (x1 : Int32) (x2 : Int32) (x3 : Int32) (a4 : Nat) (x5 : Int32) (s0 : Int32)
    (h : (¬ s0 = (x2 - x1) → Ev l G d mTo_wordFor 66 [.ref a0, .int x1, .int x2, .int x3, .ref a4, .int x5] [] M bc bs Φ) ∧ (s0 = (x2 - x1) → Ev l G d mTo_wordFor 34 [.ref a0, .int x1, .int x2, .int x3, .ref a4, .int x5] [] M bc bs Φ)) :
    Ev l G d mTo_wordFor 28 [.ref a0, .int x1, .int x2, .int x3, .ref a4, .int x5] [.int s0] M bc bs Φ := by
  refine Ev.iload_n dTo_wordFor_28 rfl ?_
  refine Ev.iload_n dTo_wordFor_29 rfl ?_
  refine Ev.isub dTo_wordFor_30 ?_
  refine Ev.icmp_ne 66 (by decide) dTo_wordFor_31 (fun c => ?_) (fun c => ?_)
  · replace h := h.1 c
    exact h
  · replace h := h.2 c
    exact h
theorem bTo_wordFor_34 {l : Launch} {G : Gx} {d : Nat} {bc bs : Nat} {Φ : OutV → Mm → Prop} (M : Mm) (a0 : Nat) (x1 : Int32) (x2 : Int32) (x3 : Int32) (a4 : Nat) (x5 : Int32)
    (h : (31 ≤ a4 ∧ a4 ≤ 53) ∧ CallVC l G d mTo_wordFor 41 [.ref a0, .int x1, .int x2, .int x3, .ref a4, .int x5] [.int x5] mjS_length [.ref a4] M bc bs Φ) :
    Ev l G d mTo_wordFor 34 [.ref a0, .int x1, .int x2, .int x3, .ref a4, .int x5] [] M bc bs Φ := by
  refine Ev.iload dTo_wordFor_34 rfl ?_
  refine Ev.aload dTo_wordFor_36 rfl ?_
  have g1 := h.1
  replace h := h.2
  exact Ev.vcT2 (z := mjS_length) (a := a4) [] [.int x5] rfl dTo_wordFor_38 ojS_length rfl w809 ijS_length sjS_length rfl (Nat.le_of_ble_eq_true rfl) g1 h
def mjS_charAt : MR := (⟨"java/lang/String", "charAt", "(I)C"⟩, prog_26_method_56_code, 2, (Option.some .char))
theorem ojS_charAt : MOK mjS_charAt 1 := ⟨lwg_of 822 (by decide +kernel) (by decide +kernel), lwg_of 110 (by decide +kernel) (by decide +kernel), ⟨by decide +kernel, by decide +kernel⟩, by decide +kernel, by decide⟩
theorem ijS_charAt : Cond.instanceMethod mjS_charAt.1 ∈ lwg := lwg_of 820 (by decide +kernel) (by decide +kernel)
theorem sjS_charAt : Cond.selects mjS_charAt.1.cls mjS_charAt.1 mjS_charAt.1 ∈ lwg := lwg_of 821 (by decide +kernel) (by decide +kernel)
theorem w819 : Cond.methodLink "BowingRow$Tokens" 68 ⟨"java/lang/String", "charAt", "(I)C"⟩ ∈ lwg := lwg_of 819 (by decide +kernel) (by decide +kernel)
theorem bTo_wordFor_41 {l : Launch} {G : Gx} {d : Nat} {bc bs : Nat} {Φ : OutV → Mm → Prop} (M : Mm) (a0 : Nat) (x1 : Int32) (x2 : Int32) (x3 : Int32) (a4 : Nat) (x5 : Int32) (s0 : Int32) (s1 : Int32)
    (h : (s1 ≤ s0 → Ev l G d mTo_wordFor 66 [.ref a0, .int x1, .int x2, .int x3, .ref a4, .int x5] [] M bc bs Φ) ∧ (¬ s1 ≤ s0 → (31 ≤ a4 ∧ a4 ≤ 53) ∧ CallVC l G d mTo_wordFor 51 [.ref a0, .int x1, .int x2, .int x3, .ref a4, .int x5] [] mjS_charAt [.ref a4, .int x5] M bc bs Φ)) :
    Ev l G d mTo_wordFor 41 [.ref a0, .int x1, .int x2, .int x3, .ref a4, .int x5] [.int s1, .int s0] M bc bs Φ := by
  refine Ev.icmp_ge 66 (by decide) dTo_wordFor_41 (fun c => ?_) (fun c => ?_)
  · replace h := h.1 c
    exact h
  · replace h := h.2 c
    refine Ev.aload dTo_wordFor_44 rfl ?_
    refine Ev.iload dTo_wordFor_46 rfl ?_
    have g1 := h.1
    replace h := h.2
    exact Ev.vcT2 (z := mjS_charAt) (a := a4) [.int x5] [] rfl dTo_wordFor_48 ojS_charAt rfl w819 ijS_charAt sjS_charAt rfl (Nat.le_of_ble_eq_true rfl) g1 h
theorem bTo_wordFor_51 {l : Launch} {G : Gx} {d : Nat} {bc bs : Nat} {Φ : OutV → Mm → Prop} (M : Mm) (a0 : Nat) (x1 : Int32) (x2 : Int32) (x3 : Int32) (a4 : Nat) (x5 : Int32) (s0 : Int32)
    (h : ((m_sh M a0).1 = 21) ∧ (vp_in (x1 + x5) (m_sh M a0).2) ∧ (¬ s0 = (m_i M a0 (x1 + x5).toNatClampNeg) → Ev l G d mTo_wordFor 66 [.ref a0, .int x1, .int x2, .int x3, .ref a4, .int x5] [] M bc bs Φ) ∧ (s0 = (m_i M a0 (x1 + x5).toNatClampNeg) → Ev l G d mTo_wordFor 34 [.ref a0, .int x1, .int x2, .int x3, .ref a4, .int (x5 + 1)] [] M bc bs Φ)) :
    Ev l G d mTo_wordFor 51 [.ref a0, .int x1, .int x2, .int x3, .ref a4, .int x5] [.int s0] M bc bs Φ := by
  refine Ev.aload_n dTo_wordFor_51 rfl ?_
  refine Ev.iload_n dTo_wordFor_52 rfl ?_
  refine Ev.iload dTo_wordFor_53 rfl ?_
  refine Ev.iadd dTo_wordFor_55 ?_
  have g1 := h.1
  replace h := h.2
  have g2 := h.1
  replace h := h.2
  refine Ev.bald2 dTo_wordFor_56 g1 g2 ?_
  refine Ev.icmp_ne 66 (by decide) dTo_wordFor_57 (fun c => ?_) (fun c => ?_)
  · replace h := h.1 c
    exact h
  · replace h := h.2 c
    refine Ev.iinc (v := x5 + 1) dTo_wordFor_60 (by decide) rfl rfl ?_
    show Ev l G d mTo_wordFor (_ + _) [.ref a0, .int x1, .int x2, .int x3, .ref a4, .int (x5 + 1)] [] M bc bs Φ
    refine Ev.goto 34 dTo_wordFor_63 (by decide) ?_
    exact h
theorem bTo_wordFor_66 {l : Launch} {G : Gx} {d : Nat} {bc bs : Nat} {Φ : OutV → Mm → Prop} (M : Mm) (a0 : Nat) (x1 : Int32) (x2 : Int32) (x3 : Int32) (a4 : Nat) (x5 : Int32)
    (h : (¬ x5 = (x2 - x1) → Ev l G d mTo_wordFor 2 [.ref a0, .int x1, .int x2, .int (x3 + 1), .ref a4, .int x5] [] M bc bs Φ) ∧ (x5 = (x2 - x1) → (vp_in x3 23) ∧ Φ (.inl (some (.ref (x3.toNatClampNeg + 1)))) M)) :
    Ev l G d mTo_wordFor 66 [.ref a0, .int x1, .int x2, .int x3, .ref a4, .int x5] [] M bc bs Φ := by
  refine Ev.iload dTo_wordFor_66 rfl ?_
  refine Ev.iload_n dTo_wordFor_68 rfl ?_
  refine Ev.iload_n dTo_wordFor_69 rfl ?_
  refine Ev.isub dTo_wordFor_70 ?_
  refine Ev.icmp_ne 80 (by decide) dTo_wordFor_71 (fun c => ?_) (fun c => ?_)
  · replace h := h.1 c
    refine Ev.iinc (v := x3 + 1) dTo_wordFor_80 (by decide) rfl rfl ?_
    show Ev l G d mTo_wordFor (_ + _) [.ref a0, .int x1, .int x2, .int (x3 + 1), .ref a4, .int x5] [] M bc bs Φ
    refine Ev.goto 2 dTo_wordFor_83 (by decide) ?_
    exact h
  · replace h := h.2 c
    refine Ev.gets (C := "BowingRow$Word") (n := "ALL") (ds := "[LBowingRow$Word;") (v := .ref 24) dTo_wordFor_74 (by decide +kernel) (Or.inr ⟨_, w807⟩) ?_
    refine Ev.iload_n dTo_wordFor_77 rfl ?_
    have g1 := h.1
    replace h := h.2
    refine Ev.tallW dTo_wordFor_78 g1 ?_
    exact Ev.aret dTo_wordFor_79 rfl (by first | exact Or.inl ⟨_, rfl⟩ | exact Or.inr ⟨_, rfl⟩) h
theorem dTo_atEnd_0 : decode mTo_atEnd.2.1 0 = .ok (.aload_n 0, 1) := by decide +kernel
theorem dTo_atEnd_1 : decode mTo_atEnd.2.1 1 = .ok (.getfield 9, 3) := by decide +kernel
theorem dTo_atEnd_4 : decode mTo_atEnd.2.1 4 = .ok (.aload_n 0, 1) := by decide +kernel
theorem dTo_atEnd_5 : decode mTo_atEnd.2.1 5 = .ok (.getfield 31, 3) := by decide +kernel
theorem dTo_atEnd_8 : decode mTo_atEnd.2.1 8 = .ok (.iaload, 1) := by decide +kernel
theorem dTo_atEnd_9 : decode mTo_atEnd.2.1 9 = .ok (.ifCond .ne 7, 3) := by decide +kernel
theorem dTo_atEnd_12 : decode mTo_atEnd.2.1 12 = .ok (.iconst 1, 1) := by decide +kernel
theorem dTo_atEnd_13 : decode mTo_atEnd.2.1 13 = .ok (.goto 4, 3) := by decide +kernel
theorem dTo_atEnd_16 : decode mTo_atEnd.2.1 16 = .ok (.iconst 0, 1) := by decide +kernel
theorem dTo_atEnd_17 : decode mTo_atEnd.2.1 17 = .ok (.ireturn, 1) := by decide +kernel
theorem bTo_atEnd_0 {l : Launch} {G : Gx} {d : Nat} {bc bs : Nat} {Φ : OutV → Mm → Prop} (M : Mm) (a0 : Nat)
    (h : ((m_sh M a0).1 = 8) ∧ ((m_sh M (m_r M a0 0)).1 = 20) ∧ (vp_in (m_i M a0 5) (m_sh M (m_r M a0 0)).2) ∧ (¬ (m_i M (m_r M a0 0) (m_i M a0 5).toNatClampNeg) = 0 → Φ (.inl (some (.int 0))) M) ∧ ((m_i M (m_r M a0 0) (m_i M a0 5).toNatClampNeg) = 0 → Φ (.inl (some (.int 1))) M)) :
    Ev l G d mTo_atEnd 0 [.ref a0] [] M bc bs Φ := by
  refine Ev.aload_n dTo_atEnd_0 rfl ?_
  have g1 := h.1
  replace h := h.2
  refine Ev.getR dTo_atEnd_1 (Or.inl fTo_9) rfl g1 ?_
  refine Ev.aload_n dTo_atEnd_4 rfl ?_
  refine Ev.getI dTo_atEnd_5 (Or.inl fTo_31) rfl g1 ?_
  have g2 := h.1
  replace h := h.2
  have g3 := h.1
  replace h := h.2
  refine Ev.iald2 dTo_atEnd_8 g2 g3 ?_
  refine Ev.if_ne 16 (by decide) dTo_atEnd_9 (fun c => ?_) (fun c => ?_)
  · replace h := h.1 c
    refine Ev.iconst (v := 0) dTo_atEnd_16 (by decide) ?_
    exact Ev.iret dTo_atEnd_17 rfl rfl h
  · replace h := h.2 c
    refine Ev.iconst (v := 1) dTo_atEnd_12 (by decide) ?_
    refine Ev.goto 17 dTo_atEnd_13 (by decide) ?_
    exact Ev.iret dTo_atEnd_17 rfl rfl h
theorem dTo_here_0 : decode mTo_here.2.1 0 = .ok (.aload_n 0, 1) := by decide +kernel
theorem dTo_here_1 : decode mTo_here.2.1 1 = .ok (.getfield 9, 3) := by decide +kernel
theorem dTo_here_4 : decode mTo_here.2.1 4 = .ok (.aload_n 0, 1) := by decide +kernel
theorem dTo_here_5 : decode mTo_here.2.1 5 = .ok (.getfield 31, 3) := by decide +kernel
theorem dTo_here_8 : decode mTo_here.2.1 8 = .ok (.iaload, 1) := by decide +kernel
theorem dTo_here_9 : decode mTo_here.2.1 9 = .ok (.iconst 2, 1) := by decide +kernel
theorem dTo_here_10 : decode mTo_here.2.1 10 = .ok (.if_icmp .ne 15, 3) := by decide +kernel
theorem dTo_here_13 : decode mTo_here.2.1 13 = .ok (.aload_n 0, 1) := by decide +kernel
theorem dTo_here_14 : decode mTo_here.2.1 14 = .ok (.getfield 23, 3) := by decide +kernel
theorem dTo_here_17 : decode mTo_here.2.1 17 = .ok (.aload_n 0, 1) := by decide +kernel
theorem dTo_here_18 : decode mTo_here.2.1 18 = .ok (.getfield 31, 3) := by decide +kernel
theorem dTo_here_21 : decode mTo_here.2.1 21 = .ok (.aaload, 1) := by decide +kernel
theorem dTo_here_22 : decode mTo_here.2.1 22 = .ok (.goto 6, 3) := by decide +kernel
theorem dTo_here_25 : decode mTo_here.2.1 25 = .ok (.getstatic 72, 3) := by decide +kernel
theorem dTo_here_28 : decode mTo_here.2.1 28 = .ok (.areturn, 1) := by decide +kernel
theorem bTo_here_0 {l : Launch} {G : Gx} {d : Nat} {bc bs : Nat} {Φ : OutV → Mm → Prop} (M : Mm) (a0 : Nat)
    (h : ((m_sh M a0).1 = 8) ∧ ((m_sh M (m_r M a0 0)).1 = 20) ∧ (vp_in (m_i M a0 5) (m_sh M (m_r M a0 0)).2) ∧ (¬ (m_i M (m_r M a0 0) (m_i M a0 5).toNatClampNeg) = 2 → Φ (.inl (some (.ref 1))) M) ∧ ((m_i M (m_r M a0 0) (m_i M a0 5).toNatClampNeg) = 2 → ((m_sh M (m_r M a0 3)).1 = 32) ∧ (vp_in (m_i M a0 5) (m_sh M (m_r M a0 3)).2) ∧ Φ (.inl (some (.ref (m_r M (m_r M a0 3) (m_i M a0 5).toNatClampNeg)))) M)) :
    Ev l G d mTo_here 0 [.ref a0] [] M bc bs Φ := by
  refine Ev.aload_n dTo_here_0 rfl ?_
  have g1 := h.1
  replace h := h.2
  refine Ev.getR dTo_here_1 (Or.inl fTo_9) rfl g1 ?_
  refine Ev.aload_n dTo_here_4 rfl ?_
  refine Ev.getI dTo_here_5 (Or.inl fTo_31) rfl g1 ?_
  have g2 := h.1
  replace h := h.2
  have g3 := h.1
  replace h := h.2
  refine Ev.iald2 dTo_here_8 g2 g3 ?_
  refine Ev.iconst (v := 2) dTo_here_9 (by decide) ?_
  refine Ev.icmp_ne 25 (by decide) dTo_here_10 (fun c => ?_) (fun c => ?_)
  · replace h := h.1 c
    refine Ev.gets (C := "BowingRow$Word") (n := "UNKNOWN") (ds := "LBowingRow$Word;") (v := .ref 1) dTo_here_25 (by decide +kernel) (Or.inl w857) ?_
    exact Ev.aret dTo_here_28 rfl (by first | exact Or.inl ⟨_, rfl⟩ | exact Or.inr ⟨_, rfl⟩) h
  · replace h := h.2 c
    refine Ev.aload_n dTo_here_13 rfl ?_
    refine Ev.getR dTo_here_14 (Or.inl fTo_23) rfl g1 ?_
    refine Ev.aload_n dTo_here_17 rfl ?_
    refine Ev.getI dTo_here_18 (Or.inl fTo_31) rfl g1 ?_
    have g4 := h.1
    replace h := h.2
    have g5 := h.1
    replace h := h.2
    refine Ev.aald2 32 (by decide) dTo_here_21 g4 g5 ?_
    refine Ev.goto 28 dTo_here_22 (by decide) ?_
    exact Ev.aret dTo_here_28 rfl (by first | exact Or.inl ⟨_, rfl⟩ | exact Or.inr ⟨_, rfl⟩) h
theorem dTo_fail_0 : decode mTo_fail.2.1 0 = .ok (.aload_n 0, 1) := by decide +kernel
theorem dTo_fail_1 : decode mTo_fail.2.1 1 = .ok (.iload_n 1, 1) := by decide +kernel
theorem dTo_fail_2 : decode mTo_fail.2.1 2 = .ok (.putfield 34, 3) := by decide +kernel
theorem dTo_fail_5 : decode mTo_fail.2.1 5 = .ok (.aload_n 0, 1) := by decide +kernel
theorem dTo_fail_6 : decode mTo_fail.2.1 6 = .ok (.aload_n 0, 1) := by decide +kernel
theorem dTo_fail_7 : decode mTo_fail.2.1 7 = .ok (.getfield 18, 3) := by decide +kernel
theorem dTo_fail_10 : decode mTo_fail.2.1 10 = .ok (.aload_n 0, 1) := by decide +kernel
theorem dTo_fail_11 : decode mTo_fail.2.1 11 = .ok (.getfield 31, 3) := by decide +kernel
theorem dTo_fail_14 : decode mTo_fail.2.1 14 = .ok (.iaload, 1) := by decide +kernel
theorem dTo_fail_15 : decode mTo_fail.2.1 15 = .ok (.putfield 37, 3) := by decide +kernel
theorem dTo_fail_18 : decode mTo_fail.2.1 18 = .ok (.iconst 0, 1) := by decide +kernel
theorem dTo_fail_19 : decode mTo_fail.2.1 19 = .ok (.ireturn, 1) := by decide +kernel
theorem bTo_fail_0 {l : Launch} {G : Gx} {d : Nat} {bc bs : Nat} {Φ : OutV → Mm → Prop} (M : Mm) (a0 : Nat) (x1 : Int32)
    (h : ((m_sh M a0).1 = 8) ∧ ((m_sh M (m_r M a0 2)).1 = 20) ∧ (vp_in (m_i (m_si M a0 6 x1) a0 5) (m_sh M (m_r M a0 2)).2) ∧ Φ (.inl (some (.int 0))) (m_si (m_si M a0 6 x1) a0 7 (m_i (m_si M a0 6 x1) (m_r M a0 2) (m_i (m_si M a0 6 x1) a0 5).toNatClampNeg))) :
    Ev l G d mTo_fail 0 [.ref a0, .int x1] [] M bc bs Φ := by
  refine Ev.aload_n dTo_fail_0 rfl ?_
  refine Ev.iload_n dTo_fail_1 rfl ?_
  have g1 := h.1
  replace h := h.2
  refine Ev.putI dTo_fail_2 ⟨_, Or.inl ⟨fTo_34, (fun h => by cases h)⟩⟩ rfl ⟨rfl, rfl⟩ g1 ?_
  refine Ev.aload_n dTo_fail_5 rfl ?_
  refine Ev.aload_n dTo_fail_6 rfl ?_
  refine Ev.getR dTo_fail_7 (Or.inl fTo_18) rfl g1 ?_
  refine Ev.aload_n dTo_fail_10 rfl ?_
  refine Ev.getI dTo_fail_11 (Or.inl fTo_31) rfl g1 ?_
  have g2 := h.1
  replace h := h.2
  have g3 := h.1
  replace h := h.2
  refine Ev.iald2 dTo_fail_14 g2 g3 ?_
  refine Ev.putI dTo_fail_15 ⟨_, Or.inl ⟨fTo_37, (fun h => by cases h)⟩⟩ rfl ⟨rfl, rfl⟩ g1 ?_
  refine Ev.iconst (v := 0) dTo_fail_18 (by decide) ?_
  exact Ev.iret dTo_fail_19 rfl rfl h
theorem dTo_goOn_0 : decode mTo_goOn.2.1 0 = .ok (.aload_n 0, 1) := by decide +kernel
theorem dTo_goOn_1 : decode mTo_goOn.2.1 1 = .ok (.getfield 31, 3) := by decide +kernel
theorem dTo_goOn_4 : decode mTo_goOn.2.1 4 = .ok (.aload_n 0, 1) := by decide +kernel
theorem dTo_goOn_5 : decode mTo_goOn.2.1 5 = .ok (.getfield 27, 3) := by decide +kernel
theorem dTo_goOn_8 : decode mTo_goOn.2.1 8 = .ok (.if_icmp .ge 13, 3) := by decide +kernel
theorem dTo_goOn_11 : decode mTo_goOn.2.1 11 = .ok (.aload_n 0, 1) := by decide +kernel
theorem dTo_goOn_12 : decode mTo_goOn.2.1 12 = .ok (.dup, 1) := by decide +kernel
theorem dTo_goOn_13 : decode mTo_goOn.2.1 13 = .ok (.getfield 31, 3) := by decide +kernel
theorem dTo_goOn_16 : decode mTo_goOn.2.1 16 = .ok (.iconst 1, 1) := by decide +kernel
theorem dTo_goOn_17 : decode mTo_goOn.2.1 17 = .ok (.iadd, 1) := by decide +kernel
theorem dTo_goOn_18 : decode mTo_goOn.2.1 18 = .ok (.putfield 31, 3) := by decide +kernel
theorem dTo_goOn_21 : decode mTo_goOn.2.1 21 = .ok (.return_, 1) := by decide +kernel
theorem bTo_goOn_0 {l : Launch} {G : Gx} {d : Nat} {bc bs : Nat} {Φ : OutV → Mm → Prop} (M : Mm) (a0 : Nat)
    (h : ((m_sh M a0).1 = 8) ∧ ((m_i M a0 4) ≤ (m_i M a0 5) → Φ (.inl none) M) ∧ (¬ (m_i M a0 4) ≤ (m_i M a0 5) → Φ (.inl none) (m_si M a0 5 ((m_i M a0 5) + 1)))) :
    Ev l G d mTo_goOn 0 [.ref a0] [] M bc bs Φ := by
  refine Ev.aload_n dTo_goOn_0 rfl ?_
  have g1 := h.1
  replace h := h.2
  refine Ev.getI dTo_goOn_1 (Or.inl fTo_31) rfl g1 ?_
  refine Ev.aload_n dTo_goOn_4 rfl ?_
  refine Ev.getI dTo_goOn_5 (Or.inl fTo_27) rfl g1 ?_
  refine Ev.icmp_ge 21 (by decide) dTo_goOn_8 (fun c => ?_) (fun c => ?_)
  · replace h := h.1 c
    exact Ev.vret dTo_goOn_21 rfl h
  · replace h := h.2 c
    refine Ev.aload_n dTo_goOn_11 rfl ?_
    refine Ev.dup dTo_goOn_12 rfl ?_
    refine Ev.getI dTo_goOn_13 (Or.inl fTo_31) rfl g1 ?_
    refine Ev.iconst (v := 1) dTo_goOn_16 (by decide) ?_
    refine Ev.iadd dTo_goOn_17 ?_
    refine Ev.putI dTo_goOn_18 ⟨_, Or.inl ⟨fTo_31, (fun h => by cases h)⟩⟩ rfl ⟨rfl, rfl⟩ g1 ?_
    exact Ev.vret dTo_goOn_21 rfl h
theorem dTo_takeNumber_0 : decode mTo_takeNumber.2.1 0 = .ok (.aload_n 0, 1) := by decide +kernel
theorem dTo_takeNumber_1 : decode mTo_takeNumber.2.1 1 = .ok (.getfield 9, 3) := by decide +kernel
theorem dTo_takeNumber_4 : decode mTo_takeNumber.2.1 4 = .ok (.aload_n 0, 1) := by decide +kernel
theorem dTo_takeNumber_5 : decode mTo_takeNumber.2.1 5 = .ok (.getfield 31, 3) := by decide +kernel
theorem dTo_takeNumber_8 : decode mTo_takeNumber.2.1 8 = .ok (.iaload, 1) := by decide +kernel
theorem dTo_takeNumber_9 : decode mTo_takeNumber.2.1 9 = .ok (.iconst 1, 1) := by decide +kernel
theorem dTo_takeNumber_10 : decode mTo_takeNumber.2.1 10 = .ok (.if_icmp .ne 7, 3) := by decide +kernel
theorem dTo_takeNumber_13 : decode mTo_takeNumber.2.1 13 = .ok (.iconst 1, 1) := by decide +kernel
theorem dTo_takeNumber_14 : decode mTo_takeNumber.2.1 14 = .ok (.goto 4, 3) := by decide +kernel
theorem dTo_takeNumber_17 : decode mTo_takeNumber.2.1 17 = .ok (.iconst 0, 1) := by decide +kernel
theorem dTo_takeNumber_18 : decode mTo_takeNumber.2.1 18 = .ok (.istore_n 3, 1) := by decide +kernel
theorem dTo_takeNumber_19 : decode mTo_takeNumber.2.1 19 = .ok (.aload_n 0, 1) := by decide +kernel
theorem dTo_takeNumber_20 : decode mTo_takeNumber.2.1 20 = .ok (.getfield 15, 3) := by decide +kernel
theorem dTo_takeNumber_23 : decode mTo_takeNumber.2.1 23 = .ok (.aload_n 0, 1) := by decide +kernel
theorem dTo_takeNumber_24 : decode mTo_takeNumber.2.1 24 = .ok (.getfield 31, 3) := by decide +kernel
theorem dTo_takeNumber_27 : decode mTo_takeNumber.2.1 27 = .ok (.iaload, 1) := by decide +kernel
theorem dTo_takeNumber_28 : decode mTo_takeNumber.2.1 28 = .ok (.istore 4, 2) := by decide +kernel
theorem dTo_takeNumber_30 : decode mTo_takeNumber.2.1 30 = .ok (.iload_n 3, 1) := by decide +kernel
theorem dTo_takeNumber_31 : decode mTo_takeNumber.2.1 31 = .ok (.ifCond .eq 28, 3) := by decide +kernel
theorem dTo_takeNumber_34 : decode mTo_takeNumber.2.1 34 = .ok (.iload 4, 2) := by decide +kernel
theorem dTo_takeNumber_36 : decode mTo_takeNumber.2.1 36 = .ok (.iload_n 1, 1) := by decide +kernel
theorem dTo_takeNumber_37 : decode mTo_takeNumber.2.1 37 = .ok (.if_icmp .lt 22, 3) := by decide +kernel
theorem dTo_takeNumber_40 : decode mTo_takeNumber.2.1 40 = .ok (.iload 4, 2) := by decide +kernel
theorem dTo_takeNumber_42 : decode mTo_takeNumber.2.1 42 = .ok (.iload_n 2, 1) := by decide +kernel
theorem dTo_takeNumber_43 : decode mTo_takeNumber.2.1 43 = .ok (.if_icmp .gt 16, 3) := by decide +kernel
theorem dTo_takeNumber_46 : decode mTo_takeNumber.2.1 46 = .ok (.aload_n 0, 1) := by decide +kernel
theorem dTo_takeNumber_47 : decode mTo_takeNumber.2.1 47 = .ok (.dup, 1) := by decide +kernel
theorem dTo_takeNumber_48 : decode mTo_takeNumber.2.1 48 = .ok (.getfield 31, 3) := by decide +kernel
theorem dTo_takeNumber_51 : decode mTo_takeNumber.2.1 51 = .ok (.iconst 1, 1) := by decide +kernel
theorem dTo_takeNumber_52 : decode mTo_takeNumber.2.1 52 = .ok (.iadd, 1) := by decide +kernel
theorem dTo_takeNumber_53 : decode mTo_takeNumber.2.1 53 = .ok (.putfield 31, 3) := by decide +kernel
theorem dTo_takeNumber_56 : decode mTo_takeNumber.2.1 56 = .ok (.iload 4, 2) := by decide +kernel
theorem dTo_takeNumber_58 : decode mTo_takeNumber.2.1 58 = .ok (.ireturn, 1) := by decide +kernel
theorem dTo_takeNumber_59 : decode mTo_takeNumber.2.1 59 = .ok (.aload_n 0, 1) := by decide +kernel
theorem dTo_takeNumber_60 : decode mTo_takeNumber.2.1 60 = .ok (.iload_n 3, 1) := by decide +kernel
theorem dTo_takeNumber_61 : decode mTo_takeNumber.2.1 61 = .ok (.ifCond .eq 7, 3) := by decide +kernel
theorem dTo_takeNumber_64 : decode mTo_takeNumber.2.1 64 = .ok (.iconst 2, 1) := by decide +kernel
theorem dTo_takeNumber_65 : decode mTo_takeNumber.2.1 65 = .ok (.goto 4, 3) := by decide +kernel
theorem dTo_takeNumber_68 : decode mTo_takeNumber.2.1 68 = .ok (.iconst 1, 1) := by decide +kernel
theorem dTo_takeNumber_69 : decode mTo_takeNumber.2.1 69 = .ok (.putfield 34, 3) := by decide +kernel
theorem dTo_takeNumber_72 : decode mTo_takeNumber.2.1 72 = .ok (.aload_n 0, 1) := by decide +kernel
theorem dTo_takeNumber_73 : decode mTo_takeNumber.2.1 73 = .ok (.aload_n 0, 1) := by decide +kernel
theorem dTo_takeNumber_74 : decode mTo_takeNumber.2.1 74 = .ok (.getfield 18, 3) := by decide +kernel
theorem dTo_takeNumber_77 : decode mTo_takeNumber.2.1 77 = .ok (.aload_n 0, 1) := by decide +kernel
theorem dTo_takeNumber_78 : decode mTo_takeNumber.2.1 78 = .ok (.getfield 31, 3) := by decide +kernel
theorem dTo_takeNumber_81 : decode mTo_takeNumber.2.1 81 = .ok (.iaload, 1) := by decide +kernel
theorem dTo_takeNumber_82 : decode mTo_takeNumber.2.1 82 = .ok (.putfield 37, 3) := by decide +kernel
theorem dTo_takeNumber_85 : decode mTo_takeNumber.2.1 85 = .ok (.iconst (-1), 1) := by decide +kernel
theorem dTo_takeNumber_86 : decode mTo_takeNumber.2.1 86 = .ok (.ireturn, 1) := by decide +kernel
theorem bTo_takeNumber_0 {l : Launch} {G : Gx} {d : Nat} {bc bs : Nat} {Φ : OutV → Mm → Prop} (M : Mm) (a0 : Nat) (x1 : Int32) (x2 : Int32)
    (h : ((m_sh M a0).1 = 8) ∧ ((m_sh M (m_r M a0 0)).1 = 20) ∧ (vp_in (m_i M a0 5) (m_sh M (m_r M a0 0)).2) ∧ (¬ (m_i M (m_r M a0 0) (m_i M a0 5).toNatClampNeg) = 1 → ((m_sh M (m_r M a0 1)).1 = 20) ∧ (vp_in (m_i M a0 5) (m_sh M (m_r M a0 1)).2) ∧ Ev l G d mTo_takeNumber 59 [.ref a0, .int x1, .int x2, .int 0, .int (m_i M (m_r M a0 1) (m_i M a0 5).toNatClampNeg)] [] M bc bs Φ) ∧ ((m_i M (m_r M a0 0) (m_i M a0 5).toNatClampNeg) = 1 → ((m_sh M (m_r M a0 1)).1 = 20) ∧ (vp_in (m_i M a0 5) (m_sh M (m_r M a0 1)).2) ∧ ((m_i M (m_r M a0 1) (m_i M a0 5).toNatClampNeg) < x1 → Ev l G d mTo_takeNumber 59 [.ref a0, .int x1, .int x2, .int 1, .int (m_i M (m_r M a0 1) (m_i M a0 5).toNatClampNeg)] [] M bc bs Φ) ∧ (¬ (m_i M (m_r M a0 1) (m_i M a0 5).toNatClampNeg) < x1 → (x2 < (m_i M (m_r M a0 1) (m_i M a0 5).toNatClampNeg) → Ev l G d mTo_takeNumber 59 [.ref a0, .int x1, .int x2, .int 1, .int (m_i M (m_r M a0 1) (m_i M a0 5).toNatClampNeg)] [] M bc bs Φ) ∧ (¬ x2 < (m_i M (m_r M a0 1) (m_i M a0 5).toNatClampNeg) → Φ (.inl (some (.int (m_i M (m_r M a0 1) (m_i M a0 5).toNatClampNeg)))) (m_si M a0 5 ((m_i M a0 5) + 1)))))) :
    Ev l G d mTo_takeNumber 0 [.ref a0, .int x1, .int x2, .null, .null] [] M bc bs Φ := by
  refine Ev.aload_n dTo_takeNumber_0 rfl ?_
  have g1 := h.1
  replace h := h.2
  refine Ev.getR dTo_takeNumber_1 (Or.inl fTo_9) rfl g1 ?_
  refine Ev.aload_n dTo_takeNumber_4 rfl ?_
  refine Ev.getI dTo_takeNumber_5 (Or.inl fTo_31) rfl g1 ?_
  have g2 := h.1
  replace h := h.2
  have g3 := h.1
  replace h := h.2
  refine Ev.iald2 dTo_takeNumber_8 g2 g3 ?_
  refine Ev.iconst (v := 1) dTo_takeNumber_9 (by decide) ?_
  refine Ev.icmp_ne 17 (by decide) dTo_takeNumber_10 (fun c => ?_) (fun c => ?_)
  · replace h := h.1 c
    refine Ev.iconst (v := 0) dTo_takeNumber_17 (by decide) ?_
    refine Ev.istore_n dTo_takeNumber_18 (by decide) ?_
    show Ev l G d mTo_takeNumber (_ + _) [.ref a0, .int x1, .int x2, .int 0, .null] [] M bc bs Φ
    refine Ev.aload_n dTo_takeNumber_19 rfl ?_
    refine Ev.getR dTo_takeNumber_20 (Or.inl fTo_15) rfl g1 ?_
    refine Ev.aload_n dTo_takeNumber_23 rfl ?_
    refine Ev.getI dTo_takeNumber_24 (Or.inl fTo_31) rfl g1 ?_
    have g4 := h.1
    replace h := h.2
    have g5 := h.1
    replace h := h.2
    refine Ev.iald2 dTo_takeNumber_27 g4 g5 ?_
    refine Ev.istore dTo_takeNumber_28 (by decide) ?_
    show Ev l G d mTo_takeNumber (_ + _) [.ref a0, .int x1, .int x2, .int 0, .int (m_i M (m_r M a0 1) (m_i M a0 5).toNatClampNeg)] [] M bc bs Φ
    refine Ev.iload_n dTo_takeNumber_30 rfl ?_
    refine Ev.if_eq 59 (by decide) dTo_takeNumber_31 (fun _ => ?_) (fun c => absurd c (by decide))
    exact h
  · replace h := h.2 c
    refine Ev.iconst (v := 1) dTo_takeNumber_13 (by decide) ?_
    refine Ev.goto 18 dTo_takeNumber_14 (by decide) ?_
    refine Ev.istore_n dTo_takeNumber_18 (by decide) ?_
    show Ev l G d mTo_takeNumber (_ + _) [.ref a0, .int x1, .int x2, .int 1, .null] [] M bc bs Φ
    refine Ev.aload_n dTo_takeNumber_19 rfl ?_
    refine Ev.getR dTo_takeNumber_20 (Or.inl fTo_15) rfl g1 ?_
    refine Ev.aload_n dTo_takeNumber_23 rfl ?_
    refine Ev.getI dTo_takeNumber_24 (Or.inl fTo_31) rfl g1 ?_
    have g6 := h.1
    replace h := h.2
    have g7 := h.1
    replace h := h.2
    refine Ev.iald2 dTo_takeNumber_27 g6 g7 ?_
    refine Ev.istore dTo_takeNumber_28 (by decide) ?_
    show Ev l G d mTo_takeNumber (_ + _) [.ref a0, .int x1, .int x2, .int 1, .int (m_i M (m_r M a0 1) (m_i M a0 5).toNatClampNeg)] [] M bc bs Φ
    refine Ev.iload_n dTo_takeNumber_30 rfl ?_
    refine Ev.if_eq 59 (by decide) dTo_takeNumber_31 (fun c => absurd c (by decide)) (fun _ => ?_)
    refine Ev.iload dTo_takeNumber_34 rfl ?_
    refine Ev.iload_n dTo_takeNumber_36 rfl ?_
    refine Ev.icmp_lt 59 (by decide) dTo_takeNumber_37 (fun c => ?_) (fun c => ?_)
    · replace h := h.1 c
      exact h
    · replace h := h.2 c
      refine Ev.iload dTo_takeNumber_40 rfl ?_
      refine Ev.iload_n dTo_takeNumber_42 rfl ?_
      refine Ev.icmp_gt 59 (by decide) dTo_takeNumber_43 (fun c => ?_) (fun c => ?_)
      · replace h := h.1 c
        exact h
      · replace h := h.2 c
        refine Ev.aload_n dTo_takeNumber_46 rfl ?_
        refine Ev.dup dTo_takeNumber_47 rfl ?_
        refine Ev.getI dTo_takeNumber_48 (Or.inl fTo_31) rfl g1 ?_
        refine Ev.iconst (v := 1) dTo_takeNumber_51 (by decide) ?_
        refine Ev.iadd dTo_takeNumber_52 ?_
        refine Ev.putI dTo_takeNumber_53 ⟨_, Or.inl ⟨fTo_31, (fun h => by cases h)⟩⟩ rfl ⟨rfl, rfl⟩ g1 ?_
        refine Ev.iload dTo_takeNumber_56 rfl ?_
        exact Ev.iret dTo_takeNumber_58 rfl rfl h
theorem bTo_takeNumber_59 {l : Launch} {G : Gx} {d : Nat} {bc bs : Nat} {Φ : OutV → Mm → Prop} (M : Mm) (a0 : Nat) (x1 : Int32) (x2 : Int32) (x3 : Int32) (x4 : Int32)
    (h : (x3 = 0 → ((m_sh M a0).1 = 8) ∧ ((m_sh M (m_r M a0 2)).1 = 20) ∧ (vp_in (m_i (m_si M a0 6 1) a0 5) (m_sh M (m_r M a0 2)).2) ∧ Φ (.inl (some (.int ((-1))))) (m_si (m_si M a0 6 1) a0 7 (m_i (m_si M a0 6 1) (m_r M a0 2) (m_i (m_si M a0 6 1) a0 5).toNatClampNeg))) ∧ (¬ x3 = 0 → ((m_sh M a0).1 = 8) ∧ ((m_sh M (m_r M a0 2)).1 = 20) ∧ (vp_in (m_i (m_si M a0 6 2) a0 5) (m_sh M (m_r M a0 2)).2) ∧ Φ (.inl (some (.int ((-1))))) (m_si (m_si M a0 6 2) a0 7 (m_i (m_si M a0 6 2) (m_r M a0 2) (m_i (m_si M a0 6 2) a0 5).toNatClampNeg)))) :
    Ev l G d mTo_takeNumber 59 [.ref a0, .int x1, .int x2, .int x3, .int x4] [] M bc bs Φ := by
  refine Ev.aload_n dTo_takeNumber_59 rfl ?_
  refine Ev.iload_n dTo_takeNumber_60 rfl ?_
  refine Ev.if_eq 68 (by decide) dTo_takeNumber_61 (fun c => ?_) (fun c => ?_)
  · replace h := h.1 c
    refine Ev.iconst (v := 1) dTo_takeNumber_68 (by decide) ?_
    have g1 := h.1
    replace h := h.2
    refine Ev.putI dTo_takeNumber_69 ⟨_, Or.inl ⟨fTo_34, (fun h => by cases h)⟩⟩ rfl ⟨rfl, rfl⟩ g1 ?_
    refine Ev.aload_n dTo_takeNumber_72 rfl ?_
    refine Ev.aload_n dTo_takeNumber_73 rfl ?_
    refine Ev.getR dTo_takeNumber_74 (Or.inl fTo_18) rfl g1 ?_
    refine Ev.aload_n dTo_takeNumber_77 rfl ?_
    refine Ev.getI dTo_takeNumber_78 (Or.inl fTo_31) rfl g1 ?_
    have g2 := h.1
    replace h := h.2
    have g3 := h.1
    replace h := h.2
    refine Ev.iald2 dTo_takeNumber_81 g2 g3 ?_
    refine Ev.putI dTo_takeNumber_82 ⟨_, Or.inl ⟨fTo_37, (fun h => by cases h)⟩⟩ rfl ⟨rfl, rfl⟩ g1 ?_
    refine Ev.iconst (v := (-1)) dTo_takeNumber_85 (by decide) ?_
    exact Ev.iret dTo_takeNumber_86 rfl rfl h
  · replace h := h.2 c
    refine Ev.iconst (v := 2) dTo_takeNumber_64 (by decide) ?_
    refine Ev.goto 69 dTo_takeNumber_65 (by decide) ?_
    have g4 := h.1
    replace h := h.2
    refine Ev.putI dTo_takeNumber_69 ⟨_, Or.inl ⟨fTo_34, (fun h => by cases h)⟩⟩ rfl ⟨rfl, rfl⟩ g4 ?_
    refine Ev.aload_n dTo_takeNumber_72 rfl ?_
    refine Ev.aload_n dTo_takeNumber_73 rfl ?_
    refine Ev.getR dTo_takeNumber_74 (Or.inl fTo_18) rfl g4 ?_
    refine Ev.aload_n dTo_takeNumber_77 rfl ?_
    refine Ev.getI dTo_takeNumber_78 (Or.inl fTo_31) rfl g4 ?_
    have g5 := h.1
    replace h := h.2
    have g6 := h.1
    replace h := h.2
    refine Ev.iald2 dTo_takeNumber_81 g5 g6 ?_
    refine Ev.putI dTo_takeNumber_82 ⟨_, Or.inl ⟨fTo_37, (fun h => by cases h)⟩⟩ rfl ⟨rfl, rfl⟩ g4 ?_
    refine Ev.iconst (v := (-1)) dTo_takeNumber_85 (by decide) ?_
    exact Ev.iret dTo_takeNumber_86 rfl rfl h
theorem dTo_isNumber_0 : decode mTo_isNumber.2.1 0 = .ok (.aload_n 0, 1) := by decide +kernel
theorem dTo_isNumber_1 : decode mTo_isNumber.2.1 1 = .ok (.getfield 9, 3) := by decide +kernel
theorem dTo_isNumber_4 : decode mTo_isNumber.2.1 4 = .ok (.aload_n 0, 1) := by decide +kernel
theorem dTo_isNumber_5 : decode mTo_isNumber.2.1 5 = .ok (.getfield 31, 3) := by decide +kernel
theorem dTo_isNumber_8 : decode mTo_isNumber.2.1 8 = .ok (.iaload, 1) := by decide +kernel
theorem dTo_isNumber_9 : decode mTo_isNumber.2.1 9 = .ok (.iconst 1, 1) := by decide +kernel
theorem dTo_isNumber_10 : decode mTo_isNumber.2.1 10 = .ok (.if_icmp .ne 20, 3) := by decide +kernel
theorem dTo_isNumber_13 : decode mTo_isNumber.2.1 13 = .ok (.aload_n 0, 1) := by decide +kernel
theorem dTo_isNumber_14 : decode mTo_isNumber.2.1 14 = .ok (.getfield 15, 3) := by decide +kernel
theorem dTo_isNumber_17 : decode mTo_isNumber.2.1 17 = .ok (.aload_n 0, 1) := by decide +kernel
theorem dTo_isNumber_18 : decode mTo_isNumber.2.1 18 = .ok (.getfield 31, 3) := by decide +kernel
theorem dTo_isNumber_21 : decode mTo_isNumber.2.1 21 = .ok (.iaload, 1) := by decide +kernel
theorem dTo_isNumber_22 : decode mTo_isNumber.2.1 22 = .ok (.iload_n 1, 1) := by decide +kernel
theorem dTo_isNumber_23 : decode mTo_isNumber.2.1 23 = .ok (.if_icmp .ne 7, 3) := by decide +kernel
theorem dTo_isNumber_26 : decode mTo_isNumber.2.1 26 = .ok (.iconst 1, 1) := by decide +kernel
theorem dTo_isNumber_27 : decode mTo_isNumber.2.1 27 = .ok (.goto 4, 3) := by decide +kernel
theorem dTo_isNumber_30 : decode mTo_isNumber.2.1 30 = .ok (.iconst 0, 1) := by decide +kernel
theorem dTo_isNumber_31 : decode mTo_isNumber.2.1 31 = .ok (.ireturn, 1) := by decide +kernel
theorem bTo_isNumber_0 {l : Launch} {G : Gx} {d : Nat} {bc bs : Nat} {Φ : OutV → Mm → Prop} (M : Mm) (a0 : Nat) (x1 : Int32)
    (h : ((m_sh M a0).1 = 8) ∧ ((m_sh M (m_r M a0 0)).1 = 20) ∧ (vp_in (m_i M a0 5) (m_sh M (m_r M a0 0)).2) ∧ (¬ (m_i M (m_r M a0 0) (m_i M a0 5).toNatClampNeg) = 1 → Φ (.inl (some (.int 0))) M) ∧ ((m_i M (m_r M a0 0) (m_i M a0 5).toNatClampNeg) = 1 → ((m_sh M (m_r M a0 1)).1 = 20) ∧ (vp_in (m_i M a0 5) (m_sh M (m_r M a0 1)).2) ∧ (¬ (m_i M (m_r M a0 1) (m_i M a0 5).toNatClampNeg) = x1 → Φ (.inl (some (.int 0))) M) ∧ ((m_i M (m_r M a0 1) (m_i M a0 5).toNatClampNeg) = x1 → Φ (.inl (some (.int 1))) M))) :
    Ev l G d mTo_isNumber 0 [.ref a0, .int x1] [] M bc bs Φ := by
  refine Ev.aload_n dTo_isNumber_0 rfl ?_
  have g1 := h.1
  replace h := h.2
  refine Ev.getR dTo_isNumber_1 (Or.inl fTo_9) rfl g1 ?_
  refine Ev.aload_n dTo_isNumber_4 rfl ?_
  refine Ev.getI dTo_isNumber_5 (Or.inl fTo_31) rfl g1 ?_
  have g2 := h.1
  replace h := h.2
  have g3 := h.1
  replace h := h.2
  refine Ev.iald2 dTo_isNumber_8 g2 g3 ?_
  refine Ev.iconst (v := 1) dTo_isNumber_9 (by decide) ?_
  refine Ev.icmp_ne 30 (by decide) dTo_isNumber_10 (fun c => ?_) (fun c => ?_)
  · replace h := h.1 c
    refine Ev.iconst (v := 0) dTo_isNumber_30 (by decide) ?_
    exact Ev.iret dTo_isNumber_31 rfl rfl h
  · replace h := h.2 c
    refine Ev.aload_n dTo_isNumber_13 rfl ?_
    refine Ev.getR dTo_isNumber_14 (Or.inl fTo_15) rfl g1 ?_
    refine Ev.aload_n dTo_isNumber_17 rfl ?_
    refine Ev.getI dTo_isNumber_18 (Or.inl fTo_31) rfl g1 ?_
    have g4 := h.1
    replace h := h.2
    have g5 := h.1
    replace h := h.2
    refine Ev.iald2 dTo_isNumber_21 g4 g5 ?_
    refine Ev.iload_n dTo_isNumber_22 rfl ?_
    refine Ev.icmp_ne 30 (by decide) dTo_isNumber_23 (fun c => ?_) (fun c => ?_)
    · replace h := h.1 c
      refine Ev.iconst (v := 0) dTo_isNumber_30 (by decide) ?_
      exact Ev.iret dTo_isNumber_31 rfl rfl h
    · replace h := h.2 c
      refine Ev.iconst (v := 1) dTo_isNumber_26 (by decide) ?_
      refine Ev.goto 31 dTo_isNumber_27 (by decide) ?_
      exact Ev.iret dTo_isNumber_31 rfl rfl h
theorem dTo_takeSign_0 : decode mTo_takeSign.2.1 0 = .ok (.aload_n 0, 1) := by decide +kernel
theorem dTo_takeSign_1 : decode mTo_takeSign.2.1 1 = .ok (.getfield 9, 3) := by decide +kernel
theorem dTo_takeSign_4 : decode mTo_takeSign.2.1 4 = .ok (.aload_n 0, 1) := by decide +kernel
theorem dTo_takeSign_5 : decode mTo_takeSign.2.1 5 = .ok (.getfield 31, 3) := by decide +kernel
theorem dTo_takeSign_8 : decode mTo_takeSign.2.1 8 = .ok (.iaload, 1) := by decide +kernel
theorem dTo_takeSign_9 : decode mTo_takeSign.2.1 9 = .ok (.iconst 3, 1) := by decide +kernel
theorem dTo_takeSign_10 : decode mTo_takeSign.2.1 10 = .ok (.if_icmp .ne 20, 3) := by decide +kernel
theorem dTo_takeSign_13 : decode mTo_takeSign.2.1 13 = .ok (.aload_n 0, 1) := by decide +kernel
theorem dTo_takeSign_14 : decode mTo_takeSign.2.1 14 = .ok (.getfield 15, 3) := by decide +kernel
theorem dTo_takeSign_17 : decode mTo_takeSign.2.1 17 = .ok (.aload_n 0, 1) := by decide +kernel
theorem dTo_takeSign_18 : decode mTo_takeSign.2.1 18 = .ok (.getfield 31, 3) := by decide +kernel
theorem dTo_takeSign_21 : decode mTo_takeSign.2.1 21 = .ok (.iaload, 1) := by decide +kernel
theorem dTo_takeSign_22 : decode mTo_takeSign.2.1 22 = .ok (.iload_n 1, 1) := by decide +kernel
theorem dTo_takeSign_23 : decode mTo_takeSign.2.1 23 = .ok (.if_icmp .ne 7, 3) := by decide +kernel
theorem dTo_takeSign_26 : decode mTo_takeSign.2.1 26 = .ok (.iconst 1, 1) := by decide +kernel
theorem dTo_takeSign_27 : decode mTo_takeSign.2.1 27 = .ok (.goto 4, 3) := by decide +kernel
theorem dTo_takeSign_30 : decode mTo_takeSign.2.1 30 = .ok (.iconst 0, 1) := by decide +kernel
theorem dTo_takeSign_31 : decode mTo_takeSign.2.1 31 = .ok (.istore_n 2, 1) := by decide +kernel
theorem dTo_takeSign_32 : decode mTo_takeSign.2.1 32 = .ok (.iload_n 2, 1) := by decide +kernel
theorem dTo_takeSign_33 : decode mTo_takeSign.2.1 33 = .ok (.ifCond .eq 16, 3) := by decide +kernel
theorem dTo_takeSign_36 : decode mTo_takeSign.2.1 36 = .ok (.aload_n 0, 1) := by decide +kernel
theorem dTo_takeSign_37 : decode mTo_takeSign.2.1 37 = .ok (.dup, 1) := by decide +kernel
theorem dTo_takeSign_38 : decode mTo_takeSign.2.1 38 = .ok (.getfield 31, 3) := by decide +kernel
theorem dTo_takeSign_41 : decode mTo_takeSign.2.1 41 = .ok (.iconst 1, 1) := by decide +kernel
theorem dTo_takeSign_42 : decode mTo_takeSign.2.1 42 = .ok (.iadd, 1) := by decide +kernel
theorem dTo_takeSign_43 : decode mTo_takeSign.2.1 43 = .ok (.putfield 31, 3) := by decide +kernel
theorem dTo_takeSign_46 : decode mTo_takeSign.2.1 46 = .ok (.goto 21, 3) := by decide +kernel
theorem dTo_takeSign_49 : decode mTo_takeSign.2.1 49 = .ok (.aload_n 0, 1) := by decide +kernel
theorem dTo_takeSign_50 : decode mTo_takeSign.2.1 50 = .ok (.iconst 1, 1) := by decide +kernel
theorem dTo_takeSign_51 : decode mTo_takeSign.2.1 51 = .ok (.putfield 34, 3) := by decide +kernel
theorem dTo_takeSign_54 : decode mTo_takeSign.2.1 54 = .ok (.aload_n 0, 1) := by decide +kernel
theorem dTo_takeSign_55 : decode mTo_takeSign.2.1 55 = .ok (.aload_n 0, 1) := by decide +kernel
theorem dTo_takeSign_56 : decode mTo_takeSign.2.1 56 = .ok (.getfield 18, 3) := by decide +kernel
theorem dTo_takeSign_59 : decode mTo_takeSign.2.1 59 = .ok (.aload_n 0, 1) := by decide +kernel
theorem dTo_takeSign_60 : decode mTo_takeSign.2.1 60 = .ok (.getfield 31, 3) := by decide +kernel
theorem dTo_takeSign_63 : decode mTo_takeSign.2.1 63 = .ok (.iaload, 1) := by decide +kernel
theorem dTo_takeSign_64 : decode mTo_takeSign.2.1 64 = .ok (.putfield 37, 3) := by decide +kernel
theorem dTo_takeSign_67 : decode mTo_takeSign.2.1 67 = .ok (.iload_n 2, 1) := by decide +kernel
theorem dTo_takeSign_68 : decode mTo_takeSign.2.1 68 = .ok (.ireturn, 1) := by decide +kernel
theorem bTo_takeSign_0 {l : Launch} {G : Gx} {d : Nat} {bc bs : Nat} {Φ : OutV → Mm → Prop} (M : Mm) (a0 : Nat) (x1 : Int32)
    (h : ((m_sh M a0).1 = 8) ∧ ((m_sh M (m_r M a0 0)).1 = 20) ∧ (vp_in (m_i M a0 5) (m_sh M (m_r M a0 0)).2) ∧ (¬ (m_i M (m_r M a0 0) (m_i M a0 5).toNatClampNeg) = 3 → Ev l G d mTo_takeSign 30 [.ref a0, .int x1, .null] [] M bc bs Φ) ∧ ((m_i M (m_r M a0 0) (m_i M a0 5).toNatClampNeg) = 3 → ((m_sh M (m_r M a0 1)).1 = 20) ∧ (vp_in (m_i M a0 5) (m_sh M (m_r M a0 1)).2) ∧ (¬ (m_i M (m_r M a0 1) (m_i M a0 5).toNatClampNeg) = x1 → Ev l G d mTo_takeSign 30 [.ref a0, .int x1, .null] [] M bc bs Φ) ∧ ((m_i M (m_r M a0 1) (m_i M a0 5).toNatClampNeg) = x1 → Φ (.inl (some (.int 1))) (m_si M a0 5 ((m_i M a0 5) + 1))))) :
    Ev l G d mTo_takeSign 0 [.ref a0, .int x1, .null] [] M bc bs Φ := by
  refine Ev.aload_n dTo_takeSign_0 rfl ?_
  have g1 := h.1
  replace h := h.2
  refine Ev.getR dTo_takeSign_1 (Or.inl fTo_9) rfl g1 ?_
  refine Ev.aload_n dTo_takeSign_4 rfl ?_
  refine Ev.getI dTo_takeSign_5 (Or.inl fTo_31) rfl g1 ?_
  have g2 := h.1
  replace h := h.2
  have g3 := h.1
  replace h := h.2
  refine Ev.iald2 dTo_takeSign_8 g2 g3 ?_
  refine Ev.iconst (v := 3) dTo_takeSign_9 (by decide) ?_
  refine Ev.icmp_ne 30 (by decide) dTo_takeSign_10 (fun c => ?_) (fun c => ?_)
  · replace h := h.1 c
    exact h
  · replace h := h.2 c
    refine Ev.aload_n dTo_takeSign_13 rfl ?_
    refine Ev.getR dTo_takeSign_14 (Or.inl fTo_15) rfl g1 ?_
    refine Ev.aload_n dTo_takeSign_17 rfl ?_
    refine Ev.getI dTo_takeSign_18 (Or.inl fTo_31) rfl g1 ?_
    have g4 := h.1
    replace h := h.2
    have g5 := h.1
    replace h := h.2
    refine Ev.iald2 dTo_takeSign_21 g4 g5 ?_
    refine Ev.iload_n dTo_takeSign_22 rfl ?_
    refine Ev.icmp_ne 30 (by decide) dTo_takeSign_23 (fun c => ?_) (fun c => ?_)
    · replace h := h.1 c
      exact h
    · replace h := h.2 c
      refine Ev.iconst (v := 1) dTo_takeSign_26 (by decide) ?_
      refine Ev.goto 31 dTo_takeSign_27 (by decide) ?_
      refine Ev.istore_n dTo_takeSign_31 (by decide) ?_
      show Ev l G d mTo_takeSign (_ + _) [.ref a0, .int x1, .int 1] [] M bc bs Φ
      refine Ev.iload_n dTo_takeSign_32 rfl ?_
      refine Ev.if_eq 49 (by decide) dTo_takeSign_33 (fun c => absurd c (by decide)) (fun _ => ?_)
      refine Ev.aload_n dTo_takeSign_36 rfl ?_
      refine Ev.dup dTo_takeSign_37 rfl ?_
      refine Ev.getI dTo_takeSign_38 (Or.inl fTo_31) rfl g1 ?_
      refine Ev.iconst (v := 1) dTo_takeSign_41 (by decide) ?_
      refine Ev.iadd dTo_takeSign_42 ?_
      refine Ev.putI dTo_takeSign_43 ⟨_, Or.inl ⟨fTo_31, (fun h => by cases h)⟩⟩ rfl ⟨rfl, rfl⟩ g1 ?_
      refine Ev.goto 67 dTo_takeSign_46 (by decide) ?_
      refine Ev.iload_n dTo_takeSign_67 rfl ?_
      exact Ev.iret dTo_takeSign_68 rfl rfl h
theorem bTo_takeSign_30 {l : Launch} {G : Gx} {d : Nat} {bc bs : Nat} {Φ : OutV → Mm → Prop} (M : Mm) (a0 : Nat) (x1 : Int32) (u2 : Value)
    (h : ((m_sh M a0).1 = 8) ∧ ((m_sh M (m_r M a0 2)).1 = 20) ∧ (vp_in (m_i (m_si M a0 6 1) a0 5) (m_sh M (m_r M a0 2)).2) ∧ Φ (.inl (some (.int 0))) (m_si (m_si M a0 6 1) a0 7 (m_i (m_si M a0 6 1) (m_r M a0 2) (m_i (m_si M a0 6 1) a0 5).toNatClampNeg))) :
    Ev l G d mTo_takeSign 30 [.ref a0, .int x1, u2] [] M bc bs Φ := by
  refine Ev.iconst (v := 0) dTo_takeSign_30 (by decide) ?_
  refine Ev.istore_n dTo_takeSign_31 (by decide) ?_
  show Ev l G d mTo_takeSign (_ + _) [.ref a0, .int x1, .int 0] [] M bc bs Φ
  refine Ev.iload_n dTo_takeSign_32 rfl ?_
  refine Ev.if_eq 49 (by decide) dTo_takeSign_33 (fun _ => ?_) (fun c => absurd c (by decide))
  refine Ev.aload_n dTo_takeSign_49 rfl ?_
  refine Ev.iconst (v := 1) dTo_takeSign_50 (by decide) ?_
  have g1 := h.1
  replace h := h.2
  refine Ev.putI dTo_takeSign_51 ⟨_, Or.inl ⟨fTo_34, (fun h => by cases h)⟩⟩ rfl ⟨rfl, rfl⟩ g1 ?_
  refine Ev.aload_n dTo_takeSign_54 rfl ?_
  refine Ev.aload_n dTo_takeSign_55 rfl ?_
  refine Ev.getR dTo_takeSign_56 (Or.inl fTo_18) rfl g1 ?_
  refine Ev.aload_n dTo_takeSign_59 rfl ?_
  refine Ev.getI dTo_takeSign_60 (Or.inl fTo_31) rfl g1 ?_
  have g2 := h.1
  replace h := h.2
  have g3 := h.1
  replace h := h.2
  refine Ev.iald2 dTo_takeSign_63 g2 g3 ?_
  refine Ev.putI dTo_takeSign_64 ⟨_, Or.inl ⟨fTo_37, (fun h => by cases h)⟩⟩ rfl ⟨rfl, rfl⟩ g1 ?_
  refine Ev.iload_n dTo_takeSign_67 rfl ?_
  exact Ev.iret dTo_takeSign_68 rfl rfl h
theorem dTo_signHere_0 : decode mTo_signHere.2.1 0 = .ok (.aload_n 0, 1) := by decide +kernel
theorem dTo_signHere_1 : decode mTo_signHere.2.1 1 = .ok (.getfield 9, 3) := by decide +kernel
theorem dTo_signHere_4 : decode mTo_signHere.2.1 4 = .ok (.aload_n 0, 1) := by decide +kernel
theorem dTo_signHere_5 : decode mTo_signHere.2.1 5 = .ok (.getfield 31, 3) := by decide +kernel
theorem dTo_signHere_8 : decode mTo_signHere.2.1 8 = .ok (.iaload, 1) := by decide +kernel
theorem dTo_signHere_9 : decode mTo_signHere.2.1 9 = .ok (.iconst 3, 1) := by decide +kernel
theorem dTo_signHere_10 : decode mTo_signHere.2.1 10 = .ok (.if_icmp .ne 15, 3) := by decide +kernel
theorem dTo_signHere_13 : decode mTo_signHere.2.1 13 = .ok (.aload_n 0, 1) := by decide +kernel
theorem dTo_signHere_14 : decode mTo_signHere.2.1 14 = .ok (.getfield 15, 3) := by decide +kernel
theorem dTo_signHere_17 : decode mTo_signHere.2.1 17 = .ok (.aload_n 0, 1) := by decide +kernel
theorem dTo_signHere_18 : decode mTo_signHere.2.1 18 = .ok (.getfield 31, 3) := by decide +kernel
theorem dTo_signHere_21 : decode mTo_signHere.2.1 21 = .ok (.iaload, 1) := by decide +kernel
theorem dTo_signHere_22 : decode mTo_signHere.2.1 22 = .ok (.goto 4, 3) := by decide +kernel
theorem dTo_signHere_25 : decode mTo_signHere.2.1 25 = .ok (.iconst 0, 1) := by decide +kernel
theorem dTo_signHere_26 : decode mTo_signHere.2.1 26 = .ok (.ireturn, 1) := by decide +kernel
theorem bTo_signHere_0 {l : Launch} {G : Gx} {d : Nat} {bc bs : Nat} {Φ : OutV → Mm → Prop} (M : Mm) (a0 : Nat)
    (h : ((m_sh M a0).1 = 8) ∧ ((m_sh M (m_r M a0 0)).1 = 20) ∧ (vp_in (m_i M a0 5) (m_sh M (m_r M a0 0)).2) ∧ (¬ (m_i M (m_r M a0 0) (m_i M a0 5).toNatClampNeg) = 3 → Φ (.inl (some (.int 0))) M) ∧ ((m_i M (m_r M a0 0) (m_i M a0 5).toNatClampNeg) = 3 → ((m_sh M (m_r M a0 1)).1 = 20) ∧ (vp_in (m_i M a0 5) (m_sh M (m_r M a0 1)).2) ∧ Φ (.inl (some (.int (m_i M (m_r M a0 1) (m_i M a0 5).toNatClampNeg)))) M)) :
    Ev l G d mTo_signHere 0 [.ref a0] [] M bc bs Φ := by
  refine Ev.aload_n dTo_signHere_0 rfl ?_
  have g1 := h.1
  replace h := h.2
  refine Ev.getR dTo_signHere_1 (Or.inl fTo_9) rfl g1 ?_
  refine Ev.aload_n dTo_signHere_4 rfl ?_
  refine Ev.getI dTo_signHere_5 (Or.inl fTo_31) rfl g1 ?_
  have g2 := h.1
  replace h := h.2
  have g3 := h.1
  replace h := h.2
  refine Ev.iald2 dTo_signHere_8 g2 g3 ?_
  refine Ev.iconst (v := 3) dTo_signHere_9 (by decide) ?_
  refine Ev.icmp_ne 25 (by decide) dTo_signHere_10 (fun c => ?_) (fun c => ?_)
  · replace h := h.1 c
    refine Ev.iconst (v := 0) dTo_signHere_25 (by decide) ?_
    exact Ev.iret dTo_signHere_26 rfl rfl h
  · replace h := h.2 c
    refine Ev.aload_n dTo_signHere_13 rfl ?_
    refine Ev.getR dTo_signHere_14 (Or.inl fTo_15) rfl g1 ?_
    refine Ev.aload_n dTo_signHere_17 rfl ?_
    refine Ev.getI dTo_signHere_18 (Or.inl fTo_31) rfl g1 ?_
    have g4 := h.1
    replace h := h.2
    have g5 := h.1
    replace h := h.2
    refine Ev.iald2 dTo_signHere_21 g4 g5 ?_
    refine Ev.goto 26 dTo_signHere_22 (by decide) ?_
    exact Ev.iret dTo_signHere_26 rfl rfl h
