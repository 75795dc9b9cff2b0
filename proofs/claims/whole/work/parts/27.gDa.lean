def mDa_init : MR := (⟨"BowingRow$Day", "<init>", "(LBowingRow$People;LBowingRow$InForce;)V"⟩, prog_3_method_1_code, 4, none)
theorem oDa_init : MOK mDa_init 2 := ⟨lwg_of 265 (by decide +kernel) (by decide +kernel), lwg_of 97 (by decide +kernel) (by decide +kernel), ⟨by decide +kernel, by decide +kernel⟩, by decide +kernel, by decide⟩
theorem iDa_init : Cond.instanceMethod mDa_init.1 ∈ lwg := lwg_of 264 (by decide +kernel) (by decide +kernel)
theorem dDa_init_0 : decode mDa_init.2.1 0 = .ok (.aload_n 0, 1) := by decide +kernel
theorem dDa_init_1 : decode mDa_init.2.1 1 = .ok (.invokespecial 3, 3) := by decide +kernel
theorem dDa_init_4 : decode mDa_init.2.1 4 = .ok (.aload_n 0, 1) := by decide +kernel
theorem dDa_init_5 : decode mDa_init.2.1 5 = .ok (.bipush 8, 2) := by decide +kernel
theorem dDa_init_7 : decode mDa_init.2.1 7 = .ok (.newarray .int, 2) := by decide +kernel
theorem dDa_init_9 : decode mDa_init.2.1 9 = .ok (.putfield 9, 3) := by decide +kernel
theorem dDa_init_12 : decode mDa_init.2.1 12 = .ok (.aload_n 0, 1) := by decide +kernel
theorem dDa_init_13 : decode mDa_init.2.1 13 = .ok (.iconst (-1), 1) := by decide +kernel
theorem dDa_init_14 : decode mDa_init.2.1 14 = .ok (.putfield 15, 3) := by decide +kernel
theorem dDa_init_17 : decode mDa_init.2.1 17 = .ok (.aload_n 0, 1) := by decide +kernel
theorem dDa_init_18 : decode mDa_init.2.1 18 = .ok (.iconst (-1), 1) := by decide +kernel
theorem dDa_init_19 : decode mDa_init.2.1 19 = .ok (.putfield 19, 3) := by decide +kernel
theorem dDa_init_22 : decode mDa_init.2.1 22 = .ok (.aload_n 0, 1) := by decide +kernel
theorem dDa_init_23 : decode mDa_init.2.1 23 = .ok (.iconst (-1), 1) := by decide +kernel
theorem dDa_init_24 : decode mDa_init.2.1 24 = .ok (.putfield 22, 3) := by decide +kernel
theorem dDa_init_27 : decode mDa_init.2.1 27 = .ok (.aload_n 0, 1) := by decide +kernel
theorem dDa_init_28 : decode mDa_init.2.1 28 = .ok (.bipush 8, 2) := by decide +kernel
theorem dDa_init_30 : decode mDa_init.2.1 30 = .ok (.anewarray 25, 3) := by decide +kernel
theorem dDa_init_33 : decode mDa_init.2.1 33 = .ok (.putfield 27, 3) := by decide +kernel
theorem dDa_init_36 : decode mDa_init.2.1 36 = .ok (.aload_n 0, 1) := by decide +kernel
theorem dDa_init_37 : decode mDa_init.2.1 37 = .ok (.bipush 8, 2) := by decide +kernel
theorem dDa_init_39 : decode mDa_init.2.1 39 = .ok (.newarray .int, 2) := by decide +kernel
theorem dDa_init_41 : decode mDa_init.2.1 41 = .ok (.putfield 31, 3) := by decide +kernel
theorem dDa_init_44 : decode mDa_init.2.1 44 = .ok (.aload_n 0, 1) := by decide +kernel
theorem dDa_init_45 : decode mDa_init.2.1 45 = .ok (.new 34, 3) := by decide +kernel
theorem dDa_init_48 : decode mDa_init.2.1 48 = .ok (.dup, 1) := by decide +kernel
theorem dDa_init_49 : decode mDa_init.2.1 49 = .ok (.invokespecial 36, 3) := by decide +kernel
theorem dDa_init_52 : decode mDa_init.2.1 52 = .ok (.putfield 37, 3) := by decide +kernel
theorem dDa_init_55 : decode mDa_init.2.1 55 = .ok (.aload_n 0, 1) := by decide +kernel
theorem dDa_init_56 : decode mDa_init.2.1 56 = .ok (.iconst 1, 1) := by decide +kernel
theorem dDa_init_57 : decode mDa_init.2.1 57 = .ok (.putfield 41, 3) := by decide +kernel
theorem dDa_init_60 : decode mDa_init.2.1 60 = .ok (.aload_n 0, 1) := by decide +kernel
theorem dDa_init_61 : decode mDa_init.2.1 61 = .ok (.aload_n 1, 1) := by decide +kernel
theorem dDa_init_62 : decode mDa_init.2.1 62 = .ok (.putfield 45, 3) := by decide +kernel
theorem dDa_init_65 : decode mDa_init.2.1 65 = .ok (.aload_n 0, 1) := by decide +kernel
theorem dDa_init_66 : decode mDa_init.2.1 66 = .ok (.aload_n 2, 1) := by decide +kernel
theorem dDa_init_67 : decode mDa_init.2.1 67 = .ok (.putfield 49, 3) := by decide +kernel
theorem dDa_init_70 : decode mDa_init.2.1 70 = .ok (.iconst 0, 1) := by decide +kernel
theorem dDa_init_71 : decode mDa_init.2.1 71 = .ok (.istore_n 3, 1) := by decide +kernel
theorem dDa_init_72 : decode mDa_init.2.1 72 = .ok (.iload_n 3, 1) := by decide +kernel
theorem dDa_init_73 : decode mDa_init.2.1 73 = .ok (.bipush 8, 2) := by decide +kernel
theorem dDa_init_75 : decode mDa_init.2.1 75 = .ok (.if_icmp .ge 22, 3) := by decide +kernel
theorem dDa_init_78 : decode mDa_init.2.1 78 = .ok (.aload_n 0, 1) := by decide +kernel
theorem dDa_init_79 : decode mDa_init.2.1 79 = .ok (.getfield 27, 3) := by decide +kernel
theorem dDa_init_82 : decode mDa_init.2.1 82 = .ok (.iload_n 3, 1) := by decide +kernel
theorem dDa_init_83 : decode mDa_init.2.1 83 = .ok (.new 25, 3) := by decide +kernel
theorem dDa_init_86 : decode mDa_init.2.1 86 = .ok (.dup, 1) := by decide +kernel
theorem dDa_init_87 : decode mDa_init.2.1 87 = .ok (.invokespecial 53, 3) := by decide +kernel
theorem dDa_init_90 : decode mDa_init.2.1 90 = .ok (.aastore, 1) := by decide +kernel
theorem dDa_init_91 : decode mDa_init.2.1 91 = .ok (.iinc 3 1, 3) := by decide +kernel
theorem dDa_init_94 : decode mDa_init.2.1 94 = .ok (.goto (-22), 3) := by decide +kernel
theorem dDa_init_97 : decode mDa_init.2.1 97 = .ok (.return_, 1) := by decide +kernel
theorem w266 : Cond.methodLink "BowingRow$Day" 3 ⟨"java/lang/Object", "<init>", "()V"⟩ ∈ lwg := lwg_of 266 (by decide +kernel) (by decide +kernel)
theorem fDa_9 : FOK "BowingRow$Day" 9 1 2 true := ⟨RX1, TX1, nFd 1, rfl, by decide, rfl, by decide, rfl, lwg_of 348 (by decide +kernel) (by decide +kernel)⟩
theorem bDa_init_0 {l : Launch} {G : Gx} {d : Nat} {bc bs : Nat} {Φ : OutV → Mm → Prop} (M : Mm) (a0 : Nat) (a1 : Nat) (a2 : Nat)
    (h : (a0 ≠ 0 ∧ 1 ≤ d) ∧ (1 ≤ bc ∧ 8 ≤ bs) ∧ ((m_sh (m_al M (20, 8)) a0).1 = 1) ∧ Ev l G d mDa_init 12 [.ref a0, .ref a1, .ref a2, .null] [] (m_sr (m_al M (20, 8)) a0 2 (m_nx M)) (bc - 1) (bs - 8) Φ) :
    Ev l G d mDa_init 0 [.ref a0, .ref a1, .ref a2, .null] [] M bc bs Φ := by
  refine Ev.aload_n dDa_init_0 rfl ?_
  have g1 := h.1
  replace h := h.2
  refine Ev.objInit dDa_init_1 w266 w_oi w_oc (Nat.le_of_ble_eq_true rfl) g1.2 g1.1 ?_
  refine Ev.aload_n dDa_init_4 rfl ?_
  refine Ev.bipush (v := 8) dDa_init_5 (by decide) ?_
  have g2 := h.1
  replace h := h.2
  refine Ev.newI2 8 dDa_init_7 w164 (by decide) (by decide) (by decide) g2 ?_
  have g3 := h.1
  replace h := h.2
  refine Ev.putR dDa_init_9 ⟨_, Or.inl ⟨fDa_9, (fun _ => ⟨rfl, fun r hr => by cases hr; rfl⟩)⟩⟩ rfl (fun ad => fitR (by first | exact Or.inl ⟨_, rfl⟩ | exact Or.inr ⟨_, rfl⟩) _ ad) g3 ?_
  exact h
theorem fDa_15 : FOK "BowingRow$Day" 15 1 3 false := ⟨RX1, TX1, nFd 1, rfl, by decide, rfl, by decide, rfl, lwg_of 350 (by decide +kernel) (by decide +kernel)⟩
theorem bDa_init_12 {l : Launch} {G : Gx} {d : Nat} {bc bs : Nat} {Φ : OutV → Mm → Prop} (M : Mm) (a0 : Nat) (a1 : Nat) (a2 : Nat) (u3 : Value)
    (h : ((m_sh M a0).1 = 1) ∧ Ev l G d mDa_init 17 [.ref a0, .ref a1, .ref a2, u3] [] (m_si M a0 3 ((-1))) bc bs Φ) :
    Ev l G d mDa_init 12 [.ref a0, .ref a1, .ref a2, u3] [] M bc bs Φ := by
  refine Ev.aload_n dDa_init_12 rfl ?_
  refine Ev.iconst (v := (-1)) dDa_init_13 (by decide) ?_
  have g1 := h.1
  replace h := h.2
  refine Ev.putI dDa_init_14 ⟨_, Or.inl ⟨fDa_15, (fun h => by cases h)⟩⟩ rfl ⟨rfl, rfl⟩ g1 ?_
  exact h
theorem fDa_19 : FOK "BowingRow$Day" 19 1 6 false := ⟨RX1, TX1, nFd 1, rfl, by decide, rfl, by decide, rfl, lwg_of 355 (by decide +kernel) (by decide +kernel)⟩
theorem bDa_init_17 {l : Launch} {G : Gx} {d : Nat} {bc bs : Nat} {Φ : OutV → Mm → Prop} (M : Mm) (a0 : Nat) (a1 : Nat) (a2 : Nat) (u3 : Value)
    (h : ((m_sh M a0).1 = 1) ∧ Ev l G d mDa_init 22 [.ref a0, .ref a1, .ref a2, u3] [] (m_si M a0 6 ((-1))) bc bs Φ) :
    Ev l G d mDa_init 17 [.ref a0, .ref a1, .ref a2, u3] [] M bc bs Φ := by
  refine Ev.aload_n dDa_init_17 rfl ?_
  refine Ev.iconst (v := (-1)) dDa_init_18 (by decide) ?_
  have g1 := h.1
  replace h := h.2
  refine Ev.putI dDa_init_19 ⟨_, Or.inl ⟨fDa_19, (fun h => by cases h)⟩⟩ rfl ⟨rfl, rfl⟩ g1 ?_
  exact h
theorem fDa_22 : FOK "BowingRow$Day" 22 1 7 false := ⟨RX1, TX1, nFd 1, rfl, by decide, rfl, by decide, rfl, lwg_of 357 (by decide +kernel) (by decide +kernel)⟩
theorem bDa_init_22 {l : Launch} {G : Gx} {d : Nat} {bc bs : Nat} {Φ : OutV → Mm → Prop} (M : Mm) (a0 : Nat) (a1 : Nat) (a2 : Nat) (u3 : Value)
    (h : ((m_sh M a0).1 = 1) ∧ Ev l G d mDa_init 27 [.ref a0, .ref a1, .ref a2, u3] [] (m_si M a0 7 ((-1))) bc bs Φ) :
    Ev l G d mDa_init 22 [.ref a0, .ref a1, .ref a2, u3] [] M bc bs Φ := by
  refine Ev.aload_n dDa_init_22 rfl ?_
  refine Ev.iconst (v := (-1)) dDa_init_23 (by decide) ?_
  have g1 := h.1
  replace h := h.2
  refine Ev.putI dDa_init_24 ⟨_, Or.inl ⟨fDa_22, (fun h => by cases h)⟩⟩ rfl ⟨rfl, rfl⟩ g1 ?_
  exact h
theorem w267 : Cond.classLink "BowingRow$Day" 25 "BowingRow$Call" ∈ lwg := lwg_of 267 (by decide +kernel) (by decide +kernel)
theorem w268 : Cond.arrayOver (.object "BowingRow$Call") ∈ lwx := lwx_of 268 (by decide +kernel) (by decide +kernel)
theorem fDa_27 : FOK "BowingRow$Day" 27 1 9 true := ⟨RX1, TX1, nFd 1, rfl, by decide, rfl, by decide, rfl, lwg_of 361 (by decide +kernel) (by decide +kernel)⟩
theorem bDa_init_27 {l : Launch} {G : Gx} {d : Nat} {bc bs : Nat} {Φ : OutV → Mm → Prop} (M : Mm) (a0 : Nat) (a1 : Nat) (a2 : Nat) (u3 : Value)
    (h : (1 ≤ bc ∧ 8 ≤ bs) ∧ ((m_sh (m_al M (30, 8)) a0).1 = 1) ∧ Ev l G d mDa_init 36 [.ref a0, .ref a1, .ref a2, u3] [] (m_sr (m_al M (30, 8)) a0 9 (m_nx M)) (bc - 1) (bs - 8) Φ) :
    Ev l G d mDa_init 27 [.ref a0, .ref a1, .ref a2, u3] [] M bc bs Φ := by
  refine Ev.aload_n dDa_init_27 rfl ?_
  refine Ev.bipush (v := 8) dDa_init_28 (by decide) ?_
  have g1 := h.1
  replace h := h.2
  refine Ev.newQ2 30 3 8 dDa_init_30 (by decide) (fun _ => rfl) w267 w268 (by decide) (by decide) (by decide) g1 ?_
  have g2 := h.1
  replace h := h.2
  refine Ev.putR dDa_init_33 ⟨_, Or.inl ⟨fDa_27, (fun _ => ⟨rfl, fun r hr => by cases hr; rfl⟩)⟩⟩ rfl (fun ad => fitR (by first | exact Or.inl ⟨_, rfl⟩ | exact Or.inr ⟨_, rfl⟩) _ ad) g2 ?_
  exact h
theorem fDa_31 : FOK "BowingRow$Day" 31 1 11 true := ⟨RX1, TX1, nFd 1, rfl, by decide, rfl, by decide, rfl, lwg_of 365 (by decide +kernel) (by decide +kernel)⟩
theorem bDa_init_36 {l : Launch} {G : Gx} {d : Nat} {bc bs : Nat} {Φ : OutV → Mm → Prop} (M : Mm) (a0 : Nat) (a1 : Nat) (a2 : Nat) (u3 : Value)
    (h : (1 ≤ bc ∧ 8 ≤ bs) ∧ ((m_sh (m_al M (20, 8)) a0).1 = 1) ∧ Ev l G d mDa_init 44 [.ref a0, .ref a1, .ref a2, u3] [] (m_sr (m_al M (20, 8)) a0 11 (m_nx M)) (bc - 1) (bs - 8) Φ) :
    Ev l G d mDa_init 36 [.ref a0, .ref a1, .ref a2, u3] [] M bc bs Φ := by
  refine Ev.aload_n dDa_init_36 rfl ?_
  refine Ev.bipush (v := 8) dDa_init_37 (by decide) ?_
  have g1 := h.1
  replace h := h.2
  refine Ev.newI2 8 dDa_init_39 w164 (by decide) (by decide) (by decide) g1 ?_
  have g2 := h.1
  replace h := h.2
  refine Ev.putR dDa_init_41 ⟨_, Or.inl ⟨fDa_31, (fun _ => ⟨rfl, fun r hr => by cases hr; rfl⟩)⟩⟩ rfl (fun ad => fitR (by first | exact Or.inl ⟨_, rfl⟩ | exact Or.inr ⟨_, rfl⟩) _ ad) g2 ?_
  exact h
theorem w269 : Cond.classLink "BowingRow$Day" 34 "BowingRow$PassBook" ∈ lwg := lwg_of 269 (by decide +kernel) (by decide +kernel)
theorem w270 : Cond.instantiable "BowingRow$PassBook" 7 ∈ lwg := lwg_of 270 (by decide +kernel) (by decide +kernel)
theorem w98 : Cond.initialized "BowingRow$PassBook" ∈ lwg := lwg_of 98 (by decide +kernel) (by decide +kernel)
theorem w271 : Cond.methodLinkNest "BowingRow$Day" 36 ⟨"BowingRow$PassBook", "<init>", "()V"⟩ "BowingRow" ∈ lwx := lwx_of 271 (by decide +kernel) (by decide +kernel)
theorem bDa_init_44 {l : Launch} {G : Gx} {d : Nat} {bc bs : Nat} {Φ : OutV → Mm → Prop} (M : Mm) (a0 : Nat) (a1 : Nat) (a2 : Nat) (u3 : Value)
    (h : (1 ≤ bc ∧ nFd 5 ≤ bs) ∧ ((m_nx M) ≠ 0) ∧ CallVN l G d mDa_init 52 [.ref a0, .ref a1, .ref a2, u3] [.ref (m_nx M), .ref a0] mPb_init [.ref (m_nx M)] (m_al M (5, 0)) (bc - 1) (bs - nFd 5) Φ) :
    Ev l G d mDa_init 44 [.ref a0, .ref a1, .ref a2, u3] [] M bc bs Φ := by
  refine Ev.aload_n dDa_init_44 rfl ?_
  have g1 := h.1
  replace h := h.2
  refine Ev.newO2 (T := TX5) 5 dDa_init_45 rfl (by decide) w269 w270 w98 g1 ?_
  refine Ev.dup dDa_init_48 rfl ?_
  have g2 := h.1
  replace h := h.2
  exact Ev.vcI (z := mPb_init) [] [.ref (m_nx M), .ref a0] rfl dDa_init_49 oPb_init rfl (Or.inr ⟨_, w271⟩) iPb_init rfl rfl g2 (Nat.le_of_ble_eq_true rfl) h
theorem fDa_37 : FOK "BowingRow$Day" 37 1 12 true := ⟨RX1, TX1, nFd 1, rfl, by decide, rfl, by decide, rfl, lwg_of 368 (by decide +kernel) (by decide +kernel)⟩
theorem bDa_init_52 {l : Launch} {G : Gx} {d : Nat} {bc bs : Nat} {Φ : OutV → Mm → Prop} (M : Mm) (a0 : Nat) (a1 : Nat) (a2 : Nat) (u3 : Value) (r0 : Nat) (r1 : Nat)
    (h : ((m_sh M r0).1 = 1) ∧ Ev l G d mDa_init 55 [.ref a0, .ref a1, .ref a2, u3] [] (m_sr M r0 12 r1) bc bs Φ) :
    Ev l G d mDa_init 52 [.ref a0, .ref a1, .ref a2, u3] [.ref r1, .ref r0] M bc bs Φ := by
  have g1 := h.1
  replace h := h.2
  refine Ev.putR dDa_init_52 ⟨_, Or.inl ⟨fDa_37, (fun _ => ⟨rfl, fun r hr => by cases hr; rfl⟩)⟩⟩ rfl (fun ad => fitR (by first | exact Or.inl ⟨_, rfl⟩ | exact Or.inr ⟨_, rfl⟩) _ ad) g1 ?_
  exact h
theorem fDa_41 : FOK "BowingRow$Day" 41 1 16 false := ⟨RX1, TX1, nFd 1, rfl, by decide, rfl, by decide, rfl, lwg_of 376 (by decide +kernel) (by decide +kernel)⟩
theorem bDa_init_55 {l : Launch} {G : Gx} {d : Nat} {bc bs : Nat} {Φ : OutV → Mm → Prop} (M : Mm) (a0 : Nat) (a1 : Nat) (a2 : Nat) (u3 : Value)
    (h : ((m_sh M a0).1 = 1) ∧ Ev l G d mDa_init 60 [.ref a0, .ref a1, .ref a2, u3] [] (m_si M a0 16 1) bc bs Φ) :
    Ev l G d mDa_init 55 [.ref a0, .ref a1, .ref a2, u3] [] M bc bs Φ := by
  refine Ev.aload_n dDa_init_55 rfl ?_
  refine Ev.iconst (v := 1) dDa_init_56 (by decide) ?_
  have g1 := h.1
  replace h := h.2
  refine Ev.putI dDa_init_57 ⟨_, Or.inl ⟨fDa_41, (fun h => by cases h)⟩⟩ rfl ⟨rfl, rfl⟩ g1 ?_
  exact h
theorem fDa_45 : FOK "BowingRow$Day" 45 1 0 false := ⟨RX1, TX1, nFd 1, rfl, by decide, rfl, by decide, rfl, lwg_of 346 (by decide +kernel) (by decide +kernel)⟩
theorem bDa_init_60 {l : Launch} {G : Gx} {d : Nat} {bc bs : Nat} {Φ : OutV → Mm → Prop} (M : Mm) (a0 : Nat) (a1 : Nat) (a2 : Nat) (u3 : Value)
    (h : ((m_sh M a0).1 = 1) ∧ Ev l G d mDa_init 65 [.ref a0, .ref a1, .ref a2, u3] [] (m_sr M a0 0 a1) bc bs Φ) :
    Ev l G d mDa_init 60 [.ref a0, .ref a1, .ref a2, u3] [] M bc bs Φ := by
  refine Ev.aload_n dDa_init_60 rfl ?_
  refine Ev.aload_n dDa_init_61 rfl ?_
  have g1 := h.1
  replace h := h.2
  refine Ev.putR dDa_init_62 ⟨_, Or.inl ⟨fDa_45, (fun h => by cases h)⟩⟩ rfl (fun ad => fitR (by first | exact Or.inl ⟨_, rfl⟩ | exact Or.inr ⟨_, rfl⟩) _ ad) g1 ?_
  exact h
theorem fDa_49 : FOK "BowingRow$Day" 49 1 1 false := ⟨RX1, TX1, nFd 1, rfl, by decide, rfl, by decide, rfl, lwg_of 347 (by decide +kernel) (by decide +kernel)⟩
theorem bDa_init_65 {l : Launch} {G : Gx} {d : Nat} {bc bs : Nat} {Φ : OutV → Mm → Prop} (M : Mm) (a0 : Nat) (a1 : Nat) (a2 : Nat) (u3 : Value)
    (h : ((m_sh M a0).1 = 1) ∧ Ev l G d mDa_init 70 [.ref a0, .ref a1, .ref a2, u3] [] (m_sr M a0 1 a2) bc bs Φ) :
    Ev l G d mDa_init 65 [.ref a0, .ref a1, .ref a2, u3] [] M bc bs Φ := by
  refine Ev.aload_n dDa_init_65 rfl ?_
  refine Ev.aload_n dDa_init_66 rfl ?_
  have g1 := h.1
  replace h := h.2
  refine Ev.putR dDa_init_67 ⟨_, Or.inl ⟨fDa_49, (fun h => by cases h)⟩⟩ rfl (fun ad => fitR (by first | exact Or.inl ⟨_, rfl⟩ | exact Or.inr ⟨_, rfl⟩) _ ad) g1 ?_
  exact h
theorem bDa_init_70 {l : Launch} {G : Gx} {d : Nat} {bc bs : Nat} {Φ : OutV → Mm → Prop} (M : Mm) (a0 : Nat) (a1 : Nat) (a2 : Nat) (u3 : Value)
    (h : Ev l G d mDa_init 72 [.ref a0, .ref a1, .ref a2, .int 0] [] M bc bs Φ) :
    Ev l G d mDa_init 70 [.ref a0, .ref a1, .ref a2, u3] [] M bc bs Φ := by
  refine Ev.iconst (v := 0) dDa_init_70 (by decide) ?_
  refine Ev.istore_n dDa_init_71 (by decide) ?_
  show Ev l G d mDa_init (_ + _) [.ref a0, .ref a1, .ref a2, .int 0] [] M bc bs Φ
  exact h
theorem w301 : Cond.instantiable "BowingRow$Call" 8 ∈ lwg := lwg_of 301 (by decide +kernel) (by decide +kernel)
theorem w99 : Cond.initialized "BowingRow$Call" ∈ lwg := lwg_of 99 (by decide +kernel) (by decide +kernel)
theorem w302 : Cond.methodLinkNest "BowingRow$Day" 53 ⟨"BowingRow$Call", "<init>", "()V"⟩ "BowingRow" ∈ lwx := lwx_of 302 (by decide +kernel) (by decide +kernel)
theorem bDa_init_72 {l : Launch} {G : Gx} {d : Nat} {bc bs : Nat} {Φ : OutV → Mm → Prop} (M : Mm) (a0 : Nat) (a1 : Nat) (a2 : Nat) (x3 : Int32)
    (h : (8 ≤ x3 → Φ (.inl none) M) ∧ (¬ 8 ≤ x3 → ((m_sh M a0).1 = 1) ∧ (1 ≤ bc ∧ nFd 0 ≤ bs) ∧ ((m_nx M) ≠ 0) ∧ CallVN l G d mDa_init 90 [.ref a0, .ref a1, .ref a2, .int x3] [.ref (m_nx M), .int x3, .ref (m_r M a0 9)] mCa_init [.ref (m_nx M)] (m_al M (0, 0)) (bc - 1) (bs - nFd 0) Φ)) :
    Ev l G d mDa_init 72 [.ref a0, .ref a1, .ref a2, .int x3] [] M bc bs Φ := by
  refine Ev.iload_n dDa_init_72 rfl ?_
  refine Ev.bipush (v := 8) dDa_init_73 (by decide) ?_
  refine Ev.icmp_ge 97 (by decide) dDa_init_75 (fun c => ?_) (fun c => ?_)
  · replace h := h.1 c
    exact Ev.vret dDa_init_97 rfl h
  · replace h := h.2 c
    refine Ev.aload_n dDa_init_78 rfl ?_
    have g1 := h.1
    replace h := h.2
    refine Ev.getR dDa_init_79 (Or.inl fDa_27) rfl g1 ?_
    refine Ev.iload_n dDa_init_82 rfl ?_
    have g2 := h.1
    replace h := h.2
    refine Ev.newO2 (T := TX0) 0 dDa_init_83 rfl (by decide) w267 w301 w99 g2 ?_
    refine Ev.dup dDa_init_86 rfl ?_
    have g3 := h.1
    replace h := h.2
    exact Ev.vcI (z := mCa_init) [] [.ref (m_nx M), .int x3, .ref (m_r M a0 9)] rfl dDa_init_87 oCa_init rfl (Or.inr ⟨_, w302⟩) iCa_init rfl rfl g3 (Nat.le_of_ble_eq_true rfl) h
theorem bDa_init_90 {l : Launch} {G : Gx} {d : Nat} {bc bs : Nat} {Φ : OutV → Mm → Prop} (M : Mm) (a0 : Nat) (a1 : Nat) (a2 : Nat) (x3 : Int32) (r0 : Nat) (s1 : Int32) (r2 : Nat)
    (h : ((m_sh M r0).1 = 30) ∧ (vp_in s1 (m_sh M r0).2) ∧ ((m_sh M r2).1 = 0) ∧ Ev l G d mDa_init 72 [.ref a0, .ref a1, .ref a2, .int (x3 + 1)] [] (m_sr M r0 s1.toNatClampNeg r2) bc bs Φ) :
    Ev l G d mDa_init 90 [.ref a0, .ref a1, .ref a2, .int x3] [.ref r2, .int s1, .ref r0] M bc bs Φ := by
  have g1 := h.1
  replace h := h.2
  have g2 := h.1
  replace h := h.2
  have g3 := h.1
  replace h := h.2
  refine Ev.aast2 30 3 0 dDa_init_90 (by decide) (fun _ => rfl) rfl (by decide) g1 g2 g3 ?_
  refine Ev.iinc (v := x3 + 1) dDa_init_91 (by decide) rfl rfl ?_
  show Ev l G d mDa_init (_ + _) [.ref a0, .ref a1, .ref a2, .int (x3 + 1)] [] (m_sr M r0 s1.toNatClampNeg r2) bc bs Φ
  refine Ev.goto 72 dDa_init_94 (by decide) ?_
  exact h
def mDa_prepare : MR := (⟨"BowingRow$Day", "prepare", "(LBowingRow$People;LBowingRow$InForce;)V"⟩, prog_3_method_2_code, 4, none)
theorem oDa_prepare : MOK mDa_prepare 2 := ⟨lwg_of 564 (by decide +kernel) (by decide +kernel), lwg_of 97 (by decide +kernel) (by decide +kernel), ⟨by decide +kernel, by decide +kernel⟩, by decide +kernel, by decide⟩
theorem iDa_prepare : Cond.instanceMethod mDa_prepare.1 ∈ lwg := lwg_of 562 (by decide +kernel) (by decide +kernel)
theorem sDa_prepare : Cond.selects mDa_prepare.1.cls mDa_prepare.1 mDa_prepare.1 ∈ lwg := lwg_of 563 (by decide +kernel) (by decide +kernel)
theorem dDa_prepare_0 : decode mDa_prepare.2.1 0 = .ok (.aload_n 0, 1) := by decide +kernel
theorem dDa_prepare_1 : decode mDa_prepare.2.1 1 = .ok (.aload_n 1, 1) := by decide +kernel
theorem dDa_prepare_2 : decode mDa_prepare.2.1 2 = .ok (.putfield 45, 3) := by decide +kernel
theorem dDa_prepare_5 : decode mDa_prepare.2.1 5 = .ok (.aload_n 0, 1) := by decide +kernel
theorem dDa_prepare_6 : decode mDa_prepare.2.1 6 = .ok (.aload_n 2, 1) := by decide +kernel
theorem dDa_prepare_7 : decode mDa_prepare.2.1 7 = .ok (.putfield 49, 3) := by decide +kernel
theorem dDa_prepare_10 : decode mDa_prepare.2.1 10 = .ok (.iconst 0, 1) := by decide +kernel
theorem dDa_prepare_11 : decode mDa_prepare.2.1 11 = .ok (.istore_n 3, 1) := by decide +kernel
theorem dDa_prepare_12 : decode mDa_prepare.2.1 12 = .ok (.iload_n 3, 1) := by decide +kernel
theorem dDa_prepare_13 : decode mDa_prepare.2.1 13 = .ok (.aload_n 1, 1) := by decide +kernel
theorem dDa_prepare_14 : decode mDa_prepare.2.1 14 = .ok (.getfield 54, 3) := by decide +kernel
theorem dDa_prepare_17 : decode mDa_prepare.2.1 17 = .ok (.if_icmp .ge 21, 3) := by decide +kernel
theorem dDa_prepare_20 : decode mDa_prepare.2.1 20 = .ok (.aload_n 0, 1) := by decide +kernel
theorem dDa_prepare_21 : decode mDa_prepare.2.1 21 = .ok (.getfield 9, 3) := by decide +kernel
theorem dDa_prepare_24 : decode mDa_prepare.2.1 24 = .ok (.iload_n 3, 1) := by decide +kernel
theorem dDa_prepare_25 : decode mDa_prepare.2.1 25 = .ok (.aload_n 1, 1) := by decide +kernel
theorem dDa_prepare_26 : decode mDa_prepare.2.1 26 = .ok (.iload_n 3, 1) := by decide +kernel
theorem dDa_prepare_27 : decode mDa_prepare.2.1 27 = .ok (.iconst 5, 1) := by decide +kernel
theorem dDa_prepare_28 : decode mDa_prepare.2.1 28 = .ok (.invokevirtual 59, 3) := by decide +kernel
theorem dDa_prepare_31 : decode mDa_prepare.2.1 31 = .ok (.iastore, 1) := by decide +kernel
theorem dDa_prepare_32 : decode mDa_prepare.2.1 32 = .ok (.iinc 3 1, 3) := by decide +kernel
theorem dDa_prepare_35 : decode mDa_prepare.2.1 35 = .ok (.goto (-23), 3) := by decide +kernel
theorem dDa_prepare_38 : decode mDa_prepare.2.1 38 = .ok (.aload_n 0, 1) := by decide +kernel
theorem dDa_prepare_39 : decode mDa_prepare.2.1 39 = .ok (.iconst (-1), 1) := by decide +kernel
theorem dDa_prepare_40 : decode mDa_prepare.2.1 40 = .ok (.putfield 15, 3) := by decide +kernel
theorem dDa_prepare_43 : decode mDa_prepare.2.1 43 = .ok (.aload_n 0, 1) := by decide +kernel
theorem dDa_prepare_44 : decode mDa_prepare.2.1 44 = .ok (.iconst (-1), 1) := by decide +kernel
theorem dDa_prepare_45 : decode mDa_prepare.2.1 45 = .ok (.putfield 19, 3) := by decide +kernel
theorem dDa_prepare_48 : decode mDa_prepare.2.1 48 = .ok (.aload_n 0, 1) := by decide +kernel
theorem dDa_prepare_49 : decode mDa_prepare.2.1 49 = .ok (.iconst (-1), 1) := by decide +kernel
theorem dDa_prepare_50 : decode mDa_prepare.2.1 50 = .ok (.putfield 22, 3) := by decide +kernel
theorem dDa_prepare_53 : decode mDa_prepare.2.1 53 = .ok (.return_, 1) := by decide +kernel
theorem bDa_prepare_0 {l : Launch} {G : Gx} {d : Nat} {bc bs : Nat} {Φ : OutV → Mm → Prop} (M : Mm) (a0 : Nat) (a1 : Nat) (a2 : Nat)
    (h : ((m_sh M a0).1 = 1) ∧ Ev l G d mDa_prepare 10 [.ref a0, .ref a1, .ref a2, .null] [] (m_sr (m_sr M a0 0 a1) a0 1 a2) bc bs Φ) :
    Ev l G d mDa_prepare 0 [.ref a0, .ref a1, .ref a2, .null] [] M bc bs Φ := by
  refine Ev.aload_n dDa_prepare_0 rfl ?_
  refine Ev.aload_n dDa_prepare_1 rfl ?_
  have g1 := h.1
  replace h := h.2
  refine Ev.putR dDa_prepare_2 ⟨_, Or.inl ⟨fDa_45, (fun h => by cases h)⟩⟩ rfl (fun ad => fitR (by first | exact Or.inl ⟨_, rfl⟩ | exact Or.inr ⟨_, rfl⟩) _ ad) g1 ?_
  refine Ev.aload_n dDa_prepare_5 rfl ?_
  refine Ev.aload_n dDa_prepare_6 rfl ?_
  refine Ev.putR dDa_prepare_7 ⟨_, Or.inl ⟨fDa_49, (fun h => by cases h)⟩⟩ rfl (fun ad => fitR (by first | exact Or.inl ⟨_, rfl⟩ | exact Or.inr ⟨_, rfl⟩) _ ad) g1 ?_
  exact h
theorem bDa_prepare_10 {l : Launch} {G : Gx} {d : Nat} {bc bs : Nat} {Φ : OutV → Mm → Prop} (M : Mm) (a0 : Nat) (a1 : Nat) (a2 : Nat) (u3 : Value)
    (h : Ev l G d mDa_prepare 12 [.ref a0, .ref a1, .ref a2, .int 0] [] M bc bs Φ) :
    Ev l G d mDa_prepare 10 [.ref a0, .ref a1, .ref a2, u3] [] M bc bs Φ := by
  refine Ev.iconst (v := 0) dDa_prepare_10 (by decide) ?_
  refine Ev.istore_n dDa_prepare_11 (by decide) ?_
  show Ev l G d mDa_prepare (_ + _) [.ref a0, .ref a1, .ref a2, .int 0] [] M bc bs Φ
  exact h
theorem fDa_54 : FOK "BowingRow$Day" 54 6 2 false := ⟨RX6, TX6, nFd 6, rfl, by decide, rfl, by decide, rfl, lwg_of 177 (by decide +kernel) (by decide +kernel)⟩
theorem w565 : Cond.methodLink "BowingRow$Day" 59 ⟨"BowingRow$People", "fact", "(II)I"⟩ ∈ lwg := lwg_of 565 (by decide +kernel) (by decide +kernel)
theorem bDa_prepare_12 {l : Launch} {G : Gx} {d : Nat} {bc bs : Nat} {Φ : OutV → Mm → Prop} (M : Mm) (a0 : Nat) (a1 : Nat) (a2 : Nat) (x3 : Int32)
    (h : ((m_sh M a1).1 = 6) ∧ ((m_i M a1 2) ≤ x3 → ((m_sh M a0).1 = 1) ∧ Ev l G d mDa_prepare 48 [.ref a0, .ref a1, .ref a2, .int x3] [] (m_si (m_si M a0 3 ((-1))) a0 6 ((-1))) bc bs Φ) ∧ (¬ (m_i M a1 2) ≤ x3 → ((m_sh M a0).1 = 1) ∧ CallVC l G d mDa_prepare 31 [.ref a0, .ref a1, .ref a2, .int x3] [.int x3, .ref (m_r M a0 2)] mPe_fact [.ref a1, .int x3, .int 5] M bc bs Φ)) :
    Ev l G d mDa_prepare 12 [.ref a0, .ref a1, .ref a2, .int x3] [] M bc bs Φ := by
  refine Ev.iload_n dDa_prepare_12 rfl ?_
  refine Ev.aload_n dDa_prepare_13 rfl ?_
  have g1 := h.1
  replace h := h.2
  refine Ev.getI dDa_prepare_14 (Or.inl fDa_54) rfl g1 ?_
  refine Ev.icmp_ge 38 (by decide) dDa_prepare_17 (fun c => ?_) (fun c => ?_)
  · replace h := h.1 c
    refine Ev.aload_n dDa_prepare_38 rfl ?_
    refine Ev.iconst (v := (-1)) dDa_prepare_39 (by decide) ?_
    have g2 := h.1
    replace h := h.2
    refine Ev.putI dDa_prepare_40 ⟨_, Or.inl ⟨fDa_15, (fun h => by cases h)⟩⟩ rfl ⟨rfl, rfl⟩ g2 ?_
    refine Ev.aload_n dDa_prepare_43 rfl ?_
    refine Ev.iconst (v := (-1)) dDa_prepare_44 (by decide) ?_
    refine Ev.putI dDa_prepare_45 ⟨_, Or.inl ⟨fDa_19, (fun h => by cases h)⟩⟩ rfl ⟨rfl, rfl⟩ g2 ?_
    exact h
  · replace h := h.2 c
    refine Ev.aload_n dDa_prepare_20 rfl ?_
    have g3 := h.1
    replace h := h.2
    refine Ev.getR dDa_prepare_21 (Or.inl fDa_9) rfl g3 ?_
    refine Ev.iload_n dDa_prepare_24 rfl ?_
    refine Ev.aload_n dDa_prepare_25 rfl ?_
    refine Ev.iload_n dDa_prepare_26 rfl ?_
    refine Ev.iconst (v := 5) dDa_prepare_27 (by decide) ?_
    exact Ev.vcV (z := mPe_fact) (ci := 6) [.int x3, .int 5] [.int x3, .ref (m_r M a0 2)] rfl dDa_prepare_28 oPe_fact rfl w565 iPe_fact sPe_fact (by decide) rfl g1 (Nat.le_of_ble_eq_true rfl) h
theorem bDa_prepare_31 {l : Launch} {G : Gx} {d : Nat} {bc bs : Nat} {Φ : OutV → Mm → Prop} (M : Mm) (a0 : Nat) (a1 : Nat) (a2 : Nat) (x3 : Int32) (r0 : Nat) (s1 : Int32) (s2 : Int32)
    (h : ((m_sh M r0).1 = 20) ∧ (vp_in s1 (m_sh M r0).2) ∧ Ev l G d mDa_prepare 12 [.ref a0, .ref a1, .ref a2, .int (x3 + 1)] [] (m_si M r0 s1.toNatClampNeg s2) bc bs Φ) :
    Ev l G d mDa_prepare 31 [.ref a0, .ref a1, .ref a2, .int x3] [.int s2, .int s1, .ref r0] M bc bs Φ := by
  have g1 := h.1
  replace h := h.2
  have g2 := h.1
  replace h := h.2
  refine Ev.iast2 dDa_prepare_31 g1 g2 ?_
  refine Ev.iinc (v := x3 + 1) dDa_prepare_32 (by decide) rfl rfl ?_
  show Ev l G d mDa_prepare (_ + _) [.ref a0, .ref a1, .ref a2, .int (x3 + 1)] [] (m_si M r0 s1.toNatClampNeg s2) bc bs Φ
  refine Ev.goto 12 dDa_prepare_35 (by decide) ?_
  exact h
theorem bDa_prepare_48 {l : Launch} {G : Gx} {d : Nat} {bc bs : Nat} {Φ : OutV → Mm → Prop} (M : Mm) (a0 : Nat) (a1 : Nat) (a2 : Nat) (x3 : Int32)
    (h : ((m_sh M a0).1 = 1) ∧ Φ (.inl none) (m_si M a0 7 ((-1)))) :
    Ev l G d mDa_prepare 48 [.ref a0, .ref a1, .ref a2, .int x3] [] M bc bs Φ := by
  refine Ev.aload_n dDa_prepare_48 rfl ?_
  refine Ev.iconst (v := (-1)) dDa_prepare_49 (by decide) ?_
  have g1 := h.1
  replace h := h.2
  refine Ev.putI dDa_prepare_50 ⟨_, Or.inl ⟨fDa_22, (fun h => by cases h)⟩⟩ rfl ⟨rfl, rfl⟩ g1 ?_
  exact Ev.vret dDa_prepare_53 rfl h
def mDa_goThrough : MR := (⟨"BowingRow$Day", "goThrough", "()V"⟩, prog_3_method_3_code, 4, none)
theorem oDa_goThrough : MOK mDa_goThrough 0 := ⟨lwg_of 572 (by decide +kernel) (by decide +kernel), lwg_of 97 (by decide +kernel) (by decide +kernel), ⟨by decide +kernel, by decide +kernel⟩, by decide +kernel, by decide⟩
theorem iDa_goThrough : Cond.instanceMethod mDa_goThrough.1 ∈ lwg := lwg_of 570 (by decide +kernel) (by decide +kernel)
theorem sDa_goThrough : Cond.selects mDa_goThrough.1.cls mDa_goThrough.1 mDa_goThrough.1 ∈ lwg := lwg_of 571 (by decide +kernel) (by decide +kernel)
theorem dDa_goThrough_0 : decode mDa_goThrough.2.1 0 = .ok (.aload_n 0, 1) := by decide +kernel
theorem dDa_goThrough_1 : decode mDa_goThrough.2.1 1 = .ok (.iconst 0, 1) := by decide +kernel
theorem dDa_goThrough_2 : decode mDa_goThrough.2.1 2 = .ok (.putfield 63, 3) := by decide +kernel
theorem dDa_goThrough_5 : decode mDa_goThrough.2.1 5 = .ok (.aload_n 0, 1) := by decide +kernel
theorem dDa_goThrough_6 : decode mDa_goThrough.2.1 6 = .ok (.getfield 31, 3) := by decide +kernel
theorem dDa_goThrough_9 : decode mDa_goThrough.2.1 9 = .ok (.iconst (-1), 1) := by decide +kernel
theorem dDa_goThrough_10 : decode mDa_goThrough.2.1 10 = .ok (.invokestatic 66, 3) := by decide +kernel
theorem dDa_goThrough_13 : decode mDa_goThrough.2.1 13 = .ok (.aload_n 0, 1) := by decide +kernel
theorem dDa_goThrough_14 : decode mDa_goThrough.2.1 14 = .ok (.getfield 37, 3) := by decide +kernel
theorem dDa_goThrough_17 : decode mDa_goThrough.2.1 17 = .ok (.iconst 0, 1) := by decide +kernel
theorem dDa_goThrough_18 : decode mDa_goThrough.2.1 18 = .ok (.putfield 72, 3) := by decide +kernel
theorem dDa_goThrough_21 : decode mDa_goThrough.2.1 21 = .ok (.aload_n 0, 1) := by decide +kernel
theorem dDa_goThrough_22 : decode mDa_goThrough.2.1 22 = .ok (.iconst 0, 1) := by decide +kernel
theorem dDa_goThrough_23 : decode mDa_goThrough.2.1 23 = .ok (.putfield 75, 3) := by decide +kernel
theorem dDa_goThrough_26 : decode mDa_goThrough.2.1 26 = .ok (.aload_n 0, 1) := by decide +kernel
theorem dDa_goThrough_27 : decode mDa_goThrough.2.1 27 = .ok (.iconst 0, 1) := by decide +kernel
theorem dDa_goThrough_28 : decode mDa_goThrough.2.1 28 = .ok (.putfield 78, 3) := by decide +kernel
theorem dDa_goThrough_31 : decode mDa_goThrough.2.1 31 = .ok (.aload_n 0, 1) := by decide +kernel
theorem dDa_goThrough_32 : decode mDa_goThrough.2.1 32 = .ok (.iconst 0, 1) := by decide +kernel
theorem dDa_goThrough_33 : decode mDa_goThrough.2.1 33 = .ok (.putfield 81, 3) := by decide +kernel
theorem dDa_goThrough_36 : decode mDa_goThrough.2.1 36 = .ok (.aload_n 0, 1) := by decide +kernel
theorem dDa_goThrough_37 : decode mDa_goThrough.2.1 37 = .ok (.iconst 0, 1) := by decide +kernel
theorem dDa_goThrough_38 : decode mDa_goThrough.2.1 38 = .ok (.putfield 84, 3) := by decide +kernel
theorem dDa_goThrough_41 : decode mDa_goThrough.2.1 41 = .ok (.iconst 0, 1) := by decide +kernel
theorem dDa_goThrough_42 : decode mDa_goThrough.2.1 42 = .ok (.istore_n 1, 1) := by decide +kernel
theorem dDa_goThrough_43 : decode mDa_goThrough.2.1 43 = .ok (.iload_n 1, 1) := by decide +kernel
theorem dDa_goThrough_44 : decode mDa_goThrough.2.1 44 = .ok (.bipush 8, 2) := by decide +kernel
theorem dDa_goThrough_46 : decode mDa_goThrough.2.1 46 = .ok (.if_icmp .ge 165, 3) := by decide +kernel
theorem dDa_goThrough_49 : decode mDa_goThrough.2.1 49 = .ok (.aload_n 0, 1) := by decide +kernel
theorem dDa_goThrough_50 : decode mDa_goThrough.2.1 50 = .ok (.getfield 78, 3) := by decide +kernel
theorem dDa_goThrough_53 : decode mDa_goThrough.2.1 53 = .ok (.ifCond .ne 158, 3) := by decide +kernel
theorem dDa_goThrough_56 : decode mDa_goThrough.2.1 56 = .ok (.aload_n 0, 1) := by decide +kernel
theorem dDa_goThrough_57 : decode mDa_goThrough.2.1 57 = .ok (.aload_n 0, 1) := by decide +kernel
theorem dDa_goThrough_58 : decode mDa_goThrough.2.1 58 = .ok (.getfield 27, 3) := by decide +kernel
theorem dDa_goThrough_61 : decode mDa_goThrough.2.1 61 = .ok (.iload_n 1, 1) := by decide +kernel
theorem dDa_goThrough_62 : decode mDa_goThrough.2.1 62 = .ok (.aaload, 1) := by decide +kernel
theorem dDa_goThrough_63 : decode mDa_goThrough.2.1 63 = .ok (.invokevirtual 87, 3) := by decide +kernel
theorem dDa_goThrough_66 : decode mDa_goThrough.2.1 66 = .ok (.ifCond .eq 145, 3) := by decide +kernel
theorem dDa_goThrough_69 : decode mDa_goThrough.2.1 69 = .ok (.aload_n 0, 1) := by decide +kernel
theorem dDa_goThrough_70 : decode mDa_goThrough.2.1 70 = .ok (.getfield 27, 3) := by decide +kernel
theorem dDa_goThrough_73 : decode mDa_goThrough.2.1 73 = .ok (.iload_n 1, 1) := by decide +kernel
theorem dDa_goThrough_74 : decode mDa_goThrough.2.1 74 = .ok (.aaload, 1) := by decide +kernel
theorem dDa_goThrough_75 : decode mDa_goThrough.2.1 75 = .ok (.astore_n 2, 1) := by decide +kernel
theorem dDa_goThrough_76 : decode mDa_goThrough.2.1 76 = .ok (.aload_n 0, 1) := by decide +kernel
theorem dDa_goThrough_77 : decode mDa_goThrough.2.1 77 = .ok (.dup, 1) := by decide +kernel
theorem dDa_goThrough_78 : decode mDa_goThrough.2.1 78 = .ok (.getfield 63, 3) := by decide +kernel
theorem dDa_goThrough_81 : decode mDa_goThrough.2.1 81 = .ok (.iconst 1, 1) := by decide +kernel
theorem dDa_goThrough_82 : decode mDa_goThrough.2.1 82 = .ok (.iadd, 1) := by decide +kernel
theorem dDa_goThrough_83 : decode mDa_goThrough.2.1 83 = .ok (.putfield 63, 3) := by decide +kernel
theorem dDa_goThrough_86 : decode mDa_goThrough.2.1 86 = .ok (.aload_n 0, 1) := by decide +kernel
theorem dDa_goThrough_87 : decode mDa_goThrough.2.1 87 = .ok (.getfield 19, 3) := by decide +kernel
theorem dDa_goThrough_90 : decode mDa_goThrough.2.1 90 = .ok (.iconst (-1), 1) := by decide +kernel
theorem dDa_goThrough_91 : decode mDa_goThrough.2.1 91 = .ok (.if_icmp .eq 24, 3) := by decide +kernel
theorem dDa_goThrough_94 : decode mDa_goThrough.2.1 94 = .ok (.iload_n 1, 1) := by decide +kernel
theorem dDa_goThrough_95 : decode mDa_goThrough.2.1 95 = .ok (.aload_n 0, 1) := by decide +kernel
theorem dDa_goThrough_96 : decode mDa_goThrough.2.1 96 = .ok (.getfield 22, 3) := by decide +kernel
theorem dDa_goThrough_99 : decode mDa_goThrough.2.1 99 = .ok (.if_icmp .ne 16, 3) := by decide +kernel
theorem dDa_goThrough_102 : decode mDa_goThrough.2.1 102 = .ok (.aload_n 0, 1) := by decide +kernel
theorem dDa_goThrough_103 : decode mDa_goThrough.2.1 103 = .ok (.getfield 9, 3) := by decide +kernel
theorem dDa_goThrough_106 : decode mDa_goThrough.2.1 106 = .ok (.aload_n 0, 1) := by decide +kernel
theorem dDa_goThrough_107 : decode mDa_goThrough.2.1 107 = .ok (.getfield 19, 3) := by decide +kernel
theorem dDa_goThrough_110 : decode mDa_goThrough.2.1 110 = .ok (.aload_n 0, 1) := by decide +kernel
theorem dDa_goThrough_111 : decode mDa_goThrough.2.1 111 = .ok (.getfield 91, 3) := by decide +kernel
theorem dDa_goThrough_114 : decode mDa_goThrough.2.1 114 = .ok (.iastore, 1) := by decide +kernel
theorem dDa_goThrough_115 : decode mDa_goThrough.2.1 115 = .ok (.aload_n 0, 1) := by decide +kernel
theorem dDa_goThrough_116 : decode mDa_goThrough.2.1 116 = .ok (.getfield 37, 3) := by decide +kernel
theorem dDa_goThrough_119 : decode mDa_goThrough.2.1 119 = .ok (.aload_n 2, 1) := by decide +kernel
theorem dDa_goThrough_120 : decode mDa_goThrough.2.1 120 = .ok (.getfield 94, 3) := by decide +kernel
theorem dDa_goThrough_123 : decode mDa_goThrough.2.1 123 = .ok (.aload_n 0, 1) := by decide +kernel
theorem dDa_goThrough_124 : decode mDa_goThrough.2.1 124 = .ok (.getfield 49, 3) := by decide +kernel
theorem dDa_goThrough_127 : decode mDa_goThrough.2.1 127 = .ok (.getfield 97, 3) := by decide +kernel
theorem dDa_goThrough_130 : decode mDa_goThrough.2.1 130 = .ok (.bipush 7, 2) := by decide +kernel
theorem dDa_goThrough_132 : decode mDa_goThrough.2.1 132 = .ok (.iaload, 1) := by decide +kernel
theorem dDa_goThrough_133 : decode mDa_goThrough.2.1 133 = .ok (.invokevirtual 102, 3) := by decide +kernel
theorem dDa_goThrough_136 : decode mDa_goThrough.2.1 136 = .ok (.aload_n 0, 1) := by decide +kernel
theorem dDa_goThrough_137 : decode mDa_goThrough.2.1 137 = .ok (.getfield 49, 3) := by decide +kernel
theorem dDa_goThrough_140 : decode mDa_goThrough.2.1 140 = .ok (.getfield 97, 3) := by decide +kernel
theorem dDa_goThrough_143 : decode mDa_goThrough.2.1 143 = .ok (.iconst 2, 1) := by decide +kernel
theorem dDa_goThrough_144 : decode mDa_goThrough.2.1 144 = .ok (.iaload, 1) := by decide +kernel
theorem dDa_goThrough_145 : decode mDa_goThrough.2.1 145 = .ok (.istore_n 3, 1) := by decide +kernel
theorem dDa_goThrough_146 : decode mDa_goThrough.2.1 146 = .ok (.aload_n 2, 1) := by decide +kernel
theorem dDa_goThrough_147 : decode mDa_goThrough.2.1 147 = .ok (.iload_n 3, 1) := by decide +kernel
theorem dDa_goThrough_148 : decode mDa_goThrough.2.1 148 = .ok (.iconst (-1), 1) := by decide +kernel
theorem dDa_goThrough_149 : decode mDa_goThrough.2.1 149 = .ok (.if_icmp .ne 7, 3) := by decide +kernel
theorem dDa_goThrough_152 : decode mDa_goThrough.2.1 152 = .ok (.iconst (-1), 1) := by decide +kernel
theorem dDa_goThrough_153 : decode mDa_goThrough.2.1 153 = .ok (.goto 15, 3) := by decide +kernel
theorem dDa_goThrough_156 : decode mDa_goThrough.2.1 156 = .ok (.aload_n 2, 1) := by decide +kernel
theorem dDa_goThrough_157 : decode mDa_goThrough.2.1 157 = .ok (.aload_n 0, 1) := by decide +kernel
theorem dDa_goThrough_158 : decode mDa_goThrough.2.1 158 = .ok (.getfield 37, 3) := by decide +kernel
theorem dDa_goThrough_161 : decode mDa_goThrough.2.1 161 = .ok (.getfield 106, 3) := by decide +kernel
theorem dDa_goThrough_164 : decode mDa_goThrough.2.1 164 = .ok (.iload_n 3, 1) := by decide +kernel
theorem dDa_goThrough_165 : decode mDa_goThrough.2.1 165 = .ok (.invokevirtual 109, 3) := by decide +kernel
theorem dDa_goThrough_168 : decode mDa_goThrough.2.1 168 = .ok (.putfield 113, 3) := by decide +kernel
theorem dDa_goThrough_171 : decode mDa_goThrough.2.1 171 = .ok (.aload_n 2, 1) := by decide +kernel
theorem dDa_goThrough_172 : decode mDa_goThrough.2.1 172 = .ok (.aload_n 2, 1) := by decide +kernel
theorem dDa_goThrough_173 : decode mDa_goThrough.2.1 173 = .ok (.getfield 113, 3) := by decide +kernel
theorem dDa_goThrough_176 : decode mDa_goThrough.2.1 176 = .ok (.iconst (-1), 1) := by decide +kernel
theorem dDa_goThrough_177 : decode mDa_goThrough.2.1 177 = .ok (.if_icmp .eq 7, 3) := by decide +kernel
theorem dDa_goThrough_180 : decode mDa_goThrough.2.1 180 = .ok (.iconst 1, 1) := by decide +kernel
theorem dDa_goThrough_181 : decode mDa_goThrough.2.1 181 = .ok (.goto 4, 3) := by decide +kernel
theorem dDa_goThrough_184 : decode mDa_goThrough.2.1 184 = .ok (.iconst 0, 1) := by decide +kernel
theorem dDa_goThrough_185 : decode mDa_goThrough.2.1 185 = .ok (.putfield 116, 3) := by decide +kernel
theorem dDa_goThrough_188 : decode mDa_goThrough.2.1 188 = .ok (.aload_n 2, 1) := by decide +kernel
theorem dDa_goThrough_189 : decode mDa_goThrough.2.1 189 = .ok (.getfield 116, 3) := by decide +kernel
theorem dDa_goThrough_192 : decode mDa_goThrough.2.1 192 = .ok (.ifCond .ne 8, 3) := by decide +kernel
theorem dDa_goThrough_195 : decode mDa_goThrough.2.1 195 = .ok (.aload_n 0, 1) := by decide +kernel
theorem dDa_goThrough_196 : decode mDa_goThrough.2.1 196 = .ok (.aload_n 2, 1) := by decide +kernel
theorem dDa_goThrough_197 : decode mDa_goThrough.2.1 197 = .ok (.invokevirtual 119, 3) := by decide +kernel
theorem dDa_goThrough_200 : decode mDa_goThrough.2.1 200 = .ok (.aload_n 0, 1) := by decide +kernel
theorem dDa_goThrough_201 : decode mDa_goThrough.2.1 201 = .ok (.aload_n 2, 1) := by decide +kernel
theorem dDa_goThrough_202 : decode mDa_goThrough.2.1 202 = .ok (.invokevirtual 123, 3) := by decide +kernel
theorem dDa_goThrough_205 : decode mDa_goThrough.2.1 205 = .ok (.iinc 1 1, 3) := by decide +kernel
theorem dDa_goThrough_208 : decode mDa_goThrough.2.1 208 = .ok (.goto (-165), 3) := by decide +kernel
theorem dDa_goThrough_211 : decode mDa_goThrough.2.1 211 = .ok (.aload_n 0, 1) := by decide +kernel
theorem dDa_goThrough_212 : decode mDa_goThrough.2.1 212 = .ok (.getfield 37, 3) := by decide +kernel
theorem dDa_goThrough_215 : decode mDa_goThrough.2.1 215 = .ok (.aload_n 0, 1) := by decide +kernel
theorem dDa_goThrough_216 : decode mDa_goThrough.2.1 216 = .ok (.getfield 81, 3) := by decide +kernel
theorem dDa_goThrough_219 : decode mDa_goThrough.2.1 219 = .ok (.aload_n 0, 1) := by decide +kernel
theorem dDa_goThrough_220 : decode mDa_goThrough.2.1 220 = .ok (.getfield 49, 3) := by decide +kernel
theorem dDa_goThrough_223 : decode mDa_goThrough.2.1 223 = .ok (.getfield 97, 3) := by decide +kernel
theorem dDa_goThrough_226 : decode mDa_goThrough.2.1 226 = .ok (.bipush 7, 2) := by decide +kernel
theorem dDa_goThrough_228 : decode mDa_goThrough.2.1 228 = .ok (.iaload, 1) := by decide +kernel
theorem dDa_goThrough_229 : decode mDa_goThrough.2.1 229 = .ok (.invokevirtual 102, 3) := by decide +kernel
theorem dDa_goThrough_232 : decode mDa_goThrough.2.1 232 = .ok (.return_, 1) := by decide +kernel
theorem fDa_63 : FOK "BowingRow$Day" 63 1 10 false := ⟨RX1, TX1, nFd 1, rfl, by decide, rfl, by decide, rfl, lwg_of 363 (by decide +kernel) (by decide +kernel)⟩
theorem w573 : Cond.methodLink "BowingRow$Day" 66 ⟨"java/util/Arrays", "fill", "([II)V"⟩ ∈ lwg := lwg_of 573 (by decide +kernel) (by decide +kernel)
theorem bDa_goThrough_0 {l : Launch} {G : Gx} {d : Nat} {bc bs : Nat} {Φ : OutV → Mm → Prop} (M : Mm) (a0 : Nat)
    (h : ((m_sh M a0).1 = 1) ∧ CallVC l G d mDa_goThrough 13 [.ref a0, .null, .null, .null] [] mjA_fill [.ref (m_r M a0 11), .int ((-1))] (m_si M a0 10 0) bc bs Φ) :
    Ev l G d mDa_goThrough 0 [.ref a0, .null, .null, .null] [] M bc bs Φ := by
  refine Ev.aload_n dDa_goThrough_0 rfl ?_
  refine Ev.iconst (v := 0) dDa_goThrough_1 (by decide) ?_
  have g1 := h.1
  replace h := h.2
  refine Ev.putI dDa_goThrough_2 ⟨_, Or.inl ⟨fDa_63, (fun h => by cases h)⟩⟩ rfl ⟨rfl, rfl⟩ g1 ?_
  refine Ev.aload_n dDa_goThrough_5 rfl ?_
  refine Ev.getR dDa_goThrough_6 (Or.inl fDa_31) rfl g1 ?_
  refine Ev.iconst (v := (-1)) dDa_goThrough_9 (by decide) ?_
  exact Ev.vcS (z := mjA_fill) [.ref (m_r M a0 11), .int ((-1))] [] rfl dDa_goThrough_10 ojA_fill rfl w573 ijA_fill (Nat.le_of_ble_eq_true rfl) h
theorem fDa_72 : FOK "BowingRow$Day" 72 5 6 false := ⟨RX5, TX5, nFd 5, rfl, by decide, rfl, by decide, rfl, lwg_of 284 (by decide +kernel) (by decide +kernel)⟩
theorem fDa_75 : FOK "BowingRow$Day" 75 1 13 false := ⟨RX1, TX1, nFd 1, rfl, by decide, rfl, by decide, rfl, lwg_of 371 (by decide +kernel) (by decide +kernel)⟩
theorem bDa_goThrough_13 {l : Launch} {G : Gx} {d : Nat} {bc bs : Nat} {Φ : OutV → Mm → Prop} (M : Mm) (a0 : Nat) (u1 : Value) (u2 : Value) (u3 : Value)
    (h : ((m_sh M a0).1 = 1) ∧ ((m_sh M (m_r M a0 12)).1 = 5) ∧ Ev l G d mDa_goThrough 26 [.ref a0, u1, u2, u3] [] (m_si (m_si M (m_r M a0 12) 6 0) a0 13 0) bc bs Φ) :
    Ev l G d mDa_goThrough 13 [.ref a0, u1, u2, u3] [] M bc bs Φ := by
  refine Ev.aload_n dDa_goThrough_13 rfl ?_
  have g1 := h.1
  replace h := h.2
  refine Ev.getR dDa_goThrough_14 (Or.inl fDa_37) rfl g1 ?_
  refine Ev.iconst (v := 0) dDa_goThrough_17 (by decide) ?_
  have g2 := h.1
  replace h := h.2
  refine Ev.putI dDa_goThrough_18 ⟨_, Or.inl ⟨fDa_72, (fun h => by cases h)⟩⟩ rfl ⟨rfl, rfl⟩ g2 ?_
  refine Ev.aload_n dDa_goThrough_21 rfl ?_
  refine Ev.iconst (v := 0) dDa_goThrough_22 (by decide) ?_
  refine Ev.putI dDa_goThrough_23 ⟨_, Or.inl ⟨fDa_75, (fun h => by cases h)⟩⟩ rfl ⟨rfl, rfl⟩ g1 ?_
  exact h
theorem fDa_78 : FOK "BowingRow$Day" 78 1 14 false := ⟨RX1, TX1, nFd 1, rfl, by decide, rfl, by decide, rfl, lwg_of 373 (by decide +kernel) (by decide +kernel)⟩
theorem fDa_81 : FOK "BowingRow$Day" 81 1 15 false := ⟨RX1, TX1, nFd 1, rfl, by decide, rfl, by decide, rfl, lwg_of 375 (by decide +kernel) (by decide +kernel)⟩
theorem bDa_goThrough_26 {l : Launch} {G : Gx} {d : Nat} {bc bs : Nat} {Φ : OutV → Mm → Prop} (M : Mm) (a0 : Nat) (u1 : Value) (u2 : Value) (u3 : Value)
    (h : ((m_sh M a0).1 = 1) ∧ Ev l G d mDa_goThrough 36 [.ref a0, u1, u2, u3] [] (m_si (m_si M a0 14 0) a0 15 0) bc bs Φ) :
    Ev l G d mDa_goThrough 26 [.ref a0, u1, u2, u3] [] M bc bs Φ := by
  refine Ev.aload_n dDa_goThrough_26 rfl ?_
  refine Ev.iconst (v := 0) dDa_goThrough_27 (by decide) ?_
  have g1 := h.1
  replace h := h.2
  refine Ev.putI dDa_goThrough_28 ⟨_, Or.inl ⟨fDa_78, (fun h => by cases h)⟩⟩ rfl ⟨rfl, rfl⟩ g1 ?_
  refine Ev.aload_n dDa_goThrough_31 rfl ?_
  refine Ev.iconst (v := 0) dDa_goThrough_32 (by decide) ?_
  refine Ev.putI dDa_goThrough_33 ⟨_, Or.inl ⟨fDa_81, (fun h => by cases h)⟩⟩ rfl ⟨rfl, rfl⟩ g1 ?_
  exact h
theorem fDa_84 : FOK "BowingRow$Day" 84 1 5 false := ⟨RX1, TX1, nFd 1, rfl, by decide, rfl, by decide, rfl, lwg_of 354 (by decide +kernel) (by decide +kernel)⟩
theorem bDa_goThrough_36 {l : Launch} {G : Gx} {d : Nat} {bc bs : Nat} {Φ : OutV → Mm → Prop} (M : Mm) (a0 : Nat) (u1 : Value) (u2 : Value) (u3 : Value)
    (h : ((m_sh M a0).1 = 1) ∧ Ev l G d mDa_goThrough 43 [.ref a0, .int 0, u2, u3] [] (m_si M a0 5 0) bc bs Φ) :
    Ev l G d mDa_goThrough 36 [.ref a0, u1, u2, u3] [] M bc bs Φ := by
  refine Ev.aload_n dDa_goThrough_36 rfl ?_
  refine Ev.iconst (v := 0) dDa_goThrough_37 (by decide) ?_
  have g1 := h.1
  replace h := h.2
  refine Ev.putI dDa_goThrough_38 ⟨_, Or.inl ⟨fDa_84, (fun h => by cases h)⟩⟩ rfl ⟨rfl, rfl⟩ g1 ?_
  refine Ev.iconst (v := 0) dDa_goThrough_41 (by decide) ?_
  refine Ev.istore_n dDa_goThrough_42 (by decide) ?_
  show Ev l G d mDa_goThrough (_ + _) [.ref a0, .int 0, u2, u3] [] (m_si M a0 5 0) bc bs Φ
  exact h
def mDa_openCall : MR := (⟨"BowingRow$Day", "openCall", "(LBowingRow$Call;)Z"⟩, prog_3_method_4_code, 4, (Option.some .boolean))
theorem oDa_openCall : MOK mDa_openCall 1 := ⟨lwg_of 577 (by decide +kernel) (by decide +kernel), lwg_of 97 (by decide +kernel) (by decide +kernel), ⟨by decide +kernel, by decide +kernel⟩, by decide +kernel, by decide⟩
theorem iDa_openCall : Cond.instanceMethod mDa_openCall.1 ∈ lwg := lwg_of 576 (by decide +kernel) (by decide +kernel)
theorem sDa_openCall : Cond.selects mDa_openCall.1.cls mDa_openCall.1 mDa_openCall.1 ∈ lwg := lwg_of 3 (by decide +kernel) (by decide +kernel)
theorem w574 : Cond.methodLink "BowingRow$Day" 87 ⟨"BowingRow$Day", "openCall", "(LBowingRow$Call;)Z"⟩ ∈ lwg := lwg_of 574 (by decide +kernel) (by decide +kernel)
theorem bDa_goThrough_43 {l : Launch} {G : Gx} {d : Nat} {bc bs : Nat} {Φ : OutV → Mm → Prop} (M : Mm) (a0 : Nat) (x1 : Int32) (u2 : Value) (u3 : Value)
    (h : (8 ≤ x1 → Ev l G d mDa_goThrough 211 [.ref a0, .int x1, u2, u3] [] M bc bs Φ) ∧ (¬ 8 ≤ x1 → ((m_sh M a0).1 = 1) ∧ (¬ (m_i M a0 14) = 0 → Ev l G d mDa_goThrough 211 [.ref a0, .int x1, u2, u3] [] M bc bs Φ) ∧ ((m_i M a0 14) = 0 → ((m_sh M (m_r M a0 9)).1 = 30) ∧ (vp_in x1 (m_sh M (m_r M a0 9)).2) ∧ CallVC l G d mDa_goThrough 66 [.ref a0, .int x1, u2, u3] [] mDa_openCall [.ref a0, .ref (m_r M (m_r M a0 9) x1.toNatClampNeg)] M bc bs Φ))) :
    Ev l G d mDa_goThrough 43 [.ref a0, .int x1, u2, u3] [] M bc bs Φ := by
  refine Ev.iload_n dDa_goThrough_43 rfl ?_
  refine Ev.bipush (v := 8) dDa_goThrough_44 (by decide) ?_
  refine Ev.icmp_ge 211 (by decide) dDa_goThrough_46 (fun c => ?_) (fun c => ?_)
  · replace h := h.1 c
    exact h
  · replace h := h.2 c
    refine Ev.aload_n dDa_goThrough_49 rfl ?_
    have g1 := h.1
    replace h := h.2
    refine Ev.getI dDa_goThrough_50 (Or.inl fDa_78) rfl g1 ?_
    refine Ev.if_ne 211 (by decide) dDa_goThrough_53 (fun c => ?_) (fun c => ?_)
    · replace h := h.1 c
      exact h
    · replace h := h.2 c
      refine Ev.aload_n dDa_goThrough_56 rfl ?_
      refine Ev.aload_n dDa_goThrough_57 rfl ?_
      refine Ev.getR dDa_goThrough_58 (Or.inl fDa_27) rfl g1 ?_
      refine Ev.iload_n dDa_goThrough_61 rfl ?_
      have g2 := h.1
      replace h := h.2
      have g3 := h.1
      replace h := h.2
      refine Ev.aald2 30 (by decide) dDa_goThrough_62 g2 g3 ?_
      exact Ev.vcV (z := mDa_openCall) (ci := 1) [.ref (m_r M (m_r M a0 9) x1.toNatClampNeg)] [] rfl dDa_goThrough_63 oDa_openCall rfl w574 iDa_openCall sDa_openCall (by decide) rfl g1 (Nat.le_of_ble_eq_true rfl) h
theorem fDa_91 : FOK "BowingRow$Day" 91 1 8 false := ⟨RX1, TX1, nFd 1, rfl, by decide, rfl, by decide, rfl, lwg_of 359 (by decide +kernel) (by decide +kernel)⟩
theorem bDa_goThrough_66 {l : Launch} {G : Gx} {d : Nat} {bc bs : Nat} {Φ : OutV → Mm → Prop} (M : Mm) (a0 : Nat) (x1 : Int32) (u2 : Value) (u3 : Value) (s0 : Int32)
    (h : (s0 = 0 → Ev l G d mDa_goThrough 211 [.ref a0, .int x1, u2, u3] [] M bc bs Φ) ∧ (¬ s0 = 0 → ((m_sh M a0).1 = 1) ∧ ((m_sh M (m_r M a0 9)).1 = 30) ∧ (vp_in x1 (m_sh M (m_r M a0 9)).2) ∧ ((m_i (m_si M a0 10 ((m_i M a0 10) + 1)) a0 6) = ((-1)) → Ev l G d mDa_goThrough 115 [.ref a0, .int x1, .ref (m_r M (m_r M a0 9) x1.toNatClampNeg), u3] [] (m_si M a0 10 ((m_i M a0 10) + 1)) bc bs Φ) ∧ (¬ (m_i (m_si M a0 10 ((m_i M a0 10) + 1)) a0 6) = ((-1)) → (¬ x1 = (m_i (m_si M a0 10 ((m_i M a0 10) + 1)) a0 7) → Ev l G d mDa_goThrough 115 [.ref a0, .int x1, .ref (m_r M (m_r M a0 9) x1.toNatClampNeg), u3] [] (m_si M a0 10 ((m_i M a0 10) + 1)) bc bs Φ) ∧ (x1 = (m_i (m_si M a0 10 ((m_i M a0 10) + 1)) a0 7) → ((m_sh M (m_r M a0 2)).1 = 20) ∧ (vp_in (m_i (m_si M a0 10 ((m_i M a0 10) + 1)) a0 6) (m_sh M (m_r M a0 2)).2) ∧ Ev l G d mDa_goThrough 115 [.ref a0, .int x1, .ref (m_r M (m_r M a0 9) x1.toNatClampNeg), u3] [] (m_si (m_si M a0 10 ((m_i M a0 10) + 1)) (m_r M a0 2) (m_i (m_si M a0 10 ((m_i M a0 10) + 1)) a0 6).toNatClampNeg (m_i (m_si M a0 10 ((m_i M a0 10) + 1)) a0 8)) bc bs Φ)))) :
    Ev l G d mDa_goThrough 66 [.ref a0, .int x1, u2, u3] [.int s0] M bc bs Φ := by
  refine Ev.if_eq 211 (by decide) dDa_goThrough_66 (fun c => ?_) (fun c => ?_)
  · replace h := h.1 c
    exact h
  · replace h := h.2 c
    refine Ev.aload_n dDa_goThrough_69 rfl ?_
    have g1 := h.1
    replace h := h.2
    refine Ev.getR dDa_goThrough_70 (Or.inl fDa_27) rfl g1 ?_
    refine Ev.iload_n dDa_goThrough_73 rfl ?_
    have g2 := h.1
    replace h := h.2
    have g3 := h.1
    replace h := h.2
    refine Ev.aald2 30 (by decide) dDa_goThrough_74 g2 g3 ?_
    refine Ev.astore_n dDa_goThrough_75 (by decide) ?_
    show Ev l G d mDa_goThrough (_ + _) [.ref a0, .int x1, .ref (m_r M (m_r M a0 9) x1.toNatClampNeg), u3] [] M bc bs Φ
    refine Ev.aload_n dDa_goThrough_76 rfl ?_
    refine Ev.dup dDa_goThrough_77 rfl ?_
    refine Ev.getI dDa_goThrough_78 (Or.inl fDa_63) rfl g1 ?_
    refine Ev.iconst (v := 1) dDa_goThrough_81 (by decide) ?_
    refine Ev.iadd dDa_goThrough_82 ?_
    refine Ev.putI dDa_goThrough_83 ⟨_, Or.inl ⟨fDa_63, (fun h => by cases h)⟩⟩ rfl ⟨rfl, rfl⟩ g1 ?_
    refine Ev.aload_n dDa_goThrough_86 rfl ?_
    refine Ev.getI dDa_goThrough_87 (Or.inl fDa_19) rfl g1 ?_
    refine Ev.iconst (v := (-1)) dDa_goThrough_90 (by decide) ?_
    refine Ev.icmp_eq 115 (by decide) dDa_goThrough_91 (fun c => ?_) (fun c => ?_)
    · replace h := h.1 c
      exact h
    · replace h := h.2 c
      refine Ev.iload_n dDa_goThrough_94 rfl ?_
      refine Ev.aload_n dDa_goThrough_95 rfl ?_
      refine Ev.getI dDa_goThrough_96 (Or.inl fDa_22) rfl g1 ?_
      refine Ev.icmp_ne 115 (by decide) dDa_goThrough_99 (fun c => ?_) (fun c => ?_)
      · replace h := h.1 c
        exact h
      · replace h := h.2 c
        refine Ev.aload_n dDa_goThrough_102 rfl ?_
        refine Ev.getR dDa_goThrough_103 (Or.inl fDa_9) rfl g1 ?_
        refine Ev.aload_n dDa_goThrough_106 rfl ?_
        refine Ev.getI dDa_goThrough_107 (Or.inl fDa_19) rfl g1 ?_
        refine Ev.aload_n dDa_goThrough_110 rfl ?_
        refine Ev.getI dDa_goThrough_111 (Or.inl fDa_91) rfl g1 ?_
        have g4 := h.1
        replace h := h.2
        have g5 := h.1
        replace h := h.2
        refine Ev.iast2 dDa_goThrough_114 g4 g5 ?_
        exact h
theorem fDa_94 : FOK "BowingRow$Day" 94 0 3 false := ⟨RX0, TX0, nFd 0, rfl, by decide, rfl, by decide, rfl, lwg_of 315 (by decide +kernel) (by decide +kernel)⟩
theorem fDa_97 : FOK "BowingRow$Day" 97 3 0 true := ⟨RX3, TX3, nFd 3, rfl, by decide, rfl, by decide, rfl, lwg_of 238 (by decide +kernel) (by decide +kernel)⟩
theorem w588 : Cond.methodLink "BowingRow$Day" 102 ⟨"BowingRow$PassBook", "balanceAt", "(II)V"⟩ ∈ lwg := lwg_of 588 (by decide +kernel) (by decide +kernel)
theorem bDa_goThrough_115 {l : Launch} {G : Gx} {d : Nat} {bc bs : Nat} {Φ : OutV → Mm → Prop} (M : Mm) (a0 : Nat) (x1 : Int32) (a2 : Nat) (u3 : Value)
    (h : ((m_sh M a0).1 = 1) ∧ ((m_sh M a2).1 = 0) ∧ ((m_sh M (m_r M a0 1)).1 = 3) ∧ ((m_sh M (m_r M (m_r M a0 1) 0)).1 = 20) ∧ (vp_in 7 (m_sh M (m_r M (m_r M a0 1) 0)).2) ∧ ((m_sh M (m_r M a0 12)).1 = 5) ∧ CallVC l G d mDa_goThrough 136 [.ref a0, .int x1, .ref a2, u3] [] mPb_balanceAt [.ref (m_r M a0 12), .int (m_i M a2 3), .int (m_i M (m_r M (m_r M a0 1) 0) (7 : Int32).toNatClampNeg)] M bc bs Φ) :
    Ev l G d mDa_goThrough 115 [.ref a0, .int x1, .ref a2, u3] [] M bc bs Φ := by
  refine Ev.aload_n dDa_goThrough_115 rfl ?_
  have g1 := h.1
  replace h := h.2
  refine Ev.getR dDa_goThrough_116 (Or.inl fDa_37) rfl g1 ?_
  refine Ev.aload_n dDa_goThrough_119 rfl ?_
  have g2 := h.1
  replace h := h.2
  refine Ev.getI dDa_goThrough_120 (Or.inl fDa_94) rfl g2 ?_
  refine Ev.aload_n dDa_goThrough_123 rfl ?_
  refine Ev.getR dDa_goThrough_124 (Or.inl fDa_49) rfl g1 ?_
  have g3 := h.1
  replace h := h.2
  refine Ev.getR dDa_goThrough_127 (Or.inl fDa_97) rfl g3 ?_
  refine Ev.bipush (v := 7) dDa_goThrough_130 (by decide) ?_
  have g4 := h.1
  replace h := h.2
  have g5 := h.1
  replace h := h.2
  refine Ev.iald2 dDa_goThrough_132 g4 g5 ?_
  have g6 := h.1
  replace h := h.2
  exact Ev.vcV (z := mPb_balanceAt) (ci := 5) [.int (m_i M a2 3), .int (m_i M (m_r M (m_r M a0 1) 0) (7 : Int32).toNatClampNeg)] [] rfl dDa_goThrough_133 oPb_balanceAt rfl w588 iPb_balanceAt sPb_balanceAt (by decide) rfl g6 (Nat.le_of_ble_eq_true rfl) h
theorem fDa_106 : FOK "BowingRow$Day" 106 5 5 true := ⟨RX5, TX5, nFd 5, rfl, by decide, rfl, by decide, rfl, lwg_of 281 (by decide +kernel) (by decide +kernel)⟩
theorem w593 : Cond.methodLink "BowingRow$Day" 109 ⟨"BowingRow$Call", "dueOne", "([II)I"⟩ ∈ lwg := lwg_of 593 (by decide +kernel) (by decide +kernel)
theorem bDa_goThrough_136 {l : Launch} {G : Gx} {d : Nat} {bc bs : Nat} {Φ : OutV → Mm → Prop} (M : Mm) (a0 : Nat) (x1 : Int32) (a2 : Nat) (u3 : Value)
    (h : ((m_sh M a0).1 = 1) ∧ ((m_sh M (m_r M a0 1)).1 = 3) ∧ ((m_sh M (m_r M (m_r M a0 1) 0)).1 = 20) ∧ (vp_in 2 (m_sh M (m_r M (m_r M a0 1) 0)).2) ∧ (¬ (m_i M (m_r M (m_r M a0 1) 0) (2 : Int32).toNatClampNeg) = ((-1)) → ((m_sh M (m_r M a0 12)).1 = 5) ∧ ((m_sh M a2).1 = 0) ∧ CallVC l G d mDa_goThrough 168 [.ref a0, .int x1, .ref a2, .int (m_i M (m_r M (m_r M a0 1) 0) (2 : Int32).toNatClampNeg)] [.ref a2] mCa_dueOne [.ref a2, .ref (m_r M (m_r M a0 12) 5), .int (m_i M (m_r M (m_r M a0 1) 0) (2 : Int32).toNatClampNeg)] M bc bs Φ) ∧ ((m_i M (m_r M (m_r M a0 1) 0) (2 : Int32).toNatClampNeg) = ((-1)) → Ev l G d mDa_goThrough 168 [.ref a0, .int x1, .ref a2, .int (m_i M (m_r M (m_r M a0 1) 0) (2 : Int32).toNatClampNeg)] [.int ((-1)), .ref a2] M bc bs Φ)) :
    Ev l G d mDa_goThrough 136 [.ref a0, .int x1, .ref a2, u3] [] M bc bs Φ := by
  refine Ev.aload_n dDa_goThrough_136 rfl ?_
  have g1 := h.1
  replace h := h.2
  refine Ev.getR dDa_goThrough_137 (Or.inl fDa_49) rfl g1 ?_
  have g2 := h.1
  replace h := h.2
  refine Ev.getR dDa_goThrough_140 (Or.inl fDa_97) rfl g2 ?_
  refine Ev.iconst (v := 2) dDa_goThrough_143 (by decide) ?_
  have g3 := h.1
  replace h := h.2
  have g4 := h.1
  replace h := h.2
  refine Ev.iald2 dDa_goThrough_144 g3 g4 ?_
  refine Ev.istore_n dDa_goThrough_145 (by decide) ?_
  show Ev l G d mDa_goThrough (_ + _) [.ref a0, .int x1, .ref a2, .int (m_i M (m_r M (m_r M a0 1) 0) (2 : Int32).toNatClampNeg)] [] M bc bs Φ
  refine Ev.aload_n dDa_goThrough_146 rfl ?_
  refine Ev.iload_n dDa_goThrough_147 rfl ?_
  refine Ev.iconst (v := (-1)) dDa_goThrough_148 (by decide) ?_
  refine Ev.icmp_ne 156 (by decide) dDa_goThrough_149 (fun c => ?_) (fun c => ?_)
  · replace h := h.1 c
    refine Ev.aload_n dDa_goThrough_156 rfl ?_
    refine Ev.aload_n dDa_goThrough_157 rfl ?_
    refine Ev.getR dDa_goThrough_158 (Or.inl fDa_37) rfl g1 ?_
    have g5 := h.1
    replace h := h.2
    refine Ev.getR dDa_goThrough_161 (Or.inl fDa_106) rfl g5 ?_
    refine Ev.iload_n dDa_goThrough_164 rfl ?_
    have g6 := h.1
    replace h := h.2
    exact Ev.vcV (z := mCa_dueOne) (ci := 0) [.ref (m_r M (m_r M a0 12) 5), .int (m_i M (m_r M (m_r M a0 1) 0) (2 : Int32).toNatClampNeg)] [.ref a2] rfl dDa_goThrough_165 oCa_dueOne rfl w593 iCa_dueOne sCa_dueOne (by decide) rfl g6 (Nat.le_of_ble_eq_true rfl) h
  · replace h := h.2 c
    refine Ev.iconst (v := (-1)) dDa_goThrough_152 (by decide) ?_
    refine Ev.goto 168 dDa_goThrough_153 (by decide) ?_
    exact h
theorem fDa_113 : FOK "BowingRow$Day" 113 0 5 false := ⟨RX0, TX0, nFd 0, rfl, by decide, rfl, by decide, rfl, lwg_of 321 (by decide +kernel) (by decide +kernel)⟩
theorem fDa_116 : FOK "BowingRow$Day" 116 0 7 false := ⟨RX0, TX0, nFd 0, rfl, by decide, rfl, by decide, rfl, lwg_of 327 (by decide +kernel) (by decide +kernel)⟩
theorem bDa_goThrough_168 {l : Launch} {G : Gx} {d : Nat} {bc bs : Nat} {Φ : OutV → Mm → Prop} (M : Mm) (a0 : Nat) (x1 : Int32) (a2 : Nat) (x3 : Int32) (r0 : Nat) (s1 : Int32)
    (h : ((m_sh M r0).1 = 0) ∧ ((m_sh M a2).1 = 0) ∧ ((m_i (m_si M r0 5 s1) a2 5) = ((-1)) → Ev l G d mDa_goThrough 188 [.ref a0, .int x1, .ref a2, .int x3] [] (m_si (m_si M r0 5 s1) a2 7 0) bc bs Φ) ∧ (¬ (m_i (m_si M r0 5 s1) a2 5) = ((-1)) → Ev l G d mDa_goThrough 188 [.ref a0, .int x1, .ref a2, .int x3] [] (m_si (m_si M r0 5 s1) a2 7 1) bc bs Φ)) :
    Ev l G d mDa_goThrough 168 [.ref a0, .int x1, .ref a2, .int x3] [.int s1, .ref r0] M bc bs Φ := by
  have g1 := h.1
  replace h := h.2
  refine Ev.putI dDa_goThrough_168 ⟨_, Or.inl ⟨fDa_113, (fun h => by cases h)⟩⟩ rfl ⟨rfl, rfl⟩ g1 ?_
  refine Ev.aload_n dDa_goThrough_171 rfl ?_
  refine Ev.aload_n dDa_goThrough_172 rfl ?_
  have g2 := h.1
  replace h := h.2
  refine Ev.getI dDa_goThrough_173 (Or.inl fDa_113) rfl g2 ?_
  refine Ev.iconst (v := (-1)) dDa_goThrough_176 (by decide) ?_
  refine Ev.icmp_eq 184 (by decide) dDa_goThrough_177 (fun c => ?_) (fun c => ?_)
  · replace h := h.1 c
    refine Ev.iconst (v := 0) dDa_goThrough_184 (by decide) ?_
    refine Ev.putI dDa_goThrough_185 ⟨_, Or.inl ⟨fDa_116, (fun h => by cases h)⟩⟩ rfl ⟨rfl, rfl⟩ g2 ?_
    exact h
  · replace h := h.2 c
    refine Ev.iconst (v := 1) dDa_goThrough_180 (by decide) ?_
    refine Ev.goto 185 dDa_goThrough_181 (by decide) ?_
    refine Ev.putI dDa_goThrough_185 ⟨_, Or.inl ⟨fDa_116, (fun h => by cases h)⟩⟩ rfl ⟨rfl, rfl⟩ g2 ?_
    exact h
def mDa_handAlong : MR := (⟨"BowingRow$Day", "handAlong", "(LBowingRow$Call;)V"⟩, prog_3_method_5_code, 7, none)
theorem oDa_handAlong : MOK mDa_handAlong 1 := ⟨lwg_of 600 (by decide +kernel) (by decide +kernel), lwg_of 97 (by decide +kernel) (by decide +kernel), ⟨by decide +kernel, by decide +kernel⟩, by decide +kernel, by decide⟩
theorem iDa_handAlong : Cond.instanceMethod mDa_handAlong.1 ∈ lwg := lwg_of 599 (by decide +kernel) (by decide +kernel)
theorem sDa_handAlong : Cond.selects mDa_handAlong.1.cls mDa_handAlong.1 mDa_handAlong.1 ∈ lwg := lwg_of 4 (by decide +kernel) (by decide +kernel)
theorem w597 : Cond.methodLink "BowingRow$Day" 119 ⟨"BowingRow$Day", "handAlong", "(LBowingRow$Call;)V"⟩ ∈ lwg := lwg_of 597 (by decide +kernel) (by decide +kernel)
theorem bDa_goThrough_188 {l : Launch} {G : Gx} {d : Nat} {bc bs : Nat} {Φ : OutV → Mm → Prop} (M : Mm) (a0 : Nat) (x1 : Int32) (a2 : Nat) (x3 : Int32)
    (h : ((m_sh M a2).1 = 0) ∧ (¬ (m_i M a2 7) = 0 → Ev l G d mDa_goThrough 200 [.ref a0, .int x1, .ref a2, .int x3] [] M bc bs Φ) ∧ ((m_i M a2 7) = 0 → ((m_sh M a0).1 = 1) ∧ CallVC l G d mDa_goThrough 200 [.ref a0, .int x1, .ref a2, .int x3] [] mDa_handAlong [.ref a0, .ref a2] M bc bs Φ)) :
    Ev l G d mDa_goThrough 188 [.ref a0, .int x1, .ref a2, .int x3] [] M bc bs Φ := by
  refine Ev.aload_n dDa_goThrough_188 rfl ?_
  have g1 := h.1
  replace h := h.2
  refine Ev.getI dDa_goThrough_189 (Or.inl fDa_116) rfl g1 ?_
  refine Ev.if_ne 200 (by decide) dDa_goThrough_192 (fun c => ?_) (fun c => ?_)
  · replace h := h.1 c
    exact h
  · replace h := h.2 c
    refine Ev.aload_n dDa_goThrough_195 rfl ?_
    refine Ev.aload_n dDa_goThrough_196 rfl ?_
    have g2 := h.1
    replace h := h.2
    exact Ev.vcV (z := mDa_handAlong) (ci := 1) [.ref a2] [] rfl dDa_goThrough_197 oDa_handAlong rfl w597 iDa_handAlong sDa_handAlong (by decide) rfl g2 (Nat.le_of_ble_eq_true rfl) h
def mDa_endCall : MR := (⟨"BowingRow$Day", "endCall", "(LBowingRow$Call;)V"⟩, prog_3_method_9_code, 2, none)
theorem oDa_endCall : MOK mDa_endCall 1 := ⟨lwg_of 628 (by decide +kernel) (by decide +kernel), lwg_of 97 (by decide +kernel) (by decide +kernel), ⟨by decide +kernel, by decide +kernel⟩, by decide +kernel, by decide⟩
theorem iDa_endCall : Cond.instanceMethod mDa_endCall.1 ∈ lwg := lwg_of 627 (by decide +kernel) (by decide +kernel)
theorem sDa_endCall : Cond.selects mDa_endCall.1.cls mDa_endCall.1 mDa_endCall.1 ∈ lwg := lwg_of 8 (by decide +kernel) (by decide +kernel)
theorem w625 : Cond.methodLink "BowingRow$Day" 123 ⟨"BowingRow$Day", "endCall", "(LBowingRow$Call;)V"⟩ ∈ lwg := lwg_of 625 (by decide +kernel) (by decide +kernel)
theorem bDa_goThrough_200 {l : Launch} {G : Gx} {d : Nat} {bc bs : Nat} {Φ : OutV → Mm → Prop} (M : Mm) (a0 : Nat) (x1 : Int32) (a2 : Nat) (x3 : Int32)
    (h : ((m_sh M a0).1 = 1) ∧ CallVC l G d mDa_goThrough 205 [.ref a0, .int x1, .ref a2, .int x3] [] mDa_endCall [.ref a0, .ref a2] M bc bs Φ) :
    Ev l G d mDa_goThrough 200 [.ref a0, .int x1, .ref a2, .int x3] [] M bc bs Φ := by
  refine Ev.aload_n dDa_goThrough_200 rfl ?_
  refine Ev.aload_n dDa_goThrough_201 rfl ?_
  have g1 := h.1
  replace h := h.2
  exact Ev.vcV (z := mDa_endCall) (ci := 1) [.ref a2] [] rfl dDa_goThrough_202 oDa_endCall rfl w625 iDa_endCall sDa_endCall (by decide) rfl g1 (Nat.le_of_ble_eq_true rfl) h
theorem bDa_goThrough_205 {l : Launch} {G : Gx} {d : Nat} {bc bs : Nat} {Φ : OutV → Mm → Prop} (M : Mm) (a0 : Nat) (x1 : Int32) (a2 : Nat) (x3 : Int32)
    (h : Ev l G d mDa_goThrough 43 [.ref a0, .int (x1 + 1), .ref a2, .int x3] [] M bc bs Φ) :
    Ev l G d mDa_goThrough 205 [.ref a0, .int x1, .ref a2, .int x3] [] M bc bs Φ := by
  refine Ev.iinc (v := x1 + 1) dDa_goThrough_205 (by decide) rfl rfl ?_
  show Ev l G d mDa_goThrough (_ + _) [.ref a0, .int (x1 + 1), .ref a2, .int x3] [] M bc bs Φ
  refine Ev.goto 43 dDa_goThrough_208 (by decide) ?_
  exact h
theorem bDa_goThrough_211 {l : Launch} {G : Gx} {d : Nat} {bc bs : Nat} {Φ : OutV → Mm → Prop} (M : Mm) (a0 : Nat) (x1 : Int32) (u2 : Value) (u3 : Value)
    (h : ((m_sh M a0).1 = 1) ∧ ((m_sh M (m_r M a0 1)).1 = 3) ∧ ((m_sh M (m_r M (m_r M a0 1) 0)).1 = 20) ∧ (vp_in 7 (m_sh M (m_r M (m_r M a0 1) 0)).2) ∧ ((m_sh M (m_r M a0 12)).1 = 5) ∧ CallVC l G d mDa_goThrough 232 [.ref a0, .int x1, u2, u3] [] mPb_balanceAt [.ref (m_r M a0 12), .int (m_i M a0 15), .int (m_i M (m_r M (m_r M a0 1) 0) (7 : Int32).toNatClampNeg)] M bc bs Φ) :
    Ev l G d mDa_goThrough 211 [.ref a0, .int x1, u2, u3] [] M bc bs Φ := by
  refine Ev.aload_n dDa_goThrough_211 rfl ?_
  have g1 := h.1
  replace h := h.2
  refine Ev.getR dDa_goThrough_212 (Or.inl fDa_37) rfl g1 ?_
  refine Ev.aload_n dDa_goThrough_215 rfl ?_
  refine Ev.getI dDa_goThrough_216 (Or.inl fDa_81) rfl g1 ?_
  refine Ev.aload_n dDa_goThrough_219 rfl ?_
  refine Ev.getR dDa_goThrough_220 (Or.inl fDa_49) rfl g1 ?_
  have g2 := h.1
  replace h := h.2
  refine Ev.getR dDa_goThrough_223 (Or.inl fDa_97) rfl g2 ?_
  refine Ev.bipush (v := 7) dDa_goThrough_226 (by decide) ?_
  have g3 := h.1
  replace h := h.2
  have g4 := h.1
  replace h := h.2
  refine Ev.iald2 dDa_goThrough_228 g3 g4 ?_
  have g5 := h.1
  replace h := h.2
  exact Ev.vcV (z := mPb_balanceAt) (ci := 5) [.int (m_i M a0 15), .int (m_i M (m_r M (m_r M a0 1) 0) (7 : Int32).toNatClampNeg)] [] rfl dDa_goThrough_229 oPb_balanceAt rfl w588 iPb_balanceAt sPb_balanceAt (by decide) rfl g5 (Nat.le_of_ble_eq_true rfl) h
theorem bDa_goThrough_232 {l : Launch} {G : Gx} {d : Nat} {bc bs : Nat} {Φ : OutV → Mm → Prop} (M : Mm) (a0 : Nat) (x1 : Int32) (u2 : Value) (u3 : Value)
    (h : Φ (.inl none) M) :
    Ev l G d mDa_goThrough 232 [.ref a0, .int x1, u2, u3] [] M bc bs Φ := by
  exact Ev.vret dDa_goThrough_232 rfl h
theorem dDa_openCall_0 : decode mDa_openCall.2.1 0 = .ok (.aload_n 0, 1) := by decide +kernel
theorem dDa_openCall_1 : decode mDa_openCall.2.1 1 = .ok (.getfield 49, 3) := by decide +kernel
theorem dDa_openCall_4 : decode mDa_openCall.2.1 4 = .ok (.getfield 97, 3) := by decide +kernel
theorem dDa_openCall_7 : decode mDa_openCall.2.1 7 = .ok (.iconst 5, 1) := by decide +kernel
theorem dDa_openCall_8 : decode mDa_openCall.2.1 8 = .ok (.iaload, 1) := by decide +kernel
theorem dDa_openCall_9 : decode mDa_openCall.2.1 9 = .ok (.istore_n 2, 1) := by decide +kernel
theorem dDa_openCall_10 : decode mDa_openCall.2.1 10 = .ok (.aload_n 0, 1) := by decide +kernel
theorem dDa_openCall_11 : decode mDa_openCall.2.1 11 = .ok (.getfield 81, 3) := by decide +kernel
theorem dDa_openCall_14 : decode mDa_openCall.2.1 14 = .ok (.iload_n 2, 1) := by decide +kernel
theorem dDa_openCall_15 : decode mDa_openCall.2.1 15 = .ok (.if_icmp .lt 5, 3) := by decide +kernel
theorem dDa_openCall_18 : decode mDa_openCall.2.1 18 = .ok (.iconst 0, 1) := by decide +kernel
theorem dDa_openCall_19 : decode mDa_openCall.2.1 19 = .ok (.ireturn, 1) := by decide +kernel
theorem dDa_openCall_20 : decode mDa_openCall.2.1 20 = .ok (.aload_n 1, 1) := by decide +kernel
theorem dDa_openCall_21 : decode mDa_openCall.2.1 21 = .ok (.aload_n 0, 1) := by decide +kernel
theorem dDa_openCall_22 : decode mDa_openCall.2.1 22 = .ok (.getfield 45, 3) := by decide +kernel
theorem dDa_openCall_25 : decode mDa_openCall.2.1 25 = .ok (.aload_n 0, 1) := by decide +kernel
theorem dDa_openCall_26 : decode mDa_openCall.2.1 26 = .ok (.getfield 81, 3) := by decide +kernel
theorem dDa_openCall_29 : decode mDa_openCall.2.1 29 = .ok (.aload_n 0, 1) := by decide +kernel
theorem dDa_openCall_30 : decode mDa_openCall.2.1 30 = .ok (.getfield 75, 3) := by decide +kernel
theorem dDa_openCall_33 : decode mDa_openCall.2.1 33 = .ok (.invokevirtual 126, 3) := by decide +kernel
theorem dDa_openCall_36 : decode mDa_openCall.2.1 36 = .ok (.aload_n 1, 1) := by decide +kernel
theorem dDa_openCall_37 : decode mDa_openCall.2.1 37 = .ok (.getfield 130, 3) := by decide +kernel
theorem dDa_openCall_40 : decode mDa_openCall.2.1 40 = .ok (.ifCond .ne 40, 3) := by decide +kernel
theorem dDa_openCall_43 : decode mDa_openCall.2.1 43 = .ok (.aload_n 0, 1) := by decide +kernel
theorem dDa_openCall_44 : decode mDa_openCall.2.1 44 = .ok (.getfield 45, 3) := by decide +kernel
theorem dDa_openCall_47 : decode mDa_openCall.2.1 47 = .ok (.aload_n 0, 1) := by decide +kernel
theorem dDa_openCall_48 : decode mDa_openCall.2.1 48 = .ok (.getfield 81, 3) := by decide +kernel
theorem dDa_openCall_51 : decode mDa_openCall.2.1 51 = .ok (.invokevirtual 131, 3) := by decide +kernel
theorem dDa_openCall_54 : decode mDa_openCall.2.1 54 = .ok (.istore_n 3, 1) := by decide +kernel
theorem dDa_openCall_55 : decode mDa_openCall.2.1 55 = .ok (.iload_n 3, 1) := by decide +kernel
theorem dDa_openCall_56 : decode mDa_openCall.2.1 56 = .ok (.iconst (-1), 1) := by decide +kernel
theorem dDa_openCall_57 : decode mDa_openCall.2.1 57 = .ok (.if_icmp .eq 8, 3) := by decide +kernel
theorem dDa_openCall_60 : decode mDa_openCall.2.1 60 = .ok (.iload_n 3, 1) := by decide +kernel
theorem dDa_openCall_61 : decode mDa_openCall.2.1 61 = .ok (.iload_n 2, 1) := by decide +kernel
theorem dDa_openCall_62 : decode mDa_openCall.2.1 62 = .ok (.if_icmp .lt 5, 3) := by decide +kernel
theorem dDa_openCall_65 : decode mDa_openCall.2.1 65 = .ok (.iconst 0, 1) := by decide +kernel
theorem dDa_openCall_66 : decode mDa_openCall.2.1 66 = .ok (.ireturn, 1) := by decide +kernel
theorem dDa_openCall_67 : decode mDa_openCall.2.1 67 = .ok (.aload_n 1, 1) := by decide +kernel
theorem dDa_openCall_68 : decode mDa_openCall.2.1 68 = .ok (.aload_n 0, 1) := by decide +kernel
theorem dDa_openCall_69 : decode mDa_openCall.2.1 69 = .ok (.getfield 45, 3) := by decide +kernel
theorem dDa_openCall_72 : decode mDa_openCall.2.1 72 = .ok (.iload_n 3, 1) := by decide +kernel
theorem dDa_openCall_73 : decode mDa_openCall.2.1 73 = .ok (.aload_n 0, 1) := by decide +kernel
theorem dDa_openCall_74 : decode mDa_openCall.2.1 74 = .ok (.getfield 75, 3) := by decide +kernel
theorem dDa_openCall_77 : decode mDa_openCall.2.1 77 = .ok (.invokevirtual 126, 3) := by decide +kernel
theorem dDa_openCall_80 : decode mDa_openCall.2.1 80 = .ok (.iconst 1, 1) := by decide +kernel
theorem dDa_openCall_81 : decode mDa_openCall.2.1 81 = .ok (.ireturn, 1) := by decide +kernel
theorem w578 : Cond.methodLink "BowingRow$Day" 126 ⟨"BowingRow$Call", "gather", "(LBowingRow$People;II)V"⟩ ∈ lwg := lwg_of 578 (by decide +kernel) (by decide +kernel)
theorem bDa_openCall_0 {l : Launch} {G : Gx} {d : Nat} {bc bs : Nat} {Φ : OutV → Mm → Prop} (M : Mm) (a0 : Nat) (a1 : Nat)
    (h : ((m_sh M a0).1 = 1) ∧ ((m_sh M (m_r M a0 1)).1 = 3) ∧ ((m_sh M (m_r M (m_r M a0 1) 0)).1 = 20) ∧ (vp_in 5 (m_sh M (m_r M (m_r M a0 1) 0)).2) ∧ ((m_i M a0 15) < (m_i M (m_r M (m_r M a0 1) 0) (5 : Int32).toNatClampNeg) → ((m_sh M a1).1 = 0) ∧ CallVC l G d mDa_openCall 36 [.ref a0, .ref a1, .int (m_i M (m_r M (m_r M a0 1) 0) (5 : Int32).toNatClampNeg), .null] [] mCa_gather [.ref a1, .ref (m_r M a0 0), .int (m_i M a0 15), .int (m_i M a0 13)] M bc bs Φ) ∧ (¬ (m_i M a0 15) < (m_i M (m_r M (m_r M a0 1) 0) (5 : Int32).toNatClampNeg) → Φ (.inl (some (.int 0))) M)) :
    Ev l G d mDa_openCall 0 [.ref a0, .ref a1, .null, .null] [] M bc bs Φ := by
  refine Ev.aload_n dDa_openCall_0 rfl ?_
  have g1 := h.1
  replace h := h.2
  refine Ev.getR dDa_openCall_1 (Or.inl fDa_49) rfl g1 ?_
  have g2 := h.1
  replace h := h.2
  refine Ev.getR dDa_openCall_4 (Or.inl fDa_97) rfl g2 ?_
  refine Ev.iconst (v := 5) dDa_openCall_7 (by decide) ?_
  have g3 := h.1
  replace h := h.2
  have g4 := h.1
  replace h := h.2
  refine Ev.iald2 dDa_openCall_8 g3 g4 ?_
  refine Ev.istore_n dDa_openCall_9 (by decide) ?_
  show Ev l G d mDa_openCall (_ + _) [.ref a0, .ref a1, .int (m_i M (m_r M (m_r M a0 1) 0) (5 : Int32).toNatClampNeg), .null] [] M bc bs Φ
  refine Ev.aload_n dDa_openCall_10 rfl ?_
  refine Ev.getI dDa_openCall_11 (Or.inl fDa_81) rfl g1 ?_
  refine Ev.iload_n dDa_openCall_14 rfl ?_
  refine Ev.icmp_lt 20 (by decide) dDa_openCall_15 (fun c => ?_) (fun c => ?_)
  · replace h := h.1 c
    refine Ev.aload_n dDa_openCall_20 rfl ?_
    refine Ev.aload_n dDa_openCall_21 rfl ?_
    refine Ev.getR dDa_openCall_22 (Or.inl fDa_45) rfl g1 ?_
    refine Ev.aload_n dDa_openCall_25 rfl ?_
    refine Ev.getI dDa_openCall_26 (Or.inl fDa_81) rfl g1 ?_
    refine Ev.aload_n dDa_openCall_29 rfl ?_
    refine Ev.getI dDa_openCall_30 (Or.inl fDa_75) rfl g1 ?_
    have g5 := h.1
    replace h := h.2
    exact Ev.vcV (z := mCa_gather) (ci := 0) [.ref (m_r M a0 0), .int (m_i M a0 15), .int (m_i M a0 13)] [] rfl dDa_openCall_33 oCa_gather rfl w578 iCa_gather sCa_gather (by decide) rfl g5 (Nat.le_of_ble_eq_true rfl) h
  · replace h := h.2 c
    refine Ev.iconst (v := 0) dDa_openCall_18 (by decide) ?_
    exact Ev.iret dDa_openCall_19 rfl rfl h
theorem fDa_130 : FOK "BowingRow$Day" 130 0 1 false := ⟨RX0, TX0, nFd 0, rfl, by decide, rfl, by decide, rfl, lwg_of 310 (by decide +kernel) (by decide +kernel)⟩
theorem w583 : Cond.methodLink "BowingRow$Day" 131 ⟨"BowingRow$People", "nextMinute", "(I)I"⟩ ∈ lwg := lwg_of 583 (by decide +kernel) (by decide +kernel)
theorem bDa_openCall_36 {l : Launch} {G : Gx} {d : Nat} {bc bs : Nat} {Φ : OutV → Mm → Prop} (M : Mm) (a0 : Nat) (a1 : Nat) (x2 : Int32) (u3 : Value)
    (h : ((m_sh M a1).1 = 0) ∧ (¬ (m_i M a1 1) = 0 → Φ (.inl (some (.int 1))) M) ∧ ((m_i M a1 1) = 0 → ((m_sh M a0).1 = 1) ∧ ((m_sh M (m_r M a0 0)).1 = 6) ∧ CallVC l G d mDa_openCall 54 [.ref a0, .ref a1, .int x2, u3] [] mPe_nextMinute [.ref (m_r M a0 0), .int (m_i M a0 15)] M bc bs Φ)) :
    Ev l G d mDa_openCall 36 [.ref a0, .ref a1, .int x2, u3] [] M bc bs Φ := by
  refine Ev.aload_n dDa_openCall_36 rfl ?_
  have g1 := h.1
  replace h := h.2
  refine Ev.getI dDa_openCall_37 (Or.inl fDa_130) rfl g1 ?_
  refine Ev.if_ne 80 (by decide) dDa_openCall_40 (fun c => ?_) (fun c => ?_)
  · replace h := h.1 c
    refine Ev.iconst (v := 1) dDa_openCall_80 (by decide) ?_
    exact Ev.iret dDa_openCall_81 rfl rfl h
  · replace h := h.2 c
    refine Ev.aload_n dDa_openCall_43 rfl ?_
    have g2 := h.1
    replace h := h.2
    refine Ev.getR dDa_openCall_44 (Or.inl fDa_45) rfl g2 ?_
    refine Ev.aload_n dDa_openCall_47 rfl ?_
    refine Ev.getI dDa_openCall_48 (Or.inl fDa_81) rfl g2 ?_
    have g3 := h.1
    replace h := h.2
    exact Ev.vcV (z := mPe_nextMinute) (ci := 6) [.int (m_i M a0 15)] [] rfl dDa_openCall_51 oPe_nextMinute rfl w583 iPe_nextMinute sPe_nextMinute (by decide) rfl g3 (Nat.le_of_ble_eq_true rfl) h
theorem bDa_openCall_54 {l : Launch} {G : Gx} {d : Nat} {bc bs : Nat} {Φ : OutV → Mm → Prop} (M : Mm) (a0 : Nat) (a1 : Nat) (x2 : Int32) (u3 : Value) (s0 : Int32)
    (h : (s0 = ((-1)) → Φ (.inl (some (.int 0))) M) ∧ (¬ s0 = ((-1)) → (s0 < x2 → ((m_sh M a0).1 = 1) ∧ ((m_sh M a1).1 = 0) ∧ CallVC l G d mDa_openCall 80 [.ref a0, .ref a1, .int x2, .int s0] [] mCa_gather [.ref a1, .ref (m_r M a0 0), .int s0, .int (m_i M a0 13)] M bc bs Φ) ∧ (¬ s0 < x2 → Φ (.inl (some (.int 0))) M))) :
    Ev l G d mDa_openCall 54 [.ref a0, .ref a1, .int x2, u3] [.int s0] M bc bs Φ := by
  refine Ev.istore_n dDa_openCall_54 (by decide) ?_
  show Ev l G d mDa_openCall (_ + _) [.ref a0, .ref a1, .int x2, .int s0] [] M bc bs Φ
  refine Ev.iload_n dDa_openCall_55 rfl ?_
  refine Ev.iconst (v := (-1)) dDa_openCall_56 (by decide) ?_
  refine Ev.icmp_eq 65 (by decide) dDa_openCall_57 (fun c => ?_) (fun c => ?_)
  · replace h := h.1 c
    refine Ev.iconst (v := 0) dDa_openCall_65 (by decide) ?_
    exact Ev.iret dDa_openCall_66 rfl rfl h
  · replace h := h.2 c
    refine Ev.iload_n dDa_openCall_60 rfl ?_
    refine Ev.iload_n dDa_openCall_61 rfl ?_
    refine Ev.icmp_lt 67 (by decide) dDa_openCall_62 (fun c => ?_) (fun c => ?_)
    · replace h := h.1 c
      refine Ev.aload_n dDa_openCall_67 rfl ?_
      refine Ev.aload_n dDa_openCall_68 rfl ?_
      have g1 := h.1
      replace h := h.2
      refine Ev.getR dDa_openCall_69 (Or.inl fDa_45) rfl g1 ?_
      refine Ev.iload_n dDa_openCall_72 rfl ?_
      refine Ev.aload_n dDa_openCall_73 rfl ?_
      refine Ev.getI dDa_openCall_74 (Or.inl fDa_75) rfl g1 ?_
      have g2 := h.1
      replace h := h.2
      exact Ev.vcV (z := mCa_gather) (ci := 0) [.ref (m_r M a0 0), .int s0, .int (m_i M a0 13)] [] rfl dDa_openCall_77 oCa_gather rfl w578 iCa_gather sCa_gather (by decide) rfl g2 (Nat.le_of_ble_eq_true rfl) h
    · replace h := h.2 c
      refine Ev.iconst (v := 0) dDa_openCall_65 (by decide) ?_
      exact Ev.iret dDa_openCall_66 rfl rfl h
theorem bDa_openCall_80 {l : Launch} {G : Gx} {d : Nat} {bc bs : Nat} {Φ : OutV → Mm → Prop} (M : Mm) (a0 : Nat) (a1 : Nat) (x2 : Int32) (u3 : Value)
    (h : Φ (.inl (some (.int 1))) M) :
    Ev l G d mDa_openCall 80 [.ref a0, .ref a1, .int x2, u3] [] M bc bs Φ := by
  refine Ev.iconst (v := 1) dDa_openCall_80 (by decide) ?_
  exact Ev.iret dDa_openCall_81 rfl rfl h
theorem dDa_handAlong_0 : decode mDa_handAlong.2.1 0 = .ok (.aload_n 0, 1) := by decide +kernel
theorem dDa_handAlong_1 : decode mDa_handAlong.2.1 1 = .ok (.getfield 49, 3) := by decide +kernel
theorem dDa_handAlong_4 : decode mDa_handAlong.2.1 4 = .ok (.getfield 97, 3) := by decide +kernel
theorem dDa_handAlong_7 : decode mDa_handAlong.2.1 7 = .ok (.iconst 3, 1) := by decide +kernel
theorem dDa_handAlong_8 : decode mDa_handAlong.2.1 8 = .ok (.iaload, 1) := by decide +kernel
theorem dDa_handAlong_9 : decode mDa_handAlong.2.1 9 = .ok (.istore_n 2, 1) := by decide +kernel
theorem dDa_handAlong_10 : decode mDa_handAlong.2.1 10 = .ok (.iload_n 2, 1) := by decide +kernel
theorem dDa_handAlong_11 : decode mDa_handAlong.2.1 11 = .ok (.iconst (-1), 1) := by decide +kernel
theorem dDa_handAlong_12 : decode mDa_handAlong.2.1 12 = .ok (.if_icmp .ne 7, 3) := by decide +kernel
theorem dDa_handAlong_15 : decode mDa_handAlong.2.1 15 = .ok (.iconst 1, 1) := by decide +kernel
theorem dDa_handAlong_16 : decode mDa_handAlong.2.1 16 = .ok (.goto 6, 3) := by decide +kernel
theorem dDa_handAlong_19 : decode mDa_handAlong.2.1 19 = .ok (.iload_n 2, 1) := by decide +kernel
theorem dDa_handAlong_20 : decode mDa_handAlong.2.1 20 = .ok (.iconst 1, 1) := by decide +kernel
theorem dDa_handAlong_21 : decode mDa_handAlong.2.1 21 = .ok (.iadd, 1) := by decide +kernel
theorem dDa_handAlong_22 : decode mDa_handAlong.2.1 22 = .ok (.istore_n 3, 1) := by decide +kernel
theorem dDa_handAlong_23 : decode mDa_handAlong.2.1 23 = .ok (.iload_n 2, 1) := by decide +kernel
theorem dDa_handAlong_24 : decode mDa_handAlong.2.1 24 = .ok (.iconst (-1), 1) := by decide +kernel
theorem dDa_handAlong_25 : decode mDa_handAlong.2.1 25 = .ok (.if_icmp .eq 11, 3) := by decide +kernel
theorem dDa_handAlong_28 : decode mDa_handAlong.2.1 28 = .ok (.aload_n 0, 1) := by decide +kernel
theorem dDa_handAlong_29 : decode mDa_handAlong.2.1 29 = .ok (.getfield 15, 3) := by decide +kernel
theorem dDa_handAlong_32 : decode mDa_handAlong.2.1 32 = .ok (.iconst (-1), 1) := by decide +kernel
theorem dDa_handAlong_33 : decode mDa_handAlong.2.1 33 = .ok (.if_icmp .eq 7, 3) := by decide +kernel
theorem dDa_handAlong_36 : decode mDa_handAlong.2.1 36 = .ok (.iconst 1, 1) := by decide +kernel
theorem dDa_handAlong_37 : decode mDa_handAlong.2.1 37 = .ok (.goto 4, 3) := by decide +kernel
theorem dDa_handAlong_40 : decode mDa_handAlong.2.1 40 = .ok (.iload_n 2, 1) := by decide +kernel
theorem dDa_handAlong_41 : decode mDa_handAlong.2.1 41 = .ok (.istore 4, 2) := by decide +kernel
theorem dDa_handAlong_43 : decode mDa_handAlong.2.1 43 = .ok (.iconst 0, 1) := by decide +kernel
theorem dDa_handAlong_44 : decode mDa_handAlong.2.1 44 = .ok (.istore 5, 2) := by decide +kernel
theorem dDa_handAlong_46 : decode mDa_handAlong.2.1 46 = .ok (.iload 5, 2) := by decide +kernel
theorem dDa_handAlong_48 : decode mDa_handAlong.2.1 48 = .ok (.iload_n 3, 1) := by decide +kernel
theorem dDa_handAlong_49 : decode mDa_handAlong.2.1 49 = .ok (.if_icmp .ge 69, 3) := by decide +kernel
theorem dDa_handAlong_52 : decode mDa_handAlong.2.1 52 = .ok (.iconst 0, 1) := by decide +kernel
theorem dDa_handAlong_53 : decode mDa_handAlong.2.1 53 = .ok (.istore 6, 2) := by decide +kernel
theorem dDa_handAlong_55 : decode mDa_handAlong.2.1 55 = .ok (.iload 6, 2) := by decide +kernel
theorem dDa_handAlong_57 : decode mDa_handAlong.2.1 57 = .ok (.aload_n 1, 1) := by decide +kernel
theorem dDa_handAlong_58 : decode mDa_handAlong.2.1 58 = .ok (.getfield 130, 3) := by decide +kernel
theorem dDa_handAlong_61 : decode mDa_handAlong.2.1 61 = .ok (.if_icmp .ge 47, 3) := by decide +kernel
theorem dDa_handAlong_64 : decode mDa_handAlong.2.1 64 = .ok (.aload_n 0, 1) := by decide +kernel
theorem dDa_handAlong_65 : decode mDa_handAlong.2.1 65 = .ok (.aload_n 1, 1) := by decide +kernel
theorem dDa_handAlong_66 : decode mDa_handAlong.2.1 66 = .ok (.iload 6, 2) := by decide +kernel
theorem dDa_handAlong_68 : decode mDa_handAlong.2.1 68 = .ok (.iload 5, 2) := by decide +kernel
theorem dDa_handAlong_70 : decode mDa_handAlong.2.1 70 = .ok (.invokevirtual 135, 3) := by decide +kernel
theorem dDa_handAlong_73 : decode mDa_handAlong.2.1 73 = .ok (.ifCond .ne 29, 3) := by decide +kernel
theorem dDa_handAlong_76 : decode mDa_handAlong.2.1 76 = .ok (.aload_n 1, 1) := by decide +kernel
theorem dDa_handAlong_77 : decode mDa_handAlong.2.1 77 = .ok (.aload_n 1, 1) := by decide +kernel
theorem dDa_handAlong_78 : decode mDa_handAlong.2.1 78 = .ok (.getfield 139, 3) := by decide +kernel
theorem dDa_handAlong_81 : decode mDa_handAlong.2.1 81 = .ok (.iload 6, 2) := by decide +kernel
theorem dDa_handAlong_83 : decode mDa_handAlong.2.1 83 = .ok (.iaload, 1) := by decide +kernel
theorem dDa_handAlong_84 : decode mDa_handAlong.2.1 84 = .ok (.putfield 113, 3) := by decide +kernel
theorem dDa_handAlong_87 : decode mDa_handAlong.2.1 87 = .ok (.aload_n 1, 1) := by decide +kernel
theorem dDa_handAlong_88 : decode mDa_handAlong.2.1 88 = .ok (.iload 5, 2) := by decide +kernel
theorem dDa_handAlong_90 : decode mDa_handAlong.2.1 90 = .ok (.aload_n 1, 1) := by decide +kernel
theorem dDa_handAlong_91 : decode mDa_handAlong.2.1 91 = .ok (.getfield 130, 3) := by decide +kernel
theorem dDa_handAlong_94 : decode mDa_handAlong.2.1 94 = .ok (.imul, 1) := by decide +kernel
theorem dDa_handAlong_95 : decode mDa_handAlong.2.1 95 = .ok (.iload 6, 2) := by decide +kernel
theorem dDa_handAlong_97 : decode mDa_handAlong.2.1 97 = .ok (.iadd, 1) := by decide +kernel
theorem dDa_handAlong_98 : decode mDa_handAlong.2.1 98 = .ok (.putfield 142, 3) := by decide +kernel
theorem dDa_handAlong_101 : decode mDa_handAlong.2.1 101 = .ok (.return_, 1) := by decide +kernel
theorem dDa_handAlong_102 : decode mDa_handAlong.2.1 102 = .ok (.iinc 6 1, 3) := by decide +kernel
theorem dDa_handAlong_105 : decode mDa_handAlong.2.1 105 = .ok (.goto (-50), 3) := by decide +kernel
theorem dDa_handAlong_108 : decode mDa_handAlong.2.1 108 = .ok (.iload 5, 2) := by decide +kernel
theorem dDa_handAlong_110 : decode mDa_handAlong.2.1 110 = .ok (.iload 4, 2) := by decide +kernel
theorem dDa_handAlong_112 : decode mDa_handAlong.2.1 112 = .ok (.iadd, 1) := by decide +kernel
theorem dDa_handAlong_113 : decode mDa_handAlong.2.1 113 = .ok (.istore 5, 2) := by decide +kernel
theorem dDa_handAlong_115 : decode mDa_handAlong.2.1 115 = .ok (.goto (-69), 3) := by decide +kernel
theorem dDa_handAlong_118 : decode mDa_handAlong.2.1 118 = .ok (.aload_n 1, 1) := by decide +kernel
theorem dDa_handAlong_119 : decode mDa_handAlong.2.1 119 = .ok (.aload_n 1, 1) := by decide +kernel
theorem dDa_handAlong_120 : decode mDa_handAlong.2.1 120 = .ok (.getfield 130, 3) := by decide +kernel
theorem dDa_handAlong_123 : decode mDa_handAlong.2.1 123 = .ok (.putfield 142, 3) := by decide +kernel
theorem dDa_handAlong_126 : decode mDa_handAlong.2.1 126 = .ok (.aload_n 0, 1) := by decide +kernel
theorem dDa_handAlong_127 : decode mDa_handAlong.2.1 127 = .ok (.iconst 1, 1) := by decide +kernel
theorem dDa_handAlong_128 : decode mDa_handAlong.2.1 128 = .ok (.putfield 78, 3) := by decide +kernel
theorem dDa_handAlong_131 : decode mDa_handAlong.2.1 131 = .ok (.return_, 1) := by decide +kernel
theorem bDa_handAlong_0 {l : Launch} {G : Gx} {d : Nat} {bc bs : Nat} {Φ : OutV → Mm → Prop} (M : Mm) (a0 : Nat) (a1 : Nat)
    (h : ((m_sh M a0).1 = 1) ∧ ((m_sh M (m_r M a0 1)).1 = 3) ∧ ((m_sh M (m_r M (m_r M a0 1) 0)).1 = 20) ∧ (vp_in 3 (m_sh M (m_r M (m_r M a0 1) 0)).2) ∧ (¬ (m_i M (m_r M (m_r M a0 1) 0) (3 : Int32).toNatClampNeg) = ((-1)) → ((m_i M (m_r M (m_r M a0 1) 0) (3 : Int32).toNatClampNeg) = ((-1)) → Ev l G d mDa_handAlong 36 [.ref a0, .ref a1, .int (m_i M (m_r M (m_r M a0 1) 0) (3 : Int32).toNatClampNeg), .int ((m_i M (m_r M (m_r M a0 1) 0) (3 : Int32).toNatClampNeg) + 1), .null, .null, .null] [] M bc bs Φ) ∧ (¬ (m_i M (m_r M (m_r M a0 1) 0) (3 : Int32).toNatClampNeg) = ((-1)) → ((m_i M a0 3) = ((-1)) → Ev l G d mDa_handAlong 46 [.ref a0, .ref a1, .int (m_i M (m_r M (m_r M a0 1) 0) (3 : Int32).toNatClampNeg), .int ((m_i M (m_r M (m_r M a0 1) 0) (3 : Int32).toNatClampNeg) + 1), .int (m_i M (m_r M (m_r M a0 1) 0) (3 : Int32).toNatClampNeg), .int 0, .null] [] M bc bs Φ) ∧ (¬ (m_i M a0 3) = ((-1)) → Ev l G d mDa_handAlong 36 [.ref a0, .ref a1, .int (m_i M (m_r M (m_r M a0 1) 0) (3 : Int32).toNatClampNeg), .int ((m_i M (m_r M (m_r M a0 1) 0) (3 : Int32).toNatClampNeg) + 1), .null, .null, .null] [] M bc bs Φ))) ∧ ((m_i M (m_r M (m_r M a0 1) 0) (3 : Int32).toNatClampNeg) = ((-1)) → ((m_i M (m_r M (m_r M a0 1) 0) (3 : Int32).toNatClampNeg) = ((-1)) → Ev l G d mDa_handAlong 36 [.ref a0, .ref a1, .int (m_i M (m_r M (m_r M a0 1) 0) (3 : Int32).toNatClampNeg), .int 1, .null, .null, .null] [] M bc bs Φ) ∧ (¬ (m_i M (m_r M (m_r M a0 1) 0) (3 : Int32).toNatClampNeg) = ((-1)) → ((m_i M a0 3) = ((-1)) → Ev l G d mDa_handAlong 46 [.ref a0, .ref a1, .int (m_i M (m_r M (m_r M a0 1) 0) (3 : Int32).toNatClampNeg), .int 1, .int (m_i M (m_r M (m_r M a0 1) 0) (3 : Int32).toNatClampNeg), .int 0, .null] [] M bc bs Φ) ∧ (¬ (m_i M a0 3) = ((-1)) → Ev l G d mDa_handAlong 36 [.ref a0, .ref a1, .int (m_i M (m_r M (m_r M a0 1) 0) (3 : Int32).toNatClampNeg), .int 1, .null, .null, .null] [] M bc bs Φ)))) :
    Ev l G d mDa_handAlong 0 [.ref a0, .ref a1, .null, .null, .null, .null, .null] [] M bc bs Φ := by
  refine Ev.aload_n dDa_handAlong_0 rfl ?_
  have g1 := h.1
  replace h := h.2
  refine Ev.getR dDa_handAlong_1 (Or.inl fDa_49) rfl g1 ?_
  have g2 := h.1
  replace h := h.2
  refine Ev.getR dDa_handAlong_4 (Or.inl fDa_97) rfl g2 ?_
  refine Ev.iconst (v := 3) dDa_handAlong_7 (by decide) ?_
  have g3 := h.1
  replace h := h.2
  have g4 := h.1
  replace h := h.2
  refine Ev.iald2 dDa_handAlong_8 g3 g4 ?_
  refine Ev.istore_n dDa_handAlong_9 (by decide) ?_
  show Ev l G d mDa_handAlong (_ + _) [.ref a0, .ref a1, .int (m_i M (m_r M (m_r M a0 1) 0) (3 : Int32).toNatClampNeg), .null, .null, .null, .null] [] M bc bs Φ
  refine Ev.iload_n dDa_handAlong_10 rfl ?_
  refine Ev.iconst (v := (-1)) dDa_handAlong_11 (by decide) ?_
  refine Ev.icmp_ne 19 (by decide) dDa_handAlong_12 (fun c => ?_) (fun c => ?_)
  · replace h := h.1 c
    refine Ev.iload_n dDa_handAlong_19 rfl ?_
    refine Ev.iconst (v := 1) dDa_handAlong_20 (by decide) ?_
    refine Ev.iadd dDa_handAlong_21 ?_
    refine Ev.istore_n dDa_handAlong_22 (by decide) ?_
    show Ev l G d mDa_handAlong (_ + _) [.ref a0, .ref a1, .int (m_i M (m_r M (m_r M a0 1) 0) (3 : Int32).toNatClampNeg), .int ((m_i M (m_r M (m_r M a0 1) 0) (3 : Int32).toNatClampNeg) + 1), .null, .null, .null] [] M bc bs Φ
    refine Ev.iload_n dDa_handAlong_23 rfl ?_
    refine Ev.iconst (v := (-1)) dDa_handAlong_24 (by decide) ?_
    refine Ev.icmp_eq 36 (by decide) dDa_handAlong_25 (fun c => ?_) (fun c => ?_)
    · replace h := h.1 c
      exact h
    · replace h := h.2 c
      refine Ev.aload_n dDa_handAlong_28 rfl ?_
      refine Ev.getI dDa_handAlong_29 (Or.inl fDa_15) rfl g1 ?_
      refine Ev.iconst (v := (-1)) dDa_handAlong_32 (by decide) ?_
      refine Ev.icmp_eq 40 (by decide) dDa_handAlong_33 (fun c => ?_) (fun c => ?_)
      · replace h := h.1 c
        refine Ev.iload_n dDa_handAlong_40 rfl ?_
        refine Ev.istore dDa_handAlong_41 (by decide) ?_
        show Ev l G d mDa_handAlong (_ + _) [.ref a0, .ref a1, .int (m_i M (m_r M (m_r M a0 1) 0) (3 : Int32).toNatClampNeg), .int ((m_i M (m_r M (m_r M a0 1) 0) (3 : Int32).toNatClampNeg) + 1), .int (m_i M (m_r M (m_r M a0 1) 0) (3 : Int32).toNatClampNeg), .null, .null] [] M bc bs Φ
        refine Ev.iconst (v := 0) dDa_handAlong_43 (by decide) ?_
        refine Ev.istore dDa_handAlong_44 (by decide) ?_
        show Ev l G d mDa_handAlong (_ + _) [.ref a0, .ref a1, .int (m_i M (m_r M (m_r M a0 1) 0) (3 : Int32).toNatClampNeg), .int ((m_i M (m_r M (m_r M a0 1) 0) (3 : Int32).toNatClampNeg) + 1), .int (m_i M (m_r M (m_r M a0 1) 0) (3 : Int32).toNatClampNeg), .int 0, .null] [] M bc bs Φ
        exact h
      · replace h := h.2 c
        exact h
  · replace h := h.2 c
    refine Ev.iconst (v := 1) dDa_handAlong_15 (by decide) ?_
    refine Ev.goto 22 dDa_handAlong_16 (by decide) ?_
    refine Ev.istore_n dDa_handAlong_22 (by decide) ?_
    show Ev l G d mDa_handAlong (_ + _) [.ref a0, .ref a1, .int (m_i M (m_r M (m_r M a0 1) 0) (3 : Int32).toNatClampNeg), .int 1, .null, .null, .null] [] M bc bs Φ
    refine Ev.iload_n dDa_handAlong_23 rfl ?_
    refine Ev.iconst (v := (-1)) dDa_handAlong_24 (by decide) ?_
    refine Ev.icmp_eq 36 (by decide) dDa_handAlong_25 (fun c => ?_) (fun c => ?_)
    · replace h := h.1 c
      exact h
    · replace h := h.2 c
      refine Ev.aload_n dDa_handAlong_28 rfl ?_
      refine Ev.getI dDa_handAlong_29 (Or.inl fDa_15) rfl g1 ?_
      refine Ev.iconst (v := (-1)) dDa_handAlong_32 (by decide) ?_
      refine Ev.icmp_eq 40 (by decide) dDa_handAlong_33 (fun c => ?_) (fun c => ?_)
      · replace h := h.1 c
        refine Ev.iload_n dDa_handAlong_40 rfl ?_
        refine Ev.istore dDa_handAlong_41 (by decide) ?_
        show Ev l G d mDa_handAlong (_ + _) [.ref a0, .ref a1, .int (m_i M (m_r M (m_r M a0 1) 0) (3 : Int32).toNatClampNeg), .int 1, .int (m_i M (m_r M (m_r M a0 1) 0) (3 : Int32).toNatClampNeg), .null, .null] [] M bc bs Φ
        refine Ev.iconst (v := 0) dDa_handAlong_43 (by decide) ?_
        refine Ev.istore dDa_handAlong_44 (by decide) ?_
        show Ev l G d mDa_handAlong (_ + _) [.ref a0, .ref a1, .int (m_i M (m_r M (m_r M a0 1) 0) (3 : Int32).toNatClampNeg), .int 1, .int (m_i M (m_r M (m_r M a0 1) 0) (3 : Int32).toNatClampNeg), .int 0, .null] [] M bc bs Φ
        exact h
      · replace h := h.2 c
        exact h
theorem bDa_handAlong_36 {l : Launch} {G : Gx} {d : Nat} {bc bs : Nat} {Φ : OutV → Mm → Prop} (M : Mm) (a0 : Nat) (a1 : Nat) (x2 : Int32) (x3 : Int32) (u4 : Value) (u5 : Value) (u6 : Value)
    (h : Ev l G d mDa_handAlong 46 [.ref a0, .ref a1, .int x2, .int x3, .int 1, .int 0, u6] [] M bc bs Φ) :
    Ev l G d mDa_handAlong 36 [.ref a0, .ref a1, .int x2, .int x3, u4, u5, u6] [] M bc bs Φ := by
  refine Ev.iconst (v := 1) dDa_handAlong_36 (by decide) ?_
  refine Ev.goto 41 dDa_handAlong_37 (by decide) ?_
  refine Ev.istore dDa_handAlong_41 (by decide) ?_
  show Ev l G d mDa_handAlong (_ + _) [.ref a0, .ref a1, .int x2, .int x3, .int 1, u5, u6] [] M bc bs Φ
  refine Ev.iconst (v := 0) dDa_handAlong_43 (by decide) ?_
  refine Ev.istore dDa_handAlong_44 (by decide) ?_
  show Ev l G d mDa_handAlong (_ + _) [.ref a0, .ref a1, .int x2, .int x3, .int 1, .int 0, u6] [] M bc bs Φ
  exact h
theorem fDa_142 : FOK "BowingRow$Day" 142 0 4 false := ⟨RX0, TX0, nFd 0, rfl, by decide, rfl, by decide, rfl, lwg_of 318 (by decide +kernel) (by decide +kernel)⟩
theorem bDa_handAlong_46 {l : Launch} {G : Gx} {d : Nat} {bc bs : Nat} {Φ : OutV → Mm → Prop} (M : Mm) (a0 : Nat) (a1 : Nat) (x2 : Int32) (x3 : Int32) (x4 : Int32) (x5 : Int32) (u6 : Value)
    (h : (x3 ≤ x5 → ((m_sh M a1).1 = 0) ∧ ((m_sh M a0).1 = 1) ∧ Φ (.inl none) (m_si (m_si M a1 4 (m_i M a1 1)) a0 14 1)) ∧ (¬ x3 ≤ x5 → Ev l G d mDa_handAlong 55 [.ref a0, .ref a1, .int x2, .int x3, .int x4, .int x5, .int 0] [] M bc bs Φ)) :
    Ev l G d mDa_handAlong 46 [.ref a0, .ref a1, .int x2, .int x3, .int x4, .int x5, u6] [] M bc bs Φ := by
  refine Ev.iload dDa_handAlong_46 rfl ?_
  refine Ev.iload_n dDa_handAlong_48 rfl ?_
  refine Ev.icmp_ge 118 (by decide) dDa_handAlong_49 (fun c => ?_) (fun c => ?_)
  · replace h := h.1 c
    refine Ev.aload_n dDa_handAlong_118 rfl ?_
    refine Ev.aload_n dDa_handAlong_119 rfl ?_
    have g1 := h.1
    replace h := h.2
    refine Ev.getI dDa_handAlong_120 (Or.inl fDa_130) rfl g1 ?_
    refine Ev.putI dDa_handAlong_123 ⟨_, Or.inl ⟨fDa_142, (fun h => by cases h)⟩⟩ rfl ⟨rfl, rfl⟩ g1 ?_
    refine Ev.aload_n dDa_handAlong_126 rfl ?_
    refine Ev.iconst (v := 1) dDa_handAlong_127 (by decide) ?_
    have g2 := h.1
    replace h := h.2
    refine Ev.putI dDa_handAlong_128 ⟨_, Or.inl ⟨fDa_78, (fun h => by cases h)⟩⟩ rfl ⟨rfl, rfl⟩ g2 ?_
    exact Ev.vret dDa_handAlong_131 rfl h
  · replace h := h.2 c
    refine Ev.iconst (v := 0) dDa_handAlong_52 (by decide) ?_
    refine Ev.istore dDa_handAlong_53 (by decide) ?_
    show Ev l G d mDa_handAlong (_ + _) [.ref a0, .ref a1, .int x2, .int x3, .int x4, .int x5, .int 0] [] M bc bs Φ
    exact h
def mDa_offersPlace : MR := (⟨"BowingRow$Day", "offersPlace", "(LBowingRow$Call;II)Z"⟩, prog_3_method_6_code, 8, (Option.some .boolean))
theorem oDa_offersPlace : MOK mDa_offersPlace 3 := ⟨lwg_of 604 (by decide +kernel) (by decide +kernel), lwg_of 97 (by decide +kernel) (by decide +kernel), ⟨by decide +kernel, by decide +kernel⟩, by decide +kernel, by decide⟩
theorem iDa_offersPlace : Cond.instanceMethod mDa_offersPlace.1 ∈ lwg := lwg_of 603 (by decide +kernel) (by decide +kernel)
theorem sDa_offersPlace : Cond.selects mDa_offersPlace.1.cls mDa_offersPlace.1 mDa_offersPlace.1 ∈ lwg := lwg_of 5 (by decide +kernel) (by decide +kernel)
theorem w601 : Cond.methodLink "BowingRow$Day" 135 ⟨"BowingRow$Day", "offersPlace", "(LBowingRow$Call;II)Z"⟩ ∈ lwg := lwg_of 601 (by decide +kernel) (by decide +kernel)
theorem bDa_handAlong_55 {l : Launch} {G : Gx} {d : Nat} {bc bs : Nat} {Φ : OutV → Mm → Prop} (M : Mm) (a0 : Nat) (a1 : Nat) (x2 : Int32) (x3 : Int32) (x4 : Int32) (x5 : Int32) (x6 : Int32)
    (h : ((m_sh M a1).1 = 0) ∧ ((m_i M a1 1) ≤ x6 → Ev l G d mDa_handAlong 46 [.ref a0, .ref a1, .int x2, .int x3, .int x4, .int (x5 + x4), .int x6] [] M bc bs Φ) ∧ (¬ (m_i M a1 1) ≤ x6 → ((m_sh M a0).1 = 1) ∧ CallVC l G d mDa_handAlong 73 [.ref a0, .ref a1, .int x2, .int x3, .int x4, .int x5, .int x6] [] mDa_offersPlace [.ref a0, .ref a1, .int x6, .int x5] M bc bs Φ)) :
    Ev l G d mDa_handAlong 55 [.ref a0, .ref a1, .int x2, .int x3, .int x4, .int x5, .int x6] [] M bc bs Φ := by
  refine Ev.iload dDa_handAlong_55 rfl ?_
  refine Ev.aload_n dDa_handAlong_57 rfl ?_
  have g1 := h.1
  replace h := h.2
  refine Ev.getI dDa_handAlong_58 (Or.inl fDa_130) rfl g1 ?_
  refine Ev.icmp_ge 108 (by decide) dDa_handAlong_61 (fun c => ?_) (fun c => ?_)
  · replace h := h.1 c
    refine Ev.iload dDa_handAlong_108 rfl ?_
    refine Ev.iload dDa_handAlong_110 rfl ?_
    refine Ev.iadd dDa_handAlong_112 ?_
    refine Ev.istore dDa_handAlong_113 (by decide) ?_
    show Ev l G d mDa_handAlong (_ + _) [.ref a0, .ref a1, .int x2, .int x3, .int x4, .int (x5 + x4), .int x6] [] M bc bs Φ
    refine Ev.goto 46 dDa_handAlong_115 (by decide) ?_
    exact h
  · replace h := h.2 c
    refine Ev.aload_n dDa_handAlong_64 rfl ?_
    refine Ev.aload_n dDa_handAlong_65 rfl ?_
    refine Ev.iload dDa_handAlong_66 rfl ?_
    refine Ev.iload dDa_handAlong_68 rfl ?_
    have g2 := h.1
    replace h := h.2
    exact Ev.vcV (z := mDa_offersPlace) (ci := 1) [.ref a1, .int x6, .int x5] [] rfl dDa_handAlong_70 oDa_offersPlace rfl w601 iDa_offersPlace sDa_offersPlace (by decide) rfl g2 (Nat.le_of_ble_eq_true rfl) h
theorem fDa_139 : FOK "BowingRow$Day" 139 0 0 true := ⟨RX0, TX0, nFd 0, rfl, by decide, rfl, by decide, rfl, lwg_of 307 (by decide +kernel) (by decide +kernel)⟩
theorem bDa_handAlong_73 {l : Launch} {G : Gx} {d : Nat} {bc bs : Nat} {Φ : OutV → Mm → Prop} (M : Mm) (a0 : Nat) (a1 : Nat) (x2 : Int32) (x3 : Int32) (x4 : Int32) (x5 : Int32) (x6 : Int32) (s0 : Int32)
    (h : (¬ s0 = 0 → Ev l G d mDa_handAlong 55 [.ref a0, .ref a1, .int x2, .int x3, .int x4, .int x5, .int (x6 + 1)] [] M bc bs Φ) ∧ (s0 = 0 → ((m_sh M a1).1 = 0) ∧ ((m_sh M (m_r M a1 0)).1 = 20) ∧ (vp_in x6 (m_sh M (m_r M a1 0)).2) ∧ Φ (.inl none) (m_si (m_si M a1 5 (m_i M (m_r M a1 0) x6.toNatClampNeg)) a1 4 ((x5 * (m_i (m_si M a1 5 (m_i M (m_r M a1 0) x6.toNatClampNeg)) a1 1)) + x6)))) :
    Ev l G d mDa_handAlong 73 [.ref a0, .ref a1, .int x2, .int x3, .int x4, .int x5, .int x6] [.int s0] M bc bs Φ := by
  refine Ev.if_ne 102 (by decide) dDa_handAlong_73 (fun c => ?_) (fun c => ?_)
  · replace h := h.1 c
    refine Ev.iinc (v := x6 + 1) dDa_handAlong_102 (by decide) rfl rfl ?_
    show Ev l G d mDa_handAlong (_ + _) [.ref a0, .ref a1, .int x2, .int x3, .int x4, .int x5, .int (x6 + 1)] [] M bc bs Φ
    refine Ev.goto 55 dDa_handAlong_105 (by decide) ?_
    exact h
  · replace h := h.2 c
    refine Ev.aload_n dDa_handAlong_76 rfl ?_
    refine Ev.aload_n dDa_handAlong_77 rfl ?_
    have g1 := h.1
    replace h := h.2
    refine Ev.getR dDa_handAlong_78 (Or.inl fDa_139) rfl g1 ?_
    refine Ev.iload dDa_handAlong_81 rfl ?_
    have g2 := h.1
    replace h := h.2
    have g3 := h.1
    replace h := h.2
    refine Ev.iald2 dDa_handAlong_83 g2 g3 ?_
    refine Ev.putI dDa_handAlong_84 ⟨_, Or.inl ⟨fDa_113, (fun h => by cases h)⟩⟩ rfl ⟨rfl, rfl⟩ g1 ?_
    refine Ev.aload_n dDa_handAlong_87 rfl ?_
    refine Ev.iload dDa_handAlong_88 rfl ?_
    refine Ev.aload_n dDa_handAlong_90 rfl ?_
    refine Ev.getI dDa_handAlong_91 (Or.inl fDa_130) rfl g1 ?_
    refine Ev.imul dDa_handAlong_94 ?_
    refine Ev.iload dDa_handAlong_95 rfl ?_
    refine Ev.iadd dDa_handAlong_97 ?_
    refine Ev.putI dDa_handAlong_98 ⟨_, Or.inl ⟨fDa_142, (fun h => by cases h)⟩⟩ rfl ⟨rfl, rfl⟩ g1 ?_
    exact Ev.vret dDa_handAlong_101 rfl h
theorem dDa_offersPlace_0 : decode mDa_offersPlace.2.1 0 = .ok (.aload_n 0, 1) := by decide +kernel
theorem dDa_offersPlace_1 : decode mDa_offersPlace.2.1 1 = .ok (.getfield 49, 3) := by decide +kernel
theorem dDa_offersPlace_4 : decode mDa_offersPlace.2.1 4 = .ok (.getfield 97, 3) := by decide +kernel
theorem dDa_offersPlace_7 : decode mDa_offersPlace.2.1 7 = .ok (.iconst 3, 1) := by decide +kernel
theorem dDa_offersPlace_8 : decode mDa_offersPlace.2.1 8 = .ok (.iaload, 1) := by decide +kernel
theorem dDa_offersPlace_9 : decode mDa_offersPlace.2.1 9 = .ok (.istore 4, 2) := by decide +kernel
theorem dDa_offersPlace_11 : decode mDa_offersPlace.2.1 11 = .ok (.aload_n 0, 1) := by decide +kernel
theorem dDa_offersPlace_12 : decode mDa_offersPlace.2.1 12 = .ok (.getfield 49, 3) := by decide +kernel
theorem dDa_offersPlace_15 : decode mDa_offersPlace.2.1 15 = .ok (.getfield 97, 3) := by decide +kernel
theorem dDa_offersPlace_18 : decode mDa_offersPlace.2.1 18 = .ok (.iconst 4, 1) := by decide +kernel
theorem dDa_offersPlace_19 : decode mDa_offersPlace.2.1 19 = .ok (.iaload, 1) := by decide +kernel
theorem dDa_offersPlace_20 : decode mDa_offersPlace.2.1 20 = .ok (.istore 5, 2) := by decide +kernel
theorem dDa_offersPlace_22 : decode mDa_offersPlace.2.1 22 = .ok (.aload_n 1, 1) := by decide +kernel
theorem dDa_offersPlace_23 : decode mDa_offersPlace.2.1 23 = .ok (.getfield 130, 3) := by decide +kernel
theorem dDa_offersPlace_26 : decode mDa_offersPlace.2.1 26 = .ok (.iconst 1, 1) := by decide +kernel
theorem dDa_offersPlace_27 : decode mDa_offersPlace.2.1 27 = .ok (.if_icmp .eq 30, 3) := by decide +kernel
theorem dDa_offersPlace_30 : decode mDa_offersPlace.2.1 30 = .ok (.iload 4, 2) := by decide +kernel
theorem dDa_offersPlace_32 : decode mDa_offersPlace.2.1 32 = .ok (.iconst (-1), 1) := by decide +kernel
theorem dDa_offersPlace_33 : decode mDa_offersPlace.2.1 33 = .ok (.if_icmp .eq 9, 3) := by decide +kernel
theorem dDa_offersPlace_36 : decode mDa_offersPlace.2.1 36 = .ok (.iload_n 3, 1) := by decide +kernel
theorem dDa_offersPlace_37 : decode mDa_offersPlace.2.1 37 = .ok (.iload 4, 2) := by decide +kernel
theorem dDa_offersPlace_39 : decode mDa_offersPlace.2.1 39 = .ok (.if_icmp .ge 18, 3) := by decide +kernel
theorem dDa_offersPlace_42 : decode mDa_offersPlace.2.1 42 = .ok (.iload 5, 2) := by decide +kernel
theorem dDa_offersPlace_44 : decode mDa_offersPlace.2.1 44 = .ok (.iconst (-1), 1) := by decide +kernel
theorem dDa_offersPlace_45 : decode mDa_offersPlace.2.1 45 = .ok (.if_icmp .eq 14, 3) := by decide +kernel
theorem dDa_offersPlace_48 : decode mDa_offersPlace.2.1 48 = .ok (.aload_n 1, 1) := by decide +kernel
theorem dDa_offersPlace_49 : decode mDa_offersPlace.2.1 49 = .ok (.getfield 94, 3) := by decide +kernel
theorem dDa_offersPlace_52 : decode mDa_offersPlace.2.1 52 = .ok (.iload 5, 2) := by decide +kernel
theorem dDa_offersPlace_54 : decode mDa_offersPlace.2.1 54 = .ok (.if_icmp .lt 5, 3) := by decide +kernel
theorem dDa_offersPlace_57 : decode mDa_offersPlace.2.1 57 = .ok (.iconst 0, 1) := by decide +kernel
theorem dDa_offersPlace_58 : decode mDa_offersPlace.2.1 58 = .ok (.ireturn, 1) := by decide +kernel
theorem dDa_offersPlace_59 : decode mDa_offersPlace.2.1 59 = .ok (.aload_n 1, 1) := by decide +kernel
theorem dDa_offersPlace_60 : decode mDa_offersPlace.2.1 60 = .ok (.getfield 139, 3) := by decide +kernel
theorem dDa_offersPlace_63 : decode mDa_offersPlace.2.1 63 = .ok (.iload_n 2, 1) := by decide +kernel
theorem dDa_offersPlace_64 : decode mDa_offersPlace.2.1 64 = .ok (.iaload, 1) := by decide +kernel
theorem dDa_offersPlace_65 : decode mDa_offersPlace.2.1 65 = .ok (.istore 6, 2) := by decide +kernel
theorem dDa_offersPlace_67 : decode mDa_offersPlace.2.1 67 = .ok (.aload_n 1, 1) := by decide +kernel
theorem dDa_offersPlace_68 : decode mDa_offersPlace.2.1 68 = .ok (.getfield 139, 3) := by decide +kernel
theorem dDa_offersPlace_71 : decode mDa_offersPlace.2.1 71 = .ok (.iload_n 2, 1) := by decide +kernel
theorem dDa_offersPlace_72 : decode mDa_offersPlace.2.1 72 = .ok (.iconst 1, 1) := by decide +kernel
theorem dDa_offersPlace_73 : decode mDa_offersPlace.2.1 73 = .ok (.iadd, 1) := by decide +kernel
theorem dDa_offersPlace_74 : decode mDa_offersPlace.2.1 74 = .ok (.aload_n 1, 1) := by decide +kernel
theorem dDa_offersPlace_75 : decode mDa_offersPlace.2.1 75 = .ok (.getfield 130, 3) := by decide +kernel
theorem dDa_offersPlace_78 : decode mDa_offersPlace.2.1 78 = .ok (.if_icmp .ge 9, 3) := by decide +kernel
theorem dDa_offersPlace_81 : decode mDa_offersPlace.2.1 81 = .ok (.iload_n 2, 1) := by decide +kernel
theorem dDa_offersPlace_82 : decode mDa_offersPlace.2.1 82 = .ok (.iconst 1, 1) := by decide +kernel
theorem dDa_offersPlace_83 : decode mDa_offersPlace.2.1 83 = .ok (.iadd, 1) := by decide +kernel
theorem dDa_offersPlace_84 : decode mDa_offersPlace.2.1 84 = .ok (.goto 4, 3) := by decide +kernel
theorem dDa_offersPlace_87 : decode mDa_offersPlace.2.1 87 = .ok (.iconst 0, 1) := by decide +kernel
theorem dDa_offersPlace_88 : decode mDa_offersPlace.2.1 88 = .ok (.iaload, 1) := by decide +kernel
theorem dDa_offersPlace_89 : decode mDa_offersPlace.2.1 89 = .ok (.istore 7, 2) := by decide +kernel
theorem dDa_offersPlace_91 : decode mDa_offersPlace.2.1 91 = .ok (.aload_n 0, 1) := by decide +kernel
theorem dDa_offersPlace_92 : decode mDa_offersPlace.2.1 92 = .ok (.getfield 49, 3) := by decide +kernel
theorem dDa_offersPlace_95 : decode mDa_offersPlace.2.1 95 = .ok (.iload 6, 2) := by decide +kernel
theorem dDa_offersPlace_97 : decode mDa_offersPlace.2.1 97 = .ok (.iload 7, 2) := by decide +kernel
theorem dDa_offersPlace_99 : decode mDa_offersPlace.2.1 99 = .ok (.aload_n 1, 1) := by decide +kernel
theorem dDa_offersPlace_100 : decode mDa_offersPlace.2.1 100 = .ok (.getfield 94, 3) := by decide +kernel
theorem dDa_offersPlace_103 : decode mDa_offersPlace.2.1 103 = .ok (.bipush 60, 2) := by decide +kernel
theorem dDa_offersPlace_105 : decode mDa_offersPlace.2.1 105 = .ok (.idiv, 1) := by decide +kernel
theorem dDa_offersPlace_106 : decode mDa_offersPlace.2.1 106 = .ok (.invokevirtual 145, 3) := by decide +kernel
theorem dDa_offersPlace_109 : decode mDa_offersPlace.2.1 109 = .ok (.ifCond .eq 5, 3) := by decide +kernel
theorem dDa_offersPlace_112 : decode mDa_offersPlace.2.1 112 = .ok (.iconst 1, 1) := by decide +kernel
theorem dDa_offersPlace_113 : decode mDa_offersPlace.2.1 113 = .ok (.ireturn, 1) := by decide +kernel
theorem dDa_offersPlace_114 : decode mDa_offersPlace.2.1 114 = .ok (.iload 6, 2) := by decide +kernel
theorem dDa_offersPlace_116 : decode mDa_offersPlace.2.1 116 = .ok (.aload_n 0, 1) := by decide +kernel
theorem dDa_offersPlace_117 : decode mDa_offersPlace.2.1 117 = .ok (.getfield 15, 3) := by decide +kernel
theorem dDa_offersPlace_120 : decode mDa_offersPlace.2.1 120 = .ok (.if_icmp .ne 10, 3) := by decide +kernel
theorem dDa_offersPlace_123 : decode mDa_offersPlace.2.1 123 = .ok (.aload_n 0, 1) := by decide +kernel
theorem dDa_offersPlace_124 : decode mDa_offersPlace.2.1 124 = .ok (.invokevirtual 149, 3) := by decide +kernel
theorem dDa_offersPlace_127 : decode mDa_offersPlace.2.1 127 = .ok (.goto 11, 3) := by decide +kernel
theorem dDa_offersPlace_130 : decode mDa_offersPlace.2.1 130 = .ok (.aload_n 0, 1) := by decide +kernel
theorem dDa_offersPlace_131 : decode mDa_offersPlace.2.1 131 = .ok (.iload 6, 2) := by decide +kernel
theorem dDa_offersPlace_133 : decode mDa_offersPlace.2.1 133 = .ok (.iload 7, 2) := by decide +kernel
theorem dDa_offersPlace_135 : decode mDa_offersPlace.2.1 135 = .ok (.invokevirtual 153, 3) := by decide +kernel
theorem dDa_offersPlace_138 : decode mDa_offersPlace.2.1 138 = .ok (.ireturn, 1) := by decide +kernel
theorem bDa_offersPlace_0 {l : Launch} {G : Gx} {d : Nat} {bc bs : Nat} {Φ : OutV → Mm → Prop} (M : Mm) (a0 : Nat) (a1 : Nat) (x2 : Int32) (x3 : Int32)
    (h : ((m_sh M a0).1 = 1) ∧ ((m_sh M (m_r M a0 1)).1 = 3) ∧ ((m_sh M (m_r M (m_r M a0 1) 0)).1 = 20) ∧ (vp_in 3 (m_sh M (m_r M (m_r M a0 1) 0)).2) ∧ (vp_in 4 (m_sh M (m_r M (m_r M a0 1) 0)).2) ∧ ((m_sh M a1).1 = 0) ∧ ((m_i M a1 1) = 1 → Φ (.inl (some (.int 0))) M) ∧ (¬ (m_i M a1 1) = 1 → ((m_i M (m_r M (m_r M a0 1) 0) (3 : Int32).toNatClampNeg) = ((-1)) → Ev l G d mDa_offersPlace 42 [.ref a0, .ref a1, .int x2, .int x3, .int (m_i M (m_r M (m_r M a0 1) 0) (3 : Int32).toNatClampNeg), .int (m_i M (m_r M (m_r M a0 1) 0) (4 : Int32).toNatClampNeg), .null, .null] [] M bc bs Φ) ∧ (¬ (m_i M (m_r M (m_r M a0 1) 0) (3 : Int32).toNatClampNeg) = ((-1)) → ((m_i M (m_r M (m_r M a0 1) 0) (3 : Int32).toNatClampNeg) ≤ x3 → Φ (.inl (some (.int 0))) M) ∧ (¬ (m_i M (m_r M (m_r M a0 1) 0) (3 : Int32).toNatClampNeg) ≤ x3 → Ev l G d mDa_offersPlace 42 [.ref a0, .ref a1, .int x2, .int x3, .int (m_i M (m_r M (m_r M a0 1) 0) (3 : Int32).toNatClampNeg), .int (m_i M (m_r M (m_r M a0 1) 0) (4 : Int32).toNatClampNeg), .null, .null] [] M bc bs Φ)))) :
    Ev l G d mDa_offersPlace 0 [.ref a0, .ref a1, .int x2, .int x3, .null, .null, .null, .null] [] M bc bs Φ := by
  refine Ev.aload_n dDa_offersPlace_0 rfl ?_
  have g1 := h.1
  replace h := h.2
  refine Ev.getR dDa_offersPlace_1 (Or.inl fDa_49) rfl g1 ?_
  have g2 := h.1
  replace h := h.2
  refine Ev.getR dDa_offersPlace_4 (Or.inl fDa_97) rfl g2 ?_
  refine Ev.iconst (v := 3) dDa_offersPlace_7 (by decide) ?_
  have g3 := h.1
  replace h := h.2
  have g4 := h.1
  replace h := h.2
  refine Ev.iald2 dDa_offersPlace_8 g3 g4 ?_
  refine Ev.istore dDa_offersPlace_9 (by decide) ?_
  show Ev l G d mDa_offersPlace (_ + _) [.ref a0, .ref a1, .int x2, .int x3, .int (m_i M (m_r M (m_r M a0 1) 0) (3 : Int32).toNatClampNeg), .null, .null, .null] [] M bc bs Φ
  refine Ev.aload_n dDa_offersPlace_11 rfl ?_
  refine Ev.getR dDa_offersPlace_12 (Or.inl fDa_49) rfl g1 ?_
  refine Ev.getR dDa_offersPlace_15 (Or.inl fDa_97) rfl g2 ?_
  refine Ev.iconst (v := 4) dDa_offersPlace_18 (by decide) ?_
  have g5 := h.1
  replace h := h.2
  refine Ev.iald2 dDa_offersPlace_19 g3 g5 ?_
  refine Ev.istore dDa_offersPlace_20 (by decide) ?_
  show Ev l G d mDa_offersPlace (_ + _) [.ref a0, .ref a1, .int x2, .int x3, .int (m_i M (m_r M (m_r M a0 1) 0) (3 : Int32).toNatClampNeg), .int (m_i M (m_r M (m_r M a0 1) 0) (4 : Int32).toNatClampNeg), .null, .null] [] M bc bs Φ
  refine Ev.aload_n dDa_offersPlace_22 rfl ?_
  have g6 := h.1
  replace h := h.2
  refine Ev.getI dDa_offersPlace_23 (Or.inl fDa_130) rfl g6 ?_
  refine Ev.iconst (v := 1) dDa_offersPlace_26 (by decide) ?_
  refine Ev.icmp_eq 57 (by decide) dDa_offersPlace_27 (fun c => ?_) (fun c => ?_)
  · replace h := h.1 c
    refine Ev.iconst (v := 0) dDa_offersPlace_57 (by decide) ?_
    exact Ev.iret dDa_offersPlace_58 rfl rfl h
  · replace h := h.2 c
    refine Ev.iload dDa_offersPlace_30 rfl ?_
    refine Ev.iconst (v := (-1)) dDa_offersPlace_32 (by decide) ?_
    refine Ev.icmp_eq 42 (by decide) dDa_offersPlace_33 (fun c => ?_) (fun c => ?_)
    · replace h := h.1 c
      exact h
    · replace h := h.2 c
      refine Ev.iload_n dDa_offersPlace_36 rfl ?_
      refine Ev.iload dDa_offersPlace_37 rfl ?_
      refine Ev.icmp_ge 57 (by decide) dDa_offersPlace_39 (fun c => ?_) (fun c => ?_)
      · replace h := h.1 c
        refine Ev.iconst (v := 0) dDa_offersPlace_57 (by decide) ?_
        exact Ev.iret dDa_offersPlace_58 rfl rfl h
      · replace h := h.2 c
        exact h
theorem bDa_offersPlace_42 {l : Launch} {G : Gx} {d : Nat} {bc bs : Nat} {Φ : OutV → Mm → Prop} (M : Mm) (a0 : Nat) (a1 : Nat) (x2 : Int32) (x3 : Int32) (x4 : Int32) (x5 : Int32) (u6 : Value) (u7 : Value)
    (h : (x5 = ((-1)) → Ev l G d mDa_offersPlace 59 [.ref a0, .ref a1, .int x2, .int x3, .int x4, .int x5, u6, u7] [] M bc bs Φ) ∧ (¬ x5 = ((-1)) → ((m_sh M a1).1 = 0) ∧ ((m_i M a1 3) < x5 → Ev l G d mDa_offersPlace 59 [.ref a0, .ref a1, .int x2, .int x3, .int x4, .int x5, u6, u7] [] M bc bs Φ) ∧ (¬ (m_i M a1 3) < x5 → Φ (.inl (some (.int 0))) M))) :
    Ev l G d mDa_offersPlace 42 [.ref a0, .ref a1, .int x2, .int x3, .int x4, .int x5, u6, u7] [] M bc bs Φ := by
  refine Ev.iload dDa_offersPlace_42 rfl ?_
  refine Ev.iconst (v := (-1)) dDa_offersPlace_44 (by decide) ?_
  refine Ev.icmp_eq 59 (by decide) dDa_offersPlace_45 (fun c => ?_) (fun c => ?_)
  · replace h := h.1 c
    exact h
  · replace h := h.2 c
    refine Ev.aload_n dDa_offersPlace_48 rfl ?_
    have g1 := h.1
    replace h := h.2
    refine Ev.getI dDa_offersPlace_49 (Or.inl fDa_94) rfl g1 ?_
    refine Ev.iload dDa_offersPlace_52 rfl ?_
    refine Ev.icmp_lt 59 (by decide) dDa_offersPlace_54 (fun c => ?_) (fun c => ?_)
    · replace h := h.1 c
      exact h
    · replace h := h.2 c
      refine Ev.iconst (v := 0) dDa_offersPlace_57 (by decide) ?_
      exact Ev.iret dDa_offersPlace_58 rfl rfl h
theorem w605 : Cond.methodLink "BowingRow$Day" 145 ⟨"BowingRow$InForce", "mustOffer", "(III)Z"⟩ ∈ lwg := lwg_of 605 (by decide +kernel) (by decide +kernel)
theorem bDa_offersPlace_59 {l : Launch} {G : Gx} {d : Nat} {bc bs : Nat} {Φ : OutV → Mm → Prop} (M : Mm) (a0 : Nat) (a1 : Nat) (x2 : Int32) (x3 : Int32) (x4 : Int32) (x5 : Int32) (u6 : Value) (u7 : Value)
    (h : ((m_sh M a1).1 = 0) ∧ ((m_sh M (m_r M a1 0)).1 = 20) ∧ (vp_in x2 (m_sh M (m_r M a1 0)).2) ∧ ((m_i M a1 1) ≤ (x2 + 1) → (vp_in 0 (m_sh M (m_r M a1 0)).2) ∧ ((m_sh M a0).1 = 1) ∧ ((m_sh M (m_r M a0 1)).1 = 3) ∧ CallVC l G d mDa_offersPlace 109 [.ref a0, .ref a1, .int x2, .int x3, .int x4, .int x5, .int (m_i M (m_r M a1 0) x2.toNatClampNeg), .int (m_i M (m_r M a1 0) (0 : Int32).toNatClampNeg)] [] mIf_mustOffer [.ref (m_r M a0 1), .int (m_i M (m_r M a1 0) x2.toNatClampNeg), .int (m_i M (m_r M a1 0) (0 : Int32).toNatClampNeg), .int ((m_i M a1 3) / 60)] M bc bs Φ) ∧ (¬ (m_i M a1 1) ≤ (x2 + 1) → (vp_in (x2 + 1) (m_sh M (m_r M a1 0)).2) ∧ ((m_sh M a0).1 = 1) ∧ ((m_sh M (m_r M a0 1)).1 = 3) ∧ CallVC l G d mDa_offersPlace 109 [.ref a0, .ref a1, .int x2, .int x3, .int x4, .int x5, .int (m_i M (m_r M a1 0) x2.toNatClampNeg), .int (m_i M (m_r M a1 0) (x2 + 1).toNatClampNeg)] [] mIf_mustOffer [.ref (m_r M a0 1), .int (m_i M (m_r M a1 0) x2.toNatClampNeg), .int (m_i M (m_r M a1 0) (x2 + 1).toNatClampNeg), .int ((m_i M a1 3) / 60)] M bc bs Φ)) :
    Ev l G d mDa_offersPlace 59 [.ref a0, .ref a1, .int x2, .int x3, .int x4, .int x5, u6, u7] [] M bc bs Φ := by
  refine Ev.aload_n dDa_offersPlace_59 rfl ?_
  have g1 := h.1
  replace h := h.2
  refine Ev.getR dDa_offersPlace_60 (Or.inl fDa_139) rfl g1 ?_
  refine Ev.iload_n dDa_offersPlace_63 rfl ?_
  have g2 := h.1
  replace h := h.2
  have g3 := h.1
  replace h := h.2
  refine Ev.iald2 dDa_offersPlace_64 g2 g3 ?_
  refine Ev.istore dDa_offersPlace_65 (by decide) ?_
  show Ev l G d mDa_offersPlace (_ + _) [.ref a0, .ref a1, .int x2, .int x3, .int x4, .int x5, .int (m_i M (m_r M a1 0) x2.toNatClampNeg), u7] [] M bc bs Φ
  refine Ev.aload_n dDa_offersPlace_67 rfl ?_
  refine Ev.getR dDa_offersPlace_68 (Or.inl fDa_139) rfl g1 ?_
  refine Ev.iload_n dDa_offersPlace_71 rfl ?_
  refine Ev.iconst (v := 1) dDa_offersPlace_72 (by decide) ?_
  refine Ev.iadd dDa_offersPlace_73 ?_
  refine Ev.aload_n dDa_offersPlace_74 rfl ?_
  refine Ev.getI dDa_offersPlace_75 (Or.inl fDa_130) rfl g1 ?_
  refine Ev.icmp_ge 87 (by decide) dDa_offersPlace_78 (fun c => ?_) (fun c => ?_)
  · replace h := h.1 c
    refine Ev.iconst (v := 0) dDa_offersPlace_87 (by decide) ?_
    have g4 := h.1
    replace h := h.2
    refine Ev.iald2 dDa_offersPlace_88 g2 g4 ?_
    refine Ev.istore dDa_offersPlace_89 (by decide) ?_
    show Ev l G d mDa_offersPlace (_ + _) [.ref a0, .ref a1, .int x2, .int x3, .int x4, .int x5, .int (m_i M (m_r M a1 0) x2.toNatClampNeg), .int (m_i M (m_r M a1 0) (0 : Int32).toNatClampNeg)] [] M bc bs Φ
    refine Ev.aload_n dDa_offersPlace_91 rfl ?_
    have g5 := h.1
    replace h := h.2
    refine Ev.getR dDa_offersPlace_92 (Or.inl fDa_49) rfl g5 ?_
    refine Ev.iload dDa_offersPlace_95 rfl ?_
    refine Ev.iload dDa_offersPlace_97 rfl ?_
    refine Ev.aload_n dDa_offersPlace_99 rfl ?_
    refine Ev.getI dDa_offersPlace_100 (Or.inl fDa_94) rfl g1 ?_
    refine Ev.bipush (v := 60) dDa_offersPlace_103 (by decide) ?_
    refine Ev.idiv dDa_offersPlace_105 (by decide) ?_
    have g6 := h.1
    replace h := h.2
    exact Ev.vcV (z := mIf_mustOffer) (ci := 3) [.int (m_i M (m_r M a1 0) x2.toNatClampNeg), .int (m_i M (m_r M a1 0) (0 : Int32).toNatClampNeg), .int ((m_i M a1 3) / 60)] [] rfl dDa_offersPlace_106 oIf_mustOffer rfl w605 iIf_mustOffer sIf_mustOffer (by decide) rfl g6 (Nat.le_of_ble_eq_true rfl) h
  · replace h := h.2 c
    refine Ev.iload_n dDa_offersPlace_81 rfl ?_
    refine Ev.iconst (v := 1) dDa_offersPlace_82 (by decide) ?_
    refine Ev.iadd dDa_offersPlace_83 ?_
    refine Ev.goto 88 dDa_offersPlace_84 (by decide) ?_
    have g7 := h.1
    replace h := h.2
    refine Ev.iald2 dDa_offersPlace_88 g2 g7 ?_
    refine Ev.istore dDa_offersPlace_89 (by decide) ?_
    show Ev l G d mDa_offersPlace (_ + _) [.ref a0, .ref a1, .int x2, .int x3, .int x4, .int x5, .int (m_i M (m_r M a1 0) x2.toNatClampNeg), .int (m_i M (m_r M a1 0) (x2 + 1).toNatClampNeg)] [] M bc bs Φ
    refine Ev.aload_n dDa_offersPlace_91 rfl ?_
    have g8 := h.1
    replace h := h.2
    refine Ev.getR dDa_offersPlace_92 (Or.inl fDa_49) rfl g8 ?_
    refine Ev.iload dDa_offersPlace_95 rfl ?_
    refine Ev.iload dDa_offersPlace_97 rfl ?_
    refine Ev.aload_n dDa_offersPlace_99 rfl ?_
    refine Ev.getI dDa_offersPlace_100 (Or.inl fDa_94) rfl g1 ?_
    refine Ev.bipush (v := 60) dDa_offersPlace_103 (by decide) ?_
    refine Ev.idiv dDa_offersPlace_105 (by decide) ?_
    have g9 := h.1
    replace h := h.2
    exact Ev.vcV (z := mIf_mustOffer) (ci := 3) [.int (m_i M (m_r M a1 0) x2.toNatClampNeg), .int (m_i M (m_r M a1 0) (x2 + 1).toNatClampNeg), .int ((m_i M a1 3) / 60)] [] rfl dDa_offersPlace_106 oIf_mustOffer rfl w605 iIf_mustOffer sIf_mustOffer (by decide) rfl g9 (Nat.le_of_ble_eq_true rfl) h
def mDa_offersByWay : MR := (⟨"BowingRow$Day", "offersByWay", "(II)Z"⟩, prog_3_method_8_code, 3, (Option.some .boolean))
theorem oDa_offersByWay : MOK mDa_offersByWay 2 := ⟨lwg_of 624 (by decide +kernel) (by decide +kernel), lwg_of 97 (by decide +kernel) (by decide +kernel), ⟨by decide +kernel, by decide +kernel⟩, by decide +kernel, by decide⟩
theorem iDa_offersByWay : Cond.instanceMethod mDa_offersByWay.1 ∈ lwg := lwg_of 623 (by decide +kernel) (by decide +kernel)
theorem sDa_offersByWay : Cond.selects mDa_offersByWay.1.cls mDa_offersByWay.1 mDa_offersByWay.1 ∈ lwg := lwg_of 7 (by decide +kernel) (by decide +kernel)
theorem w621 : Cond.methodLink "BowingRow$Day" 153 ⟨"BowingRow$Day", "offersByWay", "(II)Z"⟩ ∈ lwg := lwg_of 621 (by decide +kernel) (by decide +kernel)
def mDa_offersByPlan : MR := (⟨"BowingRow$Day", "offersByPlan", "()Z"⟩, prog_3_method_7_code, 2, (Option.some .boolean))
theorem oDa_offersByPlan : MOK mDa_offersByPlan 0 := ⟨lwg_of 620 (by decide +kernel) (by decide +kernel), lwg_of 97 (by decide +kernel) (by decide +kernel), ⟨by decide +kernel, by decide +kernel⟩, by decide +kernel, by decide⟩
theorem iDa_offersByPlan : Cond.instanceMethod mDa_offersByPlan.1 ∈ lwg := lwg_of 619 (by decide +kernel) (by decide +kernel)
theorem sDa_offersByPlan : Cond.selects mDa_offersByPlan.1.cls mDa_offersByPlan.1 mDa_offersByPlan.1 ∈ lwg := lwg_of 6 (by decide +kernel) (by decide +kernel)
theorem w617 : Cond.methodLink "BowingRow$Day" 149 ⟨"BowingRow$Day", "offersByPlan", "()Z"⟩ ∈ lwg := lwg_of 617 (by decide +kernel) (by decide +kernel)
theorem bDa_offersPlace_109 {l : Launch} {G : Gx} {d : Nat} {bc bs : Nat} {Φ : OutV → Mm → Prop} (M : Mm) (a0 : Nat) (a1 : Nat) (x2 : Int32) (x3 : Int32) (x4 : Int32) (x5 : Int32) (x6 : Int32) (x7 : Int32) (s0 : Int32)
    (h : (s0 = 0 → ((m_sh M a0).1 = 1) ∧ (¬ x6 = (m_i M a0 3) → CallVC l G d mDa_offersPlace 138 [.ref a0, .ref a1, .int x2, .int x3, .int x4, .int x5, .int x6, .int x7] [] mDa_offersByWay [.ref a0, .int x6, .int x7] M bc bs Φ) ∧ (x6 = (m_i M a0 3) → CallVC l G d mDa_offersPlace 127 [.ref a0, .ref a1, .int x2, .int x3, .int x4, .int x5, .int x6, .int x7] [] mDa_offersByPlan [.ref a0] M bc bs Φ)) ∧ (¬ s0 = 0 → Φ (.inl (some (.int 1))) M)) :
    Ev l G d mDa_offersPlace 109 [.ref a0, .ref a1, .int x2, .int x3, .int x4, .int x5, .int x6, .int x7] [.int s0] M bc bs Φ := by
  refine Ev.if_eq 114 (by decide) dDa_offersPlace_109 (fun c => ?_) (fun c => ?_)
  · replace h := h.1 c
    refine Ev.iload dDa_offersPlace_114 rfl ?_
    refine Ev.aload_n dDa_offersPlace_116 rfl ?_
    have g1 := h.1
    replace h := h.2
    refine Ev.getI dDa_offersPlace_117 (Or.inl fDa_15) rfl g1 ?_
    refine Ev.icmp_ne 130 (by decide) dDa_offersPlace_120 (fun c => ?_) (fun c => ?_)
    · replace h := h.1 c
      refine Ev.aload_n dDa_offersPlace_130 rfl ?_
      refine Ev.iload dDa_offersPlace_131 rfl ?_
      refine Ev.iload dDa_offersPlace_133 rfl ?_
      exact Ev.vcV (z := mDa_offersByWay) (ci := 1) [.int x6, .int x7] [] rfl dDa_offersPlace_135 oDa_offersByWay rfl w621 iDa_offersByWay sDa_offersByWay (by decide) rfl g1 (Nat.le_of_ble_eq_true rfl) h
    · replace h := h.2 c
      refine Ev.aload_n dDa_offersPlace_123 rfl ?_
      exact Ev.vcV (z := mDa_offersByPlan) (ci := 1) [] [] rfl dDa_offersPlace_124 oDa_offersByPlan rfl w617 iDa_offersByPlan sDa_offersByPlan (by decide) rfl g1 (Nat.le_of_ble_eq_true rfl) h
  · replace h := h.2 c
    refine Ev.iconst (v := 1) dDa_offersPlace_112 (by decide) ?_
    exact Ev.iret dDa_offersPlace_113 rfl rfl h
theorem bDa_offersPlace_127 {l : Launch} {G : Gx} {d : Nat} {bc bs : Nat} {Φ : OutV → Mm → Prop} (M : Mm) (a0 : Nat) (a1 : Nat) (x2 : Int32) (x3 : Int32) (x4 : Int32) (x5 : Int32) (x6 : Int32) (x7 : Int32) (s0 : Int32)
    (h : Ev l G d mDa_offersPlace 138 [.ref a0, .ref a1, .int x2, .int x3, .int x4, .int x5, .int x6, .int x7] [.int s0] M bc bs Φ) :
    Ev l G d mDa_offersPlace 127 [.ref a0, .ref a1, .int x2, .int x3, .int x4, .int x5, .int x6, .int x7] [.int s0] M bc bs Φ := by
  refine Ev.goto 138 dDa_offersPlace_127 (by decide) ?_
  exact h
theorem bDa_offersPlace_138 {l : Launch} {G : Gx} {d : Nat} {bc bs : Nat} {Φ : OutV → Mm → Prop} (M : Mm) (a0 : Nat) (a1 : Nat) (x2 : Int32) (x3 : Int32) (x4 : Int32) (x5 : Int32) (x6 : Int32) (x7 : Int32) (s0 : Int32)
    (h : (narrow .boolean (.int s0) = .int s0) ∧ Φ (.inl (some (.int s0))) M) :
    Ev l G d mDa_offersPlace 138 [.ref a0, .ref a1, .int x2, .int x3, .int x4, .int x5, .int x6, .int x7] [.int s0] M bc bs Φ := by
  have g1 := h.1
  replace h := h.2
  exact Ev.iret dDa_offersPlace_138 rfl g1 h
theorem dDa_offersByPlan_0 : decode mDa_offersByPlan.2.1 0 = .ok (.aload_n 0, 1) := by decide +kernel
theorem dDa_offersByPlan_1 : decode mDa_offersByPlan.2.1 1 = .ok (.getfield 84, 3) := by decide +kernel
theorem dDa_offersByPlan_4 : decode mDa_offersByPlan.2.1 4 = .ok (.bipush 10, 2) := by decide +kernel
theorem dDa_offersByPlan_6 : decode mDa_offersByPlan.2.1 6 = .ok (.if_icmp .ge 22, 3) := by decide +kernel
theorem dDa_offersByPlan_9 : decode mDa_offersByPlan.2.1 9 = .ok (.aload_n 0, 1) := by decide +kernel
theorem dDa_offersByPlan_10 : decode mDa_offersByPlan.2.1 10 = .ok (.getfield 157, 3) := by decide +kernel
theorem dDa_offersByPlan_13 : decode mDa_offersByPlan.2.1 13 = .ok (.aload_n 0, 1) := by decide +kernel
theorem dDa_offersByPlan_14 : decode mDa_offersByPlan.2.1 14 = .ok (.getfield 84, 3) := by decide +kernel
theorem dDa_offersByPlan_17 : decode mDa_offersByPlan.2.1 17 = .ok (.ishr, 1) := by decide +kernel
theorem dDa_offersByPlan_18 : decode mDa_offersByPlan.2.1 18 = .ok (.iconst 1, 1) := by decide +kernel
theorem dDa_offersByPlan_19 : decode mDa_offersByPlan.2.1 19 = .ok (.iand, 1) := by decide +kernel
theorem dDa_offersByPlan_20 : decode mDa_offersByPlan.2.1 20 = .ok (.iconst 1, 1) := by decide +kernel
theorem dDa_offersByPlan_21 : decode mDa_offersByPlan.2.1 21 = .ok (.if_icmp .ne 7, 3) := by decide +kernel
theorem dDa_offersByPlan_24 : decode mDa_offersByPlan.2.1 24 = .ok (.iconst 1, 1) := by decide +kernel
theorem dDa_offersByPlan_25 : decode mDa_offersByPlan.2.1 25 = .ok (.goto 4, 3) := by decide +kernel
theorem dDa_offersByPlan_28 : decode mDa_offersByPlan.2.1 28 = .ok (.iconst 0, 1) := by decide +kernel
theorem dDa_offersByPlan_29 : decode mDa_offersByPlan.2.1 29 = .ok (.istore_n 1, 1) := by decide +kernel
theorem dDa_offersByPlan_30 : decode mDa_offersByPlan.2.1 30 = .ok (.aload_n 0, 1) := by decide +kernel
theorem dDa_offersByPlan_31 : decode mDa_offersByPlan.2.1 31 = .ok (.dup, 1) := by decide +kernel
theorem dDa_offersByPlan_32 : decode mDa_offersByPlan.2.1 32 = .ok (.getfield 84, 3) := by decide +kernel
theorem dDa_offersByPlan_35 : decode mDa_offersByPlan.2.1 35 = .ok (.iconst 1, 1) := by decide +kernel
theorem dDa_offersByPlan_36 : decode mDa_offersByPlan.2.1 36 = .ok (.iadd, 1) := by decide +kernel
theorem dDa_offersByPlan_37 : decode mDa_offersByPlan.2.1 37 = .ok (.putfield 84, 3) := by decide +kernel
theorem dDa_offersByPlan_40 : decode mDa_offersByPlan.2.1 40 = .ok (.iload_n 1, 1) := by decide +kernel
theorem dDa_offersByPlan_41 : decode mDa_offersByPlan.2.1 41 = .ok (.ireturn, 1) := by decide +kernel
theorem fDa_157 : FOK "BowingRow$Day" 157 1 4 false := ⟨RX1, TX1, nFd 1, rfl, by decide, rfl, by decide, rfl, lwg_of 352 (by decide +kernel) (by decide +kernel)⟩
theorem bDa_offersByPlan_0 {l : Launch} {G : Gx} {d : Nat} {bc bs : Nat} {Φ : OutV → Mm → Prop} (M : Mm) (a0 : Nat)
    (h : ((m_sh M a0).1 = 1) ∧ (10 ≤ (m_i M a0 5) → Ev l G d mDa_offersByPlan 28 [.ref a0, .null] [] M bc bs Φ) ∧ (¬ 10 ≤ (m_i M a0 5) → (¬ (((m_i M a0 4) >>> ((m_i M a0 5) &&& 31)) &&& 1) = 1 → Ev l G d mDa_offersByPlan 28 [.ref a0, .null] [] M bc bs Φ) ∧ ((((m_i M a0 4) >>> ((m_i M a0 5) &&& 31)) &&& 1) = 1 → Φ (.inl (some (.int 1))) (m_si M a0 5 ((m_i M a0 5) + 1))))) :
    Ev l G d mDa_offersByPlan 0 [.ref a0, .null] [] M bc bs Φ := by
  refine Ev.aload_n dDa_offersByPlan_0 rfl ?_
  have g1 := h.1
  replace h := h.2
  refine Ev.getI dDa_offersByPlan_1 (Or.inl fDa_84) rfl g1 ?_
  refine Ev.bipush (v := 10) dDa_offersByPlan_4 (by decide) ?_
  refine Ev.icmp_ge 28 (by decide) dDa_offersByPlan_6 (fun c => ?_) (fun c => ?_)
  · replace h := h.1 c
    exact h
  · replace h := h.2 c
    refine Ev.aload_n dDa_offersByPlan_9 rfl ?_
    refine Ev.getI dDa_offersByPlan_10 (Or.inl fDa_157) rfl g1 ?_
    refine Ev.aload_n dDa_offersByPlan_13 rfl ?_
    refine Ev.getI dDa_offersByPlan_14 (Or.inl fDa_84) rfl g1 ?_
    refine Ev.ishr dDa_offersByPlan_17 ?_
    refine Ev.iconst (v := 1) dDa_offersByPlan_18 (by decide) ?_
    refine Ev.iand dDa_offersByPlan_19 ?_
    refine Ev.iconst (v := 1) dDa_offersByPlan_20 (by decide) ?_
    refine Ev.icmp_ne 28 (by decide) dDa_offersByPlan_21 (fun c => ?_) (fun c => ?_)
    · replace h := h.1 c
      exact h
    · replace h := h.2 c
      refine Ev.iconst (v := 1) dDa_offersByPlan_24 (by decide) ?_
      refine Ev.goto 29 dDa_offersByPlan_25 (by decide) ?_
      refine Ev.istore_n dDa_offersByPlan_29 (by decide) ?_
      show Ev l G d mDa_offersByPlan (_ + _) [.ref a0, .int 1] [] M bc bs Φ
      refine Ev.aload_n dDa_offersByPlan_30 rfl ?_
      refine Ev.dup dDa_offersByPlan_31 rfl ?_
      refine Ev.getI dDa_offersByPlan_32 (Or.inl fDa_84) rfl g1 ?_
      refine Ev.iconst (v := 1) dDa_offersByPlan_35 (by decide) ?_
      refine Ev.iadd dDa_offersByPlan_36 ?_
      refine Ev.putI dDa_offersByPlan_37 ⟨_, Or.inl ⟨fDa_84, (fun h => by cases h)⟩⟩ rfl ⟨rfl, rfl⟩ g1 ?_
      refine Ev.iload_n dDa_offersByPlan_40 rfl ?_
      exact Ev.iret dDa_offersByPlan_41 rfl rfl h
theorem bDa_offersByPlan_28 {l : Launch} {G : Gx} {d : Nat} {bc bs : Nat} {Φ : OutV → Mm → Prop} (M : Mm) (a0 : Nat) (u1 : Value)
    (h : ((m_sh M a0).1 = 1) ∧ Φ (.inl (some (.int 0))) (m_si M a0 5 ((m_i M a0 5) + 1))) :
    Ev l G d mDa_offersByPlan 28 [.ref a0, u1] [] M bc bs Φ := by
  refine Ev.iconst (v := 0) dDa_offersByPlan_28 (by decide) ?_
  refine Ev.istore_n dDa_offersByPlan_29 (by decide) ?_
  show Ev l G d mDa_offersByPlan (_ + _) [.ref a0, .int 0] [] M bc bs Φ
  refine Ev.aload_n dDa_offersByPlan_30 rfl ?_
  refine Ev.dup dDa_offersByPlan_31 rfl ?_
  have g1 := h.1
  replace h := h.2
  refine Ev.getI dDa_offersByPlan_32 (Or.inl fDa_84) rfl g1 ?_
  refine Ev.iconst (v := 1) dDa_offersByPlan_35 (by decide) ?_
  refine Ev.iadd dDa_offersByPlan_36 ?_
  refine Ev.putI dDa_offersByPlan_37 ⟨_, Or.inl ⟨fDa_84, (fun h => by cases h)⟩⟩ rfl ⟨rfl, rfl⟩ g1 ?_
  refine Ev.iload_n dDa_offersByPlan_40 rfl ?_
  exact Ev.iret dDa_offersByPlan_41 rfl rfl h
theorem dDa_offersByWay_0 : decode mDa_offersByWay.2.1 0 = .ok (.aload_n 0, 1) := by decide +kernel
theorem dDa_offersByWay_1 : decode mDa_offersByWay.2.1 1 = .ok (.getfield 9, 3) := by decide +kernel
theorem dDa_offersByWay_4 : decode mDa_offersByWay.2.1 4 = .ok (.iload_n 1, 1) := by decide +kernel
theorem dDa_offersByWay_5 : decode mDa_offersByWay.2.1 5 = .ok (.iaload, 1) := by decide +kernel
theorem dDa_offersByWay_6 : decode mDa_offersByWay.2.1 6 = .ok (.tableswitch 111 1 4 #[30, 54, 82, 109], 30) := by decide +kernel
theorem dDa_offersByWay_36 : decode mDa_offersByWay.2.1 36 = .ok (.aload_n 0, 1) := by decide +kernel
theorem dDa_offersByWay_37 : decode mDa_offersByWay.2.1 37 = .ok (.getfield 45, 3) := by decide +kernel
theorem dDa_offersByWay_40 : decode mDa_offersByWay.2.1 40 = .ok (.iload_n 1, 1) := by decide +kernel
theorem dDa_offersByWay_41 : decode mDa_offersByWay.2.1 41 = .ok (.bipush 7, 2) := by decide +kernel
theorem dDa_offersByWay_43 : decode mDa_offersByWay.2.1 43 = .ok (.invokevirtual 59, 3) := by decide +kernel
theorem dDa_offersByWay_46 : decode mDa_offersByWay.2.1 46 = .ok (.iload_n 2, 1) := by decide +kernel
theorem dDa_offersByWay_47 : decode mDa_offersByWay.2.1 47 = .ok (.ishr, 1) := by decide +kernel
theorem dDa_offersByWay_48 : decode mDa_offersByWay.2.1 48 = .ok (.iconst 1, 1) := by decide +kernel
theorem dDa_offersByWay_49 : decode mDa_offersByWay.2.1 49 = .ok (.iand, 1) := by decide +kernel
theorem dDa_offersByWay_50 : decode mDa_offersByWay.2.1 50 = .ok (.iconst 1, 1) := by decide +kernel
theorem dDa_offersByWay_51 : decode mDa_offersByWay.2.1 51 = .ok (.if_icmp .ne 7, 3) := by decide +kernel
theorem dDa_offersByWay_54 : decode mDa_offersByWay.2.1 54 = .ok (.iconst 1, 1) := by decide +kernel
theorem dDa_offersByWay_55 : decode mDa_offersByWay.2.1 55 = .ok (.goto 4, 3) := by decide +kernel
theorem dDa_offersByWay_58 : decode mDa_offersByWay.2.1 58 = .ok (.iconst 0, 1) := by decide +kernel
theorem dDa_offersByWay_59 : decode mDa_offersByWay.2.1 59 = .ok (.ireturn, 1) := by decide +kernel
theorem dDa_offersByWay_60 : decode mDa_offersByWay.2.1 60 = .ok (.aload_n 0, 1) := by decide +kernel
theorem dDa_offersByWay_61 : decode mDa_offersByWay.2.1 61 = .ok (.getfield 37, 3) := by decide +kernel
theorem dDa_offersByWay_64 : decode mDa_offersByWay.2.1 64 = .ok (.getfield 106, 3) := by decide +kernel
theorem dDa_offersByWay_67 : decode mDa_offersByWay.2.1 67 = .ok (.iload_n 1, 1) := by decide +kernel
theorem dDa_offersByWay_68 : decode mDa_offersByWay.2.1 68 = .ok (.iaload, 1) := by decide +kernel
theorem dDa_offersByWay_69 : decode mDa_offersByWay.2.1 69 = .ok (.aload_n 0, 1) := by decide +kernel
theorem dDa_offersByWay_70 : decode mDa_offersByWay.2.1 70 = .ok (.getfield 45, 3) := by decide +kernel
theorem dDa_offersByWay_73 : decode mDa_offersByWay.2.1 73 = .ok (.iload_n 1, 1) := by decide +kernel
theorem dDa_offersByWay_74 : decode mDa_offersByWay.2.1 74 = .ok (.bipush 6, 2) := by decide +kernel
theorem dDa_offersByWay_76 : decode mDa_offersByWay.2.1 76 = .ok (.invokevirtual 59, 3) := by decide +kernel
theorem dDa_offersByWay_79 : decode mDa_offersByWay.2.1 79 = .ok (.if_icmp .ge 7, 3) := by decide +kernel
theorem dDa_offersByWay_82 : decode mDa_offersByWay.2.1 82 = .ok (.iconst 1, 1) := by decide +kernel
theorem dDa_offersByWay_83 : decode mDa_offersByWay.2.1 83 = .ok (.goto 4, 3) := by decide +kernel
theorem dDa_offersByWay_86 : decode mDa_offersByWay.2.1 86 = .ok (.iconst 0, 1) := by decide +kernel
theorem dDa_offersByWay_87 : decode mDa_offersByWay.2.1 87 = .ok (.ireturn, 1) := by decide +kernel
theorem dDa_offersByWay_88 : decode mDa_offersByWay.2.1 88 = .ok (.aload_n 0, 1) := by decide +kernel
theorem dDa_offersByWay_89 : decode mDa_offersByWay.2.1 89 = .ok (.getfield 45, 3) := by decide +kernel
theorem dDa_offersByWay_92 : decode mDa_offersByWay.2.1 92 = .ok (.iload_n 2, 1) := by decide +kernel
theorem dDa_offersByWay_93 : decode mDa_offersByWay.2.1 93 = .ok (.iconst 1, 1) := by decide +kernel
theorem dDa_offersByWay_94 : decode mDa_offersByWay.2.1 94 = .ok (.invokevirtual 59, 3) := by decide +kernel
theorem dDa_offersByWay_97 : decode mDa_offersByWay.2.1 97 = .ok (.aload_n 0, 1) := by decide +kernel
theorem dDa_offersByWay_98 : decode mDa_offersByWay.2.1 98 = .ok (.getfield 45, 3) := by decide +kernel
theorem dDa_offersByWay_101 : decode mDa_offersByWay.2.1 101 = .ok (.iload_n 1, 1) := by decide +kernel
theorem dDa_offersByWay_102 : decode mDa_offersByWay.2.1 102 = .ok (.iconst 1, 1) := by decide +kernel
theorem dDa_offersByWay_103 : decode mDa_offersByWay.2.1 103 = .ok (.invokevirtual 59, 3) := by decide +kernel
theorem dDa_offersByWay_106 : decode mDa_offersByWay.2.1 106 = .ok (.if_icmp .le 7, 3) := by decide +kernel
theorem dDa_offersByWay_109 : decode mDa_offersByWay.2.1 109 = .ok (.iconst 1, 1) := by decide +kernel
theorem dDa_offersByWay_110 : decode mDa_offersByWay.2.1 110 = .ok (.goto 4, 3) := by decide +kernel
theorem dDa_offersByWay_113 : decode mDa_offersByWay.2.1 113 = .ok (.iconst 0, 1) := by decide +kernel
theorem dDa_offersByWay_114 : decode mDa_offersByWay.2.1 114 = .ok (.ireturn, 1) := by decide +kernel
theorem dDa_offersByWay_115 : decode mDa_offersByWay.2.1 115 = .ok (.iconst 1, 1) := by decide +kernel
theorem dDa_offersByWay_116 : decode mDa_offersByWay.2.1 116 = .ok (.ireturn, 1) := by decide +kernel
theorem dDa_offersByWay_117 : decode mDa_offersByWay.2.1 117 = .ok (.iconst 0, 1) := by decide +kernel
theorem dDa_offersByWay_118 : decode mDa_offersByWay.2.1 118 = .ok (.ireturn, 1) := by decide +kernel
theorem bDa_offersByWay_0 {l : Launch} {G : Gx} {d : Nat} {bc bs : Nat} {Φ : OutV → Mm → Prop} (M : Mm) (a0 : Nat) (x1 : Int32) (x2 : Int32)
    (h : ((m_sh M a0).1 = 1) ∧ ((m_sh M (m_r M a0 2)).1 = 20) ∧ (vp_in x1 (m_sh M (m_r M a0 2)).2) ∧ ((m_i M (m_r M a0 2) x1.toNatClampNeg) = 1 → ((m_sh M (m_r M a0 0)).1 = 6) ∧ CallVC l G d mDa_offersByWay 46 [.ref a0, .int x1, .int x2] [] mPe_fact [.ref (m_r M a0 0), .int x1, .int 7] M bc bs Φ) ∧ (((m_i M (m_r M a0 2) x1.toNatClampNeg) = 2 → ((m_sh M (m_r M a0 12)).1 = 5) ∧ ((m_sh M (m_r M (m_r M a0 12) 5)).1 = 20) ∧ (vp_in x1 (m_sh M (m_r M (m_r M a0 12) 5)).2) ∧ ((m_sh M (m_r M a0 0)).1 = 6) ∧ CallVC l G d mDa_offersByWay 79 [.ref a0, .int x1, .int x2] [.int (m_i M (m_r M (m_r M a0 12) 5) x1.toNatClampNeg)] mPe_fact [.ref (m_r M a0 0), .int x1, .int 6] M bc bs Φ) ∧ (((m_i M (m_r M a0 2) x1.toNatClampNeg) = 3 → ((m_sh M (m_r M a0 0)).1 = 6) ∧ CallVC l G d mDa_offersByWay 97 [.ref a0, .int x1, .int x2] [] mPe_fact [.ref (m_r M a0 0), .int x2, .int 1] M bc bs Φ) ∧ (((m_i M (m_r M a0 2) x1.toNatClampNeg) = 4 → Φ (.inl (some (.int 1))) M) ∧ (¬ (m_i M (m_r M a0 2) x1.toNatClampNeg) = 1 → ¬ (m_i M (m_r M a0 2) x1.toNatClampNeg) = 2 → ¬ (m_i M (m_r M a0 2) x1.toNatClampNeg) = 3 → ¬ (m_i M (m_r M a0 2) x1.toNatClampNeg) = 4 → Φ (.inl (some (.int 0))) M))))) :
    Ev l G d mDa_offersByWay 0 [.ref a0, .int x1, .int x2] [] M bc bs Φ := by
  refine Ev.aload_n dDa_offersByWay_0 rfl ?_
  have g1 := h.1
  replace h := h.2
  refine Ev.getR dDa_offersByWay_1 (Or.inl fDa_9) rfl g1 ?_
  refine Ev.iload_n dDa_offersByWay_4 rfl ?_
  have g2 := h.1
  replace h := h.2
  have g3 := h.1
  replace h := h.2
  refine Ev.iald2 dDa_offersByWay_5 g2 g3 ?_
  skip
  by_cases c : (m_i M (m_r M a0 2) x1.toNatClampNeg) = 1
  · refine Ev.tblAt 36 dDa_offersByWay_6 (by rw [c]; decide) (by rw [c]; decide) (by rw [c]; rfl) (by decide) ?_
    replace h := h.1 c
    refine Ev.aload_n dDa_offersByWay_36 rfl ?_
    refine Ev.getR dDa_offersByWay_37 (Or.inl fDa_45) rfl g1 ?_
    refine Ev.iload_n dDa_offersByWay_40 rfl ?_
    refine Ev.bipush (v := 7) dDa_offersByWay_41 (by decide) ?_
    have g4 := h.1
    replace h := h.2
    exact Ev.vcV (z := mPe_fact) (ci := 6) [.int x1, .int 7] [] rfl dDa_offersByWay_43 oPe_fact rfl w565 iPe_fact sPe_fact (by decide) rfl g4 (Nat.le_of_ble_eq_true rfl) h
  have c5 := c
  clear c
  replace h := h.2
  by_cases c : (m_i M (m_r M a0 2) x1.toNatClampNeg) = 2
  · refine Ev.tblAt 60 dDa_offersByWay_6 (by rw [c]; decide) (by rw [c]; decide) (by rw [c]; rfl) (by decide) ?_
    replace h := h.1 c
    refine Ev.aload_n dDa_offersByWay_60 rfl ?_
    refine Ev.getR dDa_offersByWay_61 (Or.inl fDa_37) rfl g1 ?_
    have g6 := h.1
    replace h := h.2
    refine Ev.getR dDa_offersByWay_64 (Or.inl fDa_106) rfl g6 ?_
    refine Ev.iload_n dDa_offersByWay_67 rfl ?_
    have g7 := h.1
    replace h := h.2
    have g8 := h.1
    replace h := h.2
    refine Ev.iald2 dDa_offersByWay_68 g7 g8 ?_
    refine Ev.aload_n dDa_offersByWay_69 rfl ?_
    refine Ev.getR dDa_offersByWay_70 (Or.inl fDa_45) rfl g1 ?_
    refine Ev.iload_n dDa_offersByWay_73 rfl ?_
    refine Ev.bipush (v := 6) dDa_offersByWay_74 (by decide) ?_
    have g9 := h.1
    replace h := h.2
    exact Ev.vcV (z := mPe_fact) (ci := 6) [.int x1, .int 6] [.int (m_i M (m_r M (m_r M a0 12) 5) x1.toNatClampNeg)] rfl dDa_offersByWay_76 oPe_fact rfl w565 iPe_fact sPe_fact (by decide) rfl g9 (Nat.le_of_ble_eq_true rfl) h
  have c10 := c
  clear c
  replace h := h.2
  by_cases c : (m_i M (m_r M a0 2) x1.toNatClampNeg) = 3
  · refine Ev.tblAt 88 dDa_offersByWay_6 (by rw [c]; decide) (by rw [c]; decide) (by rw [c]; rfl) (by decide) ?_
    replace h := h.1 c
    refine Ev.aload_n dDa_offersByWay_88 rfl ?_
    refine Ev.getR dDa_offersByWay_89 (Or.inl fDa_45) rfl g1 ?_
    refine Ev.iload_n dDa_offersByWay_92 rfl ?_
    refine Ev.iconst (v := 1) dDa_offersByWay_93 (by decide) ?_
    have g11 := h.1
    replace h := h.2
    exact Ev.vcV (z := mPe_fact) (ci := 6) [.int x2, .int 1] [] rfl dDa_offersByWay_94 oPe_fact rfl w565 iPe_fact sPe_fact (by decide) rfl g11 (Nat.le_of_ble_eq_true rfl) h
  have c12 := c
  clear c
  replace h := h.2
  by_cases c : (m_i M (m_r M a0 2) x1.toNatClampNeg) = 4
  · refine Ev.tblAt 115 dDa_offersByWay_6 (by rw [c]; decide) (by rw [c]; decide) (by rw [c]; rfl) (by decide) ?_
    replace h := h.1 c
    refine Ev.iconst (v := 1) dDa_offersByWay_115 (by decide) ?_
    exact Ev.iret dDa_offersByWay_116 rfl rfl h
  have c13 := c
  clear c
  replace h := h.2
  refine Ev.tblOut 117 dDa_offersByWay_6 ?_ (by decide) ?_
  · have e : ∀ k : Int32, ¬ (m_i M (m_r M a0 2) x1.toNatClampNeg) = k → ¬ (m_i M (m_r M a0 2) x1.toNatClampNeg).toInt = k.toInt := fun k h1 h2 => h1 (Int32.toInt_inj.mp h2)
    have := e 1 c5
    rw [show ((1 : Int32)).toInt = 1 from rfl] at this
    have := e 2 c10
    rw [show ((2 : Int32)).toInt = 2 from rfl] at this
    have := e 3 c12
    rw [show ((3 : Int32)).toInt = 3 from rfl] at this
    have := e 4 c13
    rw [show ((4 : Int32)).toInt = 4 from rfl] at this
    omega
  · replace h := h c5 c10 c12 c13
    refine Ev.iconst (v := 0) dDa_offersByWay_117 (by decide) ?_
    exact Ev.iret dDa_offersByWay_118 rfl rfl h
theorem bDa_offersByWay_46 {l : Launch} {G : Gx} {d : Nat} {bc bs : Nat} {Φ : OutV → Mm → Prop} (M : Mm) (a0 : Nat) (x1 : Int32) (x2 : Int32) (s0 : Int32)
    (h : (¬ ((s0 >>> (x2 &&& 31)) &&& 1) = 1 → Φ (.inl (some (.int 0))) M) ∧ (((s0 >>> (x2 &&& 31)) &&& 1) = 1 → Φ (.inl (some (.int 1))) M)) :
    Ev l G d mDa_offersByWay 46 [.ref a0, .int x1, .int x2] [.int s0] M bc bs Φ := by
  refine Ev.iload_n dDa_offersByWay_46 rfl ?_
  refine Ev.ishr dDa_offersByWay_47 ?_
  refine Ev.iconst (v := 1) dDa_offersByWay_48 (by decide) ?_
  refine Ev.iand dDa_offersByWay_49 ?_
  refine Ev.iconst (v := 1) dDa_offersByWay_50 (by decide) ?_
  refine Ev.icmp_ne 58 (by decide) dDa_offersByWay_51 (fun c => ?_) (fun c => ?_)
  · replace h := h.1 c
    refine Ev.iconst (v := 0) dDa_offersByWay_58 (by decide) ?_
    exact Ev.iret dDa_offersByWay_59 rfl rfl h
  · replace h := h.2 c
    refine Ev.iconst (v := 1) dDa_offersByWay_54 (by decide) ?_
    refine Ev.goto 59 dDa_offersByWay_55 (by decide) ?_
    exact Ev.iret dDa_offersByWay_59 rfl rfl h
theorem bDa_offersByWay_79 {l : Launch} {G : Gx} {d : Nat} {bc bs : Nat} {Φ : OutV → Mm → Prop} (M : Mm) (a0 : Nat) (x1 : Int32) (x2 : Int32) (s0 : Int32) (s1 : Int32)
    (h : (s1 ≤ s0 → Φ (.inl (some (.int 0))) M) ∧ (¬ s1 ≤ s0 → Φ (.inl (some (.int 1))) M)) :
    Ev l G d mDa_offersByWay 79 [.ref a0, .int x1, .int x2] [.int s1, .int s0] M bc bs Φ := by
  refine Ev.icmp_ge 86 (by decide) dDa_offersByWay_79 (fun c => ?_) (fun c => ?_)
  · replace h := h.1 c
    refine Ev.iconst (v := 0) dDa_offersByWay_86 (by decide) ?_
    exact Ev.iret dDa_offersByWay_87 rfl rfl h
  · replace h := h.2 c
    refine Ev.iconst (v := 1) dDa_offersByWay_82 (by decide) ?_
    refine Ev.goto 87 dDa_offersByWay_83 (by decide) ?_
    exact Ev.iret dDa_offersByWay_87 rfl rfl h
theorem bDa_offersByWay_97 {l : Launch} {G : Gx} {d : Nat} {bc bs : Nat} {Φ : OutV → Mm → Prop} (M : Mm) (a0 : Nat) (x1 : Int32) (x2 : Int32) (s0 : Int32)
    (h : ((m_sh M a0).1 = 1) ∧ ((m_sh M (m_r M a0 0)).1 = 6) ∧ CallVC l G d mDa_offersByWay 106 [.ref a0, .int x1, .int x2] [.int s0] mPe_fact [.ref (m_r M a0 0), .int x1, .int 1] M bc bs Φ) :
    Ev l G d mDa_offersByWay 97 [.ref a0, .int x1, .int x2] [.int s0] M bc bs Φ := by
  refine Ev.aload_n dDa_offersByWay_97 rfl ?_
  have g1 := h.1
  replace h := h.2
  refine Ev.getR dDa_offersByWay_98 (Or.inl fDa_45) rfl g1 ?_
  refine Ev.iload_n dDa_offersByWay_101 rfl ?_
  refine Ev.iconst (v := 1) dDa_offersByWay_102 (by decide) ?_
  have g2 := h.1
  replace h := h.2
  exact Ev.vcV (z := mPe_fact) (ci := 6) [.int x1, .int 1] [.int s0] rfl dDa_offersByWay_103 oPe_fact rfl w565 iPe_fact sPe_fact (by decide) rfl g2 (Nat.le_of_ble_eq_true rfl) h
theorem bDa_offersByWay_106 {l : Launch} {G : Gx} {d : Nat} {bc bs : Nat} {Φ : OutV → Mm → Prop} (M : Mm) (a0 : Nat) (x1 : Int32) (x2 : Int32) (s0 : Int32) (s1 : Int32)
    (h : (s0 ≤ s1 → Φ (.inl (some (.int 0))) M) ∧ (¬ s0 ≤ s1 → Φ (.inl (some (.int 1))) M)) :
    Ev l G d mDa_offersByWay 106 [.ref a0, .int x1, .int x2] [.int s1, .int s0] M bc bs Φ := by
  refine Ev.icmp_le 113 (by decide) dDa_offersByWay_106 (fun c => ?_) (fun c => ?_)
  · replace h := h.1 c
    refine Ev.iconst (v := 0) dDa_offersByWay_113 (by decide) ?_
    exact Ev.iret dDa_offersByWay_114 rfl rfl h
  · replace h := h.2 c
    refine Ev.iconst (v := 1) dDa_offersByWay_109 (by decide) ?_
    refine Ev.goto 114 dDa_offersByWay_110 (by decide) ?_
    exact Ev.iret dDa_offersByWay_114 rfl rfl h
theorem dDa_endCall_0 : decode mDa_endCall.2.1 0 = .ok (.aload_n 1, 1) := by decide +kernel
theorem dDa_endCall_1 : decode mDa_endCall.2.1 1 = .ok (.getfield 113, 3) := by decide +kernel
theorem dDa_endCall_4 : decode mDa_endCall.2.1 4 = .ok (.iconst (-1), 1) := by decide +kernel
theorem dDa_endCall_5 : decode mDa_endCall.2.1 5 = .ok (.if_icmp .ne 12, 3) := by decide +kernel
theorem dDa_endCall_8 : decode mDa_endCall.2.1 8 = .ok (.aload_n 0, 1) := by decide +kernel
theorem dDa_endCall_9 : decode mDa_endCall.2.1 9 = .ok (.aload_n 1, 1) := by decide +kernel
theorem dDa_endCall_10 : decode mDa_endCall.2.1 10 = .ok (.getfield 94, 3) := by decide +kernel
theorem dDa_endCall_13 : decode mDa_endCall.2.1 13 = .ok (.putfield 81, 3) := by decide +kernel
theorem dDa_endCall_16 : decode mDa_endCall.2.1 16 = .ok (.return_, 1) := by decide +kernel
theorem dDa_endCall_17 : decode mDa_endCall.2.1 17 = .ok (.aload_n 1, 1) := by decide +kernel
theorem dDa_endCall_18 : decode mDa_endCall.2.1 18 = .ok (.aload_n 1, 1) := by decide +kernel
theorem dDa_endCall_19 : decode mDa_endCall.2.1 19 = .ok (.getfield 94, 3) := by decide +kernel
theorem dDa_endCall_22 : decode mDa_endCall.2.1 22 = .ok (.aload_n 0, 1) := by decide +kernel
theorem dDa_endCall_23 : decode mDa_endCall.2.1 23 = .ok (.getfield 49, 3) := by decide +kernel
theorem dDa_endCall_26 : decode mDa_endCall.2.1 26 = .ok (.getfield 97, 3) := by decide +kernel
theorem dDa_endCall_29 : decode mDa_endCall.2.1 29 = .ok (.bipush 6, 2) := by decide +kernel
theorem dDa_endCall_31 : decode mDa_endCall.2.1 31 = .ok (.iaload, 1) := by decide +kernel
theorem dDa_endCall_32 : decode mDa_endCall.2.1 32 = .ok (.aload_n 1, 1) := by decide +kernel
theorem dDa_endCall_33 : decode mDa_endCall.2.1 33 = .ok (.getfield 142, 3) := by decide +kernel
theorem dDa_endCall_36 : decode mDa_endCall.2.1 36 = .ok (.imul, 1) := by decide +kernel
theorem dDa_endCall_37 : decode mDa_endCall.2.1 37 = .ok (.iadd, 1) := by decide +kernel
theorem dDa_endCall_38 : decode mDa_endCall.2.1 38 = .ok (.aload_n 0, 1) := by decide +kernel
theorem dDa_endCall_39 : decode mDa_endCall.2.1 39 = .ok (.getfield 45, 3) := by decide +kernel
theorem dDa_endCall_42 : decode mDa_endCall.2.1 42 = .ok (.aload_n 1, 1) := by decide +kernel
theorem dDa_endCall_43 : decode mDa_endCall.2.1 43 = .ok (.getfield 113, 3) := by decide +kernel
theorem dDa_endCall_46 : decode mDa_endCall.2.1 46 = .ok (.iconst 3, 1) := by decide +kernel
theorem dDa_endCall_47 : decode mDa_endCall.2.1 47 = .ok (.invokevirtual 59, 3) := by decide +kernel
theorem dDa_endCall_50 : decode mDa_endCall.2.1 50 = .ok (.iadd, 1) := by decide +kernel
theorem dDa_endCall_51 : decode mDa_endCall.2.1 51 = .ok (.putfield 160, 3) := by decide +kernel
theorem dDa_endCall_54 : decode mDa_endCall.2.1 54 = .ok (.aload_n 0, 1) := by decide +kernel
theorem dDa_endCall_55 : decode mDa_endCall.2.1 55 = .ok (.getfield 31, 3) := by decide +kernel
theorem dDa_endCall_58 : decode mDa_endCall.2.1 58 = .ok (.aload_n 1, 1) := by decide +kernel
theorem dDa_endCall_59 : decode mDa_endCall.2.1 59 = .ok (.getfield 113, 3) := by decide +kernel
theorem dDa_endCall_62 : decode mDa_endCall.2.1 62 = .ok (.aload_n 1, 1) := by decide +kernel
theorem dDa_endCall_63 : decode mDa_endCall.2.1 63 = .ok (.getfield 160, 3) := by decide +kernel
theorem dDa_endCall_66 : decode mDa_endCall.2.1 66 = .ok (.iastore, 1) := by decide +kernel
theorem dDa_endCall_67 : decode mDa_endCall.2.1 67 = .ok (.aload_n 0, 1) := by decide +kernel
theorem dDa_endCall_68 : decode mDa_endCall.2.1 68 = .ok (.dup, 1) := by decide +kernel
theorem dDa_endCall_69 : decode mDa_endCall.2.1 69 = .ok (.getfield 75, 3) := by decide +kernel
theorem dDa_endCall_72 : decode mDa_endCall.2.1 72 = .ok (.iconst 1, 1) := by decide +kernel
theorem dDa_endCall_73 : decode mDa_endCall.2.1 73 = .ok (.aload_n 1, 1) := by decide +kernel
theorem dDa_endCall_74 : decode mDa_endCall.2.1 74 = .ok (.getfield 113, 3) := by decide +kernel
theorem dDa_endCall_77 : decode mDa_endCall.2.1 77 = .ok (.ishl, 1) := by decide +kernel
theorem dDa_endCall_78 : decode mDa_endCall.2.1 78 = .ok (.ior, 1) := by decide +kernel
theorem dDa_endCall_79 : decode mDa_endCall.2.1 79 = .ok (.putfield 75, 3) := by decide +kernel
theorem dDa_endCall_82 : decode mDa_endCall.2.1 82 = .ok (.aload_n 0, 1) := by decide +kernel
theorem dDa_endCall_83 : decode mDa_endCall.2.1 83 = .ok (.aload_n 1, 1) := by decide +kernel
theorem dDa_endCall_84 : decode mDa_endCall.2.1 84 = .ok (.getfield 160, 3) := by decide +kernel
theorem dDa_endCall_87 : decode mDa_endCall.2.1 87 = .ok (.putfield 81, 3) := by decide +kernel
theorem dDa_endCall_90 : decode mDa_endCall.2.1 90 = .ok (.aload_n 1, 1) := by decide +kernel
theorem dDa_endCall_91 : decode mDa_endCall.2.1 91 = .ok (.getfield 116, 3) := by decide +kernel
theorem dDa_endCall_94 : decode mDa_endCall.2.1 94 = .ok (.ifCond .ne 8, 3) := by decide +kernel
theorem dDa_endCall_97 : decode mDa_endCall.2.1 97 = .ok (.aload_n 0, 1) := by decide +kernel
theorem dDa_endCall_98 : decode mDa_endCall.2.1 98 = .ok (.aload_n 1, 1) := by decide +kernel
theorem dDa_endCall_99 : decode mDa_endCall.2.1 99 = .ok (.invokevirtual 163, 3) := by decide +kernel
theorem dDa_endCall_102 : decode mDa_endCall.2.1 102 = .ok (.return_, 1) := by decide +kernel
theorem bDa_endCall_0 {l : Launch} {G : Gx} {d : Nat} {bc bs : Nat} {Φ : OutV → Mm → Prop} (M : Mm) (a0 : Nat) (a1 : Nat)
    (h : ((m_sh M a1).1 = 0) ∧ (¬ (m_i M a1 5) = ((-1)) → ((m_sh M a0).1 = 1) ∧ ((m_sh M (m_r M a0 1)).1 = 3) ∧ ((m_sh M (m_r M (m_r M a0 1) 0)).1 = 20) ∧ (vp_in 6 (m_sh M (m_r M (m_r M a0 1) 0)).2) ∧ ((m_sh M (m_r M a0 0)).1 = 6) ∧ CallVC l G d mDa_endCall 50 [.ref a0, .ref a1] [.int ((m_i M a1 3) + ((m_i M (m_r M (m_r M a0 1) 0) (6 : Int32).toNatClampNeg) * (m_i M a1 4))), .ref a1] mPe_fact [.ref (m_r M a0 0), .int (m_i M a1 5), .int 3] M bc bs Φ) ∧ ((m_i M a1 5) = ((-1)) → ((m_sh M a0).1 = 1) ∧ Φ (.inl none) (m_si M a0 15 (m_i M a1 3)))) :
    Ev l G d mDa_endCall 0 [.ref a0, .ref a1] [] M bc bs Φ := by
  refine Ev.aload_n dDa_endCall_0 rfl ?_
  have g1 := h.1
  replace h := h.2
  refine Ev.getI dDa_endCall_1 (Or.inl fDa_113) rfl g1 ?_
  refine Ev.iconst (v := (-1)) dDa_endCall_4 (by decide) ?_
  refine Ev.icmp_ne 17 (by decide) dDa_endCall_5 (fun c => ?_) (fun c => ?_)
  · replace h := h.1 c
    refine Ev.aload_n dDa_endCall_17 rfl ?_
    refine Ev.aload_n dDa_endCall_18 rfl ?_
    refine Ev.getI dDa_endCall_19 (Or.inl fDa_94) rfl g1 ?_
    refine Ev.aload_n dDa_endCall_22 rfl ?_
    have g2 := h.1
    replace h := h.2
    refine Ev.getR dDa_endCall_23 (Or.inl fDa_49) rfl g2 ?_
    have g3 := h.1
    replace h := h.2
    refine Ev.getR dDa_endCall_26 (Or.inl fDa_97) rfl g3 ?_
    refine Ev.bipush (v := 6) dDa_endCall_29 (by decide) ?_
    have g4 := h.1
    replace h := h.2
    have g5 := h.1
    replace h := h.2
    refine Ev.iald2 dDa_endCall_31 g4 g5 ?_
    refine Ev.aload_n dDa_endCall_32 rfl ?_
    refine Ev.getI dDa_endCall_33 (Or.inl fDa_142) rfl g1 ?_
    refine Ev.imul dDa_endCall_36 ?_
    refine Ev.iadd dDa_endCall_37 ?_
    refine Ev.aload_n dDa_endCall_38 rfl ?_
    refine Ev.getR dDa_endCall_39 (Or.inl fDa_45) rfl g2 ?_
    refine Ev.aload_n dDa_endCall_42 rfl ?_
    refine Ev.getI dDa_endCall_43 (Or.inl fDa_113) rfl g1 ?_
    refine Ev.iconst (v := 3) dDa_endCall_46 (by decide) ?_
    have g6 := h.1
    replace h := h.2
    exact Ev.vcV (z := mPe_fact) (ci := 6) [.int (m_i M a1 5), .int 3] [.int ((m_i M a1 3) + ((m_i M (m_r M (m_r M a0 1) 0) (6 : Int32).toNatClampNeg) * (m_i M a1 4))), .ref a1] rfl dDa_endCall_47 oPe_fact rfl w565 iPe_fact sPe_fact (by decide) rfl g6 (Nat.le_of_ble_eq_true rfl) h
  · replace h := h.2 c
    refine Ev.aload_n dDa_endCall_8 rfl ?_
    refine Ev.aload_n dDa_endCall_9 rfl ?_
    refine Ev.getI dDa_endCall_10 (Or.inl fDa_94) rfl g1 ?_
    have g7 := h.1
    replace h := h.2
    refine Ev.putI dDa_endCall_13 ⟨_, Or.inl ⟨fDa_81, (fun h => by cases h)⟩⟩ rfl ⟨rfl, rfl⟩ g7 ?_
    exact Ev.vret dDa_endCall_16 rfl h
theorem fDa_160 : FOK "BowingRow$Day" 160 0 6 false := ⟨RX0, TX0, nFd 0, rfl, by decide, rfl, by decide, rfl, lwg_of 324 (by decide +kernel) (by decide +kernel)⟩
theorem bDa_endCall_50 {l : Launch} {G : Gx} {d : Nat} {bc bs : Nat} {Φ : OutV → Mm → Prop} (M : Mm) (a0 : Nat) (a1 : Nat) (r0 : Nat) (s1 : Int32) (s2 : Int32)
    (h : ((m_sh M r0).1 = 0) ∧ ((m_sh M a0).1 = 1) ∧ ((m_sh M a1).1 = 0) ∧ ((m_sh M (m_r M a0 11)).1 = 20) ∧ (vp_in (m_i (m_si M r0 6 (s1 + s2)) a1 5) (m_sh M (m_r M a0 11)).2) ∧ Ev l G d mDa_endCall 67 [.ref a0, .ref a1] [] (m_si (m_si M r0 6 (s1 + s2)) (m_r M a0 11) (m_i (m_si M r0 6 (s1 + s2)) a1 5).toNatClampNeg (m_i (m_si M r0 6 (s1 + s2)) a1 6)) bc bs Φ) :
    Ev l G d mDa_endCall 50 [.ref a0, .ref a1] [.int s2, .int s1, .ref r0] M bc bs Φ := by
  refine Ev.iadd dDa_endCall_50 ?_
  have g1 := h.1
  replace h := h.2
  refine Ev.putI dDa_endCall_51 ⟨_, Or.inl ⟨fDa_160, (fun h => by cases h)⟩⟩ rfl ⟨rfl, rfl⟩ g1 ?_
  refine Ev.aload_n dDa_endCall_54 rfl ?_
  have g2 := h.1
  replace h := h.2
  refine Ev.getR dDa_endCall_55 (Or.inl fDa_31) rfl g2 ?_
  refine Ev.aload_n dDa_endCall_58 rfl ?_
  have g3 := h.1
  replace h := h.2
  refine Ev.getI dDa_endCall_59 (Or.inl fDa_113) rfl g3 ?_
  refine Ev.aload_n dDa_endCall_62 rfl ?_
  refine Ev.getI dDa_endCall_63 (Or.inl fDa_160) rfl g3 ?_
  have g4 := h.1
  replace h := h.2
  have g5 := h.1
  replace h := h.2
  refine Ev.iast2 dDa_endCall_66 g4 g5 ?_
  exact h
theorem bDa_endCall_67 {l : Launch} {G : Gx} {d : Nat} {bc bs : Nat} {Φ : OutV → Mm → Prop} (M : Mm) (a0 : Nat) (a1 : Nat)
    (h : ((m_sh M a0).1 = 1) ∧ ((m_sh M a1).1 = 0) ∧ Ev l G d mDa_endCall 90 [.ref a0, .ref a1] [] (m_si (m_si M a0 13 ((m_i M a0 13) ||| (1 <<< ((m_i M a1 5) &&& 31)))) a0 15 (m_i (m_si M a0 13 ((m_i M a0 13) ||| (1 <<< ((m_i M a1 5) &&& 31)))) a1 6)) bc bs Φ) :
    Ev l G d mDa_endCall 67 [.ref a0, .ref a1] [] M bc bs Φ := by
  refine Ev.aload_n dDa_endCall_67 rfl ?_
  refine Ev.dup dDa_endCall_68 rfl ?_
  have g1 := h.1
  replace h := h.2
  refine Ev.getI dDa_endCall_69 (Or.inl fDa_75) rfl g1 ?_
  refine Ev.iconst (v := 1) dDa_endCall_72 (by decide) ?_
  refine Ev.aload_n dDa_endCall_73 rfl ?_
  have g2 := h.1
  replace h := h.2
  refine Ev.getI dDa_endCall_74 (Or.inl fDa_113) rfl g2 ?_
  refine Ev.ishl dDa_endCall_77 ?_
  refine Ev.ior dDa_endCall_78 ?_
  refine Ev.putI dDa_endCall_79 ⟨_, Or.inl ⟨fDa_75, (fun h => by cases h)⟩⟩ rfl ⟨rfl, rfl⟩ g1 ?_
  refine Ev.aload_n dDa_endCall_82 rfl ?_
  refine Ev.aload_n dDa_endCall_83 rfl ?_
  refine Ev.getI dDa_endCall_84 (Or.inl fDa_160) rfl g2 ?_
  refine Ev.putI dDa_endCall_87 ⟨_, Or.inl ⟨fDa_81, (fun h => by cases h)⟩⟩ rfl ⟨rfl, rfl⟩ g1 ?_
  exact h
def mDa_letPass : MR := (⟨"BowingRow$Day", "letPass", "(LBowingRow$Call;)V"⟩, prog_3_method_10_code, 5, none)
theorem oDa_letPass : MOK mDa_letPass 1 := ⟨lwg_of 632 (by decide +kernel) (by decide +kernel), lwg_of 97 (by decide +kernel) (by decide +kernel), ⟨by decide +kernel, by decide +kernel⟩, by decide +kernel, by decide⟩
theorem iDa_letPass : Cond.instanceMethod mDa_letPass.1 ∈ lwg := lwg_of 631 (by decide +kernel) (by decide +kernel)
theorem sDa_letPass : Cond.selects mDa_letPass.1.cls mDa_letPass.1 mDa_letPass.1 ∈ lwg := lwg_of 9 (by decide +kernel) (by decide +kernel)
theorem w629 : Cond.methodLink "BowingRow$Day" 163 ⟨"BowingRow$Day", "letPass", "(LBowingRow$Call;)V"⟩ ∈ lwg := lwg_of 629 (by decide +kernel) (by decide +kernel)
theorem bDa_endCall_90 {l : Launch} {G : Gx} {d : Nat} {bc bs : Nat} {Φ : OutV → Mm → Prop} (M : Mm) (a0 : Nat) (a1 : Nat)
    (h : ((m_sh M a1).1 = 0) ∧ (¬ (m_i M a1 7) = 0 → Φ (.inl none) M) ∧ ((m_i M a1 7) = 0 → ((m_sh M a0).1 = 1) ∧ CallVC l G d mDa_endCall 102 [.ref a0, .ref a1] [] mDa_letPass [.ref a0, .ref a1] M bc bs Φ)) :
    Ev l G d mDa_endCall 90 [.ref a0, .ref a1] [] M bc bs Φ := by
  refine Ev.aload_n dDa_endCall_90 rfl ?_
  have g1 := h.1
  replace h := h.2
  refine Ev.getI dDa_endCall_91 (Or.inl fDa_116) rfl g1 ?_
  refine Ev.if_ne 102 (by decide) dDa_endCall_94 (fun c => ?_) (fun c => ?_)
  · replace h := h.1 c
    exact Ev.vret dDa_endCall_102 rfl h
  · replace h := h.2 c
    refine Ev.aload_n dDa_endCall_97 rfl ?_
    refine Ev.aload_n dDa_endCall_98 rfl ?_
    have g2 := h.1
    replace h := h.2
    exact Ev.vcV (z := mDa_letPass) (ci := 1) [.ref a1] [] rfl dDa_endCall_99 oDa_letPass rfl w629 iDa_letPass sDa_letPass (by decide) rfl g2 (Nat.le_of_ble_eq_true rfl) h
theorem bDa_endCall_102 {l : Launch} {G : Gx} {d : Nat} {bc bs : Nat} {Φ : OutV → Mm → Prop} (M : Mm) (a0 : Nat) (a1 : Nat)
    (h : Φ (.inl none) M) :
    Ev l G d mDa_endCall 102 [.ref a0, .ref a1] [] M bc bs Φ := by
  exact Ev.vret dDa_endCall_102 rfl h
theorem dDa_letPass_0 : decode mDa_letPass.2.1 0 = .ok (.aload_n 1, 1) := by decide +kernel
theorem dDa_letPass_1 : decode mDa_letPass.2.1 1 = .ok (.getfield 94, 3) := by decide +kernel
theorem dDa_letPass_4 : decode mDa_letPass.2.1 4 = .ok (.bipush 60, 2) := by decide +kernel
theorem dDa_letPass_6 : decode mDa_letPass.2.1 6 = .ok (.idiv, 1) := by decide +kernel
theorem dDa_letPass_7 : decode mDa_letPass.2.1 7 = .ok (.istore_n 2, 1) := by decide +kernel
theorem dDa_letPass_8 : decode mDa_letPass.2.1 8 = .ok (.iconst 0, 1) := by decide +kernel
theorem dDa_letPass_9 : decode mDa_letPass.2.1 9 = .ok (.istore_n 3, 1) := by decide +kernel
theorem dDa_letPass_10 : decode mDa_letPass.2.1 10 = .ok (.iload_n 3, 1) := by decide +kernel
theorem dDa_letPass_11 : decode mDa_letPass.2.1 11 = .ok (.aload_n 1, 1) := by decide +kernel
theorem dDa_letPass_12 : decode mDa_letPass.2.1 12 = .ok (.getfield 130, 3) := by decide +kernel
theorem dDa_letPass_15 : decode mDa_letPass.2.1 15 = .ok (.if_icmp .ge 61, 3) := by decide +kernel
theorem dDa_letPass_18 : decode mDa_letPass.2.1 18 = .ok (.aload_n 1, 1) := by decide +kernel
theorem dDa_letPass_19 : decode mDa_letPass.2.1 19 = .ok (.getfield 139, 3) := by decide +kernel
theorem dDa_letPass_22 : decode mDa_letPass.2.1 22 = .ok (.iload_n 3, 1) := by decide +kernel
theorem dDa_letPass_23 : decode mDa_letPass.2.1 23 = .ok (.iaload, 1) := by decide +kernel
theorem dDa_letPass_24 : decode mDa_letPass.2.1 24 = .ok (.aload_n 1, 1) := by decide +kernel
theorem dDa_letPass_25 : decode mDa_letPass.2.1 25 = .ok (.getfield 113, 3) := by decide +kernel
theorem dDa_letPass_28 : decode mDa_letPass.2.1 28 = .ok (.if_icmp .eq 48, 3) := by decide +kernel
theorem dDa_letPass_31 : decode mDa_letPass.2.1 31 = .ok (.aload_n 1, 1) := by decide +kernel
theorem dDa_letPass_32 : decode mDa_letPass.2.1 32 = .ok (.getfield 139, 3) := by decide +kernel
theorem dDa_letPass_35 : decode mDa_letPass.2.1 35 = .ok (.iload_n 3, 1) := by decide +kernel
theorem dDa_letPass_36 : decode mDa_letPass.2.1 36 = .ok (.iaload, 1) := by decide +kernel
theorem dDa_letPass_37 : decode mDa_letPass.2.1 37 = .ok (.istore 4, 2) := by decide +kernel
theorem dDa_letPass_39 : decode mDa_letPass.2.1 39 = .ok (.aload_n 0, 1) := by decide +kernel
theorem dDa_letPass_40 : decode mDa_letPass.2.1 40 = .ok (.getfield 37, 3) := by decide +kernel
theorem dDa_letPass_43 : decode mDa_letPass.2.1 43 = .ok (.iload 4, 2) := by decide +kernel
theorem dDa_letPass_45 : decode mDa_letPass.2.1 45 = .ok (.aload_n 1, 1) := by decide +kernel
theorem dDa_letPass_46 : decode mDa_letPass.2.1 46 = .ok (.getfield 113, 3) := by decide +kernel
theorem dDa_letPass_49 : decode mDa_letPass.2.1 49 = .ok (.aload_n 0, 1) := by decide +kernel
theorem dDa_letPass_50 : decode mDa_letPass.2.1 50 = .ok (.getfield 49, 3) := by decide +kernel
theorem dDa_letPass_53 : decode mDa_letPass.2.1 53 = .ok (.iload 4, 2) := by decide +kernel
theorem dDa_letPass_55 : decode mDa_letPass.2.1 55 = .ok (.aload_n 1, 1) := by decide +kernel
theorem dDa_letPass_56 : decode mDa_letPass.2.1 56 = .ok (.getfield 113, 3) := by decide +kernel
theorem dDa_letPass_59 : decode mDa_letPass.2.1 59 = .ok (.iload_n 2, 1) := by decide +kernel
theorem dDa_letPass_60 : decode mDa_letPass.2.1 60 = .ok (.invokevirtual 166, 3) := by decide +kernel
theorem dDa_letPass_63 : decode mDa_letPass.2.1 63 = .ok (.aload_n 1, 1) := by decide +kernel
theorem dDa_letPass_64 : decode mDa_letPass.2.1 64 = .ok (.getfield 94, 3) := by decide +kernel
theorem dDa_letPass_67 : decode mDa_letPass.2.1 67 = .ok (.invokevirtual 170, 3) := by decide +kernel
theorem dDa_letPass_70 : decode mDa_letPass.2.1 70 = .ok (.iinc 3 1, 3) := by decide +kernel
theorem dDa_letPass_73 : decode mDa_letPass.2.1 73 = .ok (.goto (-63), 3) := by decide +kernel
theorem dDa_letPass_76 : decode mDa_letPass.2.1 76 = .ok (.return_, 1) := by decide +kernel
theorem bDa_letPass_0 {l : Launch} {G : Gx} {d : Nat} {bc bs : Nat} {Φ : OutV → Mm → Prop} (M : Mm) (a0 : Nat) (a1 : Nat)
    (h : ((m_sh M a1).1 = 0) ∧ Ev l G d mDa_letPass 10 [.ref a0, .ref a1, .int ((m_i M a1 3) / 60), .int 0, .null] [] M bc bs Φ) :
    Ev l G d mDa_letPass 0 [.ref a0, .ref a1, .null, .null, .null] [] M bc bs Φ := by
  refine Ev.aload_n dDa_letPass_0 rfl ?_
  have g1 := h.1
  replace h := h.2
  refine Ev.getI dDa_letPass_1 (Or.inl fDa_94) rfl g1 ?_
  refine Ev.bipush (v := 60) dDa_letPass_4 (by decide) ?_
  refine Ev.idiv dDa_letPass_6 (by decide) ?_
  refine Ev.istore_n dDa_letPass_7 (by decide) ?_
  show Ev l G d mDa_letPass (_ + _) [.ref a0, .ref a1, .int ((m_i M a1 3) / 60), .null, .null] [] M bc bs Φ
  refine Ev.iconst (v := 0) dDa_letPass_8 (by decide) ?_
  refine Ev.istore_n dDa_letPass_9 (by decide) ?_
  show Ev l G d mDa_letPass (_ + _) [.ref a0, .ref a1, .int ((m_i M a1 3) / 60), .int 0, .null] [] M bc bs Φ
  exact h
theorem w633 : Cond.methodLink "BowingRow$Day" 166 ⟨"BowingRow$InForce", "passWorth", "(III)I"⟩ ∈ lwg := lwg_of 633 (by decide +kernel) (by decide +kernel)
theorem bDa_letPass_10 {l : Launch} {G : Gx} {d : Nat} {bc bs : Nat} {Φ : OutV → Mm → Prop} (M : Mm) (a0 : Nat) (a1 : Nat) (x2 : Int32) (x3 : Int32) (u4 : Value)
    (h : ((m_sh M a1).1 = 0) ∧ ((m_i M a1 1) ≤ x3 → Φ (.inl none) M) ∧ (¬ (m_i M a1 1) ≤ x3 → ((m_sh M (m_r M a1 0)).1 = 20) ∧ (vp_in x3 (m_sh M (m_r M a1 0)).2) ∧ ((m_i M (m_r M a1 0) x3.toNatClampNeg) = (m_i M a1 5) → Φ (.inl none) M) ∧ (¬ (m_i M (m_r M a1 0) x3.toNatClampNeg) = (m_i M a1 5) → ((m_sh M a0).1 = 1) ∧ ((m_sh M (m_r M a0 1)).1 = 3) ∧ CallVC l G d mDa_letPass 63 [.ref a0, .ref a1, .int x2, .int x3, .int (m_i M (m_r M a1 0) x3.toNatClampNeg)] [.int (m_i M a1 5), .int (m_i M (m_r M a1 0) x3.toNatClampNeg), .ref (m_r M a0 12)] mIf_passWorth [.ref (m_r M a0 1), .int (m_i M (m_r M a1 0) x3.toNatClampNeg), .int (m_i M a1 5), .int x2] M bc bs Φ))) :
    Ev l G d mDa_letPass 10 [.ref a0, .ref a1, .int x2, .int x3, u4] [] M bc bs Φ := by
  refine Ev.iload_n dDa_letPass_10 rfl ?_
  refine Ev.aload_n dDa_letPass_11 rfl ?_
  have g1 := h.1
  replace h := h.2
  refine Ev.getI dDa_letPass_12 (Or.inl fDa_130) rfl g1 ?_
  refine Ev.icmp_ge 76 (by decide) dDa_letPass_15 (fun c => ?_) (fun c => ?_)
  · replace h := h.1 c
    exact Ev.vret dDa_letPass_76 rfl h
  · replace h := h.2 c
    refine Ev.aload_n dDa_letPass_18 rfl ?_
    refine Ev.getR dDa_letPass_19 (Or.inl fDa_139) rfl g1 ?_
    refine Ev.iload_n dDa_letPass_22 rfl ?_
    have g2 := h.1
    replace h := h.2
    have g3 := h.1
    replace h := h.2
    refine Ev.iald2 dDa_letPass_23 g2 g3 ?_
    refine Ev.aload_n dDa_letPass_24 rfl ?_
    refine Ev.getI dDa_letPass_25 (Or.inl fDa_113) rfl g1 ?_
    refine Ev.icmp_eq 76 (by decide) dDa_letPass_28 (fun c => ?_) (fun c => ?_)
    · replace h := h.1 c
      exact Ev.vret dDa_letPass_76 rfl h
    · replace h := h.2 c
      refine Ev.aload_n dDa_letPass_31 rfl ?_
      refine Ev.getR dDa_letPass_32 (Or.inl fDa_139) rfl g1 ?_
      refine Ev.iload_n dDa_letPass_35 rfl ?_
      refine Ev.iald2 dDa_letPass_36 g2 g3 ?_
      refine Ev.istore dDa_letPass_37 (by decide) ?_
      show Ev l G d mDa_letPass (_ + _) [.ref a0, .ref a1, .int x2, .int x3, .int (m_i M (m_r M a1 0) x3.toNatClampNeg)] [] M bc bs Φ
      refine Ev.aload_n dDa_letPass_39 rfl ?_
      have g4 := h.1
      replace h := h.2
      refine Ev.getR dDa_letPass_40 (Or.inl fDa_37) rfl g4 ?_
      refine Ev.iload dDa_letPass_43 rfl ?_
      refine Ev.aload_n dDa_letPass_45 rfl ?_
      refine Ev.getI dDa_letPass_46 (Or.inl fDa_113) rfl g1 ?_
      refine Ev.aload_n dDa_letPass_49 rfl ?_
      refine Ev.getR dDa_letPass_50 (Or.inl fDa_49) rfl g4 ?_
      refine Ev.iload dDa_letPass_53 rfl ?_
      refine Ev.aload_n dDa_letPass_55 rfl ?_
      refine Ev.getI dDa_letPass_56 (Or.inl fDa_113) rfl g1 ?_
      refine Ev.iload_n dDa_letPass_59 rfl ?_
      have g5 := h.1
      replace h := h.2
      exact Ev.vcV (z := mIf_passWorth) (ci := 3) [.int (m_i M (m_r M a1 0) x3.toNatClampNeg), .int (m_i M a1 5), .int x2] [.int (m_i M a1 5), .int (m_i M (m_r M a1 0) x3.toNatClampNeg), .ref (m_r M a0 12)] rfl dDa_letPass_60 oIf_passWorth rfl w633 iIf_passWorth sIf_passWorth (by decide) rfl g5 (Nat.le_of_ble_eq_true rfl) h
theorem w643 : Cond.methodLink "BowingRow$Day" 170 ⟨"BowingRow$PassBook", "write", "(IIII)V"⟩ ∈ lwg := lwg_of 643 (by decide +kernel) (by decide +kernel)
theorem bDa_letPass_63 {l : Launch} {G : Gx} {d : Nat} {bc bs : Nat} {Φ : OutV → Mm → Prop} (M : Mm) (a0 : Nat) (a1 : Nat) (x2 : Int32) (x3 : Int32) (x4 : Int32) (r0 : Nat) (s1 : Int32) (s2 : Int32) (s3 : Int32)
    (h : ((m_sh M a1).1 = 0) ∧ ((m_sh M r0).1 = 5) ∧ CallVC l G d mDa_letPass 70 [.ref a0, .ref a1, .int x2, .int x3, .int x4] [] mPb_write [.ref r0, .int s1, .int s2, .int s3, .int (m_i M a1 3)] M bc bs Φ) :
    Ev l G d mDa_letPass 63 [.ref a0, .ref a1, .int x2, .int x3, .int x4] [.int s3, .int s2, .int s1, .ref r0] M bc bs Φ := by
  refine Ev.aload_n dDa_letPass_63 rfl ?_
  have g1 := h.1
  replace h := h.2
  refine Ev.getI dDa_letPass_64 (Or.inl fDa_94) rfl g1 ?_
  have g2 := h.1
  replace h := h.2
  exact Ev.vcV (z := mPb_write) (ci := 5) [.int s1, .int s2, .int s3, .int (m_i M a1 3)] [] rfl dDa_letPass_67 oPb_write rfl w643 iPb_write sPb_write (by decide) rfl g2 (Nat.le_of_ble_eq_true rfl) h
theorem bDa_letPass_70 {l : Launch} {G : Gx} {d : Nat} {bc bs : Nat} {Φ : OutV → Mm → Prop} (M : Mm) (a0 : Nat) (a1 : Nat) (x2 : Int32) (x3 : Int32) (x4 : Int32)
    (h : Ev l G d mDa_letPass 10 [.ref a0, .ref a1, .int x2, .int (x3 + 1), .int x4] [] M bc bs Φ) :
    Ev l G d mDa_letPass 70 [.ref a0, .ref a1, .int x2, .int x3, .int x4] [] M bc bs Φ := by
  refine Ev.iinc (v := x3 + 1) dDa_letPass_70 (by decide) rfl rfl ?_
  show Ev l G d mDa_letPass (_ + _) [.ref a0, .ref a1, .int x2, .int (x3 + 1), .int x4] [] M bc bs Φ
  refine Ev.goto 10 dDa_letPass_73 (by decide) ?_
  exact h
def mDa_allOffers : MR := (⟨"BowingRow$Day", "allOffers", "()I"⟩, prog_3_method_11_code, 3, (Option.some .int))
theorem oDa_allOffers : MOK mDa_allOffers 0 := ⟨lwg_of 1074 (by decide +kernel) (by decide +kernel), lwg_of 97 (by decide +kernel) (by decide +kernel), ⟨by decide +kernel, by decide +kernel⟩, by decide +kernel, by decide⟩
theorem iDa_allOffers : Cond.instanceMethod mDa_allOffers.1 ∈ lwg := lwg_of 1072 (by decide +kernel) (by decide +kernel)
theorem sDa_allOffers : Cond.selects mDa_allOffers.1.cls mDa_allOffers.1 mDa_allOffers.1 ∈ lwg := lwg_of 1073 (by decide +kernel) (by decide +kernel)
theorem dDa_allOffers_0 : decode mDa_allOffers.2.1 0 = .ok (.iconst 0, 1) := by decide +kernel
theorem dDa_allOffers_1 : decode mDa_allOffers.2.1 1 = .ok (.istore_n 1, 1) := by decide +kernel
theorem dDa_allOffers_2 : decode mDa_allOffers.2.1 2 = .ok (.iconst 0, 1) := by decide +kernel
theorem dDa_allOffers_3 : decode mDa_allOffers.2.1 3 = .ok (.istore_n 2, 1) := by decide +kernel
theorem dDa_allOffers_4 : decode mDa_allOffers.2.1 4 = .ok (.iload_n 2, 1) := by decide +kernel
theorem dDa_allOffers_5 : decode mDa_allOffers.2.1 5 = .ok (.aload_n 0, 1) := by decide +kernel
theorem dDa_allOffers_6 : decode mDa_allOffers.2.1 6 = .ok (.getfield 63, 3) := by decide +kernel
theorem dDa_allOffers_9 : decode mDa_allOffers.2.1 9 = .ok (.if_icmp .ge 21, 3) := by decide +kernel
theorem dDa_allOffers_12 : decode mDa_allOffers.2.1 12 = .ok (.iload_n 1, 1) := by decide +kernel
theorem dDa_allOffers_13 : decode mDa_allOffers.2.1 13 = .ok (.aload_n 0, 1) := by decide +kernel
theorem dDa_allOffers_14 : decode mDa_allOffers.2.1 14 = .ok (.getfield 27, 3) := by decide +kernel
theorem dDa_allOffers_17 : decode mDa_allOffers.2.1 17 = .ok (.iload_n 2, 1) := by decide +kernel
theorem dDa_allOffers_18 : decode mDa_allOffers.2.1 18 = .ok (.aaload, 1) := by decide +kernel
theorem dDa_allOffers_19 : decode mDa_allOffers.2.1 19 = .ok (.getfield 142, 3) := by decide +kernel
theorem dDa_allOffers_22 : decode mDa_allOffers.2.1 22 = .ok (.iadd, 1) := by decide +kernel
theorem dDa_allOffers_23 : decode mDa_allOffers.2.1 23 = .ok (.istore_n 1, 1) := by decide +kernel
theorem dDa_allOffers_24 : decode mDa_allOffers.2.1 24 = .ok (.iinc 2 1, 3) := by decide +kernel
theorem dDa_allOffers_27 : decode mDa_allOffers.2.1 27 = .ok (.goto (-23), 3) := by decide +kernel
theorem dDa_allOffers_30 : decode mDa_allOffers.2.1 30 = .ok (.iload_n 1, 1) := by decide +kernel
theorem dDa_allOffers_31 : decode mDa_allOffers.2.1 31 = .ok (.ireturn, 1) := by decide +kernel
theorem bDa_allOffers_0 {l : Launch} {G : Gx} {d : Nat} {bc bs : Nat} {Φ : OutV → Mm → Prop} (M : Mm) (a0 : Nat)
    (h : Ev l G d mDa_allOffers 4 [.ref a0, .int 0, .int 0] [] M bc bs Φ) :
    Ev l G d mDa_allOffers 0 [.ref a0, .null, .null] [] M bc bs Φ := by
  refine Ev.iconst (v := 0) dDa_allOffers_0 (by decide) ?_
  refine Ev.istore_n dDa_allOffers_1 (by decide) ?_
  show Ev l G d mDa_allOffers (_ + _) [.ref a0, .int 0, .null] [] M bc bs Φ
  refine Ev.iconst (v := 0) dDa_allOffers_2 (by decide) ?_
  refine Ev.istore_n dDa_allOffers_3 (by decide) ?_
  show Ev l G d mDa_allOffers (_ + _) [.ref a0, .int 0, .int 0] [] M bc bs Φ
  exact h
theorem bDa_allOffers_4 {l : Launch} {G : Gx} {d : Nat} {bc bs : Nat} {Φ : OutV → Mm → Prop} (M : Mm) (a0 : Nat) (x1 : Int32) (x2 : Int32)
    (h : ((m_sh M a0).1 = 1) ∧ ((m_i M a0 10) ≤ x2 → Φ (.inl (some (.int x1))) M) ∧ (¬ (m_i M a0 10) ≤ x2 → ((m_sh M (m_r M a0 9)).1 = 30) ∧ (vp_in x2 (m_sh M (m_r M a0 9)).2) ∧ ((m_sh M (m_r M (m_r M a0 9) x2.toNatClampNeg)).1 = 0) ∧ Ev l G d mDa_allOffers 4 [.ref a0, .int (x1 + (m_i M (m_r M (m_r M a0 9) x2.toNatClampNeg) 4)), .int (x2 + 1)] [] M bc bs Φ)) :
    Ev l G d mDa_allOffers 4 [.ref a0, .int x1, .int x2] [] M bc bs Φ := by
  refine Ev.iload_n dDa_allOffers_4 rfl ?_
  refine Ev.aload_n dDa_allOffers_5 rfl ?_
  have g1 := h.1
  replace h := h.2
  refine Ev.getI dDa_allOffers_6 (Or.inl fDa_63) rfl g1 ?_
  refine Ev.icmp_ge 30 (by decide) dDa_allOffers_9 (fun c => ?_) (fun c => ?_)
  · replace h := h.1 c
    refine Ev.iload_n dDa_allOffers_30 rfl ?_
    exact Ev.iret dDa_allOffers_31 rfl rfl h
  · replace h := h.2 c
    refine Ev.iload_n dDa_allOffers_12 rfl ?_
    refine Ev.aload_n dDa_allOffers_13 rfl ?_
    refine Ev.getR dDa_allOffers_14 (Or.inl fDa_27) rfl g1 ?_
    refine Ev.iload_n dDa_allOffers_17 rfl ?_
    have g2 := h.1
    replace h := h.2
    have g3 := h.1
    replace h := h.2
    refine Ev.aald2 30 (by decide) dDa_allOffers_18 g2 g3 ?_
    have g4 := h.1
    replace h := h.2
    refine Ev.getI dDa_allOffers_19 (Or.inl fDa_142) rfl g4 ?_
    refine Ev.iadd dDa_allOffers_22 ?_
    refine Ev.istore_n dDa_allOffers_23 (by decide) ?_
    show Ev l G d mDa_allOffers (_ + _) [.ref a0, .int (x1 + (m_i M (m_r M (m_r M a0 9) x2.toNatClampNeg) 4)), .int x2] [] M bc bs Φ
    refine Ev.iinc (v := x2 + 1) dDa_allOffers_24 (by decide) rfl rfl ?_
    show Ev l G d mDa_allOffers (_ + _) [.ref a0, .int (x1 + (m_i M (m_r M (m_r M a0 9) x2.toNatClampNeg) 4)), .int (x2 + 1)] [] M bc bs Φ
    refine Ev.goto 4 dDa_allOffers_27 (by decide) ?_
    exact h
def mDa_lastEnd : MR := (⟨"BowingRow$Day", "lastEnd", "()I"⟩, prog_3_method_13_code, 3, (Option.some .int))
theorem oDa_lastEnd : MOK mDa_lastEnd 0 := ⟨lwg_of 1078 (by decide +kernel) (by decide +kernel), lwg_of 97 (by decide +kernel) (by decide +kernel), ⟨by decide +kernel, by decide +kernel⟩, by decide +kernel, by decide⟩
theorem iDa_lastEnd : Cond.instanceMethod mDa_lastEnd.1 ∈ lwg := lwg_of 1076 (by decide +kernel) (by decide +kernel)
theorem sDa_lastEnd : Cond.selects mDa_lastEnd.1.cls mDa_lastEnd.1 mDa_lastEnd.1 ∈ lwg := lwg_of 1077 (by decide +kernel) (by decide +kernel)
theorem dDa_lastEnd_0 : decode mDa_lastEnd.2.1 0 = .ok (.iconst 0, 1) := by decide +kernel
theorem dDa_lastEnd_1 : decode mDa_lastEnd.2.1 1 = .ok (.istore_n 1, 1) := by decide +kernel
theorem dDa_lastEnd_2 : decode mDa_lastEnd.2.1 2 = .ok (.iconst 0, 1) := by decide +kernel
theorem dDa_lastEnd_3 : decode mDa_lastEnd.2.1 3 = .ok (.istore_n 2, 1) := by decide +kernel
theorem dDa_lastEnd_4 : decode mDa_lastEnd.2.1 4 = .ok (.iload_n 2, 1) := by decide +kernel
theorem dDa_lastEnd_5 : decode mDa_lastEnd.2.1 5 = .ok (.aload_n 0, 1) := by decide +kernel
theorem dDa_lastEnd_6 : decode mDa_lastEnd.2.1 6 = .ok (.getfield 63, 3) := by decide +kernel
theorem dDa_lastEnd_9 : decode mDa_lastEnd.2.1 9 = .ok (.if_icmp .ge 23, 3) := by decide +kernel
theorem dDa_lastEnd_12 : decode mDa_lastEnd.2.1 12 = .ok (.iload_n 1, 1) := by decide +kernel
theorem dDa_lastEnd_13 : decode mDa_lastEnd.2.1 13 = .ok (.aload_n 0, 1) := by decide +kernel
theorem dDa_lastEnd_14 : decode mDa_lastEnd.2.1 14 = .ok (.getfield 27, 3) := by decide +kernel
theorem dDa_lastEnd_17 : decode mDa_lastEnd.2.1 17 = .ok (.iload_n 2, 1) := by decide +kernel
theorem dDa_lastEnd_18 : decode mDa_lastEnd.2.1 18 = .ok (.aaload, 1) := by decide +kernel
theorem dDa_lastEnd_19 : decode mDa_lastEnd.2.1 19 = .ok (.getfield 160, 3) := by decide +kernel
theorem dDa_lastEnd_22 : decode mDa_lastEnd.2.1 22 = .ok (.invokestatic 174, 3) := by decide +kernel
theorem dDa_lastEnd_25 : decode mDa_lastEnd.2.1 25 = .ok (.istore_n 1, 1) := by decide +kernel
theorem dDa_lastEnd_26 : decode mDa_lastEnd.2.1 26 = .ok (.iinc 2 1, 3) := by decide +kernel
theorem dDa_lastEnd_29 : decode mDa_lastEnd.2.1 29 = .ok (.goto (-25), 3) := by decide +kernel
theorem dDa_lastEnd_32 : decode mDa_lastEnd.2.1 32 = .ok (.iload_n 1, 1) := by decide +kernel
theorem dDa_lastEnd_33 : decode mDa_lastEnd.2.1 33 = .ok (.ireturn, 1) := by decide +kernel
theorem bDa_lastEnd_0 {l : Launch} {G : Gx} {d : Nat} {bc bs : Nat} {Φ : OutV → Mm → Prop} (M : Mm) (a0 : Nat)
    (h : Ev l G d mDa_lastEnd 4 [.ref a0, .int 0, .int 0] [] M bc bs Φ) :
    Ev l G d mDa_lastEnd 0 [.ref a0, .null, .null] [] M bc bs Φ := by
  refine Ev.iconst (v := 0) dDa_lastEnd_0 (by decide) ?_
  refine Ev.istore_n dDa_lastEnd_1 (by decide) ?_
  show Ev l G d mDa_lastEnd (_ + _) [.ref a0, .int 0, .null] [] M bc bs Φ
  refine Ev.iconst (v := 0) dDa_lastEnd_2 (by decide) ?_
  refine Ev.istore_n dDa_lastEnd_3 (by decide) ?_
  show Ev l G d mDa_lastEnd (_ + _) [.ref a0, .int 0, .int 0] [] M bc bs Φ
  exact h
theorem w1079 : Cond.methodLink "BowingRow$Day" 174 ⟨"java/lang/Math", "max", "(II)I"⟩ ∈ lwg := lwg_of 1079 (by decide +kernel) (by decide +kernel)
theorem bDa_lastEnd_4 {l : Launch} {G : Gx} {d : Nat} {bc bs : Nat} {Φ : OutV → Mm → Prop} (M : Mm) (a0 : Nat) (x1 : Int32) (x2 : Int32)
    (h : ((m_sh M a0).1 = 1) ∧ ((m_i M a0 10) ≤ x2 → Φ (.inl (some (.int x1))) M) ∧ (¬ (m_i M a0 10) ≤ x2 → ((m_sh M (m_r M a0 9)).1 = 30) ∧ (vp_in x2 (m_sh M (m_r M a0 9)).2) ∧ ((m_sh M (m_r M (m_r M a0 9) x2.toNatClampNeg)).1 = 0) ∧ (1 ≤ d) ∧ Ev l G d mDa_lastEnd 4 [.ref a0, .int (if x1 < (m_i M (m_r M (m_r M a0 9) x2.toNatClampNeg) 6) then (m_i M (m_r M (m_r M a0 9) x2.toNatClampNeg) 6) else x1), .int (x2 + 1)] [] M bc bs Φ)) :
    Ev l G d mDa_lastEnd 4 [.ref a0, .int x1, .int x2] [] M bc bs Φ := by
  refine Ev.iload_n dDa_lastEnd_4 rfl ?_
  refine Ev.aload_n dDa_lastEnd_5 rfl ?_
  have g1 := h.1
  replace h := h.2
  refine Ev.getI dDa_lastEnd_6 (Or.inl fDa_63) rfl g1 ?_
  refine Ev.icmp_ge 32 (by decide) dDa_lastEnd_9 (fun c => ?_) (fun c => ?_)
  · replace h := h.1 c
    refine Ev.iload_n dDa_lastEnd_32 rfl ?_
    exact Ev.iret dDa_lastEnd_33 rfl rfl h
  · replace h := h.2 c
    refine Ev.iload_n dDa_lastEnd_12 rfl ?_
    refine Ev.aload_n dDa_lastEnd_13 rfl ?_
    refine Ev.getR dDa_lastEnd_14 (Or.inl fDa_27) rfl g1 ?_
    refine Ev.iload_n dDa_lastEnd_17 rfl ?_
    have g2 := h.1
    replace h := h.2
    have g3 := h.1
    replace h := h.2
    refine Ev.aald2 30 (by decide) dDa_lastEnd_18 g2 g3 ?_
    have g4 := h.1
    replace h := h.2
    refine Ev.getI dDa_lastEnd_19 (Or.inl fDa_160) rfl g4 ?_
    have g5 := h.1
    replace h := h.2
    refine Ev.mmax dDa_lastEnd_22 w1079 w_max_s w115 w_max_c (Nat.le_of_ble_eq_true rfl) g5 ?_
    refine Ev.istore_n dDa_lastEnd_25 (by decide) ?_
    show Ev l G d mDa_lastEnd (_ + _) [.ref a0, .int (if x1 < (m_i M (m_r M (m_r M a0 9) x2.toNatClampNeg) 6) then (m_i M (m_r M (m_r M a0 9) x2.toNatClampNeg) 6) else x1), .int x2] [] M bc bs Φ
    refine Ev.iinc (v := x2 + 1) dDa_lastEnd_26 (by decide) rfl rfl ?_
    show Ev l G d mDa_lastEnd (_ + _) [.ref a0, .int (if x1 < (m_i M (m_r M (m_r M a0 9) x2.toNatClampNeg) 6) then (m_i M (m_r M (m_r M a0 9) x2.toNatClampNeg) 6) else x1), .int (x2 + 1)] [] M bc bs Φ
    refine Ev.goto 4 dDa_lastEnd_29 (by decide) ?_
    exact h
def mDa_unaskedCalls : MR := (⟨"BowingRow$Day", "unaskedCalls", "()I"⟩, prog_3_method_12_code, 3, (Option.some .int))
theorem oDa_unaskedCalls : MOK mDa_unaskedCalls 0 := ⟨lwg_of 1083 (by decide +kernel) (by decide +kernel), lwg_of 97 (by decide +kernel) (by decide +kernel), ⟨by decide +kernel, by decide +kernel⟩, by decide +kernel, by decide⟩
theorem iDa_unaskedCalls : Cond.instanceMethod mDa_unaskedCalls.1 ∈ lwg := lwg_of 1081 (by decide +kernel) (by decide +kernel)
theorem sDa_unaskedCalls : Cond.selects mDa_unaskedCalls.1.cls mDa_unaskedCalls.1 mDa_unaskedCalls.1 ∈ lwg := lwg_of 1082 (by decide +kernel) (by decide +kernel)
theorem dDa_unaskedCalls_0 : decode mDa_unaskedCalls.2.1 0 = .ok (.iconst 0, 1) := by decide +kernel
theorem dDa_unaskedCalls_1 : decode mDa_unaskedCalls.2.1 1 = .ok (.istore_n 1, 1) := by decide +kernel
theorem dDa_unaskedCalls_2 : decode mDa_unaskedCalls.2.1 2 = .ok (.iconst 0, 1) := by decide +kernel
theorem dDa_unaskedCalls_3 : decode mDa_unaskedCalls.2.1 3 = .ok (.istore_n 2, 1) := by decide +kernel
theorem dDa_unaskedCalls_4 : decode mDa_unaskedCalls.2.1 4 = .ok (.iload_n 2, 1) := by decide +kernel
theorem dDa_unaskedCalls_5 : decode mDa_unaskedCalls.2.1 5 = .ok (.aload_n 0, 1) := by decide +kernel
theorem dDa_unaskedCalls_6 : decode mDa_unaskedCalls.2.1 6 = .ok (.getfield 63, 3) := by decide +kernel
theorem dDa_unaskedCalls_9 : decode mDa_unaskedCalls.2.1 9 = .ok (.if_icmp .ge 29, 3) := by decide +kernel
theorem dDa_unaskedCalls_12 : decode mDa_unaskedCalls.2.1 12 = .ok (.iload_n 1, 1) := by decide +kernel
theorem dDa_unaskedCalls_13 : decode mDa_unaskedCalls.2.1 13 = .ok (.aload_n 0, 1) := by decide +kernel
theorem dDa_unaskedCalls_14 : decode mDa_unaskedCalls.2.1 14 = .ok (.getfield 27, 3) := by decide +kernel
theorem dDa_unaskedCalls_17 : decode mDa_unaskedCalls.2.1 17 = .ok (.iload_n 2, 1) := by decide +kernel
theorem dDa_unaskedCalls_18 : decode mDa_unaskedCalls.2.1 18 = .ok (.aaload, 1) := by decide +kernel
theorem dDa_unaskedCalls_19 : decode mDa_unaskedCalls.2.1 19 = .ok (.getfield 116, 3) := by decide +kernel
theorem dDa_unaskedCalls_22 : decode mDa_unaskedCalls.2.1 22 = .ok (.ifCond .eq 7, 3) := by decide +kernel
theorem dDa_unaskedCalls_25 : decode mDa_unaskedCalls.2.1 25 = .ok (.iconst 1, 1) := by decide +kernel
theorem dDa_unaskedCalls_26 : decode mDa_unaskedCalls.2.1 26 = .ok (.goto 4, 3) := by decide +kernel
theorem dDa_unaskedCalls_29 : decode mDa_unaskedCalls.2.1 29 = .ok (.iconst 0, 1) := by decide +kernel
theorem dDa_unaskedCalls_30 : decode mDa_unaskedCalls.2.1 30 = .ok (.iadd, 1) := by decide +kernel
theorem dDa_unaskedCalls_31 : decode mDa_unaskedCalls.2.1 31 = .ok (.istore_n 1, 1) := by decide +kernel
theorem dDa_unaskedCalls_32 : decode mDa_unaskedCalls.2.1 32 = .ok (.iinc 2 1, 3) := by decide +kernel
theorem dDa_unaskedCalls_35 : decode mDa_unaskedCalls.2.1 35 = .ok (.goto (-31), 3) := by decide +kernel
theorem dDa_unaskedCalls_38 : decode mDa_unaskedCalls.2.1 38 = .ok (.iload_n 1, 1) := by decide +kernel
theorem dDa_unaskedCalls_39 : decode mDa_unaskedCalls.2.1 39 = .ok (.ireturn, 1) := by decide +kernel
theorem bDa_unaskedCalls_0 {l : Launch} {G : Gx} {d : Nat} {bc bs : Nat} {Φ : OutV → Mm → Prop} (M : Mm) (a0 : Nat)
    (h : Ev l G d mDa_unaskedCalls 4 [.ref a0, .int 0, .int 0] [] M bc bs Φ) :
    Ev l G d mDa_unaskedCalls 0 [.ref a0, .null, .null] [] M bc bs Φ := by
  refine Ev.iconst (v := 0) dDa_unaskedCalls_0 (by decide) ?_
  refine Ev.istore_n dDa_unaskedCalls_1 (by decide) ?_
  show Ev l G d mDa_unaskedCalls (_ + _) [.ref a0, .int 0, .null] [] M bc bs Φ
  refine Ev.iconst (v := 0) dDa_unaskedCalls_2 (by decide) ?_
  refine Ev.istore_n dDa_unaskedCalls_3 (by decide) ?_
  show Ev l G d mDa_unaskedCalls (_ + _) [.ref a0, .int 0, .int 0] [] M bc bs Φ
  exact h
theorem bDa_unaskedCalls_4 {l : Launch} {G : Gx} {d : Nat} {bc bs : Nat} {Φ : OutV → Mm → Prop} (M : Mm) (a0 : Nat) (x1 : Int32) (x2 : Int32)
    (h : ((m_sh M a0).1 = 1) ∧ ((m_i M a0 10) ≤ x2 → Φ (.inl (some (.int x1))) M) ∧ (¬ (m_i M a0 10) ≤ x2 → ((m_sh M (m_r M a0 9)).1 = 30) ∧ (vp_in x2 (m_sh M (m_r M a0 9)).2) ∧ ((m_sh M (m_r M (m_r M a0 9) x2.toNatClampNeg)).1 = 0) ∧ ((m_i M (m_r M (m_r M a0 9) x2.toNatClampNeg) 7) = 0 → Ev l G d mDa_unaskedCalls 4 [.ref a0, .int (x1 + 0), .int (x2 + 1)] [] M bc bs Φ) ∧ (¬ (m_i M (m_r M (m_r M a0 9) x2.toNatClampNeg) 7) = 0 → Ev l G d mDa_unaskedCalls 4 [.ref a0, .int (x1 + 1), .int (x2 + 1)] [] M bc bs Φ))) :
    Ev l G d mDa_unaskedCalls 4 [.ref a0, .int x1, .int x2] [] M bc bs Φ := by
  refine Ev.iload_n dDa_unaskedCalls_4 rfl ?_
  refine Ev.aload_n dDa_unaskedCalls_5 rfl ?_
  have g1 := h.1
  replace h := h.2
  refine Ev.getI dDa_unaskedCalls_6 (Or.inl fDa_63) rfl g1 ?_
  refine Ev.icmp_ge 38 (by decide) dDa_unaskedCalls_9 (fun c => ?_) (fun c => ?_)
  · replace h := h.1 c
    refine Ev.iload_n dDa_unaskedCalls_38 rfl ?_
    exact Ev.iret dDa_unaskedCalls_39 rfl rfl h
  · replace h := h.2 c
    refine Ev.iload_n dDa_unaskedCalls_12 rfl ?_
    refine Ev.aload_n dDa_unaskedCalls_13 rfl ?_
    refine Ev.getR dDa_unaskedCalls_14 (Or.inl fDa_27) rfl g1 ?_
    refine Ev.iload_n dDa_unaskedCalls_17 rfl ?_
    have g2 := h.1
    replace h := h.2
    have g3 := h.1
    replace h := h.2
    refine Ev.aald2 30 (by decide) dDa_unaskedCalls_18 g2 g3 ?_
    have g4 := h.1
    replace h := h.2
    refine Ev.getI dDa_unaskedCalls_19 (Or.inl fDa_116) rfl g4 ?_
    refine Ev.if_eq 29 (by decide) dDa_unaskedCalls_22 (fun c => ?_) (fun c => ?_)
    · replace h := h.1 c
      refine Ev.iconst (v := 0) dDa_unaskedCalls_29 (by decide) ?_
      refine Ev.iadd dDa_unaskedCalls_30 ?_
      refine Ev.istore_n dDa_unaskedCalls_31 (by decide) ?_
      show Ev l G d mDa_unaskedCalls (_ + _) [.ref a0, .int (x1 + 0), .int x2] [] M bc bs Φ
      refine Ev.iinc (v := x2 + 1) dDa_unaskedCalls_32 (by decide) rfl rfl ?_
      show Ev l G d mDa_unaskedCalls (_ + _) [.ref a0, .int (x1 + 0), .int (x2 + 1)] [] M bc bs Φ
      refine Ev.goto 4 dDa_unaskedCalls_35 (by decide) ?_
      exact h
    · replace h := h.2 c
      refine Ev.iconst (v := 1) dDa_unaskedCalls_25 (by decide) ?_
      refine Ev.goto 30 dDa_unaskedCalls_26 (by decide) ?_
      refine Ev.iadd dDa_unaskedCalls_30 ?_
      refine Ev.istore_n dDa_unaskedCalls_31 (by decide) ?_
      show Ev l G d mDa_unaskedCalls (_ + _) [.ref a0, .int (x1 + 1), .int x2] [] M bc bs Φ
      refine Ev.iinc (v := x2 + 1) dDa_unaskedCalls_32 (by decide) rfl rfl ?_
      show Ev l G d mDa_unaskedCalls (_ + _) [.ref a0, .int (x1 + 1), .int (x2 + 1)] [] M bc bs Φ
      refine Ev.goto 4 dDa_unaskedCalls_35 (by decide) ?_
      exact h
