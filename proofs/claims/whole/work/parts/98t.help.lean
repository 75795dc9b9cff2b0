/-! ===== the law: its methods that catch ===== -/
theorem w710 : Cond.methodLink "BowingRowLaw" 7 ⟨"BowingRow", "row", "(I)I"⟩ ∈ lwg := lwg_of 710 (by decide +kernel) (by decide +kernel)
theorem w709 : Cond.classLink "BowingRowLaw" 13 "java/lang/IllegalArgumentException" ∈ lwg := lwg_of 709 (by decide +kernel) (by decide +kernel)
theorem w724 : Cond.castable "java/lang/IllegalArgumentException" "java/lang/IllegalArgumentException" ∈ lwx := lwx_of 724 (by decide +kernel) (by decide +kernel)
theorem w936 : Cond.methodLink "BowingRowLaw" 15 ⟨"BowingRow", "law", "(I)I"⟩ ∈ lwg := lwg_of 936 (by decide +kernel) (by decide +kernel)
theorem w994 : Cond.methodLink "BowingRowLaw" 18 ⟨"BowingRow", "told", "(I)I"⟩ ∈ lwg := lwg_of 994 (by decide +kernel) (by decide +kernel)
theorem w1002 : Cond.methodLink "BowingRowLaw" 21 ⟨"BowingRow", "person", "(II)I"⟩ ∈ lwg := lwg_of 1002 (by decide +kernel) (by decide +kernel)
theorem w1001 : Cond.classLink "BowingRowLaw" 25 "java/util/NoSuchElementException" ∈ lwg := lwg_of 1001 (by decide +kernel) (by decide +kernel)
theorem w1012 : Cond.castable "java/util/NoSuchElementException" "java/util/NoSuchElementException" ∈ lwx := lwx_of 1012 (by decide +kernel) (by decide +kernel)
theorem w1030 : Cond.methodLink "BowingRowLaw" 27 ⟨"BowingRow", "way", "(II)I"⟩ ∈ lwg := lwg_of 1030 (by decide +kernel) (by decide +kernel)
theorem w1038 : Cond.methodLink "BowingRowLaw" 30 ⟨"BowingRow", "until", "(II)I"⟩ ∈ lwg := lwg_of 1038 (by decide +kernel) (by decide +kernel)
theorem w1045 : Cond.methodLink "BowingRowLaw" 33 ⟨"BowingRow", "must", "(III)Z"⟩ ∈ lwg := lwg_of 1045 (by decide +kernel) (by decide +kernel)
theorem w1058 : Cond.methodLink "BowingRowLaw" 37 ⟨"BowingRow", "worth", "(III)I"⟩ ∈ lwg := lwg_of 1058 (by decide +kernel) (by decide +kernel)
theorem w1066 : Cond.methodLink "BowingRowLaw" 41 ⟨"BowingRow", "day", "(I)I"⟩ ∈ lwg := lwg_of 1066 (by decide +kernel) (by decide +kernel)
theorem w1088 : Cond.methodLink "BowingRowLaw" 44 ⟨"BowingRow", "call", "(II)I"⟩ ∈ lwg := lwg_of 1088 (by decide +kernel) (by decide +kernel)
theorem w1087 : Cond.classLink "BowingRowLaw" 47 "java/lang/IndexOutOfBoundsException" ∈ lwg := lwg_of 1087 (by decide +kernel) (by decide +kernel)
theorem w1097 : Cond.castable "java/lang/IndexOutOfBoundsException" "java/lang/IndexOutOfBoundsException" ∈ lwx := lwx_of 1097 (by decide +kernel) (by decide +kernel)
theorem w1114 : Cond.methodLink "BowingRowLaw" 49 ⟨"BowingRow", "holder", "(II)I"⟩ ∈ lwg := lwg_of 1114 (by decide +kernel) (by decide +kernel)
theorem w1121 : Cond.methodLink "BowingRowLaw" 52 ⟨"BowingRow", "ends", "(I)I"⟩ ∈ lwg := lwg_of 1121 (by decide +kernel) (by decide +kernel)
theorem w1128 : Cond.methodLink "BowingRowLaw" 55 ⟨"BowingRow", "balance", "(I)I"⟩ ∈ lwg := lwg_of 1128 (by decide +kernel) (by decide +kernel)
theorem w1135 : Cond.methodLink "BowingRowLaw" 58 ⟨"BowingRow", "book", "(II)I"⟩ ∈ lwg := lwg_of 1135 (by decide +kernel) (by decide +kernel)
theorem w1146 : Cond.methodLink "BowingRowLaw" 61 ⟨"BowingRow", "owed", "(II)I"⟩ ∈ lwg := lwg_of 1146 (by decide +kernel) (by decide +kernel)
theorem w1168 : Cond.methodLink "BowingRowLaw" 64 ⟨"BowingRow", "tell", "(I)I"⟩ ∈ lwg := lwg_of 1168 (by decide +kernel) (by decide +kernel)
theorem w1175 : Cond.methodLink "BowingRowLaw" 67 ⟨"BowingRow", "again", "(III)I"⟩ ∈ lwg := lwg_of 1175 (by decide +kernel) (by decide +kernel)
theorem w1186 : Cond.methodLink "BowingRowLaw" 70 ⟨"BowingRow", "plan", "(II)I"⟩ ∈ lwg := lwg_of 1186 (by decide +kernel) (by decide +kernel)
theorem w1197 : Cond.methodLink "BowingRowLaw" 73 ⟨"BowingRow", "best", "(II)I"⟩ ∈ lwg := lwg_of 1197 (by decide +kernel) (by decide +kernel)
theorem w1207 : Cond.methodLink "BowingRowLaw" 76 ⟨"BowingRow", "gain", "(II)I"⟩ ∈ lwg := lwg_of 1207 (by decide +kernel) (by decide +kernel)
theorem w1215 : Cond.methodLink "BowingRowLaw" 79 ⟨"BowingRow", "rest", "(I)I"⟩ ∈ lwg := lwg_of 1215 (by decide +kernel) (by decide +kernel)
theorem w1214 : Cond.classLink "BowingRowLaw" 82 "java/lang/IllegalStateException" ∈ lwg := lwg_of 1214 (by decide +kernel) (by decide +kernel)
theorem w1225 : Cond.castable "java/lang/IllegalStateException" "java/lang/IllegalStateException" ∈ lwx := lwx_of 1225 (by decide +kernel) (by decide +kernel)
theorem w1264 : Cond.methodLink "BowingRowLaw" 84 ⟨"BowingRow", "polite", "(I)I"⟩ ∈ lwg := lwg_of 1264 (by decide +kernel) (by decide +kernel)
theorem w1271 : Cond.methodLink "BowingRowLaw" 87 ⟨"BowingRow", "struck", "(I)I"⟩ ∈ lwg := lwg_of 1271 (by decide +kernel) (by decide +kernel)
def mLw_row : MR := (⟨"BowingRowLaw", "row", "(LBowingRow;I[J)I"⟩, method_3_code, 4, (Option.some .int))
def hLw_row : List (Nat × Nat × Nat × Nat) := [(0, 9, 12, 13)]
theorem oLw_row : MOH mLw_row hLw_row 3 := ⟨lwg_of 708 (by decide +kernel) (by decide +kernel), lwg_of 90 (by decide +kernel) (by decide +kernel), ⟨by decide +kernel, by decide +kernel⟩, by decide +kernel, by decide⟩
theorem iLw_row : Cond.static mLw_row.1 ∈ lwg := lwg_of 707 (by decide +kernel) (by decide +kernel)
theorem dLw_row_0 : decode mLw_row.2.1 0 = .ok (.aload_n 2, 1) := by decide +kernel
theorem dLw_row_1 : decode mLw_row.2.1 1 = .ok (.iconst 0, 1) := by decide +kernel
theorem dLw_row_2 : decode mLw_row.2.1 2 = .ok (.aload_n 0, 1) := by decide +kernel
theorem dLw_row_3 : decode mLw_row.2.1 3 = .ok (.iload_n 1, 1) := by decide +kernel
theorem dLw_row_4 : decode mLw_row.2.1 4 = .ok (.invokevirtual 7, 3) := by decide +kernel
theorem dLw_row_7 : decode mLw_row.2.1 7 = .ok (.i2l, 1) := by decide +kernel
theorem dLw_row_8 : decode mLw_row.2.1 8 = .ok (.lastore, 1) := by decide +kernel
theorem dLw_row_9 : decode mLw_row.2.1 9 = .ok (.goto 6, 3) := by decide +kernel
theorem dLw_row_12 : decode mLw_row.2.1 12 = .ok (.astore_n 3, 1) := by decide +kernel
theorem dLw_row_13 : decode mLw_row.2.1 13 = .ok (.iconst 1, 1) := by decide +kernel
theorem dLw_row_14 : decode mLw_row.2.1 14 = .ok (.ireturn, 1) := by decide +kernel
theorem dLw_row_15 : decode mLw_row.2.1 15 = .ok (.iconst 0, 1) := by decide +kernel
theorem dLw_row_16 : decode mLw_row.2.1 16 = .ok (.ireturn, 1) := by decide +kernel
theorem cLw_row {l : Launch} {G : Gx} {d d2 bc bs : Nat} {Φ Ψ : OutV → Mm → Prop} (M : Mm) (x1 : Int32) (hs : (m_sh M 100).1 = 10) (hdd : d2 < d) (hM : Ct l G d2 mBo_row bc bs (.ref 100 :: [.int x1]) M Ψ)
    (k0 : ∀ v9 M', Ψ (.inl v9) M' → ∃ v : Int32, v9 = some (.int v) ∧ m_sh M' 3483 = (22, 1) ∧ Φ (.inl (some (.int 0))) (m_sl M' 3483 0 v.toInt64))
    (kx : ∀ E M', Ψ (.inr E) M' → (E = nIA ∧ Φ (.inl (some (.int 1))) M')) :
    CtH l G d mLw_row hLw_row bc bs [.ref 100, .int x1, .ref 3483] M Φ := by
  refine CtH.of rfl (Nat.le_of_ble_eq_true rfl) ?_
  refine EvT.aload_n dLw_row_0 rfl ?_
  refine EvT.iconst (v := 0) dLw_row_1 (by decide) ?_
  refine EvT.aload_n dLw_row_2 rfl ?_
  refine EvT.iload_n dLw_row_3 rfl ?_
  refine EvT.callV (z := mBo_row) (ci := 10) (a := 100) (av := [.int x1]) (st := [.int 0, .ref 3483]) (bc2 := bc) (bs2 := bs) (bc := 0) (bs := 0) (n := 1) dLw_row_4 oBo_row rfl w710 iBo_row sBo_row (by decide) rfl hs hdd (by decide) hM (fun v9 M' hv => ?_) (fun E M' hv => ?_)
  · obtain ⟨v, rfl, hsh, hq⟩ := k0 v9 M' hv
    refine EvT.i2l dLw_row_7 ?_
    refine EvT.last dLw_row_8 hsh (vp_in_dec rfl) ?_
    refine EvT.goto 15 dLw_row_9 (by decide) ?_
    refine EvT.iconst (v := 0) dLw_row_15 (by decide) ?_
    exact EvT.iret dLw_row_16 rfl rfl hq
  · obtain ⟨rfl, hq⟩ := kx E M' hv
    exact EvX.catch (name := nIA) [] ⟨0, 9, 12, 13⟩ [] rfl (fun z hz => by cases hz) (by decide) (by decide) w709 w724 (i := 3) (by decide) (Or.inl ⟨3, dLw_row_12, rfl, EvT.iconst (v := 1) dLw_row_13 (by decide) (EvT.iret dLw_row_14 rfl rfl hq), trivial⟩)
def mLw_law : MR := (⟨"BowingRowLaw", "law", "(LBowingRow;I[J)I"⟩, method_4_code, 4, (Option.some .int))
def hLw_law : List (Nat × Nat × Nat × Nat) := [(0, 9, 12, 13)]
theorem oLw_law : MOH mLw_law hLw_law 3 := ⟨lwg_of 935 (by decide +kernel) (by decide +kernel), lwg_of 90 (by decide +kernel) (by decide +kernel), ⟨by decide +kernel, by decide +kernel⟩, by decide +kernel, by decide⟩
theorem iLw_law : Cond.static mLw_law.1 ∈ lwg := lwg_of 934 (by decide +kernel) (by decide +kernel)
theorem dLw_law_0 : decode mLw_law.2.1 0 = .ok (.aload_n 2, 1) := by decide +kernel
theorem dLw_law_1 : decode mLw_law.2.1 1 = .ok (.iconst 0, 1) := by decide +kernel
theorem dLw_law_2 : decode mLw_law.2.1 2 = .ok (.aload_n 0, 1) := by decide +kernel
theorem dLw_law_3 : decode mLw_law.2.1 3 = .ok (.iload_n 1, 1) := by decide +kernel
theorem dLw_law_4 : decode mLw_law.2.1 4 = .ok (.invokevirtual 15, 3) := by decide +kernel
theorem dLw_law_7 : decode mLw_law.2.1 7 = .ok (.i2l, 1) := by decide +kernel
theorem dLw_law_8 : decode mLw_law.2.1 8 = .ok (.lastore, 1) := by decide +kernel
theorem dLw_law_9 : decode mLw_law.2.1 9 = .ok (.goto 6, 3) := by decide +kernel
theorem dLw_law_12 : decode mLw_law.2.1 12 = .ok (.astore_n 3, 1) := by decide +kernel
theorem dLw_law_13 : decode mLw_law.2.1 13 = .ok (.iconst 1, 1) := by decide +kernel
theorem dLw_law_14 : decode mLw_law.2.1 14 = .ok (.ireturn, 1) := by decide +kernel
theorem dLw_law_15 : decode mLw_law.2.1 15 = .ok (.iconst 0, 1) := by decide +kernel
theorem dLw_law_16 : decode mLw_law.2.1 16 = .ok (.ireturn, 1) := by decide +kernel
theorem cLw_law {l : Launch} {G : Gx} {d d2 bc bs : Nat} {Φ Ψ : OutV → Mm → Prop} (M : Mm) (x1 : Int32) (hs : (m_sh M 100).1 = 10) (hdd : d2 < d) (hM : Ct l G d2 mBo_law bc bs (.ref 100 :: [.int x1]) M Ψ)
    (k0 : ∀ v9 M', Ψ (.inl v9) M' → ∃ v : Int32, v9 = some (.int v) ∧ m_sh M' 3483 = (22, 1) ∧ Φ (.inl (some (.int 0))) (m_sl M' 3483 0 v.toInt64))
    (kx : ∀ E M', Ψ (.inr E) M' → (E = nIA ∧ Φ (.inl (some (.int 1))) M')) :
    CtH l G d mLw_law hLw_law bc bs [.ref 100, .int x1, .ref 3483] M Φ := by
  refine CtH.of rfl (Nat.le_of_ble_eq_true rfl) ?_
  refine EvT.aload_n dLw_law_0 rfl ?_
  refine EvT.iconst (v := 0) dLw_law_1 (by decide) ?_
  refine EvT.aload_n dLw_law_2 rfl ?_
  refine EvT.iload_n dLw_law_3 rfl ?_
  refine EvT.callV (z := mBo_law) (ci := 10) (a := 100) (av := [.int x1]) (st := [.int 0, .ref 3483]) (bc2 := bc) (bs2 := bs) (bc := 0) (bs := 0) (n := 1) dLw_law_4 oBo_law rfl w936 iBo_law sBo_law (by decide) rfl hs hdd (by decide) hM (fun v9 M' hv => ?_) (fun E M' hv => ?_)
  · obtain ⟨v, rfl, hsh, hq⟩ := k0 v9 M' hv
    refine EvT.i2l dLw_law_7 ?_
    refine EvT.last dLw_law_8 hsh (vp_in_dec rfl) ?_
    refine EvT.goto 15 dLw_law_9 (by decide) ?_
    refine EvT.iconst (v := 0) dLw_law_15 (by decide) ?_
    exact EvT.iret dLw_law_16 rfl rfl hq
  · obtain ⟨rfl, hq⟩ := kx E M' hv
    exact EvX.catch (name := nIA) [] ⟨0, 9, 12, 13⟩ [] rfl (fun z hz => by cases hz) (by decide) (by decide) w709 w724 (i := 3) (by decide) (Or.inl ⟨3, dLw_law_12, rfl, EvT.iconst (v := 1) dLw_law_13 (by decide) (EvT.iret dLw_law_14 rfl rfl hq), trivial⟩)
def mLw_told : MR := (⟨"BowingRowLaw", "told", "(LBowingRow;I[J)I"⟩, method_5_code, 4, (Option.some .int))
def hLw_told : List (Nat × Nat × Nat × Nat) := [(0, 9, 12, 13)]
theorem oLw_told : MOH mLw_told hLw_told 3 := ⟨lwg_of 993 (by decide +kernel) (by decide +kernel), lwg_of 90 (by decide +kernel) (by decide +kernel), ⟨by decide +kernel, by decide +kernel⟩, by decide +kernel, by decide⟩
theorem iLw_told : Cond.static mLw_told.1 ∈ lwg := lwg_of 992 (by decide +kernel) (by decide +kernel)
theorem dLw_told_0 : decode mLw_told.2.1 0 = .ok (.aload_n 2, 1) := by decide +kernel
theorem dLw_told_1 : decode mLw_told.2.1 1 = .ok (.iconst 0, 1) := by decide +kernel
theorem dLw_told_2 : decode mLw_told.2.1 2 = .ok (.aload_n 0, 1) := by decide +kernel
theorem dLw_told_3 : decode mLw_told.2.1 3 = .ok (.iload_n 1, 1) := by decide +kernel
theorem dLw_told_4 : decode mLw_told.2.1 4 = .ok (.invokevirtual 18, 3) := by decide +kernel
theorem dLw_told_7 : decode mLw_told.2.1 7 = .ok (.i2l, 1) := by decide +kernel
theorem dLw_told_8 : decode mLw_told.2.1 8 = .ok (.lastore, 1) := by decide +kernel
theorem dLw_told_9 : decode mLw_told.2.1 9 = .ok (.goto 6, 3) := by decide +kernel
theorem dLw_told_12 : decode mLw_told.2.1 12 = .ok (.astore_n 3, 1) := by decide +kernel
theorem dLw_told_13 : decode mLw_told.2.1 13 = .ok (.iconst 1, 1) := by decide +kernel
theorem dLw_told_14 : decode mLw_told.2.1 14 = .ok (.ireturn, 1) := by decide +kernel
theorem dLw_told_15 : decode mLw_told.2.1 15 = .ok (.iconst 0, 1) := by decide +kernel
theorem dLw_told_16 : decode mLw_told.2.1 16 = .ok (.ireturn, 1) := by decide +kernel
theorem cLw_told {l : Launch} {G : Gx} {d d2 bc bs : Nat} {Φ Ψ : OutV → Mm → Prop} (M : Mm) (x1 : Int32) (hs : (m_sh M 100).1 = 10) (hdd : d2 < d) (hM : Ct l G d2 mBo_told bc bs (.ref 100 :: [.int x1]) M Ψ)
    (k0 : ∀ v9 M', Ψ (.inl v9) M' → ∃ v : Int32, v9 = some (.int v) ∧ m_sh M' 3483 = (22, 1) ∧ Φ (.inl (some (.int 0))) (m_sl M' 3483 0 v.toInt64))
    (kx : ∀ E M', Ψ (.inr E) M' → (E = nIA ∧ Φ (.inl (some (.int 1))) M')) :
    CtH l G d mLw_told hLw_told bc bs [.ref 100, .int x1, .ref 3483] M Φ := by
  refine CtH.of rfl (Nat.le_of_ble_eq_true rfl) ?_
  refine EvT.aload_n dLw_told_0 rfl ?_
  refine EvT.iconst (v := 0) dLw_told_1 (by decide) ?_
  refine EvT.aload_n dLw_told_2 rfl ?_
  refine EvT.iload_n dLw_told_3 rfl ?_
  refine EvT.callV (z := mBo_told) (ci := 10) (a := 100) (av := [.int x1]) (st := [.int 0, .ref 3483]) (bc2 := bc) (bs2 := bs) (bc := 0) (bs := 0) (n := 1) dLw_told_4 oBo_told rfl w994 iBo_told sBo_told (by decide) rfl hs hdd (by decide) hM (fun v9 M' hv => ?_) (fun E M' hv => ?_)
  · obtain ⟨v, rfl, hsh, hq⟩ := k0 v9 M' hv
    refine EvT.i2l dLw_told_7 ?_
    refine EvT.last dLw_told_8 hsh (vp_in_dec rfl) ?_
    refine EvT.goto 15 dLw_told_9 (by decide) ?_
    refine EvT.iconst (v := 0) dLw_told_15 (by decide) ?_
    exact EvT.iret dLw_told_16 rfl rfl hq
  · obtain ⟨rfl, hq⟩ := kx E M' hv
    exact EvX.catch (name := nIA) [] ⟨0, 9, 12, 13⟩ [] rfl (fun z hz => by cases hz) (by decide) (by decide) w709 w724 (i := 3) (by decide) (Or.inl ⟨3, dLw_told_12, rfl, EvT.iconst (v := 1) dLw_told_13 (by decide) (EvT.iret dLw_told_14 rfl rfl hq), trivial⟩)
def mLw_person : MR := (⟨"BowingRowLaw", "person", "(LBowingRow;II[J)I"⟩, method_6_code, 5, (Option.some .int))
def hLw_person : List (Nat × Nat × Nat × Nat) := [(0, 10, 13, 25), (0, 10, 17, 13)]
theorem oLw_person : MOH mLw_person hLw_person 4 := ⟨lwg_of 1000 (by decide +kernel) (by decide +kernel), lwg_of 90 (by decide +kernel) (by decide +kernel), ⟨by decide +kernel, by decide +kernel⟩, by decide +kernel, by decide⟩
theorem iLw_person : Cond.static mLw_person.1 ∈ lwg := lwg_of 999 (by decide +kernel) (by decide +kernel)
theorem dLw_person_0 : decode mLw_person.2.1 0 = .ok (.aload_n 3, 1) := by decide +kernel
theorem dLw_person_1 : decode mLw_person.2.1 1 = .ok (.iconst 0, 1) := by decide +kernel
theorem dLw_person_2 : decode mLw_person.2.1 2 = .ok (.aload_n 0, 1) := by decide +kernel
theorem dLw_person_3 : decode mLw_person.2.1 3 = .ok (.iload_n 1, 1) := by decide +kernel
theorem dLw_person_4 : decode mLw_person.2.1 4 = .ok (.iload_n 2, 1) := by decide +kernel
theorem dLw_person_5 : decode mLw_person.2.1 5 = .ok (.invokevirtual 21, 3) := by decide +kernel
theorem dLw_person_8 : decode mLw_person.2.1 8 = .ok (.i2l, 1) := by decide +kernel
theorem dLw_person_9 : decode mLw_person.2.1 9 = .ok (.lastore, 1) := by decide +kernel
theorem dLw_person_10 : decode mLw_person.2.1 10 = .ok (.goto 11, 3) := by decide +kernel
theorem dLw_person_13 : decode mLw_person.2.1 13 = .ok (.astore 4, 2) := by decide +kernel
theorem dLw_person_15 : decode mLw_person.2.1 15 = .ok (.iconst 1, 1) := by decide +kernel
theorem dLw_person_16 : decode mLw_person.2.1 16 = .ok (.ireturn, 1) := by decide +kernel
theorem dLw_person_17 : decode mLw_person.2.1 17 = .ok (.astore 4, 2) := by decide +kernel
theorem dLw_person_19 : decode mLw_person.2.1 19 = .ok (.iconst 2, 1) := by decide +kernel
theorem dLw_person_20 : decode mLw_person.2.1 20 = .ok (.ireturn, 1) := by decide +kernel
theorem dLw_person_21 : decode mLw_person.2.1 21 = .ok (.iconst 0, 1) := by decide +kernel
theorem dLw_person_22 : decode mLw_person.2.1 22 = .ok (.ireturn, 1) := by decide +kernel
theorem cLw_person {l : Launch} {G : Gx} {d d2 bc bs : Nat} {Φ Ψ : OutV → Mm → Prop} (M : Mm) (x1 : Int32) (x2 : Int32) (hs : (m_sh M 100).1 = 10) (hdd : d2 < d) (hM : Ct l G d2 mBo_person bc bs (.ref 100 :: [.int x1, .int x2]) M Ψ)
    (k0 : ∀ v9 M', Ψ (.inl v9) M' → ∃ v : Int32, v9 = some (.int v) ∧ m_sh M' 3483 = (22, 1) ∧ Φ (.inl (some (.int 0))) (m_sl M' 3483 0 v.toInt64))
    (kx : ∀ E M', Ψ (.inr E) M' → (E = nNS ∧ Φ (.inl (some (.int 1))) M') ∨ (E = nIA ∧ Φ (.inl (some (.int 2))) M')) :
    CtH l G d mLw_person hLw_person bc bs [.ref 100, .int x1, .int x2, .ref 3483] M Φ := by
  refine CtH.of rfl (Nat.le_of_ble_eq_true rfl) ?_
  refine EvT.aload_n dLw_person_0 rfl ?_
  refine EvT.iconst (v := 0) dLw_person_1 (by decide) ?_
  refine EvT.aload_n dLw_person_2 rfl ?_
  refine EvT.iload_n dLw_person_3 rfl ?_
  refine EvT.iload_n dLw_person_4 rfl ?_
  refine EvT.callV (z := mBo_person) (ci := 10) (a := 100) (av := [.int x1, .int x2]) (st := [.int 0, .ref 3483]) (bc2 := bc) (bs2 := bs) (bc := 0) (bs := 0) (n := 2) dLw_person_5 oBo_person rfl w1002 iBo_person sBo_person (by decide) rfl hs hdd (by decide) hM (fun v9 M' hv => ?_) (fun E M' hv => ?_)
  · obtain ⟨v, rfl, hsh, hq⟩ := k0 v9 M' hv
    refine EvT.i2l dLw_person_8 ?_
    refine EvT.last dLw_person_9 hsh (vp_in_dec rfl) ?_
    refine EvT.goto 21 dLw_person_10 (by decide) ?_
    refine EvT.iconst (v := 0) dLw_person_21 (by decide) ?_
    exact EvT.iret dLw_person_22 rfl rfl hq
  · rcases kx E M' hv with ⟨rfl, hq⟩ | ⟨rfl, hq⟩
    · exact EvX.catch (name := nNS) [] ⟨0, 10, 13, 25⟩ [⟨0, 10, 17, 13⟩] rfl (fun z hz => by cases hz) (by decide) (by decide) w1001 w1012 (i := 4) (by decide) (Or.inr ⟨dLw_person_13, EvT.iconst (v := 1) dLw_person_15 (by decide) (EvT.iret dLw_person_16 rfl rfl hq)⟩)
    · exact EvX.catch (name := nIA) [⟨0, 10, 13, 25⟩] ⟨0, 10, 17, 13⟩ [] rfl (fun z hz => by cases List.mem_singleton.mp hz; exact ⟨by decide, nNS, w1001, fun s h => h.1⟩) (by decide) (by decide) w709 w724 (i := 4) (by decide) (Or.inr ⟨dLw_person_17, EvT.iconst (v := 2) dLw_person_19 (by decide) (EvT.iret dLw_person_20 rfl rfl hq)⟩)
def mLw_way : MR := (⟨"BowingRowLaw", "way", "(LBowingRow;II[J)I"⟩, method_7_code, 5, (Option.some .int))
def hLw_way : List (Nat × Nat × Nat × Nat) := [(0, 10, 13, 25), (0, 10, 17, 13)]
theorem oLw_way : MOH mLw_way hLw_way 4 := ⟨lwg_of 1029 (by decide +kernel) (by decide +kernel), lwg_of 90 (by decide +kernel) (by decide +kernel), ⟨by decide +kernel, by decide +kernel⟩, by decide +kernel, by decide⟩
theorem iLw_way : Cond.static mLw_way.1 ∈ lwg := lwg_of 1028 (by decide +kernel) (by decide +kernel)
theorem dLw_way_0 : decode mLw_way.2.1 0 = .ok (.aload_n 3, 1) := by decide +kernel
theorem dLw_way_1 : decode mLw_way.2.1 1 = .ok (.iconst 0, 1) := by decide +kernel
theorem dLw_way_2 : decode mLw_way.2.1 2 = .ok (.aload_n 0, 1) := by decide +kernel
theorem dLw_way_3 : decode mLw_way.2.1 3 = .ok (.iload_n 1, 1) := by decide +kernel
theorem dLw_way_4 : decode mLw_way.2.1 4 = .ok (.iload_n 2, 1) := by decide +kernel
theorem dLw_way_5 : decode mLw_way.2.1 5 = .ok (.invokevirtual 27, 3) := by decide +kernel
theorem dLw_way_8 : decode mLw_way.2.1 8 = .ok (.i2l, 1) := by decide +kernel
theorem dLw_way_9 : decode mLw_way.2.1 9 = .ok (.lastore, 1) := by decide +kernel
theorem dLw_way_10 : decode mLw_way.2.1 10 = .ok (.goto 11, 3) := by decide +kernel
theorem dLw_way_13 : decode mLw_way.2.1 13 = .ok (.astore 4, 2) := by decide +kernel
theorem dLw_way_15 : decode mLw_way.2.1 15 = .ok (.iconst 1, 1) := by decide +kernel
theorem dLw_way_16 : decode mLw_way.2.1 16 = .ok (.ireturn, 1) := by decide +kernel
theorem dLw_way_17 : decode mLw_way.2.1 17 = .ok (.astore 4, 2) := by decide +kernel
theorem dLw_way_19 : decode mLw_way.2.1 19 = .ok (.iconst 2, 1) := by decide +kernel
theorem dLw_way_20 : decode mLw_way.2.1 20 = .ok (.ireturn, 1) := by decide +kernel
theorem dLw_way_21 : decode mLw_way.2.1 21 = .ok (.iconst 0, 1) := by decide +kernel
theorem dLw_way_22 : decode mLw_way.2.1 22 = .ok (.ireturn, 1) := by decide +kernel
theorem cLw_way {l : Launch} {G : Gx} {d d2 bc bs : Nat} {Φ Ψ : OutV → Mm → Prop} (M : Mm) (x1 : Int32) (x2 : Int32) (hs : (m_sh M 100).1 = 10) (hdd : d2 < d) (hM : Ct l G d2 mBo_way bc bs (.ref 100 :: [.int x1, .int x2]) M Ψ)
    (k0 : ∀ v9 M', Ψ (.inl v9) M' → ∃ v : Int32, v9 = some (.int v) ∧ m_sh M' 3483 = (22, 1) ∧ Φ (.inl (some (.int 0))) (m_sl M' 3483 0 v.toInt64))
    (kx : ∀ E M', Ψ (.inr E) M' → (E = nNS ∧ Φ (.inl (some (.int 1))) M') ∨ (E = nIA ∧ Φ (.inl (some (.int 2))) M')) :
    CtH l G d mLw_way hLw_way bc bs [.ref 100, .int x1, .int x2, .ref 3483] M Φ := by
  refine CtH.of rfl (Nat.le_of_ble_eq_true rfl) ?_
  refine EvT.aload_n dLw_way_0 rfl ?_
  refine EvT.iconst (v := 0) dLw_way_1 (by decide) ?_
  refine EvT.aload_n dLw_way_2 rfl ?_
  refine EvT.iload_n dLw_way_3 rfl ?_
  refine EvT.iload_n dLw_way_4 rfl ?_
  refine EvT.callV (z := mBo_way) (ci := 10) (a := 100) (av := [.int x1, .int x2]) (st := [.int 0, .ref 3483]) (bc2 := bc) (bs2 := bs) (bc := 0) (bs := 0) (n := 2) dLw_way_5 oBo_way rfl w1030 iBo_way sBo_way (by decide) rfl hs hdd (by decide) hM (fun v9 M' hv => ?_) (fun E M' hv => ?_)
  · obtain ⟨v, rfl, hsh, hq⟩ := k0 v9 M' hv
    refine EvT.i2l dLw_way_8 ?_
    refine EvT.last dLw_way_9 hsh (vp_in_dec rfl) ?_
    refine EvT.goto 21 dLw_way_10 (by decide) ?_
    refine EvT.iconst (v := 0) dLw_way_21 (by decide) ?_
    exact EvT.iret dLw_way_22 rfl rfl hq
  · rcases kx E M' hv with ⟨rfl, hq⟩ | ⟨rfl, hq⟩
    · exact EvX.catch (name := nNS) [] ⟨0, 10, 13, 25⟩ [⟨0, 10, 17, 13⟩] rfl (fun z hz => by cases hz) (by decide) (by decide) w1001 w1012 (i := 4) (by decide) (Or.inr ⟨dLw_way_13, EvT.iconst (v := 1) dLw_way_15 (by decide) (EvT.iret dLw_way_16 rfl rfl hq)⟩)
    · exact EvX.catch (name := nIA) [⟨0, 10, 13, 25⟩] ⟨0, 10, 17, 13⟩ [] rfl (fun z hz => by cases List.mem_singleton.mp hz; exact ⟨by decide, nNS, w1001, fun s h => h.1⟩) (by decide) (by decide) w709 w724 (i := 4) (by decide) (Or.inr ⟨dLw_way_17, EvT.iconst (v := 2) dLw_way_19 (by decide) (EvT.iret dLw_way_20 rfl rfl hq)⟩)
def mLw_until : MR := (⟨"BowingRowLaw", "until", "(LBowingRow;II[J)I"⟩, method_8_code, 5, (Option.some .int))
def hLw_until : List (Nat × Nat × Nat × Nat) := [(0, 10, 13, 25), (0, 10, 17, 13)]
theorem oLw_until : MOH mLw_until hLw_until 4 := ⟨lwg_of 1037 (by decide +kernel) (by decide +kernel), lwg_of 90 (by decide +kernel) (by decide +kernel), ⟨by decide +kernel, by decide +kernel⟩, by decide +kernel, by decide⟩
theorem iLw_until : Cond.static mLw_until.1 ∈ lwg := lwg_of 1036 (by decide +kernel) (by decide +kernel)
theorem dLw_until_0 : decode mLw_until.2.1 0 = .ok (.aload_n 3, 1) := by decide +kernel
theorem dLw_until_1 : decode mLw_until.2.1 1 = .ok (.iconst 0, 1) := by decide +kernel
theorem dLw_until_2 : decode mLw_until.2.1 2 = .ok (.aload_n 0, 1) := by decide +kernel
theorem dLw_until_3 : decode mLw_until.2.1 3 = .ok (.iload_n 1, 1) := by decide +kernel
theorem dLw_until_4 : decode mLw_until.2.1 4 = .ok (.iload_n 2, 1) := by decide +kernel
theorem dLw_until_5 : decode mLw_until.2.1 5 = .ok (.invokevirtual 30, 3) := by decide +kernel
theorem dLw_until_8 : decode mLw_until.2.1 8 = .ok (.i2l, 1) := by decide +kernel
theorem dLw_until_9 : decode mLw_until.2.1 9 = .ok (.lastore, 1) := by decide +kernel
theorem dLw_until_10 : decode mLw_until.2.1 10 = .ok (.goto 11, 3) := by decide +kernel
theorem dLw_until_13 : decode mLw_until.2.1 13 = .ok (.astore 4, 2) := by decide +kernel
theorem dLw_until_15 : decode mLw_until.2.1 15 = .ok (.iconst 1, 1) := by decide +kernel
theorem dLw_until_16 : decode mLw_until.2.1 16 = .ok (.ireturn, 1) := by decide +kernel
theorem dLw_until_17 : decode mLw_until.2.1 17 = .ok (.astore 4, 2) := by decide +kernel
theorem dLw_until_19 : decode mLw_until.2.1 19 = .ok (.iconst 2, 1) := by decide +kernel
theorem dLw_until_20 : decode mLw_until.2.1 20 = .ok (.ireturn, 1) := by decide +kernel
theorem dLw_until_21 : decode mLw_until.2.1 21 = .ok (.iconst 0, 1) := by decide +kernel
theorem dLw_until_22 : decode mLw_until.2.1 22 = .ok (.ireturn, 1) := by decide +kernel
theorem cLw_until {l : Launch} {G : Gx} {d d2 bc bs : Nat} {Φ Ψ : OutV → Mm → Prop} (M : Mm) (x1 : Int32) (x2 : Int32) (hs : (m_sh M 100).1 = 10) (hdd : d2 < d) (hM : Ct l G d2 mBo_until bc bs (.ref 100 :: [.int x1, .int x2]) M Ψ)
    (k0 : ∀ v9 M', Ψ (.inl v9) M' → ∃ v : Int32, v9 = some (.int v) ∧ m_sh M' 3483 = (22, 1) ∧ Φ (.inl (some (.int 0))) (m_sl M' 3483 0 v.toInt64))
    (kx : ∀ E M', Ψ (.inr E) M' → (E = nNS ∧ Φ (.inl (some (.int 1))) M') ∨ (E = nIA ∧ Φ (.inl (some (.int 2))) M')) :
    CtH l G d mLw_until hLw_until bc bs [.ref 100, .int x1, .int x2, .ref 3483] M Φ := by
  refine CtH.of rfl (Nat.le_of_ble_eq_true rfl) ?_
  refine EvT.aload_n dLw_until_0 rfl ?_
  refine EvT.iconst (v := 0) dLw_until_1 (by decide) ?_
  refine EvT.aload_n dLw_until_2 rfl ?_
  refine EvT.iload_n dLw_until_3 rfl ?_
  refine EvT.iload_n dLw_until_4 rfl ?_
  refine EvT.callV (z := mBo_until) (ci := 10) (a := 100) (av := [.int x1, .int x2]) (st := [.int 0, .ref 3483]) (bc2 := bc) (bs2 := bs) (bc := 0) (bs := 0) (n := 2) dLw_until_5 oBo_until rfl w1038 iBo_until sBo_until (by decide) rfl hs hdd (by decide) hM (fun v9 M' hv => ?_) (fun E M' hv => ?_)
  · obtain ⟨v, rfl, hsh, hq⟩ := k0 v9 M' hv
    refine EvT.i2l dLw_until_8 ?_
    refine EvT.last dLw_until_9 hsh (vp_in_dec rfl) ?_
    refine EvT.goto 21 dLw_until_10 (by decide) ?_
    refine EvT.iconst (v := 0) dLw_until_21 (by decide) ?_
    exact EvT.iret dLw_until_22 rfl rfl hq
  · rcases kx E M' hv with ⟨rfl, hq⟩ | ⟨rfl, hq⟩
    · exact EvX.catch (name := nNS) [] ⟨0, 10, 13, 25⟩ [⟨0, 10, 17, 13⟩] rfl (fun z hz => by cases hz) (by decide) (by decide) w1001 w1012 (i := 4) (by decide) (Or.inr ⟨dLw_until_13, EvT.iconst (v := 1) dLw_until_15 (by decide) (EvT.iret dLw_until_16 rfl rfl hq)⟩)
    · exact EvX.catch (name := nIA) [⟨0, 10, 13, 25⟩] ⟨0, 10, 17, 13⟩ [] rfl (fun z hz => by cases List.mem_singleton.mp hz; exact ⟨by decide, nNS, w1001, fun s h => h.1⟩) (by decide) (by decide) w709 w724 (i := 4) (by decide) (Or.inr ⟨dLw_until_17, EvT.iconst (v := 2) dLw_until_19 (by decide) (EvT.iret dLw_until_20 rfl rfl hq)⟩)
def mLw_must : MR := (⟨"BowingRowLaw", "must", "(LBowingRow;III[J)I"⟩, method_9_code, 6, (Option.some .int))
def hLw_must : List (Nat × Nat × Nat × Nat) := [(0, 19, 22, 25), (0, 19, 26, 13)]
theorem oLw_must : MOH mLw_must hLw_must 5 := ⟨lwg_of 1044 (by decide +kernel) (by decide +kernel), lwg_of 90 (by decide +kernel) (by decide +kernel), ⟨by decide +kernel, by decide +kernel⟩, by decide +kernel, by decide⟩
theorem iLw_must : Cond.static mLw_must.1 ∈ lwg := lwg_of 1043 (by decide +kernel) (by decide +kernel)
theorem dLw_must_0 : decode mLw_must.2.1 0 = .ok (.aload 4, 2) := by decide +kernel
theorem dLw_must_2 : decode mLw_must.2.1 2 = .ok (.iconst 0, 1) := by decide +kernel
theorem dLw_must_3 : decode mLw_must.2.1 3 = .ok (.aload_n 0, 1) := by decide +kernel
theorem dLw_must_4 : decode mLw_must.2.1 4 = .ok (.iload_n 1, 1) := by decide +kernel
theorem dLw_must_5 : decode mLw_must.2.1 5 = .ok (.iload_n 2, 1) := by decide +kernel
theorem dLw_must_6 : decode mLw_must.2.1 6 = .ok (.iload_n 3, 1) := by decide +kernel
theorem dLw_must_7 : decode mLw_must.2.1 7 = .ok (.invokevirtual 33, 3) := by decide +kernel
theorem dLw_must_10 : decode mLw_must.2.1 10 = .ok (.ifCond .eq 7, 3) := by decide +kernel
theorem dLw_must_13 : decode mLw_must.2.1 13 = .ok (.lconst 1, 1) := by decide +kernel
theorem dLw_must_14 : decode mLw_must.2.1 14 = .ok (.goto 4, 3) := by decide +kernel
theorem dLw_must_17 : decode mLw_must.2.1 17 = .ok (.lconst 0, 1) := by decide +kernel
theorem dLw_must_18 : decode mLw_must.2.1 18 = .ok (.lastore, 1) := by decide +kernel
theorem dLw_must_19 : decode mLw_must.2.1 19 = .ok (.goto 11, 3) := by decide +kernel
theorem dLw_must_22 : decode mLw_must.2.1 22 = .ok (.astore 5, 2) := by decide +kernel
theorem dLw_must_24 : decode mLw_must.2.1 24 = .ok (.iconst 1, 1) := by decide +kernel
theorem dLw_must_25 : decode mLw_must.2.1 25 = .ok (.ireturn, 1) := by decide +kernel
theorem dLw_must_26 : decode mLw_must.2.1 26 = .ok (.astore 5, 2) := by decide +kernel
theorem dLw_must_28 : decode mLw_must.2.1 28 = .ok (.iconst 2, 1) := by decide +kernel
theorem dLw_must_29 : decode mLw_must.2.1 29 = .ok (.ireturn, 1) := by decide +kernel
theorem dLw_must_30 : decode mLw_must.2.1 30 = .ok (.iconst 0, 1) := by decide +kernel
theorem dLw_must_31 : decode mLw_must.2.1 31 = .ok (.ireturn, 1) := by decide +kernel
theorem cLw_must {l : Launch} {G : Gx} {d d2 bc bs : Nat} {Φ Ψ : OutV → Mm → Prop} (M : Mm) (x1 : Int32) (x2 : Int32) (x3 : Int32) (hs : (m_sh M 100).1 = 10) (hdd : d2 < d) (hM : Ct l G d2 mBo_must bc bs (.ref 100 :: [.int x1, .int x2, .int x3]) M Ψ)
    (k0 : ∀ v9 M', Ψ (.inl v9) M' → ∃ v : Int32, v9 = some (.int v) ∧ m_sh M' 3483 = (22, 1) ∧ Φ (.inl (some (.int 0))) (m_sl M' 3483 0 (if v = 0 then 0 else 1)))
    (kx : ∀ E M', Ψ (.inr E) M' → (E = nNS ∧ Φ (.inl (some (.int 1))) M') ∨ (E = nIA ∧ Φ (.inl (some (.int 2))) M')) :
    CtH l G d mLw_must hLw_must bc bs [.ref 100, .int x1, .int x2, .int x3, .ref 3483] M Φ := by
  refine CtH.of rfl (Nat.le_of_ble_eq_true rfl) ?_
  refine EvT.aload dLw_must_0 rfl ?_
  refine EvT.iconst (v := 0) dLw_must_2 (by decide) ?_
  refine EvT.aload_n dLw_must_3 rfl ?_
  refine EvT.iload_n dLw_must_4 rfl ?_
  refine EvT.iload_n dLw_must_5 rfl ?_
  refine EvT.iload_n dLw_must_6 rfl ?_
  refine EvT.callV (z := mBo_must) (ci := 10) (a := 100) (av := [.int x1, .int x2, .int x3]) (st := [.int 0, .ref 3483]) (bc2 := bc) (bs2 := bs) (bc := 0) (bs := 0) (n := 3) dLw_must_7 oBo_must rfl w1045 iBo_must sBo_must (by decide) rfl hs hdd (by decide) hM (fun v9 M' hv => ?_) (fun E M' hv => ?_)
  · obtain ⟨v, rfl, hsh, hq⟩ := k0 v9 M' hv
    refine EvT.if_eq 17 (by decide) dLw_must_10 (fun c => ?_) (fun c => ?_)
    · rw [if_pos c] at hq
      refine EvT.lconst (v := 0) dLw_must_17 (by decide) ?_
      refine EvT.last dLw_must_18 hsh (vp_in_dec rfl) ?_
      refine EvT.goto 30 dLw_must_19 (by decide) ?_
      refine EvT.iconst (v := 0) dLw_must_30 (by decide) ?_
      exact EvT.iret dLw_must_31 rfl rfl hq
    · rw [if_neg c] at hq
      refine EvT.lconst (v := 1) dLw_must_13 (by decide) ?_
      refine EvT.goto 18 dLw_must_14 (by decide) ?_
      refine EvT.last dLw_must_18 hsh (vp_in_dec rfl) ?_
      refine EvT.goto 30 dLw_must_19 (by decide) ?_
      refine EvT.iconst (v := 0) dLw_must_30 (by decide) ?_
      exact EvT.iret dLw_must_31 rfl rfl hq
  · rcases kx E M' hv with ⟨rfl, hq⟩ | ⟨rfl, hq⟩
    · exact EvX.catch (name := nNS) [] ⟨0, 19, 22, 25⟩ [⟨0, 19, 26, 13⟩] rfl (fun z hz => by cases hz) (by decide) (by decide) w1001 w1012 (i := 5) (by decide) (Or.inr ⟨dLw_must_22, EvT.iconst (v := 1) dLw_must_24 (by decide) (EvT.iret dLw_must_25 rfl rfl hq)⟩)
    · exact EvX.catch (name := nIA) [⟨0, 19, 22, 25⟩] ⟨0, 19, 26, 13⟩ [] rfl (fun z hz => by cases List.mem_singleton.mp hz; exact ⟨by decide, nNS, w1001, fun s h => h.1⟩) (by decide) (by decide) w709 w724 (i := 5) (by decide) (Or.inr ⟨dLw_must_26, EvT.iconst (v := 2) dLw_must_28 (by decide) (EvT.iret dLw_must_29 rfl rfl hq)⟩)
def mLw_worth : MR := (⟨"BowingRowLaw", "worth", "(LBowingRow;III[J)I"⟩, method_10_code, 6, (Option.some .int))
def hLw_worth : List (Nat × Nat × Nat × Nat) := [(0, 12, 15, 25), (0, 12, 19, 13)]
theorem oLw_worth : MOH mLw_worth hLw_worth 5 := ⟨lwg_of 1057 (by decide +kernel) (by decide +kernel), lwg_of 90 (by decide +kernel) (by decide +kernel), ⟨by decide +kernel, by decide +kernel⟩, by decide +kernel, by decide⟩
theorem iLw_worth : Cond.static mLw_worth.1 ∈ lwg := lwg_of 1056 (by decide +kernel) (by decide +kernel)
theorem dLw_worth_0 : decode mLw_worth.2.1 0 = .ok (.aload 4, 2) := by decide +kernel
theorem dLw_worth_2 : decode mLw_worth.2.1 2 = .ok (.iconst 0, 1) := by decide +kernel
theorem dLw_worth_3 : decode mLw_worth.2.1 3 = .ok (.aload_n 0, 1) := by decide +kernel
theorem dLw_worth_4 : decode mLw_worth.2.1 4 = .ok (.iload_n 1, 1) := by decide +kernel
theorem dLw_worth_5 : decode mLw_worth.2.1 5 = .ok (.iload_n 2, 1) := by decide +kernel
theorem dLw_worth_6 : decode mLw_worth.2.1 6 = .ok (.iload_n 3, 1) := by decide +kernel
theorem dLw_worth_7 : decode mLw_worth.2.1 7 = .ok (.invokevirtual 37, 3) := by decide +kernel
theorem dLw_worth_10 : decode mLw_worth.2.1 10 = .ok (.i2l, 1) := by decide +kernel
theorem dLw_worth_11 : decode mLw_worth.2.1 11 = .ok (.lastore, 1) := by decide +kernel
theorem dLw_worth_12 : decode mLw_worth.2.1 12 = .ok (.goto 11, 3) := by decide +kernel
theorem dLw_worth_15 : decode mLw_worth.2.1 15 = .ok (.astore 5, 2) := by decide +kernel
theorem dLw_worth_17 : decode mLw_worth.2.1 17 = .ok (.iconst 1, 1) := by decide +kernel
theorem dLw_worth_18 : decode mLw_worth.2.1 18 = .ok (.ireturn, 1) := by decide +kernel
theorem dLw_worth_19 : decode mLw_worth.2.1 19 = .ok (.astore 5, 2) := by decide +kernel
theorem dLw_worth_21 : decode mLw_worth.2.1 21 = .ok (.iconst 2, 1) := by decide +kernel
theorem dLw_worth_22 : decode mLw_worth.2.1 22 = .ok (.ireturn, 1) := by decide +kernel
theorem dLw_worth_23 : decode mLw_worth.2.1 23 = .ok (.iconst 0, 1) := by decide +kernel
theorem dLw_worth_24 : decode mLw_worth.2.1 24 = .ok (.ireturn, 1) := by decide +kernel
theorem cLw_worth {l : Launch} {G : Gx} {d d2 bc bs : Nat} {Φ Ψ : OutV → Mm → Prop} (M : Mm) (x1 : Int32) (x2 : Int32) (x3 : Int32) (hs : (m_sh M 100).1 = 10) (hdd : d2 < d) (hM : Ct l G d2 mBo_worth bc bs (.ref 100 :: [.int x1, .int x2, .int x3]) M Ψ)
    (k0 : ∀ v9 M', Ψ (.inl v9) M' → ∃ v : Int32, v9 = some (.int v) ∧ m_sh M' 3483 = (22, 1) ∧ Φ (.inl (some (.int 0))) (m_sl M' 3483 0 v.toInt64))
    (kx : ∀ E M', Ψ (.inr E) M' → (E = nNS ∧ Φ (.inl (some (.int 1))) M') ∨ (E = nIA ∧ Φ (.inl (some (.int 2))) M')) :
    CtH l G d mLw_worth hLw_worth bc bs [.ref 100, .int x1, .int x2, .int x3, .ref 3483] M Φ := by
  refine CtH.of rfl (Nat.le_of_ble_eq_true rfl) ?_
  refine EvT.aload dLw_worth_0 rfl ?_
  refine EvT.iconst (v := 0) dLw_worth_2 (by decide) ?_
  refine EvT.aload_n dLw_worth_3 rfl ?_
  refine EvT.iload_n dLw_worth_4 rfl ?_
  refine EvT.iload_n dLw_worth_5 rfl ?_
  refine EvT.iload_n dLw_worth_6 rfl ?_
  refine EvT.callV (z := mBo_worth) (ci := 10) (a := 100) (av := [.int x1, .int x2, .int x3]) (st := [.int 0, .ref 3483]) (bc2 := bc) (bs2 := bs) (bc := 0) (bs := 0) (n := 3) dLw_worth_7 oBo_worth rfl w1058 iBo_worth sBo_worth (by decide) rfl hs hdd (by decide) hM (fun v9 M' hv => ?_) (fun E M' hv => ?_)
  · obtain ⟨v, rfl, hsh, hq⟩ := k0 v9 M' hv
    refine EvT.i2l dLw_worth_10 ?_
    refine EvT.last dLw_worth_11 hsh (vp_in_dec rfl) ?_
    refine EvT.goto 23 dLw_worth_12 (by decide) ?_
    refine EvT.iconst (v := 0) dLw_worth_23 (by decide) ?_
    exact EvT.iret dLw_worth_24 rfl rfl hq
  · rcases kx E M' hv with ⟨rfl, hq⟩ | ⟨rfl, hq⟩
    · exact EvX.catch (name := nNS) [] ⟨0, 12, 15, 25⟩ [⟨0, 12, 19, 13⟩] rfl (fun z hz => by cases hz) (by decide) (by decide) w1001 w1012 (i := 5) (by decide) (Or.inr ⟨dLw_worth_15, EvT.iconst (v := 1) dLw_worth_17 (by decide) (EvT.iret dLw_worth_18 rfl rfl hq)⟩)
    · exact EvX.catch (name := nIA) [⟨0, 12, 15, 25⟩] ⟨0, 12, 19, 13⟩ [] rfl (fun z hz => by cases List.mem_singleton.mp hz; exact ⟨by decide, nNS, w1001, fun s h => h.1⟩) (by decide) (by decide) w709 w724 (i := 5) (by decide) (Or.inr ⟨dLw_worth_19, EvT.iconst (v := 2) dLw_worth_21 (by decide) (EvT.iret dLw_worth_22 rfl rfl hq)⟩)
def mLw_day : MR := (⟨"BowingRowLaw", "day", "(LBowingRow;I[J)I"⟩, method_11_code, 4, (Option.some .int))
def hLw_day : List (Nat × Nat × Nat × Nat) := [(0, 9, 12, 13)]
theorem oLw_day : MOH mLw_day hLw_day 3 := ⟨lwg_of 1065 (by decide +kernel) (by decide +kernel), lwg_of 90 (by decide +kernel) (by decide +kernel), ⟨by decide +kernel, by decide +kernel⟩, by decide +kernel, by decide⟩
theorem iLw_day : Cond.static mLw_day.1 ∈ lwg := lwg_of 1064 (by decide +kernel) (by decide +kernel)
theorem dLw_day_0 : decode mLw_day.2.1 0 = .ok (.aload_n 2, 1) := by decide +kernel
theorem dLw_day_1 : decode mLw_day.2.1 1 = .ok (.iconst 0, 1) := by decide +kernel
theorem dLw_day_2 : decode mLw_day.2.1 2 = .ok (.aload_n 0, 1) := by decide +kernel
theorem dLw_day_3 : decode mLw_day.2.1 3 = .ok (.iload_n 1, 1) := by decide +kernel
theorem dLw_day_4 : decode mLw_day.2.1 4 = .ok (.invokevirtual 41, 3) := by decide +kernel
theorem dLw_day_7 : decode mLw_day.2.1 7 = .ok (.i2l, 1) := by decide +kernel
theorem dLw_day_8 : decode mLw_day.2.1 8 = .ok (.lastore, 1) := by decide +kernel
theorem dLw_day_9 : decode mLw_day.2.1 9 = .ok (.goto 6, 3) := by decide +kernel
theorem dLw_day_12 : decode mLw_day.2.1 12 = .ok (.astore_n 3, 1) := by decide +kernel
theorem dLw_day_13 : decode mLw_day.2.1 13 = .ok (.iconst 1, 1) := by decide +kernel
theorem dLw_day_14 : decode mLw_day.2.1 14 = .ok (.ireturn, 1) := by decide +kernel
theorem dLw_day_15 : decode mLw_day.2.1 15 = .ok (.iconst 0, 1) := by decide +kernel
theorem dLw_day_16 : decode mLw_day.2.1 16 = .ok (.ireturn, 1) := by decide +kernel
theorem cLw_day {l : Launch} {G : Gx} {d d2 bc bs : Nat} {Φ Ψ : OutV → Mm → Prop} (M : Mm) (x1 : Int32) (hs : (m_sh M 100).1 = 10) (hdd : d2 < d) (hM : Ct l G d2 mBo_day bc bs (.ref 100 :: [.int x1]) M Ψ)
    (k0 : ∀ v9 M', Ψ (.inl v9) M' → ∃ v : Int32, v9 = some (.int v) ∧ m_sh M' 3483 = (22, 1) ∧ Φ (.inl (some (.int 0))) (m_sl M' 3483 0 v.toInt64))
    (kx : ∀ E M', Ψ (.inr E) M' → (E = nIA ∧ Φ (.inl (some (.int 1))) M')) :
    CtH l G d mLw_day hLw_day bc bs [.ref 100, .int x1, .ref 3483] M Φ := by
  refine CtH.of rfl (Nat.le_of_ble_eq_true rfl) ?_
  refine EvT.aload_n dLw_day_0 rfl ?_
  refine EvT.iconst (v := 0) dLw_day_1 (by decide) ?_
  refine EvT.aload_n dLw_day_2 rfl ?_
  refine EvT.iload_n dLw_day_3 rfl ?_
  refine EvT.callV (z := mBo_day) (ci := 10) (a := 100) (av := [.int x1]) (st := [.int 0, .ref 3483]) (bc2 := bc) (bs2 := bs) (bc := 0) (bs := 0) (n := 1) dLw_day_4 oBo_day rfl w1066 iBo_day sBo_day (by decide) rfl hs hdd (by decide) hM (fun v9 M' hv => ?_) (fun E M' hv => ?_)
  · obtain ⟨v, rfl, hsh, hq⟩ := k0 v9 M' hv
    refine EvT.i2l dLw_day_7 ?_
    refine EvT.last dLw_day_8 hsh (vp_in_dec rfl) ?_
    refine EvT.goto 15 dLw_day_9 (by decide) ?_
    refine EvT.iconst (v := 0) dLw_day_15 (by decide) ?_
    exact EvT.iret dLw_day_16 rfl rfl hq
  · obtain ⟨rfl, hq⟩ := kx E M' hv
    exact EvX.catch (name := nIA) [] ⟨0, 9, 12, 13⟩ [] rfl (fun z hz => by cases hz) (by decide) (by decide) w709 w724 (i := 3) (by decide) (Or.inl ⟨3, dLw_day_12, rfl, EvT.iconst (v := 1) dLw_day_13 (by decide) (EvT.iret dLw_day_14 rfl rfl hq), trivial⟩)
def mLw_call : MR := (⟨"BowingRowLaw", "call", "(LBowingRow;II[J)I"⟩, method_12_code, 5, (Option.some .int))
def hLw_call : List (Nat × Nat × Nat × Nat) := [(0, 10, 13, 47), (0, 10, 17, 13)]
theorem oLw_call : MOH mLw_call hLw_call 4 := ⟨lwg_of 1086 (by decide +kernel) (by decide +kernel), lwg_of 90 (by decide +kernel) (by decide +kernel), ⟨by decide +kernel, by decide +kernel⟩, by decide +kernel, by decide⟩
theorem iLw_call : Cond.static mLw_call.1 ∈ lwg := lwg_of 1085 (by decide +kernel) (by decide +kernel)
theorem dLw_call_0 : decode mLw_call.2.1 0 = .ok (.aload_n 3, 1) := by decide +kernel
theorem dLw_call_1 : decode mLw_call.2.1 1 = .ok (.iconst 0, 1) := by decide +kernel
theorem dLw_call_2 : decode mLw_call.2.1 2 = .ok (.aload_n 0, 1) := by decide +kernel
theorem dLw_call_3 : decode mLw_call.2.1 3 = .ok (.iload_n 1, 1) := by decide +kernel
theorem dLw_call_4 : decode mLw_call.2.1 4 = .ok (.iload_n 2, 1) := by decide +kernel
theorem dLw_call_5 : decode mLw_call.2.1 5 = .ok (.invokevirtual 44, 3) := by decide +kernel
theorem dLw_call_8 : decode mLw_call.2.1 8 = .ok (.i2l, 1) := by decide +kernel
theorem dLw_call_9 : decode mLw_call.2.1 9 = .ok (.lastore, 1) := by decide +kernel
theorem dLw_call_10 : decode mLw_call.2.1 10 = .ok (.goto 11, 3) := by decide +kernel
theorem dLw_call_13 : decode mLw_call.2.1 13 = .ok (.astore 4, 2) := by decide +kernel
theorem dLw_call_15 : decode mLw_call.2.1 15 = .ok (.iconst 1, 1) := by decide +kernel
theorem dLw_call_16 : decode mLw_call.2.1 16 = .ok (.ireturn, 1) := by decide +kernel
theorem dLw_call_17 : decode mLw_call.2.1 17 = .ok (.astore 4, 2) := by decide +kernel
theorem dLw_call_19 : decode mLw_call.2.1 19 = .ok (.iconst 2, 1) := by decide +kernel
theorem dLw_call_20 : decode mLw_call.2.1 20 = .ok (.ireturn, 1) := by decide +kernel
theorem dLw_call_21 : decode mLw_call.2.1 21 = .ok (.iconst 0, 1) := by decide +kernel
theorem dLw_call_22 : decode mLw_call.2.1 22 = .ok (.ireturn, 1) := by decide +kernel
theorem cLw_call {l : Launch} {G : Gx} {d d2 bc bs : Nat} {Φ Ψ : OutV → Mm → Prop} (M : Mm) (x1 : Int32) (x2 : Int32) (hs : (m_sh M 100).1 = 10) (hdd : d2 < d) (hM : Ct l G d2 mBo_call bc bs (.ref 100 :: [.int x1, .int x2]) M Ψ)
    (k0 : ∀ v9 M', Ψ (.inl v9) M' → ∃ v : Int32, v9 = some (.int v) ∧ m_sh M' 3483 = (22, 1) ∧ Φ (.inl (some (.int 0))) (m_sl M' 3483 0 v.toInt64))
    (kx : ∀ E M', Ψ (.inr E) M' → (E = nIO ∧ Φ (.inl (some (.int 1))) M') ∨ (E = nIA ∧ Φ (.inl (some (.int 2))) M')) :
    CtH l G d mLw_call hLw_call bc bs [.ref 100, .int x1, .int x2, .ref 3483] M Φ := by
  refine CtH.of rfl (Nat.le_of_ble_eq_true rfl) ?_
  refine EvT.aload_n dLw_call_0 rfl ?_
  refine EvT.iconst (v := 0) dLw_call_1 (by decide) ?_
  refine EvT.aload_n dLw_call_2 rfl ?_
  refine EvT.iload_n dLw_call_3 rfl ?_
  refine EvT.iload_n dLw_call_4 rfl ?_
  refine EvT.callV (z := mBo_call) (ci := 10) (a := 100) (av := [.int x1, .int x2]) (st := [.int 0, .ref 3483]) (bc2 := bc) (bs2 := bs) (bc := 0) (bs := 0) (n := 2) dLw_call_5 oBo_call rfl w1088 iBo_call sBo_call (by decide) rfl hs hdd (by decide) hM (fun v9 M' hv => ?_) (fun E M' hv => ?_)
  · obtain ⟨v, rfl, hsh, hq⟩ := k0 v9 M' hv
    refine EvT.i2l dLw_call_8 ?_
    refine EvT.last dLw_call_9 hsh (vp_in_dec rfl) ?_
    refine EvT.goto 21 dLw_call_10 (by decide) ?_
    refine EvT.iconst (v := 0) dLw_call_21 (by decide) ?_
    exact EvT.iret dLw_call_22 rfl rfl hq
  · rcases kx E M' hv with ⟨rfl, hq⟩ | ⟨rfl, hq⟩
    · exact EvX.catch (name := nIO) [] ⟨0, 10, 13, 47⟩ [⟨0, 10, 17, 13⟩] rfl (fun z hz => by cases hz) (by decide) (by decide) w1087 w1097 (i := 4) (by decide) (Or.inr ⟨dLw_call_13, EvT.iconst (v := 1) dLw_call_15 (by decide) (EvT.iret dLw_call_16 rfl rfl hq)⟩)
    · exact EvX.catch (name := nIA) [⟨0, 10, 13, 47⟩] ⟨0, 10, 17, 13⟩ [] rfl (fun z hz => by cases List.mem_singleton.mp hz; exact ⟨by decide, nIO, w1087, fun s h => h.2.1⟩) (by decide) (by decide) w709 w724 (i := 4) (by decide) (Or.inr ⟨dLw_call_17, EvT.iconst (v := 2) dLw_call_19 (by decide) (EvT.iret dLw_call_20 rfl rfl hq)⟩)
def mLw_holder : MR := (⟨"BowingRowLaw", "holder", "(LBowingRow;II[J)I"⟩, method_13_code, 5, (Option.some .int))
def hLw_holder : List (Nat × Nat × Nat × Nat) := [(0, 10, 13, 47)]
theorem oLw_holder : MOH mLw_holder hLw_holder 4 := ⟨lwg_of 1113 (by decide +kernel) (by decide +kernel), lwg_of 90 (by decide +kernel) (by decide +kernel), ⟨by decide +kernel, by decide +kernel⟩, by decide +kernel, by decide⟩
theorem iLw_holder : Cond.static mLw_holder.1 ∈ lwg := lwg_of 1112 (by decide +kernel) (by decide +kernel)
theorem dLw_holder_0 : decode mLw_holder.2.1 0 = .ok (.aload_n 3, 1) := by decide +kernel
theorem dLw_holder_1 : decode mLw_holder.2.1 1 = .ok (.iconst 0, 1) := by decide +kernel
theorem dLw_holder_2 : decode mLw_holder.2.1 2 = .ok (.aload_n 0, 1) := by decide +kernel
theorem dLw_holder_3 : decode mLw_holder.2.1 3 = .ok (.iload_n 1, 1) := by decide +kernel
theorem dLw_holder_4 : decode mLw_holder.2.1 4 = .ok (.iload_n 2, 1) := by decide +kernel
theorem dLw_holder_5 : decode mLw_holder.2.1 5 = .ok (.invokevirtual 49, 3) := by decide +kernel
theorem dLw_holder_8 : decode mLw_holder.2.1 8 = .ok (.i2l, 1) := by decide +kernel
theorem dLw_holder_9 : decode mLw_holder.2.1 9 = .ok (.lastore, 1) := by decide +kernel
theorem dLw_holder_10 : decode mLw_holder.2.1 10 = .ok (.goto 7, 3) := by decide +kernel
theorem dLw_holder_13 : decode mLw_holder.2.1 13 = .ok (.astore 4, 2) := by decide +kernel
theorem dLw_holder_15 : decode mLw_holder.2.1 15 = .ok (.iconst 1, 1) := by decide +kernel
theorem dLw_holder_16 : decode mLw_holder.2.1 16 = .ok (.ireturn, 1) := by decide +kernel
theorem dLw_holder_17 : decode mLw_holder.2.1 17 = .ok (.iconst 0, 1) := by decide +kernel
theorem dLw_holder_18 : decode mLw_holder.2.1 18 = .ok (.ireturn, 1) := by decide +kernel
theorem cLw_holder {l : Launch} {G : Gx} {d d2 bc bs : Nat} {Φ Ψ : OutV → Mm → Prop} (M : Mm) (x1 : Int32) (x2 : Int32) (hs : (m_sh M 100).1 = 10) (hdd : d2 < d) (hM : Ct l G d2 mBo_holder bc bs (.ref 100 :: [.int x1, .int x2]) M Ψ)
    (k0 : ∀ v9 M', Ψ (.inl v9) M' → ∃ v : Int32, v9 = some (.int v) ∧ m_sh M' 3483 = (22, 1) ∧ Φ (.inl (some (.int 0))) (m_sl M' 3483 0 v.toInt64))
    (kx : ∀ E M', Ψ (.inr E) M' → (E = nIO ∧ Φ (.inl (some (.int 1))) M')) :
    CtH l G d mLw_holder hLw_holder bc bs [.ref 100, .int x1, .int x2, .ref 3483] M Φ := by
  refine CtH.of rfl (Nat.le_of_ble_eq_true rfl) ?_
  refine EvT.aload_n dLw_holder_0 rfl ?_
  refine EvT.iconst (v := 0) dLw_holder_1 (by decide) ?_
  refine EvT.aload_n dLw_holder_2 rfl ?_
  refine EvT.iload_n dLw_holder_3 rfl ?_
  refine EvT.iload_n dLw_holder_4 rfl ?_
  refine EvT.callV (z := mBo_holder) (ci := 10) (a := 100) (av := [.int x1, .int x2]) (st := [.int 0, .ref 3483]) (bc2 := bc) (bs2 := bs) (bc := 0) (bs := 0) (n := 2) dLw_holder_5 oBo_holder rfl w1114 iBo_holder sBo_holder (by decide) rfl hs hdd (by decide) hM (fun v9 M' hv => ?_) (fun E M' hv => ?_)
  · obtain ⟨v, rfl, hsh, hq⟩ := k0 v9 M' hv
    refine EvT.i2l dLw_holder_8 ?_
    refine EvT.last dLw_holder_9 hsh (vp_in_dec rfl) ?_
    refine EvT.goto 17 dLw_holder_10 (by decide) ?_
    refine EvT.iconst (v := 0) dLw_holder_17 (by decide) ?_
    exact EvT.iret dLw_holder_18 rfl rfl hq
  · obtain ⟨rfl, hq⟩ := kx E M' hv
    exact EvX.catch (name := nIO) [] ⟨0, 10, 13, 47⟩ [] rfl (fun z hz => by cases hz) (by decide) (by decide) w1087 w1097 (i := 4) (by decide) (Or.inr ⟨dLw_holder_13, EvT.iconst (v := 1) dLw_holder_15 (by decide) (EvT.iret dLw_holder_16 rfl rfl hq)⟩)
def mLw_ends : MR := (⟨"BowingRowLaw", "ends", "(LBowingRow;I[J)I"⟩, method_14_code, 4, (Option.some .int))
def hLw_ends : List (Nat × Nat × Nat × Nat) := [(0, 9, 12, 25)]
theorem oLw_ends : MOH mLw_ends hLw_ends 3 := ⟨lwg_of 1120 (by decide +kernel) (by decide +kernel), lwg_of 90 (by decide +kernel) (by decide +kernel), ⟨by decide +kernel, by decide +kernel⟩, by decide +kernel, by decide⟩
theorem iLw_ends : Cond.static mLw_ends.1 ∈ lwg := lwg_of 1119 (by decide +kernel) (by decide +kernel)
theorem dLw_ends_0 : decode mLw_ends.2.1 0 = .ok (.aload_n 2, 1) := by decide +kernel
theorem dLw_ends_1 : decode mLw_ends.2.1 1 = .ok (.iconst 0, 1) := by decide +kernel
theorem dLw_ends_2 : decode mLw_ends.2.1 2 = .ok (.aload_n 0, 1) := by decide +kernel
theorem dLw_ends_3 : decode mLw_ends.2.1 3 = .ok (.iload_n 1, 1) := by decide +kernel
theorem dLw_ends_4 : decode mLw_ends.2.1 4 = .ok (.invokevirtual 52, 3) := by decide +kernel
theorem dLw_ends_7 : decode mLw_ends.2.1 7 = .ok (.i2l, 1) := by decide +kernel
theorem dLw_ends_8 : decode mLw_ends.2.1 8 = .ok (.lastore, 1) := by decide +kernel
theorem dLw_ends_9 : decode mLw_ends.2.1 9 = .ok (.goto 6, 3) := by decide +kernel
theorem dLw_ends_12 : decode mLw_ends.2.1 12 = .ok (.astore_n 3, 1) := by decide +kernel
theorem dLw_ends_13 : decode mLw_ends.2.1 13 = .ok (.iconst 1, 1) := by decide +kernel
theorem dLw_ends_14 : decode mLw_ends.2.1 14 = .ok (.ireturn, 1) := by decide +kernel
theorem dLw_ends_15 : decode mLw_ends.2.1 15 = .ok (.iconst 0, 1) := by decide +kernel
theorem dLw_ends_16 : decode mLw_ends.2.1 16 = .ok (.ireturn, 1) := by decide +kernel
theorem cLw_ends {l : Launch} {G : Gx} {d d2 bc bs : Nat} {Φ Ψ : OutV → Mm → Prop} (M : Mm) (x1 : Int32) (hs : (m_sh M 100).1 = 10) (hdd : d2 < d) (hM : Ct l G d2 mBo_ends bc bs (.ref 100 :: [.int x1]) M Ψ)
    (k0 : ∀ v9 M', Ψ (.inl v9) M' → ∃ v : Int32, v9 = some (.int v) ∧ m_sh M' 3483 = (22, 1) ∧ Φ (.inl (some (.int 0))) (m_sl M' 3483 0 v.toInt64))
    (kx : ∀ E M', Ψ (.inr E) M' → (E = nNS ∧ Φ (.inl (some (.int 1))) M')) :
    CtH l G d mLw_ends hLw_ends bc bs [.ref 100, .int x1, .ref 3483] M Φ := by
  refine CtH.of rfl (Nat.le_of_ble_eq_true rfl) ?_
  refine EvT.aload_n dLw_ends_0 rfl ?_
  refine EvT.iconst (v := 0) dLw_ends_1 (by decide) ?_
  refine EvT.aload_n dLw_ends_2 rfl ?_
  refine EvT.iload_n dLw_ends_3 rfl ?_
  refine EvT.callV (z := mBo_ends) (ci := 10) (a := 100) (av := [.int x1]) (st := [.int 0, .ref 3483]) (bc2 := bc) (bs2 := bs) (bc := 0) (bs := 0) (n := 1) dLw_ends_4 oBo_ends rfl w1121 iBo_ends sBo_ends (by decide) rfl hs hdd (by decide) hM (fun v9 M' hv => ?_) (fun E M' hv => ?_)
  · obtain ⟨v, rfl, hsh, hq⟩ := k0 v9 M' hv
    refine EvT.i2l dLw_ends_7 ?_
    refine EvT.last dLw_ends_8 hsh (vp_in_dec rfl) ?_
    refine EvT.goto 15 dLw_ends_9 (by decide) ?_
    refine EvT.iconst (v := 0) dLw_ends_15 (by decide) ?_
    exact EvT.iret dLw_ends_16 rfl rfl hq
  · obtain ⟨rfl, hq⟩ := kx E M' hv
    exact EvX.catch (name := nNS) [] ⟨0, 9, 12, 25⟩ [] rfl (fun z hz => by cases hz) (by decide) (by decide) w1001 w1012 (i := 3) (by decide) (Or.inl ⟨3, dLw_ends_12, rfl, EvT.iconst (v := 1) dLw_ends_13 (by decide) (EvT.iret dLw_ends_14 rfl rfl hq), trivial⟩)
def mLw_balance : MR := (⟨"BowingRowLaw", "balance", "(LBowingRow;I[J)I"⟩, method_15_code, 4, (Option.some .int))
def hLw_balance : List (Nat × Nat × Nat × Nat) := [(0, 9, 12, 25)]
theorem oLw_balance : MOH mLw_balance hLw_balance 3 := ⟨lwg_of 1127 (by decide +kernel) (by decide +kernel), lwg_of 90 (by decide +kernel) (by decide +kernel), ⟨by decide +kernel, by decide +kernel⟩, by decide +kernel, by decide⟩
theorem iLw_balance : Cond.static mLw_balance.1 ∈ lwg := lwg_of 1126 (by decide +kernel) (by decide +kernel)
theorem dLw_balance_0 : decode mLw_balance.2.1 0 = .ok (.aload_n 2, 1) := by decide +kernel
theorem dLw_balance_1 : decode mLw_balance.2.1 1 = .ok (.iconst 0, 1) := by decide +kernel
theorem dLw_balance_2 : decode mLw_balance.2.1 2 = .ok (.aload_n 0, 1) := by decide +kernel
theorem dLw_balance_3 : decode mLw_balance.2.1 3 = .ok (.iload_n 1, 1) := by decide +kernel
theorem dLw_balance_4 : decode mLw_balance.2.1 4 = .ok (.invokevirtual 55, 3) := by decide +kernel
theorem dLw_balance_7 : decode mLw_balance.2.1 7 = .ok (.i2l, 1) := by decide +kernel
theorem dLw_balance_8 : decode mLw_balance.2.1 8 = .ok (.lastore, 1) := by decide +kernel
theorem dLw_balance_9 : decode mLw_balance.2.1 9 = .ok (.goto 6, 3) := by decide +kernel
theorem dLw_balance_12 : decode mLw_balance.2.1 12 = .ok (.astore_n 3, 1) := by decide +kernel
theorem dLw_balance_13 : decode mLw_balance.2.1 13 = .ok (.iconst 1, 1) := by decide +kernel
theorem dLw_balance_14 : decode mLw_balance.2.1 14 = .ok (.ireturn, 1) := by decide +kernel
theorem dLw_balance_15 : decode mLw_balance.2.1 15 = .ok (.iconst 0, 1) := by decide +kernel
theorem dLw_balance_16 : decode mLw_balance.2.1 16 = .ok (.ireturn, 1) := by decide +kernel
theorem cLw_balance {l : Launch} {G : Gx} {d d2 bc bs : Nat} {Φ Ψ : OutV → Mm → Prop} (M : Mm) (x1 : Int32) (hs : (m_sh M 100).1 = 10) (hdd : d2 < d) (hM : Ct l G d2 mBo_balance bc bs (.ref 100 :: [.int x1]) M Ψ)
    (k0 : ∀ v9 M', Ψ (.inl v9) M' → ∃ v : Int32, v9 = some (.int v) ∧ m_sh M' 3483 = (22, 1) ∧ Φ (.inl (some (.int 0))) (m_sl M' 3483 0 v.toInt64))
    (kx : ∀ E M', Ψ (.inr E) M' → (E = nNS ∧ Φ (.inl (some (.int 1))) M')) :
    CtH l G d mLw_balance hLw_balance bc bs [.ref 100, .int x1, .ref 3483] M Φ := by
  refine CtH.of rfl (Nat.le_of_ble_eq_true rfl) ?_
  refine EvT.aload_n dLw_balance_0 rfl ?_
  refine EvT.iconst (v := 0) dLw_balance_1 (by decide) ?_
  refine EvT.aload_n dLw_balance_2 rfl ?_
  refine EvT.iload_n dLw_balance_3 rfl ?_
  refine EvT.callV (z := mBo_balance) (ci := 10) (a := 100) (av := [.int x1]) (st := [.int 0, .ref 3483]) (bc2 := bc) (bs2 := bs) (bc := 0) (bs := 0) (n := 1) dLw_balance_4 oBo_balance rfl w1128 iBo_balance sBo_balance (by decide) rfl hs hdd (by decide) hM (fun v9 M' hv => ?_) (fun E M' hv => ?_)
  · obtain ⟨v, rfl, hsh, hq⟩ := k0 v9 M' hv
    refine EvT.i2l dLw_balance_7 ?_
    refine EvT.last dLw_balance_8 hsh (vp_in_dec rfl) ?_
    refine EvT.goto 15 dLw_balance_9 (by decide) ?_
    refine EvT.iconst (v := 0) dLw_balance_15 (by decide) ?_
    exact EvT.iret dLw_balance_16 rfl rfl hq
  · obtain ⟨rfl, hq⟩ := kx E M' hv
    exact EvX.catch (name := nNS) [] ⟨0, 9, 12, 25⟩ [] rfl (fun z hz => by cases hz) (by decide) (by decide) w1001 w1012 (i := 3) (by decide) (Or.inl ⟨3, dLw_balance_12, rfl, EvT.iconst (v := 1) dLw_balance_13 (by decide) (EvT.iret dLw_balance_14 rfl rfl hq), trivial⟩)
def mLw_book : MR := (⟨"BowingRowLaw", "book", "(LBowingRow;II[J)I"⟩, method_16_code, 5, (Option.some .int))
def hLw_book : List (Nat × Nat × Nat × Nat) := [(0, 10, 13, 25)]
theorem oLw_book : MOH mLw_book hLw_book 4 := ⟨lwg_of 1134 (by decide +kernel) (by decide +kernel), lwg_of 90 (by decide +kernel) (by decide +kernel), ⟨by decide +kernel, by decide +kernel⟩, by decide +kernel, by decide⟩
theorem iLw_book : Cond.static mLw_book.1 ∈ lwg := lwg_of 1133 (by decide +kernel) (by decide +kernel)
theorem dLw_book_0 : decode mLw_book.2.1 0 = .ok (.aload_n 3, 1) := by decide +kernel
theorem dLw_book_1 : decode mLw_book.2.1 1 = .ok (.iconst 0, 1) := by decide +kernel
theorem dLw_book_2 : decode mLw_book.2.1 2 = .ok (.aload_n 0, 1) := by decide +kernel
theorem dLw_book_3 : decode mLw_book.2.1 3 = .ok (.iload_n 1, 1) := by decide +kernel
theorem dLw_book_4 : decode mLw_book.2.1 4 = .ok (.iload_n 2, 1) := by decide +kernel
theorem dLw_book_5 : decode mLw_book.2.1 5 = .ok (.invokevirtual 58, 3) := by decide +kernel
theorem dLw_book_8 : decode mLw_book.2.1 8 = .ok (.i2l, 1) := by decide +kernel
theorem dLw_book_9 : decode mLw_book.2.1 9 = .ok (.lastore, 1) := by decide +kernel
theorem dLw_book_10 : decode mLw_book.2.1 10 = .ok (.goto 7, 3) := by decide +kernel
theorem dLw_book_13 : decode mLw_book.2.1 13 = .ok (.astore 4, 2) := by decide +kernel
theorem dLw_book_15 : decode mLw_book.2.1 15 = .ok (.iconst 1, 1) := by decide +kernel
theorem dLw_book_16 : decode mLw_book.2.1 16 = .ok (.ireturn, 1) := by decide +kernel
theorem dLw_book_17 : decode mLw_book.2.1 17 = .ok (.iconst 0, 1) := by decide +kernel
theorem dLw_book_18 : decode mLw_book.2.1 18 = .ok (.ireturn, 1) := by decide +kernel
theorem cLw_book {l : Launch} {G : Gx} {d d2 bc bs : Nat} {Φ Ψ : OutV → Mm → Prop} (M : Mm) (x1 : Int32) (x2 : Int32) (hs : (m_sh M 100).1 = 10) (hdd : d2 < d) (hM : Ct l G d2 mBo_book bc bs (.ref 100 :: [.int x1, .int x2]) M Ψ)
    (k0 : ∀ v9 M', Ψ (.inl v9) M' → ∃ v : Int32, v9 = some (.int v) ∧ m_sh M' 3483 = (22, 1) ∧ Φ (.inl (some (.int 0))) (m_sl M' 3483 0 v.toInt64))
    (kx : ∀ E M', Ψ (.inr E) M' → (E = nNS ∧ Φ (.inl (some (.int 1))) M')) :
    CtH l G d mLw_book hLw_book bc bs [.ref 100, .int x1, .int x2, .ref 3483] M Φ := by
  refine CtH.of rfl (Nat.le_of_ble_eq_true rfl) ?_
  refine EvT.aload_n dLw_book_0 rfl ?_
  refine EvT.iconst (v := 0) dLw_book_1 (by decide) ?_
  refine EvT.aload_n dLw_book_2 rfl ?_
  refine EvT.iload_n dLw_book_3 rfl ?_
  refine EvT.iload_n dLw_book_4 rfl ?_
  refine EvT.callV (z := mBo_book) (ci := 10) (a := 100) (av := [.int x1, .int x2]) (st := [.int 0, .ref 3483]) (bc2 := bc) (bs2 := bs) (bc := 0) (bs := 0) (n := 2) dLw_book_5 oBo_book rfl w1135 iBo_book sBo_book (by decide) rfl hs hdd (by decide) hM (fun v9 M' hv => ?_) (fun E M' hv => ?_)
  · obtain ⟨v, rfl, hsh, hq⟩ := k0 v9 M' hv
    refine EvT.i2l dLw_book_8 ?_
    refine EvT.last dLw_book_9 hsh (vp_in_dec rfl) ?_
    refine EvT.goto 17 dLw_book_10 (by decide) ?_
    refine EvT.iconst (v := 0) dLw_book_17 (by decide) ?_
    exact EvT.iret dLw_book_18 rfl rfl hq
  · obtain ⟨rfl, hq⟩ := kx E M' hv
    exact EvX.catch (name := nNS) [] ⟨0, 10, 13, 25⟩ [] rfl (fun z hz => by cases hz) (by decide) (by decide) w1001 w1012 (i := 4) (by decide) (Or.inr ⟨dLw_book_13, EvT.iconst (v := 1) dLw_book_15 (by decide) (EvT.iret dLw_book_16 rfl rfl hq)⟩)
def mLw_owed : MR := (⟨"BowingRowLaw", "owed", "(LBowingRow;II[J)I"⟩, method_17_code, 5, (Option.some .int))
def hLw_owed : List (Nat × Nat × Nat × Nat) := [(0, 10, 13, 25)]
theorem oLw_owed : MOH mLw_owed hLw_owed 4 := ⟨lwg_of 1145 (by decide +kernel) (by decide +kernel), lwg_of 90 (by decide +kernel) (by decide +kernel), ⟨by decide +kernel, by decide +kernel⟩, by decide +kernel, by decide⟩
theorem iLw_owed : Cond.static mLw_owed.1 ∈ lwg := lwg_of 1144 (by decide +kernel) (by decide +kernel)
theorem dLw_owed_0 : decode mLw_owed.2.1 0 = .ok (.aload_n 3, 1) := by decide +kernel
theorem dLw_owed_1 : decode mLw_owed.2.1 1 = .ok (.iconst 0, 1) := by decide +kernel
theorem dLw_owed_2 : decode mLw_owed.2.1 2 = .ok (.aload_n 0, 1) := by decide +kernel
theorem dLw_owed_3 : decode mLw_owed.2.1 3 = .ok (.iload_n 1, 1) := by decide +kernel
theorem dLw_owed_4 : decode mLw_owed.2.1 4 = .ok (.iload_n 2, 1) := by decide +kernel
theorem dLw_owed_5 : decode mLw_owed.2.1 5 = .ok (.invokevirtual 61, 3) := by decide +kernel
theorem dLw_owed_8 : decode mLw_owed.2.1 8 = .ok (.i2l, 1) := by decide +kernel
theorem dLw_owed_9 : decode mLw_owed.2.1 9 = .ok (.lastore, 1) := by decide +kernel
theorem dLw_owed_10 : decode mLw_owed.2.1 10 = .ok (.goto 7, 3) := by decide +kernel
theorem dLw_owed_13 : decode mLw_owed.2.1 13 = .ok (.astore 4, 2) := by decide +kernel
theorem dLw_owed_15 : decode mLw_owed.2.1 15 = .ok (.iconst 1, 1) := by decide +kernel
theorem dLw_owed_16 : decode mLw_owed.2.1 16 = .ok (.ireturn, 1) := by decide +kernel
theorem dLw_owed_17 : decode mLw_owed.2.1 17 = .ok (.iconst 0, 1) := by decide +kernel
theorem dLw_owed_18 : decode mLw_owed.2.1 18 = .ok (.ireturn, 1) := by decide +kernel
theorem cLw_owed {l : Launch} {G : Gx} {d d2 bc bs : Nat} {Φ Ψ : OutV → Mm → Prop} (M : Mm) (x1 : Int32) (x2 : Int32) (hs : (m_sh M 100).1 = 10) (hdd : d2 < d) (hM : Ct l G d2 mBo_owed bc bs (.ref 100 :: [.int x1, .int x2]) M Ψ)
    (k0 : ∀ v9 M', Ψ (.inl v9) M' → ∃ v : Int32, v9 = some (.int v) ∧ m_sh M' 3483 = (22, 1) ∧ Φ (.inl (some (.int 0))) (m_sl M' 3483 0 v.toInt64))
    (kx : ∀ E M', Ψ (.inr E) M' → (E = nNS ∧ Φ (.inl (some (.int 1))) M')) :
    CtH l G d mLw_owed hLw_owed bc bs [.ref 100, .int x1, .int x2, .ref 3483] M Φ := by
  refine CtH.of rfl (Nat.le_of_ble_eq_true rfl) ?_
  refine EvT.aload_n dLw_owed_0 rfl ?_
  refine EvT.iconst (v := 0) dLw_owed_1 (by decide) ?_
  refine EvT.aload_n dLw_owed_2 rfl ?_
  refine EvT.iload_n dLw_owed_3 rfl ?_
  refine EvT.iload_n dLw_owed_4 rfl ?_
  refine EvT.callV (z := mBo_owed) (ci := 10) (a := 100) (av := [.int x1, .int x2]) (st := [.int 0, .ref 3483]) (bc2 := bc) (bs2 := bs) (bc := 0) (bs := 0) (n := 2) dLw_owed_5 oBo_owed rfl w1146 iBo_owed sBo_owed (by decide) rfl hs hdd (by decide) hM (fun v9 M' hv => ?_) (fun E M' hv => ?_)
  · obtain ⟨v, rfl, hsh, hq⟩ := k0 v9 M' hv
    refine EvT.i2l dLw_owed_8 ?_
    refine EvT.last dLw_owed_9 hsh (vp_in_dec rfl) ?_
    refine EvT.goto 17 dLw_owed_10 (by decide) ?_
    refine EvT.iconst (v := 0) dLw_owed_17 (by decide) ?_
    exact EvT.iret dLw_owed_18 rfl rfl hq
  · obtain ⟨rfl, hq⟩ := kx E M' hv
    exact EvX.catch (name := nNS) [] ⟨0, 10, 13, 25⟩ [] rfl (fun z hz => by cases hz) (by decide) (by decide) w1001 w1012 (i := 4) (by decide) (Or.inr ⟨dLw_owed_13, EvT.iconst (v := 1) dLw_owed_15 (by decide) (EvT.iret dLw_owed_16 rfl rfl hq)⟩)
def mLw_tell : MR := (⟨"BowingRowLaw", "tell", "(LBowingRow;I[J)I"⟩, method_18_code, 4, (Option.some .int))
def hLw_tell : List (Nat × Nat × Nat × Nat) := [(0, 9, 12, 25)]
theorem oLw_tell : MOH mLw_tell hLw_tell 3 := ⟨lwg_of 1167 (by decide +kernel) (by decide +kernel), lwg_of 90 (by decide +kernel) (by decide +kernel), ⟨by decide +kernel, by decide +kernel⟩, by decide +kernel, by decide⟩
theorem iLw_tell : Cond.static mLw_tell.1 ∈ lwg := lwg_of 1166 (by decide +kernel) (by decide +kernel)
theorem dLw_tell_0 : decode mLw_tell.2.1 0 = .ok (.aload_n 2, 1) := by decide +kernel
theorem dLw_tell_1 : decode mLw_tell.2.1 1 = .ok (.iconst 0, 1) := by decide +kernel
theorem dLw_tell_2 : decode mLw_tell.2.1 2 = .ok (.aload_n 0, 1) := by decide +kernel
theorem dLw_tell_3 : decode mLw_tell.2.1 3 = .ok (.iload_n 1, 1) := by decide +kernel
theorem dLw_tell_4 : decode mLw_tell.2.1 4 = .ok (.invokevirtual 64, 3) := by decide +kernel
theorem dLw_tell_7 : decode mLw_tell.2.1 7 = .ok (.i2l, 1) := by decide +kernel
theorem dLw_tell_8 : decode mLw_tell.2.1 8 = .ok (.lastore, 1) := by decide +kernel
theorem dLw_tell_9 : decode mLw_tell.2.1 9 = .ok (.goto 6, 3) := by decide +kernel
theorem dLw_tell_12 : decode mLw_tell.2.1 12 = .ok (.astore_n 3, 1) := by decide +kernel
theorem dLw_tell_13 : decode mLw_tell.2.1 13 = .ok (.iconst 1, 1) := by decide +kernel
theorem dLw_tell_14 : decode mLw_tell.2.1 14 = .ok (.ireturn, 1) := by decide +kernel
theorem dLw_tell_15 : decode mLw_tell.2.1 15 = .ok (.iconst 0, 1) := by decide +kernel
theorem dLw_tell_16 : decode mLw_tell.2.1 16 = .ok (.ireturn, 1) := by decide +kernel
theorem cLw_tell {l : Launch} {G : Gx} {d d2 bc bs : Nat} {Φ Ψ : OutV → Mm → Prop} (M : Mm) (x1 : Int32) (hs : (m_sh M 100).1 = 10) (hdd : d2 < d) (hM : Ct l G d2 mBo_tell bc bs (.ref 100 :: [.int x1]) M Ψ)
    (k0 : ∀ v9 M', Ψ (.inl v9) M' → ∃ v : Int32, v9 = some (.int v) ∧ m_sh M' 3483 = (22, 1) ∧ Φ (.inl (some (.int 0))) (m_sl M' 3483 0 v.toInt64))
    (kx : ∀ E M', Ψ (.inr E) M' → (E = nNS ∧ Φ (.inl (some (.int 1))) M')) :
    CtH l G d mLw_tell hLw_tell bc bs [.ref 100, .int x1, .ref 3483] M Φ := by
  refine CtH.of rfl (Nat.le_of_ble_eq_true rfl) ?_
  refine EvT.aload_n dLw_tell_0 rfl ?_
  refine EvT.iconst (v := 0) dLw_tell_1 (by decide) ?_
  refine EvT.aload_n dLw_tell_2 rfl ?_
  refine EvT.iload_n dLw_tell_3 rfl ?_
  refine EvT.callV (z := mBo_tell) (ci := 10) (a := 100) (av := [.int x1]) (st := [.int 0, .ref 3483]) (bc2 := bc) (bs2 := bs) (bc := 0) (bs := 0) (n := 1) dLw_tell_4 oBo_tell rfl w1168 iBo_tell sBo_tell (by decide) rfl hs hdd (by decide) hM (fun v9 M' hv => ?_) (fun E M' hv => ?_)
  · obtain ⟨v, rfl, hsh, hq⟩ := k0 v9 M' hv
    refine EvT.i2l dLw_tell_7 ?_
    refine EvT.last dLw_tell_8 hsh (vp_in_dec rfl) ?_
    refine EvT.goto 15 dLw_tell_9 (by decide) ?_
    refine EvT.iconst (v := 0) dLw_tell_15 (by decide) ?_
    exact EvT.iret dLw_tell_16 rfl rfl hq
  · obtain ⟨rfl, hq⟩ := kx E M' hv
    exact EvX.catch (name := nNS) [] ⟨0, 9, 12, 25⟩ [] rfl (fun z hz => by cases hz) (by decide) (by decide) w1001 w1012 (i := 3) (by decide) (Or.inl ⟨3, dLw_tell_12, rfl, EvT.iconst (v := 1) dLw_tell_13 (by decide) (EvT.iret dLw_tell_14 rfl rfl hq), trivial⟩)
def mLw_again : MR := (⟨"BowingRowLaw", "again", "(LBowingRow;III[J)I"⟩, method_19_code, 6, (Option.some .int))
def hLw_again : List (Nat × Nat × Nat × Nat) := [(0, 12, 15, 25), (0, 12, 19, 13)]
theorem oLw_again : MOH mLw_again hLw_again 5 := ⟨lwg_of 1174 (by decide +kernel) (by decide +kernel), lwg_of 90 (by decide +kernel) (by decide +kernel), ⟨by decide +kernel, by decide +kernel⟩, by decide +kernel, by decide⟩
theorem iLw_again : Cond.static mLw_again.1 ∈ lwg := lwg_of 1173 (by decide +kernel) (by decide +kernel)
theorem dLw_again_0 : decode mLw_again.2.1 0 = .ok (.aload 4, 2) := by decide +kernel
theorem dLw_again_2 : decode mLw_again.2.1 2 = .ok (.iconst 0, 1) := by decide +kernel
theorem dLw_again_3 : decode mLw_again.2.1 3 = .ok (.aload_n 0, 1) := by decide +kernel
theorem dLw_again_4 : decode mLw_again.2.1 4 = .ok (.iload_n 1, 1) := by decide +kernel
theorem dLw_again_5 : decode mLw_again.2.1 5 = .ok (.iload_n 2, 1) := by decide +kernel
theorem dLw_again_6 : decode mLw_again.2.1 6 = .ok (.iload_n 3, 1) := by decide +kernel
theorem dLw_again_7 : decode mLw_again.2.1 7 = .ok (.invokevirtual 67, 3) := by decide +kernel
theorem dLw_again_10 : decode mLw_again.2.1 10 = .ok (.i2l, 1) := by decide +kernel
theorem dLw_again_11 : decode mLw_again.2.1 11 = .ok (.lastore, 1) := by decide +kernel
theorem dLw_again_12 : decode mLw_again.2.1 12 = .ok (.goto 11, 3) := by decide +kernel
theorem dLw_again_15 : decode mLw_again.2.1 15 = .ok (.astore 5, 2) := by decide +kernel
theorem dLw_again_17 : decode mLw_again.2.1 17 = .ok (.iconst 1, 1) := by decide +kernel
theorem dLw_again_18 : decode mLw_again.2.1 18 = .ok (.ireturn, 1) := by decide +kernel
theorem dLw_again_19 : decode mLw_again.2.1 19 = .ok (.astore 5, 2) := by decide +kernel
theorem dLw_again_21 : decode mLw_again.2.1 21 = .ok (.iconst 2, 1) := by decide +kernel
theorem dLw_again_22 : decode mLw_again.2.1 22 = .ok (.ireturn, 1) := by decide +kernel
theorem dLw_again_23 : decode mLw_again.2.1 23 = .ok (.iconst 0, 1) := by decide +kernel
theorem dLw_again_24 : decode mLw_again.2.1 24 = .ok (.ireturn, 1) := by decide +kernel
theorem cLw_again {l : Launch} {G : Gx} {d d2 bc bs : Nat} {Φ Ψ : OutV → Mm → Prop} (M : Mm) (x1 : Int32) (x2 : Int32) (x3 : Int32) (hs : (m_sh M 100).1 = 10) (hdd : d2 < d) (hM : Ct l G d2 mBo_again bc bs (.ref 100 :: [.int x1, .int x2, .int x3]) M Ψ)
    (k0 : ∀ v9 M', Ψ (.inl v9) M' → ∃ v : Int32, v9 = some (.int v) ∧ m_sh M' 3483 = (22, 1) ∧ Φ (.inl (some (.int 0))) (m_sl M' 3483 0 v.toInt64))
    (kx : ∀ E M', Ψ (.inr E) M' → (E = nNS ∧ Φ (.inl (some (.int 1))) M') ∨ (E = nIA ∧ Φ (.inl (some (.int 2))) M')) :
    CtH l G d mLw_again hLw_again bc bs [.ref 100, .int x1, .int x2, .int x3, .ref 3483] M Φ := by
  refine CtH.of rfl (Nat.le_of_ble_eq_true rfl) ?_
  refine EvT.aload dLw_again_0 rfl ?_
  refine EvT.iconst (v := 0) dLw_again_2 (by decide) ?_
  refine EvT.aload_n dLw_again_3 rfl ?_
  refine EvT.iload_n dLw_again_4 rfl ?_
  refine EvT.iload_n dLw_again_5 rfl ?_
  refine EvT.iload_n dLw_again_6 rfl ?_
  refine EvT.callV (z := mBo_again) (ci := 10) (a := 100) (av := [.int x1, .int x2, .int x3]) (st := [.int 0, .ref 3483]) (bc2 := bc) (bs2 := bs) (bc := 0) (bs := 0) (n := 3) dLw_again_7 oBo_again rfl w1175 iBo_again sBo_again (by decide) rfl hs hdd (by decide) hM (fun v9 M' hv => ?_) (fun E M' hv => ?_)
  · obtain ⟨v, rfl, hsh, hq⟩ := k0 v9 M' hv
    refine EvT.i2l dLw_again_10 ?_
    refine EvT.last dLw_again_11 hsh (vp_in_dec rfl) ?_
    refine EvT.goto 23 dLw_again_12 (by decide) ?_
    refine EvT.iconst (v := 0) dLw_again_23 (by decide) ?_
    exact EvT.iret dLw_again_24 rfl rfl hq
  · rcases kx E M' hv with ⟨rfl, hq⟩ | ⟨rfl, hq⟩
    · exact EvX.catch (name := nNS) [] ⟨0, 12, 15, 25⟩ [⟨0, 12, 19, 13⟩] rfl (fun z hz => by cases hz) (by decide) (by decide) w1001 w1012 (i := 5) (by decide) (Or.inr ⟨dLw_again_15, EvT.iconst (v := 1) dLw_again_17 (by decide) (EvT.iret dLw_again_18 rfl rfl hq)⟩)
    · exact EvX.catch (name := nIA) [⟨0, 12, 15, 25⟩] ⟨0, 12, 19, 13⟩ [] rfl (fun z hz => by cases List.mem_singleton.mp hz; exact ⟨by decide, nNS, w1001, fun s h => h.1⟩) (by decide) (by decide) w709 w724 (i := 5) (by decide) (Or.inr ⟨dLw_again_19, EvT.iconst (v := 2) dLw_again_21 (by decide) (EvT.iret dLw_again_22 rfl rfl hq)⟩)
def mLw_plan : MR := (⟨"BowingRowLaw", "plan", "(LBowingRow;II[J)I"⟩, method_20_code, 5, (Option.some .int))
def hLw_plan : List (Nat × Nat × Nat × Nat) := [(0, 10, 13, 25), (0, 10, 17, 13)]
theorem oLw_plan : MOH mLw_plan hLw_plan 4 := ⟨lwg_of 1185 (by decide +kernel) (by decide +kernel), lwg_of 90 (by decide +kernel) (by decide +kernel), ⟨by decide +kernel, by decide +kernel⟩, by decide +kernel, by decide⟩
theorem iLw_plan : Cond.static mLw_plan.1 ∈ lwg := lwg_of 1184 (by decide +kernel) (by decide +kernel)
theorem dLw_plan_0 : decode mLw_plan.2.1 0 = .ok (.aload_n 3, 1) := by decide +kernel
theorem dLw_plan_1 : decode mLw_plan.2.1 1 = .ok (.iconst 0, 1) := by decide +kernel
theorem dLw_plan_2 : decode mLw_plan.2.1 2 = .ok (.aload_n 0, 1) := by decide +kernel
theorem dLw_plan_3 : decode mLw_plan.2.1 3 = .ok (.iload_n 1, 1) := by decide +kernel
theorem dLw_plan_4 : decode mLw_plan.2.1 4 = .ok (.iload_n 2, 1) := by decide +kernel
theorem dLw_plan_5 : decode mLw_plan.2.1 5 = .ok (.invokevirtual 70, 3) := by decide +kernel
theorem dLw_plan_8 : decode mLw_plan.2.1 8 = .ok (.i2l, 1) := by decide +kernel
theorem dLw_plan_9 : decode mLw_plan.2.1 9 = .ok (.lastore, 1) := by decide +kernel
theorem dLw_plan_10 : decode mLw_plan.2.1 10 = .ok (.goto 11, 3) := by decide +kernel
theorem dLw_plan_13 : decode mLw_plan.2.1 13 = .ok (.astore 4, 2) := by decide +kernel
theorem dLw_plan_15 : decode mLw_plan.2.1 15 = .ok (.iconst 1, 1) := by decide +kernel
theorem dLw_plan_16 : decode mLw_plan.2.1 16 = .ok (.ireturn, 1) := by decide +kernel
theorem dLw_plan_17 : decode mLw_plan.2.1 17 = .ok (.astore 4, 2) := by decide +kernel
theorem dLw_plan_19 : decode mLw_plan.2.1 19 = .ok (.iconst 2, 1) := by decide +kernel
theorem dLw_plan_20 : decode mLw_plan.2.1 20 = .ok (.ireturn, 1) := by decide +kernel
theorem dLw_plan_21 : decode mLw_plan.2.1 21 = .ok (.iconst 0, 1) := by decide +kernel
theorem dLw_plan_22 : decode mLw_plan.2.1 22 = .ok (.ireturn, 1) := by decide +kernel
theorem cLw_plan {l : Launch} {G : Gx} {d d2 bc bs : Nat} {Φ Ψ : OutV → Mm → Prop} (M : Mm) (x1 : Int32) (x2 : Int32) (hs : (m_sh M 100).1 = 10) (hdd : d2 < d) (hM : Ct l G d2 mBo_plan bc bs (.ref 100 :: [.int x1, .int x2]) M Ψ)
    (k0 : ∀ v9 M', Ψ (.inl v9) M' → ∃ v : Int32, v9 = some (.int v) ∧ m_sh M' 3483 = (22, 1) ∧ Φ (.inl (some (.int 0))) (m_sl M' 3483 0 v.toInt64))
    (kx : ∀ E M', Ψ (.inr E) M' → (E = nNS ∧ Φ (.inl (some (.int 1))) M') ∨ (E = nIA ∧ Φ (.inl (some (.int 2))) M')) :
    CtH l G d mLw_plan hLw_plan bc bs [.ref 100, .int x1, .int x2, .ref 3483] M Φ := by
  refine CtH.of rfl (Nat.le_of_ble_eq_true rfl) ?_
  refine EvT.aload_n dLw_plan_0 rfl ?_
  refine EvT.iconst (v := 0) dLw_plan_1 (by decide) ?_
  refine EvT.aload_n dLw_plan_2 rfl ?_
  refine EvT.iload_n dLw_plan_3 rfl ?_
  refine EvT.iload_n dLw_plan_4 rfl ?_
  refine EvT.callV (z := mBo_plan) (ci := 10) (a := 100) (av := [.int x1, .int x2]) (st := [.int 0, .ref 3483]) (bc2 := bc) (bs2 := bs) (bc := 0) (bs := 0) (n := 2) dLw_plan_5 oBo_plan rfl w1186 iBo_plan sBo_plan (by decide) rfl hs hdd (by decide) hM (fun v9 M' hv => ?_) (fun E M' hv => ?_)
  · obtain ⟨v, rfl, hsh, hq⟩ := k0 v9 M' hv
    refine EvT.i2l dLw_plan_8 ?_
    refine EvT.last dLw_plan_9 hsh (vp_in_dec rfl) ?_
    refine EvT.goto 21 dLw_plan_10 (by decide) ?_
    refine EvT.iconst (v := 0) dLw_plan_21 (by decide) ?_
    exact EvT.iret dLw_plan_22 rfl rfl hq
  · rcases kx E M' hv with ⟨rfl, hq⟩ | ⟨rfl, hq⟩
    · exact EvX.catch (name := nNS) [] ⟨0, 10, 13, 25⟩ [⟨0, 10, 17, 13⟩] rfl (fun z hz => by cases hz) (by decide) (by decide) w1001 w1012 (i := 4) (by decide) (Or.inr ⟨dLw_plan_13, EvT.iconst (v := 1) dLw_plan_15 (by decide) (EvT.iret dLw_plan_16 rfl rfl hq)⟩)
    · exact EvX.catch (name := nIA) [⟨0, 10, 13, 25⟩] ⟨0, 10, 17, 13⟩ [] rfl (fun z hz => by cases List.mem_singleton.mp hz; exact ⟨by decide, nNS, w1001, fun s h => h.1⟩) (by decide) (by decide) w709 w724 (i := 4) (by decide) (Or.inr ⟨dLw_plan_17, EvT.iconst (v := 2) dLw_plan_19 (by decide) (EvT.iret dLw_plan_20 rfl rfl hq)⟩)
def mLw_best : MR := (⟨"BowingRowLaw", "best", "(LBowingRow;II[J)I"⟩, method_21_code, 5, (Option.some .int))
def hLw_best : List (Nat × Nat × Nat × Nat) := [(0, 10, 13, 25), (0, 10, 17, 13)]
theorem oLw_best : MOH mLw_best hLw_best 4 := ⟨lwg_of 1196 (by decide +kernel) (by decide +kernel), lwg_of 90 (by decide +kernel) (by decide +kernel), ⟨by decide +kernel, by decide +kernel⟩, by decide +kernel, by decide⟩
theorem iLw_best : Cond.static mLw_best.1 ∈ lwg := lwg_of 1195 (by decide +kernel) (by decide +kernel)
theorem dLw_best_0 : decode mLw_best.2.1 0 = .ok (.aload_n 3, 1) := by decide +kernel
theorem dLw_best_1 : decode mLw_best.2.1 1 = .ok (.iconst 0, 1) := by decide +kernel
theorem dLw_best_2 : decode mLw_best.2.1 2 = .ok (.aload_n 0, 1) := by decide +kernel
theorem dLw_best_3 : decode mLw_best.2.1 3 = .ok (.iload_n 1, 1) := by decide +kernel
theorem dLw_best_4 : decode mLw_best.2.1 4 = .ok (.iload_n 2, 1) := by decide +kernel
theorem dLw_best_5 : decode mLw_best.2.1 5 = .ok (.invokevirtual 73, 3) := by decide +kernel
theorem dLw_best_8 : decode mLw_best.2.1 8 = .ok (.i2l, 1) := by decide +kernel
theorem dLw_best_9 : decode mLw_best.2.1 9 = .ok (.lastore, 1) := by decide +kernel
theorem dLw_best_10 : decode mLw_best.2.1 10 = .ok (.goto 11, 3) := by decide +kernel
theorem dLw_best_13 : decode mLw_best.2.1 13 = .ok (.astore 4, 2) := by decide +kernel
theorem dLw_best_15 : decode mLw_best.2.1 15 = .ok (.iconst 1, 1) := by decide +kernel
theorem dLw_best_16 : decode mLw_best.2.1 16 = .ok (.ireturn, 1) := by decide +kernel
theorem dLw_best_17 : decode mLw_best.2.1 17 = .ok (.astore 4, 2) := by decide +kernel
theorem dLw_best_19 : decode mLw_best.2.1 19 = .ok (.iconst 2, 1) := by decide +kernel
theorem dLw_best_20 : decode mLw_best.2.1 20 = .ok (.ireturn, 1) := by decide +kernel
theorem dLw_best_21 : decode mLw_best.2.1 21 = .ok (.iconst 0, 1) := by decide +kernel
theorem dLw_best_22 : decode mLw_best.2.1 22 = .ok (.ireturn, 1) := by decide +kernel
theorem cLw_best {l : Launch} {G : Gx} {d d2 bc bs : Nat} {Φ Ψ : OutV → Mm → Prop} (M : Mm) (x1 : Int32) (x2 : Int32) (hs : (m_sh M 100).1 = 10) (hdd : d2 < d) (hM : Ct l G d2 mBo_best bc bs (.ref 100 :: [.int x1, .int x2]) M Ψ)
    (k0 : ∀ v9 M', Ψ (.inl v9) M' → ∃ v : Int32, v9 = some (.int v) ∧ m_sh M' 3483 = (22, 1) ∧ Φ (.inl (some (.int 0))) (m_sl M' 3483 0 v.toInt64))
    (kx : ∀ E M', Ψ (.inr E) M' → (E = nNS ∧ Φ (.inl (some (.int 1))) M') ∨ (E = nIA ∧ Φ (.inl (some (.int 2))) M')) :
    CtH l G d mLw_best hLw_best bc bs [.ref 100, .int x1, .int x2, .ref 3483] M Φ := by
  refine CtH.of rfl (Nat.le_of_ble_eq_true rfl) ?_
  refine EvT.aload_n dLw_best_0 rfl ?_
  refine EvT.iconst (v := 0) dLw_best_1 (by decide) ?_
  refine EvT.aload_n dLw_best_2 rfl ?_
  refine EvT.iload_n dLw_best_3 rfl ?_
  refine EvT.iload_n dLw_best_4 rfl ?_
  refine EvT.callV (z := mBo_best) (ci := 10) (a := 100) (av := [.int x1, .int x2]) (st := [.int 0, .ref 3483]) (bc2 := bc) (bs2 := bs) (bc := 0) (bs := 0) (n := 2) dLw_best_5 oBo_best rfl w1197 iBo_best sBo_best (by decide) rfl hs hdd (by decide) hM (fun v9 M' hv => ?_) (fun E M' hv => ?_)
  · obtain ⟨v, rfl, hsh, hq⟩ := k0 v9 M' hv
    refine EvT.i2l dLw_best_8 ?_
    refine EvT.last dLw_best_9 hsh (vp_in_dec rfl) ?_
    refine EvT.goto 21 dLw_best_10 (by decide) ?_
    refine EvT.iconst (v := 0) dLw_best_21 (by decide) ?_
    exact EvT.iret dLw_best_22 rfl rfl hq
  · rcases kx E M' hv with ⟨rfl, hq⟩ | ⟨rfl, hq⟩
    · exact EvX.catch (name := nNS) [] ⟨0, 10, 13, 25⟩ [⟨0, 10, 17, 13⟩] rfl (fun z hz => by cases hz) (by decide) (by decide) w1001 w1012 (i := 4) (by decide) (Or.inr ⟨dLw_best_13, EvT.iconst (v := 1) dLw_best_15 (by decide) (EvT.iret dLw_best_16 rfl rfl hq)⟩)
    · exact EvX.catch (name := nIA) [⟨0, 10, 13, 25⟩] ⟨0, 10, 17, 13⟩ [] rfl (fun z hz => by cases List.mem_singleton.mp hz; exact ⟨by decide, nNS, w1001, fun s h => h.1⟩) (by decide) (by decide) w709 w724 (i := 4) (by decide) (Or.inr ⟨dLw_best_17, EvT.iconst (v := 2) dLw_best_19 (by decide) (EvT.iret dLw_best_20 rfl rfl hq)⟩)
def mLw_gain : MR := (⟨"BowingRowLaw", "gain", "(LBowingRow;II[J)I"⟩, method_22_code, 5, (Option.some .int))
def hLw_gain : List (Nat × Nat × Nat × Nat) := [(0, 10, 13, 25), (0, 10, 17, 13)]
theorem oLw_gain : MOH mLw_gain hLw_gain 4 := ⟨lwg_of 1206 (by decide +kernel) (by decide +kernel), lwg_of 90 (by decide +kernel) (by decide +kernel), ⟨by decide +kernel, by decide +kernel⟩, by decide +kernel, by decide⟩
theorem iLw_gain : Cond.static mLw_gain.1 ∈ lwg := lwg_of 1205 (by decide +kernel) (by decide +kernel)
theorem dLw_gain_0 : decode mLw_gain.2.1 0 = .ok (.aload_n 3, 1) := by decide +kernel
theorem dLw_gain_1 : decode mLw_gain.2.1 1 = .ok (.iconst 0, 1) := by decide +kernel
theorem dLw_gain_2 : decode mLw_gain.2.1 2 = .ok (.aload_n 0, 1) := by decide +kernel
theorem dLw_gain_3 : decode mLw_gain.2.1 3 = .ok (.iload_n 1, 1) := by decide +kernel
theorem dLw_gain_4 : decode mLw_gain.2.1 4 = .ok (.iload_n 2, 1) := by decide +kernel
theorem dLw_gain_5 : decode mLw_gain.2.1 5 = .ok (.invokevirtual 76, 3) := by decide +kernel
theorem dLw_gain_8 : decode mLw_gain.2.1 8 = .ok (.i2l, 1) := by decide +kernel
theorem dLw_gain_9 : decode mLw_gain.2.1 9 = .ok (.lastore, 1) := by decide +kernel
theorem dLw_gain_10 : decode mLw_gain.2.1 10 = .ok (.goto 11, 3) := by decide +kernel
theorem dLw_gain_13 : decode mLw_gain.2.1 13 = .ok (.astore 4, 2) := by decide +kernel
theorem dLw_gain_15 : decode mLw_gain.2.1 15 = .ok (.iconst 1, 1) := by decide +kernel
theorem dLw_gain_16 : decode mLw_gain.2.1 16 = .ok (.ireturn, 1) := by decide +kernel
theorem dLw_gain_17 : decode mLw_gain.2.1 17 = .ok (.astore 4, 2) := by decide +kernel
theorem dLw_gain_19 : decode mLw_gain.2.1 19 = .ok (.iconst 2, 1) := by decide +kernel
theorem dLw_gain_20 : decode mLw_gain.2.1 20 = .ok (.ireturn, 1) := by decide +kernel
theorem dLw_gain_21 : decode mLw_gain.2.1 21 = .ok (.iconst 0, 1) := by decide +kernel
theorem dLw_gain_22 : decode mLw_gain.2.1 22 = .ok (.ireturn, 1) := by decide +kernel
theorem cLw_gain {l : Launch} {G : Gx} {d d2 bc bs : Nat} {Φ Ψ : OutV → Mm → Prop} (M : Mm) (x1 : Int32) (x2 : Int32) (hs : (m_sh M 100).1 = 10) (hdd : d2 < d) (hM : Ct l G d2 mBo_gain bc bs (.ref 100 :: [.int x1, .int x2]) M Ψ)
    (k0 : ∀ v9 M', Ψ (.inl v9) M' → ∃ v : Int32, v9 = some (.int v) ∧ m_sh M' 3483 = (22, 1) ∧ Φ (.inl (some (.int 0))) (m_sl M' 3483 0 v.toInt64))
    (kx : ∀ E M', Ψ (.inr E) M' → (E = nNS ∧ Φ (.inl (some (.int 1))) M') ∨ (E = nIA ∧ Φ (.inl (some (.int 2))) M')) :
    CtH l G d mLw_gain hLw_gain bc bs [.ref 100, .int x1, .int x2, .ref 3483] M Φ := by
  refine CtH.of rfl (Nat.le_of_ble_eq_true rfl) ?_
  refine EvT.aload_n dLw_gain_0 rfl ?_
  refine EvT.iconst (v := 0) dLw_gain_1 (by decide) ?_
  refine EvT.aload_n dLw_gain_2 rfl ?_
  refine EvT.iload_n dLw_gain_3 rfl ?_
  refine EvT.iload_n dLw_gain_4 rfl ?_
  refine EvT.callV (z := mBo_gain) (ci := 10) (a := 100) (av := [.int x1, .int x2]) (st := [.int 0, .ref 3483]) (bc2 := bc) (bs2 := bs) (bc := 0) (bs := 0) (n := 2) dLw_gain_5 oBo_gain rfl w1207 iBo_gain sBo_gain (by decide) rfl hs hdd (by decide) hM (fun v9 M' hv => ?_) (fun E M' hv => ?_)
  · obtain ⟨v, rfl, hsh, hq⟩ := k0 v9 M' hv
    refine EvT.i2l dLw_gain_8 ?_
    refine EvT.last dLw_gain_9 hsh (vp_in_dec rfl) ?_
    refine EvT.goto 21 dLw_gain_10 (by decide) ?_
    refine EvT.iconst (v := 0) dLw_gain_21 (by decide) ?_
    exact EvT.iret dLw_gain_22 rfl rfl hq
  · rcases kx E M' hv with ⟨rfl, hq⟩ | ⟨rfl, hq⟩
    · exact EvX.catch (name := nNS) [] ⟨0, 10, 13, 25⟩ [⟨0, 10, 17, 13⟩] rfl (fun z hz => by cases hz) (by decide) (by decide) w1001 w1012 (i := 4) (by decide) (Or.inr ⟨dLw_gain_13, EvT.iconst (v := 1) dLw_gain_15 (by decide) (EvT.iret dLw_gain_16 rfl rfl hq)⟩)
    · exact EvX.catch (name := nIA) [⟨0, 10, 13, 25⟩] ⟨0, 10, 17, 13⟩ [] rfl (fun z hz => by cases List.mem_singleton.mp hz; exact ⟨by decide, nNS, w1001, fun s h => h.1⟩) (by decide) (by decide) w709 w724 (i := 4) (by decide) (Or.inr ⟨dLw_gain_17, EvT.iconst (v := 2) dLw_gain_19 (by decide) (EvT.iret dLw_gain_20 rfl rfl hq)⟩)
def mLw_rest : MR := (⟨"BowingRowLaw", "rest", "(LBowingRow;I[J)I"⟩, method_23_code, 4, (Option.some .int))
def hLw_rest : List (Nat × Nat × Nat × Nat) := [(0, 9, 12, 13), (0, 9, 15, 82)]
theorem oLw_rest : MOH mLw_rest hLw_rest 3 := ⟨lwg_of 1213 (by decide +kernel) (by decide +kernel), lwg_of 90 (by decide +kernel) (by decide +kernel), ⟨by decide +kernel, by decide +kernel⟩, by decide +kernel, by decide⟩
theorem iLw_rest : Cond.static mLw_rest.1 ∈ lwg := lwg_of 1212 (by decide +kernel) (by decide +kernel)
theorem dLw_rest_0 : decode mLw_rest.2.1 0 = .ok (.aload_n 2, 1) := by decide +kernel
theorem dLw_rest_1 : decode mLw_rest.2.1 1 = .ok (.iconst 0, 1) := by decide +kernel
theorem dLw_rest_2 : decode mLw_rest.2.1 2 = .ok (.aload_n 0, 1) := by decide +kernel
theorem dLw_rest_3 : decode mLw_rest.2.1 3 = .ok (.iload_n 1, 1) := by decide +kernel
theorem dLw_rest_4 : decode mLw_rest.2.1 4 = .ok (.invokevirtual 79, 3) := by decide +kernel
theorem dLw_rest_7 : decode mLw_rest.2.1 7 = .ok (.i2l, 1) := by decide +kernel
theorem dLw_rest_8 : decode mLw_rest.2.1 8 = .ok (.lastore, 1) := by decide +kernel
theorem dLw_rest_9 : decode mLw_rest.2.1 9 = .ok (.goto 9, 3) := by decide +kernel
theorem dLw_rest_12 : decode mLw_rest.2.1 12 = .ok (.astore_n 3, 1) := by decide +kernel
theorem dLw_rest_13 : decode mLw_rest.2.1 13 = .ok (.iconst 1, 1) := by decide +kernel
theorem dLw_rest_14 : decode mLw_rest.2.1 14 = .ok (.ireturn, 1) := by decide +kernel
theorem dLw_rest_15 : decode mLw_rest.2.1 15 = .ok (.astore_n 3, 1) := by decide +kernel
theorem dLw_rest_16 : decode mLw_rest.2.1 16 = .ok (.iconst 2, 1) := by decide +kernel
theorem dLw_rest_17 : decode mLw_rest.2.1 17 = .ok (.ireturn, 1) := by decide +kernel
theorem dLw_rest_18 : decode mLw_rest.2.1 18 = .ok (.iconst 0, 1) := by decide +kernel
theorem dLw_rest_19 : decode mLw_rest.2.1 19 = .ok (.ireturn, 1) := by decide +kernel
theorem cLw_rest {l : Launch} {G : Gx} {d d2 bc bs : Nat} {Φ Ψ : OutV → Mm → Prop} (M : Mm) (x1 : Int32) (hs : (m_sh M 100).1 = 10) (hdd : d2 < d) (hM : Ct l G d2 mBo_rest bc bs (.ref 100 :: [.int x1]) M Ψ)
    (k0 : ∀ v9 M', Ψ (.inl v9) M' → ∃ v : Int32, v9 = some (.int v) ∧ m_sh M' 3483 = (22, 1) ∧ Φ (.inl (some (.int 0))) (m_sl M' 3483 0 v.toInt64))
    (kx : ∀ E M', Ψ (.inr E) M' → (E = nIA ∧ Φ (.inl (some (.int 1))) M') ∨ (E = nIS ∧ Φ (.inl (some (.int 2))) M')) :
    CtH l G d mLw_rest hLw_rest bc bs [.ref 100, .int x1, .ref 3483] M Φ := by
  refine CtH.of rfl (Nat.le_of_ble_eq_true rfl) ?_
  refine EvT.aload_n dLw_rest_0 rfl ?_
  refine EvT.iconst (v := 0) dLw_rest_1 (by decide) ?_
  refine EvT.aload_n dLw_rest_2 rfl ?_
  refine EvT.iload_n dLw_rest_3 rfl ?_
  refine EvT.callV (z := mBo_rest) (ci := 10) (a := 100) (av := [.int x1]) (st := [.int 0, .ref 3483]) (bc2 := bc) (bs2 := bs) (bc := 0) (bs := 0) (n := 1) dLw_rest_4 oBo_rest rfl w1215 iBo_rest sBo_rest (by decide) rfl hs hdd (by decide) hM (fun v9 M' hv => ?_) (fun E M' hv => ?_)
  · obtain ⟨v, rfl, hsh, hq⟩ := k0 v9 M' hv
    refine EvT.i2l dLw_rest_7 ?_
    refine EvT.last dLw_rest_8 hsh (vp_in_dec rfl) ?_
    refine EvT.goto 18 dLw_rest_9 (by decide) ?_
    refine EvT.iconst (v := 0) dLw_rest_18 (by decide) ?_
    exact EvT.iret dLw_rest_19 rfl rfl hq
  · rcases kx E M' hv with ⟨rfl, hq⟩ | ⟨rfl, hq⟩
    · exact EvX.catch (name := nIA) [] ⟨0, 9, 12, 13⟩ [⟨0, 9, 15, 82⟩] rfl (fun z hz => by cases hz) (by decide) (by decide) w709 w724 (i := 3) (by decide) (Or.inl ⟨3, dLw_rest_12, rfl, EvT.iconst (v := 1) dLw_rest_13 (by decide) (EvT.iret dLw_rest_14 rfl rfl hq), trivial⟩)
    · exact EvX.catch (name := nIS) [⟨0, 9, 12, 13⟩] ⟨0, 9, 15, 82⟩ [] rfl (fun z hz => by cases List.mem_singleton.mp hz; exact ⟨by decide, nIA, w709, fun s h => h.2.2.1⟩) (by decide) (by decide) w1214 w1225 (i := 3) (by decide) (Or.inl ⟨3, dLw_rest_15, rfl, EvT.iconst (v := 2) dLw_rest_16 (by decide) (EvT.iret dLw_rest_17 rfl rfl hq), trivial⟩)
def mLw_polite : MR := (⟨"BowingRowLaw", "polite", "(LBowingRow;I[J)I"⟩, method_24_code, 4, (Option.some .int))
def hLw_polite : List (Nat × Nat × Nat × Nat) := [(0, 9, 12, 13), (0, 9, 15, 82)]
theorem oLw_polite : MOH mLw_polite hLw_polite 3 := ⟨lwg_of 1263 (by decide +kernel) (by decide +kernel), lwg_of 90 (by decide +kernel) (by decide +kernel), ⟨by decide +kernel, by decide +kernel⟩, by decide +kernel, by decide⟩
theorem iLw_polite : Cond.static mLw_polite.1 ∈ lwg := lwg_of 1262 (by decide +kernel) (by decide +kernel)
theorem dLw_polite_0 : decode mLw_polite.2.1 0 = .ok (.aload_n 2, 1) := by decide +kernel
theorem dLw_polite_1 : decode mLw_polite.2.1 1 = .ok (.iconst 0, 1) := by decide +kernel
theorem dLw_polite_2 : decode mLw_polite.2.1 2 = .ok (.aload_n 0, 1) := by decide +kernel
theorem dLw_polite_3 : decode mLw_polite.2.1 3 = .ok (.iload_n 1, 1) := by decide +kernel
theorem dLw_polite_4 : decode mLw_polite.2.1 4 = .ok (.invokevirtual 84, 3) := by decide +kernel
theorem dLw_polite_7 : decode mLw_polite.2.1 7 = .ok (.i2l, 1) := by decide +kernel
theorem dLw_polite_8 : decode mLw_polite.2.1 8 = .ok (.lastore, 1) := by decide +kernel
theorem dLw_polite_9 : decode mLw_polite.2.1 9 = .ok (.goto 9, 3) := by decide +kernel
theorem dLw_polite_12 : decode mLw_polite.2.1 12 = .ok (.astore_n 3, 1) := by decide +kernel
theorem dLw_polite_13 : decode mLw_polite.2.1 13 = .ok (.iconst 1, 1) := by decide +kernel
theorem dLw_polite_14 : decode mLw_polite.2.1 14 = .ok (.ireturn, 1) := by decide +kernel
theorem dLw_polite_15 : decode mLw_polite.2.1 15 = .ok (.astore_n 3, 1) := by decide +kernel
theorem dLw_polite_16 : decode mLw_polite.2.1 16 = .ok (.iconst 2, 1) := by decide +kernel
theorem dLw_polite_17 : decode mLw_polite.2.1 17 = .ok (.ireturn, 1) := by decide +kernel
theorem dLw_polite_18 : decode mLw_polite.2.1 18 = .ok (.iconst 0, 1) := by decide +kernel
theorem dLw_polite_19 : decode mLw_polite.2.1 19 = .ok (.ireturn, 1) := by decide +kernel
theorem cLw_polite {l : Launch} {G : Gx} {d d2 bc bs : Nat} {Φ Ψ : OutV → Mm → Prop} (M : Mm) (x1 : Int32) (hs : (m_sh M 100).1 = 10) (hdd : d2 < d) (hM : Ct l G d2 mBo_polite bc bs (.ref 100 :: [.int x1]) M Ψ)
    (k0 : ∀ v9 M', Ψ (.inl v9) M' → ∃ v : Int32, v9 = some (.int v) ∧ m_sh M' 3483 = (22, 1) ∧ Φ (.inl (some (.int 0))) (m_sl M' 3483 0 v.toInt64))
    (kx : ∀ E M', Ψ (.inr E) M' → (E = nIA ∧ Φ (.inl (some (.int 1))) M') ∨ (E = nIS ∧ Φ (.inl (some (.int 2))) M')) :
    CtH l G d mLw_polite hLw_polite bc bs [.ref 100, .int x1, .ref 3483] M Φ := by
  refine CtH.of rfl (Nat.le_of_ble_eq_true rfl) ?_
  refine EvT.aload_n dLw_polite_0 rfl ?_
  refine EvT.iconst (v := 0) dLw_polite_1 (by decide) ?_
  refine EvT.aload_n dLw_polite_2 rfl ?_
  refine EvT.iload_n dLw_polite_3 rfl ?_
  refine EvT.callV (z := mBo_polite) (ci := 10) (a := 100) (av := [.int x1]) (st := [.int 0, .ref 3483]) (bc2 := bc) (bs2 := bs) (bc := 0) (bs := 0) (n := 1) dLw_polite_4 oBo_polite rfl w1264 iBo_polite sBo_polite (by decide) rfl hs hdd (by decide) hM (fun v9 M' hv => ?_) (fun E M' hv => ?_)
  · obtain ⟨v, rfl, hsh, hq⟩ := k0 v9 M' hv
    refine EvT.i2l dLw_polite_7 ?_
    refine EvT.last dLw_polite_8 hsh (vp_in_dec rfl) ?_
    refine EvT.goto 18 dLw_polite_9 (by decide) ?_
    refine EvT.iconst (v := 0) dLw_polite_18 (by decide) ?_
    exact EvT.iret dLw_polite_19 rfl rfl hq
  · rcases kx E M' hv with ⟨rfl, hq⟩ | ⟨rfl, hq⟩
    · exact EvX.catch (name := nIA) [] ⟨0, 9, 12, 13⟩ [⟨0, 9, 15, 82⟩] rfl (fun z hz => by cases hz) (by decide) (by decide) w709 w724 (i := 3) (by decide) (Or.inl ⟨3, dLw_polite_12, rfl, EvT.iconst (v := 1) dLw_polite_13 (by decide) (EvT.iret dLw_polite_14 rfl rfl hq), trivial⟩)
    · exact EvX.catch (name := nIS) [⟨0, 9, 12, 13⟩] ⟨0, 9, 15, 82⟩ [] rfl (fun z hz => by cases List.mem_singleton.mp hz; exact ⟨by decide, nIA, w709, fun s h => h.2.2.1⟩) (by decide) (by decide) w1214 w1225 (i := 3) (by decide) (Or.inl ⟨3, dLw_polite_15, rfl, EvT.iconst (v := 2) dLw_polite_16 (by decide) (EvT.iret dLw_polite_17 rfl rfl hq), trivial⟩)
def mLw_struck : MR := (⟨"BowingRowLaw", "struck", "(LBowingRow;I[J)I"⟩, method_25_code, 4, (Option.some .int))
def hLw_struck : List (Nat × Nat × Nat × Nat) := [(0, 9, 12, 13)]
theorem oLw_struck : MOH mLw_struck hLw_struck 3 := ⟨lwg_of 1270 (by decide +kernel) (by decide +kernel), lwg_of 90 (by decide +kernel) (by decide +kernel), ⟨by decide +kernel, by decide +kernel⟩, by decide +kernel, by decide⟩
theorem iLw_struck : Cond.static mLw_struck.1 ∈ lwg := lwg_of 1269 (by decide +kernel) (by decide +kernel)
theorem dLw_struck_0 : decode mLw_struck.2.1 0 = .ok (.aload_n 2, 1) := by decide +kernel
theorem dLw_struck_1 : decode mLw_struck.2.1 1 = .ok (.iconst 0, 1) := by decide +kernel
theorem dLw_struck_2 : decode mLw_struck.2.1 2 = .ok (.aload_n 0, 1) := by decide +kernel
theorem dLw_struck_3 : decode mLw_struck.2.1 3 = .ok (.iload_n 1, 1) := by decide +kernel
theorem dLw_struck_4 : decode mLw_struck.2.1 4 = .ok (.invokevirtual 87, 3) := by decide +kernel
theorem dLw_struck_7 : decode mLw_struck.2.1 7 = .ok (.i2l, 1) := by decide +kernel
theorem dLw_struck_8 : decode mLw_struck.2.1 8 = .ok (.lastore, 1) := by decide +kernel
theorem dLw_struck_9 : decode mLw_struck.2.1 9 = .ok (.goto 6, 3) := by decide +kernel
theorem dLw_struck_12 : decode mLw_struck.2.1 12 = .ok (.astore_n 3, 1) := by decide +kernel
theorem dLw_struck_13 : decode mLw_struck.2.1 13 = .ok (.iconst 1, 1) := by decide +kernel
theorem dLw_struck_14 : decode mLw_struck.2.1 14 = .ok (.ireturn, 1) := by decide +kernel
theorem dLw_struck_15 : decode mLw_struck.2.1 15 = .ok (.iconst 0, 1) := by decide +kernel
theorem dLw_struck_16 : decode mLw_struck.2.1 16 = .ok (.ireturn, 1) := by decide +kernel
theorem cLw_struck {l : Launch} {G : Gx} {d d2 bc bs : Nat} {Φ Ψ : OutV → Mm → Prop} (M : Mm) (x1 : Int32) (hs : (m_sh M 100).1 = 10) (hdd : d2 < d) (hM : Ct l G d2 mBo_struck bc bs (.ref 100 :: [.int x1]) M Ψ)
    (k0 : ∀ v9 M', Ψ (.inl v9) M' → ∃ v : Int32, v9 = some (.int v) ∧ m_sh M' 3483 = (22, 1) ∧ Φ (.inl (some (.int 0))) (m_sl M' 3483 0 v.toInt64))
    (kx : ∀ E M', Ψ (.inr E) M' → (E = nIA ∧ Φ (.inl (some (.int 1))) M')) :
    CtH l G d mLw_struck hLw_struck bc bs [.ref 100, .int x1, .ref 3483] M Φ := by
  refine CtH.of rfl (Nat.le_of_ble_eq_true rfl) ?_
  refine EvT.aload_n dLw_struck_0 rfl ?_
  refine EvT.iconst (v := 0) dLw_struck_1 (by decide) ?_
  refine EvT.aload_n dLw_struck_2 rfl ?_
  refine EvT.iload_n dLw_struck_3 rfl ?_
  refine EvT.callV (z := mBo_struck) (ci := 10) (a := 100) (av := [.int x1]) (st := [.int 0, .ref 3483]) (bc2 := bc) (bs2 := bs) (bc := 0) (bs := 0) (n := 1) dLw_struck_4 oBo_struck rfl w1271 iBo_struck sBo_struck (by decide) rfl hs hdd (by decide) hM (fun v9 M' hv => ?_) (fun E M' hv => ?_)
  · obtain ⟨v, rfl, hsh, hq⟩ := k0 v9 M' hv
    refine EvT.i2l dLw_struck_7 ?_
    refine EvT.last dLw_struck_8 hsh (vp_in_dec rfl) ?_
    refine EvT.goto 15 dLw_struck_9 (by decide) ?_
    refine EvT.iconst (v := 0) dLw_struck_15 (by decide) ?_
    exact EvT.iret dLw_struck_16 rfl rfl hq
  · obtain ⟨rfl, hq⟩ := kx E M' hv
    exact EvX.catch (name := nIA) [] ⟨0, 9, 12, 13⟩ [] rfl (fun z hz => by cases hz) (by decide) (by decide) w709 w724 (i := 3) (by decide) (Or.inl ⟨3, dLw_struck_12, rfl, EvT.iconst (v := 1) dLw_struck_13 (by decide) (EvT.iret dLw_struck_14 rfl rfl hq), trivial⟩)
