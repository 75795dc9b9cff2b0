/-! ===== rules once more, in the form that the printed blocks use: room that is left; constants WORDS and their texts ===== -/
def wM (a : Nat) : Int32 := ([0, 0, 0, 0, 0, 0, 2, 3, 4, 5, 6, 7, 8, 9, 0, 0, 0, -1, -2, -3, -4, -5, -6, -7] : List Int32).getD a 0
def wLo (a : Nat) : Int32 := ([0, 0, 0, 0, 0, 0, 1, 1, 0, 0, 0, 1, 0, 0, 0, 0, 0, 0, 0, 0, 0, 0, 0, 0] : List Int32).getD a 0
def wHi (a : Nat) : Int32 := ([0, 0, 0, 0, 4, 99, 99, 9, 999, 999, 9, 999, 0, 0, 0, 0, 0, 0, 0, 0, 0, 0, 0, 0] : List Int32).getD a 0
/-- the bytes of the text of the WORD a -/
def wTx (a : Nat) : List Int32 := ([[], [], [112, 101, 114, 115, 111, 110], [107, 110, 111, 119, 115], [119, 97, 121], [117, 110, 116, 105, 108], [100, 117, 101], [116, 105, 109, 101, 115], [98, 101, 108, 108], [115, 104, 117, 116], [98, 111, 119], [108, 97, 112, 115, 101], [119, 111, 114, 116, 104], [109, 117, 115, 116], [111, 114], [97, 110, 100], [110, 111, 116], [97, 103, 101], [108, 111, 97, 100], [101, 114, 114, 97, 110, 100], [111, 108, 100, 101, 114], [104, 101, 97, 118, 105, 101, 114], [108, 111, 110, 103, 101, 114], [104, 111, 117, 114]] : List (List Int32)).getD a []
def cLo (i : Nat) : Int32 := ([0, 0, 0, 1, 1] : List Int32).getD i 0
def cHi (i : Nat) : Int32 := ([999, 99, 9, 60, 999] : List Int32).getD i 0
theorem w_all {p : Nat → Bool} (h : (List.range 24).all (fun a => (a == 0) || p a) = true) : ∀ a, (1 ≤ a ∧ a ≤ 23) → p a = true := by
  intro a ha
  have h1 := List.all_eq_true.mp h a (List.mem_range.mpr (by omega))
  rw [Bool.or_eq_true] at h1
  rcases h1 with h1 | h1
  · have := eq_of_beq h1; omega
  · exact h1
theorem wM_ok : ∀ a, (1 ≤ a ∧ a ≤ 23) → ("BowingRow$Word", "meaning", "I", a, Value.int (wM a)) ∈ f_O := fun a ha => of_decide_eq_true (w_all (p := fun a => decide (("BowingRow$Word", "meaning", "I", a, Value.int (wM a)) ∈ f_O)) (by decide +kernel) a ha)
theorem wLo_ok : ∀ a, (1 ≤ a ∧ a ≤ 23) → ("BowingRow$Word", "least", "I", a, Value.int (wLo a)) ∈ f_O := fun a ha => of_decide_eq_true (w_all (p := fun a => decide (("BowingRow$Word", "least", "I", a, Value.int (wLo a)) ∈ f_O)) (by decide +kernel) a ha)
theorem wHi_ok : ∀ a, (1 ≤ a ∧ a ≤ 23) → ("BowingRow$Word", "most", "I", a, Value.int (wHi a)) ∈ f_O := fun a ha => of_decide_eq_true (w_all (p := fun a => decide (("BowingRow$Word", "most", "I", a, Value.int (wHi a)) ∈ f_O)) (by decide +kernel) a ha)
theorem wTx_ok : ∀ a, (1 ≤ a ∧ a ≤ 23) → ("BowingRow$Word", "text", "Ljava/lang/String;", a, Value.ref (a + 30)) ∈ f_O := fun a ha => of_decide_eq_true (w_all (p := fun a => decide (("BowingRow$Word", "text", "Ljava/lang/String;", a, Value.ref (a + 30)) ∈ f_O)) (by decide +kernel) a ha)
theorem wV_ok : ∀ a, (1 ≤ a ∧ a ≤ 23) → ("java/lang/String", "value", "[B", a + 30, Value.ref (a + 60)) ∈ f_O := fun a ha => of_decide_eq_true (w_all (p := fun a => decide (("java/lang/String", "value", "[B", a + 30, Value.ref (a + 60)) ∈ f_O)) (by decide +kernel) a ha)
theorem wC_ok : ∀ a, (1 ≤ a ∧ a ≤ 23) → ("java/lang/String", "coder", "B", a + 30, Value.int 0) ∈ f_O := fun a ha => of_decide_eq_true (w_all (p := fun a => decide (("java/lang/String", "coder", "B", a + 30, Value.int 0) ∈ f_O)) (by decide +kernel) a ha)
theorem wB_ok : ∀ a, (1 ≤ a ∧ a ≤ 23) → (FieldType.byte, a + 60, (wTx a).length, (wTx a).map Value.int) ∈ f_T := fun a ha => of_decide_eq_true (w_all (p := fun a => decide ((FieldType.byte, a + 60, (wTx a).length, (wTx a).map Value.int) ∈ f_T)) (by decide +kernel) a ha)
theorem wS_ok : ∀ a, (1 ≤ a ∧ a ≤ 23) → (a + 30, "java/lang/String") ∈ f_C := fun a ha => of_decide_eq_true (w_all (p := fun a => decide ((a + 30, "java/lang/String") ∈ f_C)) (by decide +kernel) a ha)
theorem wW_ok : ∀ a, (1 ≤ a ∧ a ≤ 23) → (a, "BowingRow$Word") ∈ f_C := fun a ha => of_decide_eq_true (w_all (p := fun a => decide ((a, "BowingRow$Word") ∈ f_C)) (by decide +kernel) a ha)
theorem in_nat {i : Int32} {n : Nat} (h : vp_in i n) : i.toNatClampNeg < n := Nat.lt_of_not_le fun q => h (Or.inr q)
section MR_
variable {l : Launch} {G : Gx} {d : Nat} {y : MR} {pc : Nat} {ls st : List Value} {M : Mm} {bc bs : Nat} {Φ : OutV → Mm → Prop}
theorem Ev.newI2 {n : Int32} (N : Nat) (hd : decode y.2.1 pc = .ok (.newarray .int, 2)) (hw : Cond.arrayClass .int ∈ lwg) (hn : ¬ n < 0) (hN : n.toNatClampNeg = N) (hb : N * 4 ≤ 536870912) (hr : 1 ≤ bc ∧ N ≤ bs) (kk : Ev l G d y (pc + 2) ls (.ref (m_nx M) :: st) (m_al M (20, N)) (bc - 1) (bs - N) Φ) : Ev l G d y pc ls (.int n :: st) M bc bs Φ := by
  have h := Ev.newI hd hw hn hN hb kk
  rw [show 1 + (bc - 1) = bc by omega, show N + (bs - N) = bs by omega] at h
  exact h
theorem Ev.newB2 {n : Int32} (N : Nat) (hd : decode y.2.1 pc = .ok (.newarray .byte, 2)) (hw : Cond.arrayClass .byte ∈ lwg) (hn : ¬ n < 0) (hN : n.toNatClampNeg = N) (hb : N * 1 ≤ 536870912) (hr : 1 ≤ bc ∧ N ≤ bs) (kk : Ev l G d y (pc + 2) ls (.ref (m_nx M) :: st) (m_al M (21, N)) (bc - 1) (bs - N) Φ) : Ev l G d y pc ls (.int n :: st) M bc bs Φ := by
  have h := Ev.newB hd hw hn hN hb kk
  rw [show 1 + (bc - 1) = bc by omega, show N + (bs - N) = bs by omega] at h
  exact h
theorem Ev.newL2 {n : Int32} (N : Nat) (hd : decode y.2.1 pc = .ok (.newarray .long, 2)) (hw : Cond.arrayClass .long ∈ lwg) (hn : ¬ n < 0) (hN : n.toNatClampNeg = N) (hb : N * 8 ≤ 536870912) (hr : 1 ≤ bc ∧ N ≤ bs) (kk : Ev l G d y (pc + 2) ls (.ref (m_nx M) :: st) (m_al M (22, N)) (bc - 1) (bs - N) Φ) : Ev l G d y pc ls (.int n :: st) M bc bs Φ := by
  have h := Ev.newL hd hw hn hN hb kk
  rw [show 1 + (bc - 1) = bc by omega, show N + (bs - N) = bs by omega] at h
  exact h
theorem Ev.newQ2 {idx : Nat} {C : String} {n : Int32} (t t0 N : Nat) (hd : decode y.2.1 pc = .ok (.anewarray idx, 3)) (ht : 22 < t ∧ t < 99) (hC : ∀ cA, (kTys cA)[t0]? = some (cA t, .object C)) (hcl : Cond.classLink y.1.cls idx C ∈ lwg) (hov : Cond.arrayOver (.object C) ∈ lwx) (hn : ¬ n < 0) (hN : n.toNatClampNeg = N) (hb : N * 4 ≤ 536870912) (hr : 1 ≤ bc ∧ N ≤ bs) (kk : Ev l G d y (pc + 3) ls (.ref (m_nx M) :: st) (m_al M (t, N)) (bc - 1) (bs - N) Φ) : Ev l G d y pc ls (.int n :: st) M bc bs Φ := by
  have h := Ev.newQ hd ht hC hcl hov hn hN hb kk
  rw [show 1 + (bc - 1) = bc by omega, show N + (bs - N) = bs by omega] at h
  exact h
theorem Ev.newO2 {idx : Nat} {C : String} {T : u_T} (ci : Nat) (hd : decode y.2.1 pc = .ok (.new idx, 3)) (hc : vwCl[ci]? = some (C, T, nFd ci)) (hci : ci < 12) (hcl : Cond.classLink y.1.cls idx C ∈ lwg) (hins : Cond.instantiable C (nFd ci) ∈ lwg) (hini : Cond.initialized C ∈ lwg) (hr : 1 ≤ bc ∧ nFd ci ≤ bs) (kk : Ev l G d y (pc + 3) ls (.ref (m_nx M) :: st) (m_al M (ci, 0)) (bc - 1) (bs - nFd ci) Φ) : Ev l G d y pc ls st M bc bs Φ := by
  have h := Ev.newO hd hc hci hcl hins hini kk
  rw [show 1 + (bc - 1) = bc by omega, show nFd ci + (bs - nFd ci) = bs by omega] at h
  exact h
theorem Ev.mna2 {idx : Nat} {n k : Int32} (N K : Nat) (hd : decode y.2.1 pc = .ok (.multianewarray idx 2, 4)) (hcl : Cond.classLink y.1.cls idx ("[" ++ (FieldType.array .int).toString) ∈ lwg) (hov : Cond.arrayOver (.array .int) ∈ lwx) (har : Cond.arrayClass .int ∈ lwg) (hn : ¬ n < 0) (hk : ¬ k < 0) (hN : n.toNatClampNeg = N) (hK : k.toNatClampNeg = K) (hb1 : N * 4 ≤ 536870912) (hb2 : K * 4 ≤ 536870912) (hr : 1 + N ≤ bc ∧ N + N * K ≤ bs)
    (kk : Ev l G d y (pc + 4) ls (.ref (m_nx M) :: st) (m_mal M N K) (bc - (1 + N)) (bs - (N + N * K)) Φ) : Ev l G d y pc ls (.int k :: .int n :: st) M bc bs Φ := by
  have h := Ev.mna hd hcl hov har hn hk hN hK hb1 hb2 kk
  rw [show 1 + N + (bc - (1 + N)) = bc by omega, show N + N * K + (bs - (N + N * K)) = bs by omega] at h
  exact h
theorem Ev.aast2 {a v : Nat} {r : vw_C} {i : Int32} (t t0 ci : Nat) (hd : decode y.2.1 pc = .ok (.aastore, 1)) (ht : 22 < t ∧ t < 99) (hC : ∀ cA, (kTys cA)[t0]? = some (cA t, .object r.1)) (hr : vwCl[ci]? = some r) (hci : ci < 12) (hs : (m_sh M a).1 = t) (hin : vp_in i (m_sh M a).2) (hsv : (m_sh M v).1 = ci) (kk : Ev l G d y (pc + 1) ls st (m_sr M a i.toNatClampNeg v) bc bs Φ) : Ev l G d y pc ls (.ref v :: .int i :: .ref a :: st) M bc bs Φ :=
  Ev.aast hd (n := (m_sh M a).2) (t := t) (Prod.ext hs rfl) ht hC hr hci hsv hin kk
theorem Ev.aastW2 {a v : Nat} {i : Int32} (hd : decode y.2.1 pc = .ok (.aastore, 1)) (hs : (m_sh M a).1 = 32) (hin : vp_in i (m_sh M a).2) (hv : 1 ≤ v ∧ v ≤ 23) (kk : Ev l G d y (pc + 1) ls st (m_sr M a i.toNatClampNeg v) bc bs Φ) : Ev l G d y pc ls (.ref v :: .int i :: .ref a :: st) M bc bs Φ :=
  Ev.aastW hd (n := (m_sh M a).2) (Prod.ext hs rfl) (wW_ok v hv) hv hin kk
theorem Ev.copyI2 {idx a b : Nat} {sp dp n : Int32} (hd : decode y.2.1 pc = .ok (.invokestatic idx, 3)) (hl : Cond.methodLink y.1.cls idx arraycopyName ∈ lwg) (hnat : Cond.native arraycopyName ∈ lwg) (hstat : Cond.static arraycopyName ∈ lwg) (hini : Cond.initialized "java/lang/System" ∈ lwg) (hst : (st.map fun v => v.category).sum ≤ 8) (hsa : (m_sh M a).1 = 20) (hsb : (m_sh M b).1 = 20) (h : (¬ sp < 0 ∧ ¬ dp < 0 ∧ ¬ n < 0) ∧ sp.toNatClampNeg + n.toNatClampNeg ≤ (m_sh M a).2 ∧ dp.toNatClampNeg + n.toNatClampNeg ≤ (m_sh M b).2 ∧ 1 ≤ d)
    (kk : Ev l G d y (pc + 3) ls st (m_cpy M a b sp.toNatClampNeg dp.toNatClampNeg n.toNatClampNeg) bc bs Φ) : Ev l G d y pc ls (.int n :: .int dp :: .ref b :: .int sp :: .ref a :: st) M bc bs Φ :=
  Ev.copyI hd hl hnat hstat hini (na := (m_sh M a).2) (nb := (m_sh M b).2) (Prod.ext hsa rfl) (Prod.ext hsb rfl) h.1.1 h.1.2.1 h.1.2.2 h.2.1 h.2.2.1 hst h.2.2.2 kk
/-- the WORD at a place among all WORDS -/
theorem Ev.tallW {i : Int32} (hd : decode y.2.1 pc = .ok (.aaload, 1)) (hin : vp_in i 23) (kk : Ev l G d y (pc + 1) ls (.ref (i.toNatClampNeg + 1) :: st) M bc bs Φ) : Ev l G d y pc ls (.int i :: .ref 24 :: st) M bc bs Φ := by
  have h := in_nat hin
  have hall : ∀ j, j < 23 → (([.ref 1, .ref 2, .ref 3, .ref 4, .ref 5, .ref 6, .ref 7, .ref 8, .ref 9, .ref 10, .ref 11, .ref 12, .ref 13, .ref 14, .ref 15, .ref 16, .ref 17, .ref 18, .ref 19, .ref 20, .ref 21, .ref 22, .ref 23] : List Value).getD j .null) = .ref (j + 1) := by decide +kernel
  exact Ev.taldA (C := "BowingRow$Word") hd (by decide +kernel) hin (hall _ h) (by omega) kk
theorem Ev.tleast {i : Int32} (hd : decode y.2.1 pc = .ok (.iaload, 1)) (hin : vp_in i 5) (kk : Ev l G d y (pc + 1) ls (.int (cLo i.toNatClampNeg) :: st) M bc bs Φ) : Ev l G d y pc ls (.int i :: .ref 25 :: st) M bc bs Φ := by
  have hall : ∀ j, j < 5 → (([.int 0, .int 0, .int 0, .int 1, .int 1] : List Value).getD j .null) = .int (cLo j) := by decide +kernel
  exact Ev.taldI hd (by decide +kernel) hin (hall _ (in_nat hin)) kk
theorem Ev.tmost {i : Int32} (hd : decode y.2.1 pc = .ok (.iaload, 1)) (hin : vp_in i 5) (kk : Ev l G d y (pc + 1) ls (.int (cHi i.toNatClampNeg) :: st) M bc bs Φ) : Ev l G d y pc ls (.int i :: .ref 26 :: st) M bc bs Φ := by
  have hall : ∀ j, j < 5 → (([.int 999, .int 99, .int 9, .int 60, .int 999] : List Value).getD j .null) = .int (cHi j) := by decide +kernel
  exact Ev.taldI hd (by decide +kernel) hin (hall _ (in_nat hin)) kk
/-- a byte of the text of the WORD w -/
theorem Ev.ttext {i : Int32} {w : Nat} (hd : decode y.2.1 pc = .ok (.baload, 1)) (hw : 1 ≤ w ∧ w ≤ 23) (hin : vp_in i (wTx w).length) (kk : Ev l G d y (pc + 1) ls (.int ((wTx w).getD i.toNatClampNeg 0) :: st) M bc bs Φ) : Ev l G d y pc ls (.int i :: .ref (w + 60) :: st) M bc bs Φ := by
  refine Ev.taldB hd (wB_ok w hw) hin ?_ kk
  rw [List.getD_eq_getElem?_getD, List.getElem?_map, List.getD_eq_getElem?_getD, List.getElem?_eq_getElem (in_nat hin)]
  rfl
theorem Ev.tlenW {w : Nat} (hd : decode y.2.1 pc = .ok (.arraylength, 1)) (hw : 1 ≤ w ∧ w ≤ 23) (kk : Ev l G d y (pc + 1) ls (.int (Int32.ofNat (wTx w).length) :: st) M bc bs Φ) : Ev l G d y pc ls (.ref (w + 60) :: st) M bc bs Φ := Ev.tlen hd (wB_ok w hw) rfl kk
theorem Ev.tlenA (hd : decode y.2.1 pc = .ok (.arraylength, 1)) (kk : Ev l G d y (pc + 1) ls (.int 23 :: st) M bc bs Φ) : Ev l G d y pc ls (.ref 24 :: st) M bc bs Φ := Ev.tlen (ty := .object "BowingRow$Word") (n := 23) (vs := [.ref 1, .ref 2, .ref 3, .ref 4, .ref 5, .ref 6, .ref 7, .ref 8, .ref 9, .ref 10, .ref 11, .ref 12, .ref 13, .ref 14, .ref 15, .ref 16, .ref 17, .ref 18, .ref 19, .ref 20, .ref 21, .ref 22, .ref 23]) hd (by decide +kernel) (by decide) kk
/-- a call on the text of a WORD -/
theorem Ev.vcT {idx w n : Nat} {z : MR} (av st : List Value) {st0 : List Value} (hst0 : st0 = av.reverse ++ .ref (w + 30) :: st) (hd : decode y.2.1 pc = .ok (.invokevirtual idx, 3)) (hm : MOK z n) (hn : av.length = n) (hl : Cond.methodLink y.1.cls idx z.1 ∈ lwg) (hi : Cond.instanceMethod z.1 ∈ lwg) (hsel : Cond.selects z.1.cls z.1 z.1 ∈ lwg) (hz : z.1.cls = "java/lang/String") (hst : (st.map fun v => v.category).sum ≤ 8) (hw : 1 ≤ w ∧ w ≤ 23)
    (h : CallVC l G d y (pc + 3) ls st z (.ref (w + 30) :: av) M bc bs Φ) : Ev l G d y pc ls st0 M bc bs Φ := by
  obtain ⟨d2, bc2, bs2, bc3, bs3, Φ2, h1, h2, h3, h4, h5, h6⟩ := h
  subst hst0; subst h2; subst h3
  refine Ev.run (st := st) (Φ2 := Φ2) ?_ (fun n h => (m_bd_args h).2) h5 h6
  intro p e s m args below meth c mc ms H locs cells slots ad lsA F x3 hsz hb hcc hss
  obtain ⟨cell, c1, c2, c3, -⟩ := F.2.2.2.2.2.2.2.2.1.2.2.2.2.1 _ (wS_ok w hw)
  have hlt : G.2.2.2 (w + 30) < G.2.2.1.size := (Array.getElem?_eq_some_iff.mp c1).1
  have had : ad (w + 30) = G.2.2.2 (w + 30) := x3.2.2.2.2.2.2.1 _ (by omega)
  have c4 : H[ad (w + 30)]? = some cell := by rw [had, x3.2.2.2.2.2.1 _ hlt]; exact c1
  exact vx_runV (C := z.1.cls) (b := ad (w + 30)) (As := av.map (tr ad)) (rest := st.map (tr ad)) (Ts := lwg) ⟨F.1, F.2.1, F.2.2.2.1, F.2.2.2.2.1, F.2.2.2.2.2.1⟩ (h4 ad (m_bd_args hb).1) ⟨m_callB F.2.2.2.2.2.1 hm hl h1, F.2.2.2.2.2.1 _ hi, F.2.2.2.2.2.1 _ hsel⟩
    ⟨m_blind, ⟨cell, c4, c2, by rw [hz]; exact c3⟩, fun U hU hW => ⟨rfl, by rw [hU]; exact x3, F.2.2.2.2.2.2.2.2.1.warm hW⟩⟩ rfl (by rw [List.length_map]; exact hn) hsz (by show List.map (tr ad) (av.reverse ++ Value.ref (w + 30) :: st) = _; rw [List.map_append, List.map_reverse]; rfl) (lv_room (m_sum hst)) hd ⟨hcc, hss⟩
end MR_
theorem Ev.vcT2 {l : Launch} {G : Gx} {d : Nat} {y : MR} {pc : Nat} {ls : List Value} {M : Mm} {bc bs : Nat} {Φ : OutV → Mm → Prop} {idx a n : Nat} {z : MR} (av st : List Value) {st0 : List Value} (hst0 : st0 = av.reverse ++ .ref a :: st) (hd : decode y.2.1 pc = .ok (.invokevirtual idx, 3)) (hm : MOK z n) (hn : av.length = n) (hl : Cond.methodLink y.1.cls idx z.1 ∈ lwg) (hi : Cond.instanceMethod z.1 ∈ lwg) (hsel : Cond.selects z.1.cls z.1 z.1 ∈ lwg) (hz : z.1.cls = "java/lang/String") (hst : (st.map fun v => v.category).sum ≤ 8) (hw : 31 ≤ a ∧ a ≤ 53)
    (h : CallVC l G d y (pc + 3) ls st z (.ref a :: av) M bc bs Φ) : Ev l G d y pc ls st0 M bc bs Φ := by
  obtain ⟨w, rfl⟩ : ∃ w, a = w + 30 := ⟨a - 30, by omega⟩
  exact Ev.vcT av st hst0 hd hm hn hl hi hsel hz hst (by omega) h
