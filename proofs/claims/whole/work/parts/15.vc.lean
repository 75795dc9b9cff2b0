/-! ===== a call as a condition; rules in the form that the printed blocks use ===== -/
/-- a call of z with the arguments av from memory M; it goes on at pc2 with the answer on the stack st -/
def CallVC (l : Launch) (G : Gx) (d : Nat) (y : MR) (pc2 : Nat) (ls st : List Value) (z : MR) (av : List Value) (M : Mm) (bc bs : Nat) (Φ : OutV → Mm → Prop) : Prop :=
  ∃ (d2 bc2 bs2 bc3 bs3 : Nat) (Φ2 : OutV → Mm → Prop), d2 < d ∧ bc = bc2 + bc3 ∧ bs = bs2 + bs3 ∧ Ct l G d2 z bc2 bs2 av M Φ2 ∧ (∀ v M', Φ2 (.inl v) M' → Ev l G d y pc2 ls (v.toList ++ st) M' bc3 bs3 Φ) ∧ ∀ E M', Φ2 (.inr E) M' → Φ (.inr E) M'
/-- the same of a callee that can't throw -/
def CallVN (l : Launch) (G : Gx) (d : Nat) (y : MR) (pc2 : Nat) (ls st : List Value) (z : MR) (av : List Value) (M : Mm) (bc bs : Nat) (Φ : OutV → Mm → Prop) : Prop :=
  ∃ (d2 bc2 bs2 bc3 bs3 : Nat) (Φ2 : OutV → Mm → Prop), d2 < d ∧ bc = bc2 + bc3 ∧ bs = bs2 + bs3 ∧ Ct l G d2 z bc2 bs2 av M Φ2 ∧ (∀ v M', Φ2 (.inl v) M' → Ev l G d y pc2 ls (v.toList ++ st) M' bc3 bs3 Φ) ∧ ∀ E M', ¬ Φ2 (.inr E) M'
theorem fitR {ty : FieldType} (h : (∃ C, ty = .object C) ∨ ∃ t, ty = .array t) (v : Nat) (ad : Nat → Nat) : narrow ty (tr ad (.ref v)) = tr ad (.ref v) ∧ fits ty (tr ad (.ref v)) = true := by
  rcases h with ⟨C, rfl⟩ | ⟨t, rfl⟩ <;> cases v <;> exact ⟨rfl, rfl⟩
section VC
variable {l : Launch} {G : Gx} {d : Nat} {y : MR} {pc : Nat} {ls st : List Value} {M : Mm} {bc bs : Nat} {Φ : OutV → Mm → Prop}
theorem Ev.iald2 {a : Nat} {i : Int32} (hd : decode y.2.1 pc = .ok (.iaload, 1)) (hs : (m_sh M a).1 = 20) (hin : vp_in i (m_sh M a).2) (kk : Ev l G d y (pc + 1) ls (.int (m_i M a i.toNatClampNeg) :: st) M bc bs Φ) : Ev l G d y pc ls (.int i :: .ref a :: st) M bc bs Φ := Ev.iald hd (n := (m_sh M a).2) (Prod.ext hs rfl) hin kk
theorem Ev.bald2 {a : Nat} {i : Int32} (hd : decode y.2.1 pc = .ok (.baload, 1)) (hs : (m_sh M a).1 = 21) (hin : vp_in i (m_sh M a).2) (kk : Ev l G d y (pc + 1) ls (.int (m_i M a i.toNatClampNeg) :: st) M bc bs Φ) : Ev l G d y pc ls (.int i :: .ref a :: st) M bc bs Φ := Ev.bald hd (n := (m_sh M a).2) (Prod.ext hs rfl) hin kk
theorem Ev.lald2 {a : Nat} {i : Int32} (hd : decode y.2.1 pc = .ok (.laload, 1)) (hs : (m_sh M a).1 = 22) (hin : vp_in i (m_sh M a).2) (kk : Ev l G d y (pc + 1) ls (.long (m_l M a i.toNatClampNeg) :: st) M bc bs Φ) : Ev l G d y pc ls (.int i :: .ref a :: st) M bc bs Φ := Ev.lald hd (n := (m_sh M a).2) (Prod.ext hs rfl) hin kk
theorem Ev.aald2 {a : Nat} {i : Int32} (t : Nat) (ht : t = 30 ∨ t = 31 ∨ t = 32 ∨ t = 33) (hd : decode y.2.1 pc = .ok (.aaload, 1)) (hs : (m_sh M a).1 = t) (hin : vp_in i (m_sh M a).2) (kk : Ev l G d y (pc + 1) ls (.ref (m_r M a i.toNatClampNeg) :: st) M bc bs Φ) : Ev l G d y pc ls (.int i :: .ref a :: st) M bc bs Φ := Ev.aald hd (t := t) (n := (m_sh M a).2) (Prod.ext hs rfl) ht hin kk
theorem Ev.alen2 {a : Nat} (t : Nat) (ht : t = 20 ∨ t = 21) (hd : decode y.2.1 pc = .ok (.arraylength, 1)) (hs : (m_sh M a).1 = t) (kk : Ev l G d y (pc + 1) ls (.int (Int32.ofNat (m_sh M a).2) :: st) M bc bs Φ) : Ev l G d y pc ls (.ref a :: st) M bc bs Φ := Ev.alen hd (t := t) (n := (m_sh M a).2) (Prod.ext hs rfl) ht kk
theorem Ev.iast2 {a : Nat} {i x : Int32} (hd : decode y.2.1 pc = .ok (.iastore, 1)) (hs : (m_sh M a).1 = 20) (hin : vp_in i (m_sh M a).2) (kk : Ev l G d y (pc + 1) ls st (m_si M a i.toNatClampNeg x) bc bs Φ) : Ev l G d y pc ls (.int x :: .int i :: .ref a :: st) M bc bs Φ := Ev.iast hd (n := (m_sh M a).2) (Prod.ext hs rfl) hin kk
theorem Ev.bast2 {a : Nat} {i x : Int32} (hd : decode y.2.1 pc = .ok (.bastore, 1)) (hs : (m_sh M a).1 = 21) (hin : vp_in i (m_sh M a).2) (kk : Ev l G d y (pc + 1) ls st (m_si M a i.toNatClampNeg (vp_nar .byte x)) bc bs Φ) : Ev l G d y pc ls (.int x :: .int i :: .ref a :: st) M bc bs Φ := Ev.bast hd (n := (m_sh M a).2) (Prod.ext hs rfl) hin kk
theorem Ev.last2 {a : Nat} {i : Int32} {x : Int64} (hd : decode y.2.1 pc = .ok (.lastore, 1)) (hs : (m_sh M a).1 = 22) (hin : vp_in i (m_sh M a).2) (kk : Ev l G d y (pc + 1) ls st (m_sl M a i.toNatClampNeg x) bc bs Φ) : Ev l G d y pc ls (.long x :: .int i :: .ref a :: st) M bc bs Φ := Ev.last hd (n := (m_sh M a).2) (Prod.ext hs rfl) hin kk
theorem Ev.vcV {idx ci a n : Nat} {z : MR} (av st : List Value) {st0 : List Value} (hst0 : st0 = av.reverse ++ .ref a :: st) (hd : decode y.2.1 pc = .ok (.invokevirtual idx, 3)) (hm : MOK z n) (hn : av.length = n) (hl : Cond.methodLink y.1.cls idx z.1 ∈ lwg) (hi : Cond.instanceMethod z.1 ∈ lwg) (hsel : Cond.selects z.1.cls z.1 z.1 ∈ lwg) (hci : ci < 12) (hcn : (vwCl[ci]?).map (fun q => q.1) = some z.1.cls) (hs : (m_sh M a).1 = ci) (hst : (st.map fun v => v.category).sum ≤ 8)
    (h : CallVC l G d y (pc + 3) ls st z (.ref a :: av) M bc bs Φ) : Ev l G d y pc ls st0 M bc bs Φ := by
  obtain ⟨d2, bc2, bs2, bc3, bs3, Φ2, h1, h2, h3, h4, h5, h6⟩ := h
  subst hst0; subst h2; subst h3
  exact Ev.callV hd hm hn hl hi hsel hci hcn hs h1 hst h4 h5 h6
theorem Ev.vcS {idx n : Nat} {z : MR} (av st : List Value) {st0 : List Value} (hst0 : st0 = av.reverse ++ st) (hd : decode y.2.1 pc = .ok (.invokestatic idx, 3)) (hm : MOK z n) (hn : av.length = n) (hl : Cond.methodLink y.1.cls idx z.1 ∈ lwg) (hi : Cond.static z.1 ∈ lwg) (hst : (st.map fun v => v.category).sum ≤ 8)
    (h : CallVC l G d y (pc + 3) ls st z av M bc bs Φ) : Ev l G d y pc ls st0 M bc bs Φ := by
  obtain ⟨d2, bc2, bs2, bc3, bs3, Φ2, h1, h2, h3, h4, h5, h6⟩ := h
  subst hst0; subst h2; subst h3
  exact Ev.callS hd hm hn hl hi h1 hst h4 h5 h6
theorem Ev.vcSN {idx n : Nat} {z : MR} {host : String} (av st : List Value) {st0 : List Value} (hst0 : st0 = av.reverse ++ st) (hd : decode y.2.1 pc = .ok (.invokestatic idx, 3)) (hm : MOK z n) (hn : av.length = n) (hl : Cond.methodLinkNest y.1.cls idx z.1 host ∈ lwx) (hi : Cond.static z.1 ∈ lwg) (hst : (st.map fun v => v.category).sum ≤ 8)
    (h : CallVN l G d y (pc + 3) ls st z av M bc bs Φ) : Ev l G d y pc ls st0 M bc bs Φ := by
  obtain ⟨d2, bc2, bs2, bc3, bs3, Φ2, h1, h2, h3, h4, h5, h6⟩ := h
  subst hst0; subst h2; subst h3
  exact Ev.callSN hd hm hn hl hi h1 hst h4 h6 h5
theorem Ev.vcI {idx a n : Nat} {z : MR} (av st : List Value) {st0 : List Value} (hst0 : st0 = av.reverse ++ .ref a :: st) (hd : decode y.2.1 pc = .ok (.invokespecial idx, 3)) (hm : MOK z n) (hn : av.length = n) (hl : Cond.methodLink y.1.cls idx z.1 ∈ lwg ∨ ∃ host, Cond.methodLinkNest y.1.cls idx z.1 host ∈ lwx) (hi : Cond.instanceMethod z.1 ∈ lwg) (hin : z.1.name = "<init>") (hret : z.2.2.2 = none) (ha : a ≠ 0) (hst : (st.map fun v => v.category).sum ≤ 8)
    (h : CallVN l G d y (pc + 3) ls st z (.ref a :: av) M bc bs Φ) : Ev l G d y pc ls st0 M bc bs Φ := by
  obtain ⟨d2, bc2, bs2, bc3, bs3, Φ2, h1, h2, h3, h4, h5, h6⟩ := h
  subst hst0; subst h2; subst h3
  exact Ev.callI hd hm hn hl hi hin hret ha h1 hst h4 h6 h5
/-- a call that makes no cells and comes back with r, by a condition on the memory -/
theorem CallVC.ret {pc2 d2 : Nat} {z : MR} {av : List Value} (r : Option Value) {P : Mm → Prop} (hd : d2 < d) (hM : Ct l G d2 z 0 0 av M (fun o M' => o = .inl r ∧ P M')) (k : ∀ M', P M' → Ev l G d y pc2 ls (r.toList ++ st) M' bc bs Φ) : CallVC l G d y pc2 ls st z av M bc bs Φ :=
  ⟨d2, 0, 0, bc, bs, _, hd, (Nat.zero_add _).symm, (Nat.zero_add _).symm, hM, fun v M' h => by obtain ⟨h1, h2⟩ := h; cases h1; exact k M' h2, fun E M' h => by cases h.1⟩
theorem CallVN.ret {pc2 d2 : Nat} {z : MR} {av : List Value} (r : Option Value) {P : Mm → Prop} (hd : d2 < d) (hM : Ct l G d2 z 0 0 av M (fun o M' => o = .inl r ∧ P M')) (k : ∀ M', P M' → Ev l G d y pc2 ls (r.toList ++ st) M' bc bs Φ) : CallVN l G d y pc2 ls st z av M bc bs Φ :=
  ⟨d2, 0, 0, bc, bs, _, hd, (Nat.zero_add _).symm, (Nat.zero_add _).symm, hM, fun v M' h => by obtain ⟨h1, h2⟩ := h; cases h1; exact k M' h2, fun E M' h => by cases h.1⟩
/-- weaker ends, more room, more frames -/
theorem Ct.mono {av : List Value} {Φ2 : OutV → Mm → Prop} (h : Ct l G d y bc bs av M Φ) (hq : ∀ o M', Φ o M' → Φ2 o M') : Ct l G d y bc bs av M Φ2 := by
  intro ad hbd p e ha hc hk s m args below hf happ hP hK
  obtain ⟨n, o, h1, h2, h3, h4⟩ := h ad hbd p e ha hc hk s m args below hf happ hP hK
  refine ⟨n, o, h1, h2, h3, ?_⟩
  rcases h4 with ⟨⟨v, M', ad', g1, g2, g3⟩, g⟩ | ⟨q, g0, E, ce, L, ⟨M', ad', g2, g3⟩, g⟩
  · exact Or.inl ⟨⟨v, M', ad', g1, hq _ _ g2, g3⟩, g⟩
  · exact Or.inr ⟨q, g0, E, ce, L, ⟨M', ad', hq _ _ g2, g3⟩, g⟩
end VC
