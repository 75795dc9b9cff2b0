/-! ===== rules: returns and calls ===== -/
theorem tr_ext {ad ad' : Nat → Nat} {n : Nat} (h : ∀ a, a < n → ad' a = ad a) {v : Value} (hv : bdL n [v]) : tr ad' v = tr ad v := by
  cases v with
  | ref k =>
    cases k with
    | zero => rfl
    | succ k =>
      show Value.ref (ad' (k + 1)) = Value.ref (ad (k + 1))
      rw [h (k + 1) (bd_h hv)]
  | _ => rfl
theorem tr_extL {ad ad' : Nat → Nat} {n : Nat} (h : ∀ a, a < n → ad' a = ad a) {l : List Value} (hv : bdL n l) : l.map (tr ad') = l.map (tr ad) :=
  List.map_congr_left fun v hm => tr_ext h (fun a ha => hv a (by rw [List.mem_singleton.mp ha]; exact hm))
theorem Lv.ext {ad ad' : Nat → Nat} {n nL : Nat} {ls : List Value} {lsA : Array Slot} (h : ∀ a, a < n → ad' a = ad a) (hb : bdL n ls) (hL : Lv ad ls nL lsA) : Lv ad' ls nL lsA :=
  ⟨hL.1, hL.2.1, fun i v hi hv => by rw [tr_ext h (fun a ha => hb a (by rw [List.mem_singleton.mp ha]; exact List.mem_of_getElem? hi))]; exact hL.2.2 i v hi hv⟩
theorem bd_le {n n' : Nat} (h : n ≤ n') {l : List Value} (hb : bdL n l) : bdL n' l := fun a ha => Nat.lt_of_lt_of_le (hb a ha) h
section R4
variable {l : Launch} {G : Gx} {d : Nat} {y : MR} {pc : Nat} {ls st : List Value} {M : Mm} {bc bs : Nat} {Φ : OutV → Mm → Prop}
theorem Ev.iret {v : Int32} {ty : FieldType} (hd : decode y.2.1 pc = .ok (.ireturn, 1)) (hr : y.2.2.2 = some ty) (hn : narrow ty (.int v) = .int v) (hq : Φ (.inl (some (.int v))) M) : Ev l G d y pc ls [.int v] M bc bs Φ := by
  intro p e s m args below meth c mc ms ad0 n0 H locs cells slots ad lsA F X0
  obtain ⟨x1, x2, x3, x4, x5, x6, x7, x8, x9⟩ := id X0
  refine vx_ret (W.widen (k := mc) (n := ms) (by omega) (by omega) ?_)
  exact W.zret F.1 F.2.1 (F.2.2.1.trans hr) hn (fun t ht hW => ⟨some (.int v), M, ad, rfl, hq, x8, x9, x7, by rw [ht]; exact x3, by rw [ht]; exact x4.1⟩) (fun q hq => x4.2.2 q hq) hd F.2.2.2.2.2.2.1
theorem Ev.lret {v : Int64} (hd : decode y.2.1 pc = .ok (.lreturn, 1)) (hr : y.2.2.2 = some .long) (hq : Φ (.inl (some (.long v))) M) : Ev l G d y pc ls [.long v] M bc bs Φ := by
  intro p e s m args below meth c mc ms ad0 n0 H locs cells slots ad lsA F X0
  obtain ⟨x1, x2, x3, x4, x5, x6, x7, x8, x9⟩ := id X0
  refine vx_ret (W.widen (k := mc) (n := ms) (by omega) (by omega) ?_)
  exact W.lret F.1 F.2.1 (F.2.2.1.trans hr) (fun t ht hW => ⟨some (.long v), M, ad, rfl, hq, x8, x9, x7, by rw [ht]; exact x3, by rw [ht]; exact x4.1⟩) (fun q hq => x4.2.2 q hq) hd F.2.2.2.2.2.2.1
theorem Ev.aret {v : Nat} {rt : FieldType} (hd : decode y.2.1 pc = .ok (.areturn, 1)) (hr : y.2.2.2 = some rt) (hrt : (∃ n, rt = .object n) ∨ ∃ t, rt = .array t) (hq : Φ (.inl (some (.ref v))) M) : Ev l G d y pc ls [.ref v] M bc bs Φ := by
  intro p e s m args below meth c mc ms ad0 n0 H locs cells slots ad lsA F X0
  obtain ⟨x1, x2, x3, x4, x5, x6, x7, x8, x9⟩ := id X0
  refine vx_ret (W.widen (k := mc) (n := ms) (by omega) (by omega) ?_)
  refine W.aret (v := tr ad (.ref v)) F.1 F.2.1 (F.2.2.1.trans hr) hrt (by cases v with | zero => exact Or.inl rfl | succ v => exact Or.inr ⟨_, rfl⟩) (fun t ht hW => ⟨some (.ref v), M, ad, rfl, hq, x8, x9, x7, by rw [ht]; exact x3, by rw [ht]; exact x4.1⟩) (fun q hq => x4.2.2 q hq) hd F.2.2.2.2.2.2.1
theorem Ev.vret (hd : decode y.2.1 pc = .ok (.return_, 1)) (hr : y.2.2.2 = none) (hq : Φ (.inl none) M) : Ev l G d y pc ls [] M bc bs Φ := by
  intro p e s m args below meth c mc ms ad0 n0 H locs cells slots ad lsA F X0
  obtain ⟨x1, x2, x3, x4, x5, x6, x7, x8, x9⟩ := id X0
  refine vx_ret (W.widen (k := mc) (n := ms) (by omega) (by omega) ?_)
  exact W.vret F.1 F.2.1 (F.2.2.1.trans hr) (fun t ht hW => ⟨none, M, ad, rfl, hq, x8, x9, x7, by rw [ht]; exact x3, by rw [ht]; exact x4.1⟩) (fun q hq => x4.2.2 q hq) hd F.2.2.2.2.2.2.1
theorem Ev.objInit {idx a : Nat} (hd : decode y.2.1 pc = .ok (.invokespecial idx, 3)) (hl : Cond.methodLink y.1.cls idx Lib.objectInit ∈ lwg) (h1 : Cond.instanceMethod Lib.objectInit ∈ lwg) (h2 : Cond.code Lib.objectInit ⟨#[0xb1]⟩ 1 none ∈ lwg) (hst : (st.map fun v => v.category).sum ≤ 8) (hd1 : 1 ≤ d) (ha : a ≠ 0) (kk : Ev l G d y (pc + 3) ls st M bc bs Φ) : Ev l G d y pc ls (.ref a :: st) M bc bs Φ := by
  intro p e s m args below meth c mc ms ad0 n0 H locs cells slots ad lsA F X0
  obtain ⟨x1, x2, x3, x4, x5, x6, x7, x8, x9⟩ := id X0
  have K := kk p e s m args below meth c mc ms ad0 n0 H locs cells slots ad lsA F ⟨x1, x2, x3, x4, x5, x6, bd_t x7, x8, x9⟩
  obtain ⟨b, rfl⟩ : ∃ b, a = b + 1 := ⟨a - 1, by omega⟩
  have hsum : ((st.map (tr ad)).map fun v => v.category).sum ≤ 8 := by
    rw [List.map_map, show ((fun v : Value => v.category) ∘ tr ad) = fun v => v.category from funext fun v => tr_cat ad v]
    exact hst
  have hroom := lv_room (m := m) (pc := pc) (ls := lsA) (rest := (Value.ref (b + 1) :: st).map (tr ad)) hsum
  refine W.objInit F.1 F.2.1 F.2.2.2.2.1 (F.2.2.2.2.2.1 _ hl) (F.2.2.2.2.2.1 _ h1) (F.2.2.2.2.2.1 _ h2) rfl (x5.1.trans F.2.2.2.1.symm) rfl hd hd1 ?_ K
  show _ ≤ 64 * d
  omega
/-- what a call leaves: it has returned, or thrown out of this method (which catches nothing) -/
theorem Ev.run {bc2 bs2 : Nat} {Φ2 : OutV → Mm → Prop} {st0 : List Value}
    (hrun : ∀ (p : Program) (e : Env) (s : State) (m : MethodId) (args : Array Value) (below : List Frame) (meth : Method) (c : Code) (mc ms : Nat) (H : Heap) (locs : List Loc) (cells slots : Nat) (ad : Nat → Nat) (lsA : Array Slot), FrOK G y p s m args meth c → RelE G M ad H → lsA.size = y.2.2.1 → bdL (m_nx M) st0 → cells + bc2 ≤ mc → slots + bs2 ≤ ms →
      vx_Run p l e (rmO d mc ms) s m args below meth c H locs cells slots bc2 bs2 (F0 m pc lsA (st0.map (tr ad))) (st.map (tr ad)) (fun s0 o t => QcO G ad (m_nx M) Φ2 args s0 o t) (XcO G ad (m_nx M) Φ2) (fun q => G.2.2.1.size ≤ q))
    (hbd : ∀ n, bdL n st0 → bdL n st) (kr : ∀ v M', Φ2 (.inl v) M' → Ev l G d y (pc + 3) ls (v.toList ++ st) M' bc bs Φ) (kx : ∀ E M', Φ2 (.inr E) M' → Φ (.inr E) M') : Ev l G d y pc ls st0 M (bc2 + bc) (bs2 + bs) Φ := by
  intro p e s m args below meth c mc ms ad0 n0 H locs cells slots ad lsA F X0
  obtain ⟨x1, x2, x3, x4, x5, x6, x7, x8, x9⟩ := id X0
  intro T hT X
  rcases hrun p e s m args below meth c mc ms H locs cells slots ad lsA F x3 x5.1 x7 (by omega) (by omega) T hT X with ⟨v0, st₀, t, T', L, h0, X', hL, e1, e2, ⟨v, M', ad', hv, hΦ, hE, hn, hb, hR, hz⟩, go⟩ | ⟨q, st₀, t, T', L, E, ce, h0, X', hL, e1, e2, ⟨M', ad', hΦ, hE, hn, hR, hz⟩, hce, hcv, hcl, go⟩
  · cases hv
    rw [← e1] at hR hz
    have hS : va_S (fun q => G.2.2.1.size ≤ q) s.heap T'.heap (locs ++ L) := ⟨Nat.le_trans x4.1 (by rw [← h0]; exact hz), fun q hq hA => by
      rw [hR.2.2.2.2.2.1 q (Nat.lt_of_not_le hA)]
      exact (F.2.2.2.2.2.2.2.2.2.2.2 q (Nat.lt_of_not_le hA)).symm, fun z hz' => (List.mem_append.mp hz').elim (x4.2.2 z) (hL z)⟩
    have K := kr v M' hΦ p e s m args below meth c mc ms ad0 n0 T'.heap (locs ++ L) (cells + bc2) (slots + bs2) ad' lsA F ⟨by omega, by omega, hR, hS, x5.ext hE x6, bd_le hn x6, fun a ha => (List.mem_append.mp ha).elim (hb a) (bd_le hn (hbd _ x7) a), fun a ha => (hE a (Nat.lt_of_lt_of_le ha x9)).trans (x8 a ha), Nat.le_trans x9 hn⟩
    rw [List.map_append, tr_extL hE (hbd _ x7)] at K
    obtain ⟨t2, a1, b1⟩ := K T' rfl X'
    refine ⟨t2, go t2 ?_, b1⟩
    have e3 : (Option.map (tr ad') v).toList = v.toList.map (tr ad') := by cases v <;> rfl
    show Steps p.tables e below (T'.setTop (F0 m (pc + 3) lsA ((Option.map (tr ad') v).toList ++ st.map (tr ad)))) t2
    rw [e3]
    exact a1
  · rw [← e1] at hR hz hce
    have hx : ∀ t : State, t.heap = T'.heap → s.vm.Alike t.vm → XcO G ad0 n0 Φ E s t := fun t ht _ => ⟨M', ad', kx E M' hΦ, fun a ha => (hE a (Nat.lt_of_lt_of_le ha x9)).trans (x8 a ha), Nat.le_trans x9 hn, by rw [ht]; exact hR, by rw [ht]; exact Nat.le_trans x4.1 (by rw [← h0]; exact hz)⟩
    have K := vx_out (p := p) (m := m) (l := l) (e := e) (R := rmO d mc ms) (args := args) (below := below) (c := c) (ls := lsA) (rest := st.map (tr ad)) (pc := pc) (Qc := QcO G ad0 n0 Φ) (mc := mc) (ms := ms) (cells := cells + bc2) (slots := slots + bs2) (fun x hx => (F.2.2.2.2.2.2.2.2.2.1 x hx).elim) F.2.2.2.2.2.2.1 hce hcv hcl hx (fun z hz' => (List.mem_append.mp hz').elim (x4.2.2 z) (hL z)) (by omega) (by omega)
    obtain ⟨t2, a1, b1⟩ := K T' rfl X'
    exact ⟨t2, go.trans a1, b1⟩
/-- a method as the tables know it: n its parameters -/
def MOK (z : MR) (n : Nat) : Prop := Cond.code z.1 z.2.1 z.2.2.1 z.2.2.2 ∈ lwg ∧ Cond.initialized z.1.cls ∈ lwg ∧ (z.1.cls ≠ "java/lang/invoke/MethodHandle" ∧ z.1.cls ≠ "java/lang/invoke/VarHandle") ∧ (parseMethodDescriptor z.1.desc).map (fun q => q.parameters.length) = some n ∧ z.2.2.1 ≤ 45
theorem m_wsok {s : State} {args : Array Value} (hts : ∀ w ∈ lwg, w.before args s = true) {z : MR} {n : Nat} (hm : MOK z n) : ∀ w ∈ wsY z, ∀ (a' : Array Value) (U : State), s.WarmedH U.vm → w.before a' U = true := by
  intro w hw a' U hW
  have hin : w ∈ lwg := (List.mem_cons.mp hw).elim (fun e => by rw [e]; exact hm.1) id
  exact word_at hW (lwg_good hin) (hts w hin)
theorem m_callB {d d2 mc ms bc2 bs2 : Nat} {s : State} {args : Array Value} (hts : ∀ w ∈ lwg, w.before args s = true) {z : MR} {n : Nat} (hm : MOK z n) {own : String} {idx : Nat} (hl : Cond.methodLink own idx z.1 ∈ lwg) (hdd : d2 < d) : CallB (rmO d mc ms) s args own idx z.1 z.2.1 z.2.2.1 z.2.2.2 (wsY z) (rmO d2 bc2 bs2) bc2 bs2 n := by
  refine ⟨rfl, rfl, hdd, ?_, m_wsok hts hm, List.mem_cons_self, hts _ hm.1, hts _ hm.2.1, hm.2.2.1, fun sig hs => ?_, hts _ hl⟩
  · show 8 + (z.2.2.1 + 11) + 64 * d2 ≤ 64 * d
    have := hm.2.2.2.2
    omega
  · have := hm.2.2.2.1
    rw [hs] at this
    exact (Option.some.inj this).symm
theorem m_callN {d d2 mc ms bc2 bs2 : Nat} {s : State} {args : Array Value} (hts : ∀ w ∈ lwg, w.before args s = true) (hts2 : ∀ w ∈ lwx, va_Nw w s) {z : MR} {n : Nat} (hm : MOK z n) {own host : String} {idx : Nat} (hl : Cond.methodLinkNest own idx z.1 host ∈ lwx) (hdd : d2 < d) : va_CN (rmO d mc ms) s args own idx z.1 host z.2.1 z.2.2.1 z.2.2.2 (wsY z) (rmO d2 bc2 bs2) bc2 bs2 n := by
  refine ⟨⟨rfl, rfl, hdd, ?_, m_wsok hts hm, List.mem_cons_self⟩, hts _ hm.1, hts _ hm.2.1, hm.2.2.1, fun sig hs => ?_, va_Nw.use rfl (hts2 _ hl)⟩
  · show 8 + (z.2.2.1 + 11) + 64 * d2 ≤ 64 * d
    have := hm.2.2.2.2
    omega
  · have := hm.2.2.2.1
    rw [hs] at this
    exact (Option.some.inj this).symm
theorem m_blind {av : List Value} {ad : Nat → Nat} : FrameBlind (fun a U => a = (av.map (tr ad)).toArray ∧ RelE G M ad U.heap ∧ KG G U) := fun a U g mk h => ⟨h.1, h.2.1, KG.same (s := U) rfl h.2.2⟩
theorem Ct.met {d bc bs : Nat} {y : MR} {av : List Value} {Φ : OutV → Mm → Prop} (h : Ct l G d y bc bs av M Φ) (hx : ∀ E M', ¬ Φ (.inr E) M') (ad : Nat → Nat) (hbd : bdL (m_nx M) av) : Met l y.1 (wsY y) (rmO d bc bs) (fun a U => a = (av.map (tr ad)).toArray ∧ RelE G M ad U.heap ∧ KG G U) (QcO G ad (m_nx M) Φ) bc bs (fun q => G.2.2.1.size ≤ q) := by
  intro p e ha hc hk s m args below hf happ hP hK
  obtain ⟨n, o, h1, h2, h3, h4⟩ := h ad hbd p e ha hc hk s m args below hf happ hP hK
  refine ⟨n, o, h1, h2, h3, ?_⟩
  rcases h4 with h4 | ⟨q, -, E, ce, L, ⟨M', ad', hΦ, -⟩, -⟩
  · exact h4
  · exact (hx E M' hΦ).elim
theorem m_sum {ad : Nat → Nat} (hst : (st.map fun v => v.category).sum ≤ 8) : ((st.map (tr ad)).map fun v => v.category).sum ≤ 8 := by
  rw [List.map_map, show ((fun v : Value => v.category) ∘ tr ad) = fun v => v.category from funext fun v => tr_cat ad v]
  exact hst
theorem m_bd_args {n a : Nat} {av : List Value} (h : bdL n (av.reverse ++ .ref a :: st)) : bdL n (.ref a :: av) ∧ bdL n st :=
  ⟨fun b hb => h b ((List.mem_cons.mp hb).elim (fun e => by rw [e]; exact List.mem_append_right _ List.mem_cons_self) (fun e => List.mem_append_left _ (List.mem_reverse.mpr e))), fun b hb => h b (List.mem_append_right _ (List.mem_cons_of_mem _ hb))⟩
theorem Ev.callV {d2 idx ci a n bc2 bs2 : Nat} {z : MR} {av : List Value} {Φ2 : OutV → Mm → Prop} (hd : decode y.2.1 pc = .ok (.invokevirtual idx, 3)) (hm : MOK z n) (hn : av.length = n) (hl : Cond.methodLink y.1.cls idx z.1 ∈ lwg) (hi : Cond.instanceMethod z.1 ∈ lwg) (hsel : Cond.selects z.1.cls z.1 z.1 ∈ lwg) (hci : ci < 12) (hcn : (vwCl[ci]?).map (fun q => q.1) = some z.1.cls) (hs : (m_sh M a).1 = ci) (hdd : d2 < d) (hst : (st.map fun v => v.category).sum ≤ 8)
    (hM : Ct l G d2 z bc2 bs2 (.ref a :: av) M Φ2) (kr : ∀ v M', Φ2 (.inl v) M' → Ev l G d y (pc + 3) ls (v.toList ++ st) M' bc bs Φ) (kx : ∀ E M', Φ2 (.inr E) M' → Φ (.inr E) M') : Ev l G d y pc ls (av.reverse ++ .ref a :: st) M (bc2 + bc) (bs2 + bs) Φ := by
  refine Ev.run (st := st) (Φ2 := Φ2) ?_ (fun n h => (m_bd_args h).2) kr kx
  intro p e s m args below meth c mc ms H locs cells slots ad lsA F x3 hsz hb hcc hss
  obtain ⟨o1, o2⟩ := m_own x3 (a := a) (by rw [hs]; omega)
  have hw := m_ws_at G.2.1 ad M ⟨o1, o2⟩
  rw [m_cell_O G.2.1 ad M hs hci] at hw
  obtain ⟨b, rfl⟩ : ∃ b, a = b + 1 := ⟨a - 1, by omega⟩
  obtain ⟨r, hr1, cell, c1, c2, c3, -⟩ := x3.1 _ _ hw
  have hcls : s.vm.findClass z.1.cls = some cell.cls := by
    have h1 := (F.2.2.2.2.2.2.2.2.1.1.1 ci r hr1).2.1
    have hr2 : vwCl[ci]? = some r := hr1
    rw [hr2] at hcn
    rw [← Option.some.inj hcn, c2]
    exact h1
  exact vx_runV (C := z.1.cls) (b := ad (b + 1)) (As := av.map (tr ad)) (rest := st.map (tr ad)) (Ts := lwg) ⟨F.1, F.2.1, F.2.2.2.1, F.2.2.2.2.1, F.2.2.2.2.2.1⟩ (hM ad (m_bd_args hb).1) ⟨m_callB F.2.2.2.2.2.1 hm hl hdd, F.2.2.2.2.2.1 _ hi, F.2.2.2.2.2.1 _ hsel⟩
    ⟨m_blind, ⟨cell, c1, by rw [c3]; rfl, hcls⟩, fun U hU hW => ⟨rfl, by rw [hU]; exact x3, F.2.2.2.2.2.2.2.2.1.warm hW⟩⟩ rfl (by rw [List.length_map]; exact hn) hsz (by show List.map (tr ad) (av.reverse ++ Value.ref (b + 1) :: st) = _; rw [List.map_append, List.map_reverse]; rfl) (lv_room (m_sum hst)) hd ⟨hcc, hss⟩
theorem Ev.callS {d2 idx n bc2 bs2 : Nat} {z : MR} {av : List Value} {Φ2 : OutV → Mm → Prop} (hd : decode y.2.1 pc = .ok (.invokestatic idx, 3)) (hm : MOK z n) (hn : av.length = n) (hl : Cond.methodLink y.1.cls idx z.1 ∈ lwg) (hi : Cond.static z.1 ∈ lwg) (hdd : d2 < d) (hst : (st.map fun v => v.category).sum ≤ 8)
    (hM : Ct l G d2 z bc2 bs2 av M Φ2) (kr : ∀ v M', Φ2 (.inl v) M' → Ev l G d y (pc + 3) ls (v.toList ++ st) M' bc bs Φ) (kx : ∀ E M', Φ2 (.inr E) M' → Φ (.inr E) M') : Ev l G d y pc ls (av.reverse ++ st) M (bc2 + bc) (bs2 + bs) Φ := by
  refine Ev.run (st := st) (Φ2 := Φ2) ?_ (fun n h a ha => h a (List.mem_append_right _ ha)) kr kx
  intro p e s m args below meth c mc ms H locs cells slots ad lsA F x3 hsz hb hcc hss
  exact vx_runS (As := av.map (tr ad)) (rest := st.map (tr ad)) (Ts := lwg) ⟨F.1, F.2.1, F.2.2.2.1, F.2.2.2.2.1, F.2.2.2.2.2.1⟩ (hM ad (fun a ha => hb a (List.mem_append_left _ (List.mem_reverse.mpr ha)))) ⟨m_callB F.2.2.2.2.2.1 hm hl hdd, F.2.2.2.2.2.1 _ hi⟩
    ⟨m_blind, fun U hU hW => ⟨rfl, by rw [hU]; exact x3, F.2.2.2.2.2.2.2.2.1.warm hW⟩⟩ rfl (by rw [List.length_map]; exact hn) hsz (by show List.map (tr ad) (av.reverse ++ st) = _; rw [List.map_append, List.map_reverse]) (lv_room (m_sum hst)) hd ⟨hcc, hss⟩
/-- a run that can't throw -/
theorem m_runOf {p : Program} {e : Env} {R : Room} {s : State} {m : MethodId} {args : Array Value} {below : List Frame} {meth : Method} {c : Code} {H : Heap} {locs : List Loc} {cells slots mc ms : Nat} {g : JFrame} {rest : List Value} {Qa : State → Outcome → State → Prop} {XC : String → State → State → Prop} {free : Addr → Prop} (h : va_Run p l e R s m args below meth c H locs cells slots mc ms g rest Qa free) : vx_Run p l e R s m args below meth c H locs cells slots mc ms g rest Qa XC free := fun T hT X => Or.inl (h T hT X)
theorem Ev.callI {d2 idx a n bc2 bs2 : Nat} {z : MR} {av : List Value} {Φ2 : OutV → Mm → Prop} (hd : decode y.2.1 pc = .ok (.invokespecial idx, 3)) (hm : MOK z n) (hn : av.length = n) (hl : Cond.methodLink y.1.cls idx z.1 ∈ lwg ∨ ∃ host, Cond.methodLinkNest y.1.cls idx z.1 host ∈ lwx) (hi : Cond.instanceMethod z.1 ∈ lwg) (hin : z.1.name = "<init>") (hret : z.2.2.2 = none) (ha : a ≠ 0) (hdd : d2 < d) (hst : (st.map fun v => v.category).sum ≤ 8)
    (hM : Ct l G d2 z bc2 bs2 (.ref a :: av) M Φ2) (hx : ∀ E M', ¬ Φ2 (.inr E) M') (kr : ∀ v M', Φ2 (.inl v) M' → Ev l G d y (pc + 3) ls (v.toList ++ st) M' bc bs Φ) : Ev l G d y pc ls (av.reverse ++ .ref a :: st) M (bc2 + bc) (bs2 + bs) Φ := by
  refine Ev.run (st := st) (Φ2 := Φ2) ?_ (fun n h => (m_bd_args h).2) kr (fun E M' h => (hx E M' h).elim)
  intro p e s m args below meth c mc ms H locs cells slots ad lsA F x3 hsz hb hcc hss
  obtain ⟨b, rfl⟩ : ∃ b, a = b + 1 := ⟨a - 1, by omega⟩
  have hMt := hM.met hx ad (m_bd_args hb).1
  have hstk : List.map (tr ad) (av.reverse ++ Value.ref (b + 1) :: st) = (av.map (tr ad)).reverse ++ Value.ref (ad (b + 1)) :: st.map (tr ad) := by rw [List.map_append, List.map_reverse]; rfl
  rcases hl with hl | ⟨host, hl⟩
  · have cb := m_callB (d := d) (d2 := d2) (mc := mc) (ms := ms) (bc2 := bc2) (bs2 := bs2) F.2.2.2.2.2.1 hm hl hdd
    rw [hret] at cb
    exact m_runOf (va_runI (b := ad (b + 1)) (As := av.map (tr ad)) (rest := st.map (tr ad)) (Ts := lwg) ⟨F.1, F.2.1, F.2.2.2.1, F.2.2.2.2.1, F.2.2.2.2.2.1⟩ hMt ⟨cb, hin, F.2.2.2.2.2.1 _ hi⟩
      ⟨m_blind, fun U hU hW => ⟨rfl, by rw [hU]; exact x3, F.2.2.2.2.2.2.2.2.1.warm hW⟩⟩ rfl (by rw [List.length_map]; exact hn) hsz hstk (lv_room (m_sum hst)) hd ⟨hcc, hss⟩)
  · have cb := m_callN (d := d) (d2 := d2) (mc := mc) (ms := ms) (bc2 := bc2) (bs2 := bs2) F.2.2.2.2.2.1 F.2.2.2.2.2.2.2.2.1.2.2.2.2.2.2.2.2.2 hm hl hdd
    rw [hret] at cb
    exact m_runOf (va_runIN (b := ad (b + 1)) (As := av.map (tr ad)) (rest := st.map (tr ad)) (Ts := lwg) ⟨F.1, F.2.1, F.2.2.2.1, F.2.2.2.2.1, F.2.2.2.2.2.1⟩ hMt ⟨cb, hin, F.2.2.2.2.2.1 _ hi⟩
      ⟨m_blind, fun U hU hW => ⟨rfl, by rw [hU]; exact x3, F.2.2.2.2.2.2.2.2.1.warm hW⟩⟩ rfl (by rw [List.length_map]; exact hn) hsz hstk (lv_room (m_sum hst)) hd ⟨hcc, hss⟩)
theorem Ev.callSN {d2 idx n bc2 bs2 : Nat} {z : MR} {host : String} {av : List Value} {Φ2 : OutV → Mm → Prop} (hd : decode y.2.1 pc = .ok (.invokestatic idx, 3)) (hm : MOK z n) (hn : av.length = n) (hl : Cond.methodLinkNest y.1.cls idx z.1 host ∈ lwx) (hi : Cond.static z.1 ∈ lwg) (hdd : d2 < d) (hst : (st.map fun v => v.category).sum ≤ 8)
    (hM : Ct l G d2 z bc2 bs2 av M Φ2) (hx : ∀ E M', ¬ Φ2 (.inr E) M') (kr : ∀ v M', Φ2 (.inl v) M' → Ev l G d y (pc + 3) ls (v.toList ++ st) M' bc bs Φ) : Ev l G d y pc ls (av.reverse ++ st) M (bc2 + bc) (bs2 + bs) Φ := by
  refine Ev.run (st := st) (Φ2 := Φ2) ?_ (fun n h a ha => h a (List.mem_append_right _ ha)) kr (fun E M' h => (hx E M' h).elim)
  intro p e s m args below meth c mc ms H locs cells slots ad lsA F x3 hsz hb hcc hss
  exact m_runOf (va_runSN (As := av.map (tr ad)) (rest := st.map (tr ad)) (Ts := lwg) ⟨F.1, F.2.1, F.2.2.2.1, F.2.2.2.2.1, F.2.2.2.2.2.1⟩ (hM.met hx ad (fun a ha => hb a (List.mem_append_left _ (List.mem_reverse.mpr ha)))) ⟨m_callN F.2.2.2.2.2.1 F.2.2.2.2.2.2.2.2.1.2.2.2.2.2.2.2.2.2 hm hl hdd, F.2.2.2.2.2.1 _ hi, trivial⟩
    ⟨m_blind, fun U hU hW => ⟨rfl, by rw [hU]; exact x3, F.2.2.2.2.2.2.2.2.1.warm hW⟩⟩ rfl (by rw [List.length_map]; exact hn) hsz (by show List.map (tr ad) (av.reverse ++ st) = _; rw [List.map_append, List.map_reverse]) (lv_room (m_sum hst)) hd ⟨hcc, hss⟩)
end R4
