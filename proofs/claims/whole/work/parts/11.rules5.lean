/-! ===== rules: new cells ===== -/
theorem m_cell_al (cA : Nat → ClassId) (ad ad' : Nat → Nat) (M : Mm) (t : Nat × Nat) {b : Nat} (hb : b ≠ m_nx M) (hr : ∀ a k, m_r M a k < m_nx M) (he : ∀ a, a < m_nx M → ad' a = ad a) : m_cell cA ad' (m_al M t) b = m_cell cA ad M b := by
  have e1 : m_i (m_al M t) b = m_i M b := funext fun j => by rw [m_i_al, if_neg hb]
  have e2 : m_r (m_al M t) b = m_r M b := funext fun j => by rw [m_r_al, if_neg hb]
  have e3 : m_l (m_al M t) b = m_l M b := funext fun j => by rw [m_l_al, if_neg hb]
  have e4 : m_sh (m_al M t) b = m_sh M b := by rw [m_sh_al, if_neg hb]
  have e5 : ∀ k, tr ad' (.ref (m_r M b k)) = tr ad (.ref (m_r M b k)) := fun k => tr_ext he (bd_r (hr b k) (fun a h => by cases h))
  have e6 : ∀ ci, m_fv ad' (m_al M t) b ci = m_fv ad M b ci := fun ci => funext fun j => by
    unfold m_fv
    rw [e1, e2, e5]
  have e7 : (fun j => rf_ ad' (m_r M b j)) = fun j => rf_ ad (m_r M b j) := funext fun j => by
    unfold rf_
    by_cases h : m_r M b j = 0
    · rw [if_pos h, if_pos h]
    · rw [if_neg h, if_neg h, he _ (hr b j)]
  unfold m_cell
  rw [e4, e1, e2, e3, e6, e7]
theorem m_ws_al (cA : Nat → ClassId) (ad : Nat → Nat) (M : Mm) (t : Nat × Nat) (q : Nat) (hr : ∀ a k, m_r M a k < m_nx M) (hn : 100 ≤ m_nx M) {e : va_E} (he : m_cell cA (va_up ad (m_nx M) q) (m_al M t) (m_nx M) = e) : m_ws cA (va_up ad (m_nx M) q) (m_al M t) = m_ws cA ad M ++ [(q, e)] := by
  have hu : ∀ a, a < m_nx M → va_up ad (m_nx M) q a = ad a := fun a ha => by
    show (if a = m_nx M then q else ad a) = ad a
    rw [if_neg (by omega)]
  have hq : va_up ad (m_nx M) q (m_nx M) = q := by
    show (if m_nx M = m_nx M then q else ad (m_nx M)) = q
    rw [if_pos rfl]
  unfold m_ws
  rw [m_nx_al, show m_nx M + 1 - 100 = (m_nx M - 100) + 1 by omega, List.range_succ, List.map_append]
  congr 1
  · apply List.map_congr_left
    intro i hi
    have hi' := List.mem_range.mp hi
    rw [hu _ (by omega), m_cell_al cA ad _ M t (by omega) hr hu]
  · show [(va_up ad (m_nx M) q (100 + (m_nx M - 100)), m_cell cA (va_up ad (m_nx M) q) (m_al M t) (100 + (m_nx M - 100)))] = _
    rw [show 100 + (m_nx M - 100) = m_nx M by omega, hq, he]
section R5
variable {l : Launch} {G : Gx} {d : Nat} {y : MR} {pc : Nat} {ls st : List Value} {M : Mm} {bc bs : Nat} {Φ : OutV → Mm → Prop}
/-- a new cell of the shape t stands at q -/
theorem Ev.grown {pc2 n : Nat} {t : Nat × Nat} (kk : Ev l G d y pc2 ls (.ref (m_nx M) :: st) (m_al M t) bc bs Φ) (ht : t.1 ≠ 99)
    {p : Program} {e : Env} {s : State} {m : MethodId} {args : Array Value} {below : List Frame} {meth : Method} {c : Code} {mc ms : Nat} {ad0 : Nat → Nat} {n0 : Nat} {H : Heap} {locs : List Loc} {cells slots : Nat} {ad : Nat → Nat} {lsA : Array Slot} (F : FrOK G y p s m args meth c)
    (x1 : cells + (1 + bc) ≤ mc) (x2 : slots + (n + bs) ≤ ms) (x3 : RelE G M ad H) (x5 : Lv ad ls y.2.2.1 lsA) (x6 : bdL (m_nx M) ls) (x7 : bdL (m_nx M) st) (x8 : ∀ a, a < n0 → ad a = ad0 a) (x9 : n0 ≤ m_nx M)
    {q : Nat} {H1 : Heap} {el : va_E} (he : m_cell G.2.1 (va_up ad (m_nx M) q) (m_al M t) (m_nx M) = el) (p1 : va_P G.1 vwCl (m_ws G.2.1 ad M ++ [(q, el)]) H1) (p2 : va_D (fun q => G.2.2.1.size ≤ q) (m_ws G.2.1 ad M ++ [(q, el)])) (p3 : va_S (fun q => G.2.2.1.size ≤ q) s.heap H1 locs) :
    W p l e (rmO d mc ms) s m args below meth c H1 locs (cells + 1) (slots + n) (vx_MQ below (QcO G ad0 n0 Φ) (XcO G ad0 n0 Φ) args s mc ms (fun q => G.2.2.1.size ≤ q)) (F0 m pc2 lsA (.ref q :: st.map (tr ad))) := by
  have hu : ∀ a, a < m_nx M → va_up ad (m_nx M) q a = ad a := fun a ha => by
    show (if a = m_nx M then q else ad a) = ad a
    rw [if_neg (by omega)]
  have hq : va_up ad (m_nx M) q (m_nx M) = q := by
    show (if m_nx M = m_nx M then q else ad (m_nx M)) = q
    rw [if_pos rfl]
  have h100 := x3.2.2.1
  rw [← m_ws_al G.2.1 ad M t q x3.2.2.2.1 h100 he] at p1 p2
  have hR : RelE G (m_al M t) (va_up ad (m_nx M) q) H1 := by
    refine ⟨p1, p2, by rw [m_nx_al]; omega, fun a k => ?_, Nat.le_trans F.2.2.2.2.2.2.2.2.2.2.1 p3.1, fun z hz => ?_, fun a ha => ?_, fun a ha => ?_⟩
    · rw [m_nx_al, m_r_al]
      split
      · omega
      · have := x3.2.2.2.1 a k; omega
    · rw [p3.2.1 z (Nat.lt_of_lt_of_le hz F.2.2.2.2.2.2.2.2.2.2.1) (Nat.not_le.mpr hz)]
      exact F.2.2.2.2.2.2.2.2.2.2.2 z hz
    · rw [hu a (by omega)]
      exact x3.2.2.2.2.2.2.1 a ha
    · rw [m_nx_al] at ha
      rw [m_sh_al, if_neg (by omega)]
      exact x3.2.2.2.2.2.2.2 a (by omega)
  have K := kk p e s m args below meth c mc ms ad0 n0 H1 locs (cells + 1) (slots + n) (va_up ad (m_nx M) q) lsA F ⟨by omega, by omega, hR, p3, x5.ext hu x6, bd_le (by rw [m_nx_al]; omega) x6, bd_r (by rw [m_nx_al]; omega) (bd_le (by rw [m_nx_al]; omega) x7), fun a ha => (hu a (by omega)).trans (x8 a ha), by rw [m_nx_al]; omega⟩
  rw [List.map_cons, tr_extL hu x7] at K
  have e1 : tr (va_up ad (m_nx M) q) (.ref (m_nx M)) = .ref q := by
    obtain ⟨z, hz⟩ : ∃ z, m_nx M = z + 1 := ⟨m_nx M - 1, by omega⟩
    rw [hz] at hq ⊢
    show Value.ref (va_up ad (z + 1) q (z + 1)) = _
    rw [hq]
  rw [e1] at K
  exact K
theorem m_arrId {s : State} {cA cB : ClassId} {nm : String} (h1 : s.vm.findClass nm = some cA) (h2 : s.vm.findClass nm = some cB) : cA = cB := Option.some.inj (h1.symm.trans h2)
theorem Ev.newI {n : Int32} {N : Nat} (hd : decode y.2.1 pc = .ok (.newarray .int, 2)) (hw : Cond.arrayClass .int ∈ lwg) (hn : ¬ n < 0) (hN : n.toNatClampNeg = N) (hb : N * 4 ≤ 536870912) (kk : Ev l G d y (pc + 2) ls (.ref (m_nx M) :: st) (m_al M (20, N)) bc bs Φ) : Ev l G d y pc ls (.int n :: st) M (1 + bc) (N + bs) Φ := by
  intro p e s m args below meth c mc ms ad0 n0 H locs cells slots ad lsA F X0
  obtain ⟨x1, x2, x3, x4, x5, x6, x7, x8, x9⟩ := id X0
  refine va_newa (D := G.1) (cl := vwCl) (atype := .int) (ty := .int) (a0 := (N, .inl (fun _ => 0))) F.1 F.2.1 (F.2.2.2.2.2.1 _ hw) rfl F.2.2.2.2.2.2.2.2.1.1 x3.1 x3.2.1 x4 (fun q hq => Nat.le_trans F.2.2.2.2.2.2.2.2.2.2.1 hq) (fun cA => rfl) hn hN hb (show cells + 1 ≤ mc by omega) (show slots + N ≤ ms by omega) hd fun q cA H1 hK p1 p2 p3 => ?_
  have hid : cA = G.2.1 20 := m_arrId (hK.2 7 (cA, .int) rfl).2 (F.2.2.2.2.2.2.2.2.1.1.2 0 (G.2.1 20, .int) rfl).2
  subst hid
  refine Ev.grown kk (by simp) F x1 x2 x3 x5 x6 (bd_t x7) x8 x9 ?_ p1 p2 p3
  rw [m_cell_I G.2.1 _ (m_al M (20, N)) (t := 20) (n := N) (by rw [m_sh_al, if_pos rfl]) (by decide) (by decide)]
  rw [show m_i (m_al M (20, N)) (m_nx M) = fun _ => 0 from funext fun j => by rw [m_i_al, if_pos rfl]]
theorem Ev.newB {n : Int32} {N : Nat} (hd : decode y.2.1 pc = .ok (.newarray .byte, 2)) (hw : Cond.arrayClass .byte ∈ lwg) (hn : ¬ n < 0) (hN : n.toNatClampNeg = N) (hb : N * 1 ≤ 536870912) (kk : Ev l G d y (pc + 2) ls (.ref (m_nx M) :: st) (m_al M (21, N)) bc bs Φ) : Ev l G d y pc ls (.int n :: st) M (1 + bc) (N + bs) Φ := by
  intro p e s m args below meth c mc ms ad0 n0 H locs cells slots ad lsA F X0
  obtain ⟨x1, x2, x3, x4, x5, x6, x7, x8, x9⟩ := id X0
  refine va_newa (D := G.1) (cl := vwCl) (atype := .byte) (ty := .byte) (a0 := (N, .inl (fun _ => 0))) F.1 F.2.1 (F.2.2.2.2.2.1 _ hw) rfl F.2.2.2.2.2.2.2.2.1.1 x3.1 x3.2.1 x4 (fun q hq => Nat.le_trans F.2.2.2.2.2.2.2.2.2.2.1 hq) (fun cA => rfl) hn hN hb (show cells + 1 ≤ mc by omega) (show slots + N ≤ ms by omega) hd fun q cA H1 hK p1 p2 p3 => ?_
  have hid : cA = G.2.1 21 := m_arrId (hK.2 7 (cA, .byte) rfl).2 (F.2.2.2.2.2.2.2.2.1.1.2 1 (G.2.1 21, .byte) rfl).2
  subst hid
  refine Ev.grown kk (by simp) F x1 x2 x3 x5 x6 (bd_t x7) x8 x9 ?_ p1 p2 p3
  rw [m_cell_I G.2.1 _ (m_al M (21, N)) (t := 21) (n := N) (by rw [m_sh_al, if_pos rfl]) (by decide) (by decide)]
  rw [show m_i (m_al M (21, N)) (m_nx M) = fun _ => 0 from funext fun j => by rw [m_i_al, if_pos rfl]]
theorem Ev.newL {n : Int32} {N : Nat} (hd : decode y.2.1 pc = .ok (.newarray .long, 2)) (hw : Cond.arrayClass .long ∈ lwg) (hn : ¬ n < 0) (hN : n.toNatClampNeg = N) (hb : N * 8 ≤ 536870912) (kk : Ev l G d y (pc + 2) ls (.ref (m_nx M) :: st) (m_al M (22, N)) bc bs Φ) : Ev l G d y pc ls (.int n :: st) M (1 + bc) (N + bs) Φ := by
  intro p e s m args below meth c mc ms ad0 n0 H locs cells slots ad lsA F X0
  obtain ⟨x1, x2, x3, x4, x5, x6, x7, x8, x9⟩ := id X0
  refine va_newa (D := G.1) (cl := vwCl) (atype := .long) (ty := .long) (a0 := (N, .inr (.inl (fun _ => 0)))) F.1 F.2.1 (F.2.2.2.2.2.1 _ hw) rfl F.2.2.2.2.2.2.2.2.1.1 x3.1 x3.2.1 x4 (fun q hq => Nat.le_trans F.2.2.2.2.2.2.2.2.2.2.1 hq) (fun cA => rfl) hn hN hb (show cells + 1 ≤ mc by omega) (show slots + N ≤ ms by omega) hd fun q cA H1 hK p1 p2 p3 => ?_
  have hid : cA = G.2.1 22 := m_arrId (hK.2 7 (cA, .long) rfl).2 (F.2.2.2.2.2.2.2.2.1.1.2 2 (G.2.1 22, .long) rfl).2
  subst hid
  refine Ev.grown kk (by simp) F x1 x2 x3 x5 x6 (bd_t x7) x8 x9 ?_ p1 p2 p3
  rw [m_cell_L G.2.1 _ (m_al M (22, N)) (n := N) (by rw [m_sh_al, if_pos rfl])]
  rw [show m_l (m_al M (22, N)) (m_nx M) = fun _ => 0 from funext fun j => by rw [m_l_al, if_pos rfl]]
/-- new C[n] for the classes of Calls, Images, Words -/
theorem Ev.newQ {idx t t0 : Nat} {C : String} {n : Int32} {N : Nat} (hd : decode y.2.1 pc = .ok (.anewarray idx, 3)) (ht : 22 < t ∧ t < 99) (hC : ∀ cA, (kTys cA)[t0]? = some (cA t, .object C)) (hcl : Cond.classLink y.1.cls idx C ∈ lwg) (hov : Cond.arrayOver (.object C) ∈ lwx) (hn : ¬ n < 0) (hN : n.toNatClampNeg = N) (hb : N * 4 ≤ 536870912) (kk : Ev l G d y (pc + 3) ls (.ref (m_nx M) :: st) (m_al M (t, N)) bc bs Φ) : Ev l G d y pc ls (.int n :: st) M (1 + bc) (N + bs) Φ := by
  intro p e s m args below meth c mc ms ad0 n0 H locs cells slots ad lsA F X0
  obtain ⟨x1, x2, x3, x4, x5, x6, x7, x8, x9⟩ := id X0
  have hov' : va_AO C s := F.2.2.2.2.2.2.2.2.1.2.2.2.2.2.2.2.2.2 _ hov
  refine va_newq (D := G.1) (cl := vwCl) F.1 F.2.1 F.2.2.2.2.1 (F.2.2.2.2.2.1 _ hcl) hov' F.2.2.2.2.2.2.2.2.1.1 x3.1 x3.2.1 x4 (fun q hq => Nat.le_trans F.2.2.2.2.2.2.2.2.2.2.1 hq) hn hN hb (show cells + 1 ≤ mc by omega) (show slots + N ≤ ms by omega) hd fun q cA H1 hK p1 p2 p3 => ?_
  have hid : cA = G.2.1 t := by
    obtain ⟨_, _, _, _, _, g1⟩ := (hK.2 7 (cA, .object C) rfl).2
    obtain ⟨_, _, _, _, _, g2⟩ := (F.2.2.2.2.2.2.2.2.1.1.2 t0 (G.2.1 t, .object C) (hC G.2.1)).2
    exact m_arrId g1 g2
  subst hid
  refine Ev.grown kk (show t ≠ 99 by omega) F x1 x2 x3 x5 x6 (bd_t x7) x8 x9 ?_ p1 p2 p3
  rw [m_cell_R G.2.1 _ (m_al M (t, N)) (t := t) (n := N) (by rw [m_sh_al, if_pos rfl]) ht.1]
  rw [show (fun j => rf_ (va_up ad (m_nx M) q) (m_r (m_al M (t, N)) (m_nx M) j)) = fun _ => none from funext fun j => by rw [m_r_al, if_pos rfl]; rfl]
theorem Ev.newO {idx ci : Nat} {C : String} {T : u_T} (hd : decode y.2.1 pc = .ok (.new idx, 3)) (hc : vwCl[ci]? = some (C, T, nFd ci)) (hci : ci < 12) (hcl : Cond.classLink y.1.cls idx C ∈ lwg) (hins : Cond.instantiable C (nFd ci) ∈ lwg) (hini : Cond.initialized C ∈ lwg) (kk : Ev l G d y (pc + 3) ls (.ref (m_nx M) :: st) (m_al M (ci, 0)) bc bs Φ) : Ev l G d y pc ls st M (1 + bc) (nFd ci + bs) Φ := by
  intro p e s m args below meth c mc ms ad0 n0 H locs cells slots ad lsA F X0
  obtain ⟨x1, x2, x3, x4, x5, x6, x7, x8, x9⟩ := id X0
  refine va_new (D := G.1) (cl := vwCl) (fs := (List.range (nFd ci)).map (fun j => defaultValue (tyC ci j))) F.1 F.2.1 F.2.2.2.2.2.1 (in_C ci hci _ hc) (tyC ci) (ty_C ci hci _ hc) F.2.2.2.2.1 (F.2.2.2.2.2.1 _ hcl) (F.2.2.2.2.2.1 _ hins) (F.2.2.2.2.2.1 _ hini) F.2.2.2.2.2.2.2.2.1.1 x3.1 x3.2.1 x4 (fun q hq => Nat.le_trans F.2.2.2.2.2.2.2.2.2.2.1 hq) hc (fun j hj => ?_) (show cells + 1 ≤ mc by omega) (show slots + nFd ci ≤ ms by omega) hd fun q H1 p1 p2 p3 => ?_
  · show _ = ((List.range (nFd ci)).map (fun j => defaultValue (tyC ci j))).getD j Value.null
    rw [List.getD_eq_getElem?_getD, List.getElem?_map, List.getElem?_range hj]
    rfl
  · refine Ev.grown kk (show ci ≠ 99 by omega) F x1 x2 x3 x5 x6 x7 x8 x9 ?_ p1 p2 p3
    rw [m_cell_O G.2.1 _ (m_al M (ci, 0)) (ci := ci) (by rw [m_sh_al, if_pos rfl]) hci]
    congr 2
    apply List.map_congr_left
    intro j hj
    unfold m_fv
    rw [m_i_al, if_pos rfl, m_r_al, if_pos rfl]
    have key : ∀ r : vw_C, vwCl[ci]? = some r → ∀ k, k < r.2.2 → (if isI (tyC ci k) = true then Value.int 0 else Value.null) = defaultValue (tyC ci k) := by
      intro r hr k hk
      have hall : ∀ i, i < 12 → ∀ k, k < nFd i → (if isI (tyC i k) = true then Value.int 0 else Value.null) = defaultValue (tyC i k) := by decide +kernel
      rw [hc] at hr
      cases hr
      exact hall ci hci k hk
    exact key _ hc j (List.mem_range.mp hj)
end R5
