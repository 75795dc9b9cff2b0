/-! ===== rules: new int[n][k]; a long into a local ===== -/
def m_mal (M : Mm) (N K : Nat) : Mm := (fun b j => if M.2.2.2.2 ≤ b then 0 else M.1 b j, fun b j => if b = M.2.2.2.2 then (if j < N then M.2.2.2.2 + 1 + j else 0) else if M.2.2.2.2 ≤ b then 0 else M.2.1 b j, fun b j => if M.2.2.2.2 ≤ b then 0 else M.2.2.1 b j,
  fun b => if b = M.2.2.2.2 then (33, N) else if M.2.2.2.2 < b ∧ b < M.2.2.2.2 + 1 + N then (20, K) else M.2.2.2.1 b, M.2.2.2.2 + 1 + N)
theorem m_i_mal (M : Mm) (N K b j : Nat) : m_i (m_mal M N K) b j = if m_nx M ≤ b then 0 else m_i M b j := rfl
theorem m_r_mal (M : Mm) (N K b j : Nat) : m_r (m_mal M N K) b j = if b = m_nx M then (if j < N then m_nx M + 1 + j else 0) else if m_nx M ≤ b then 0 else m_r M b j := rfl
theorem m_l_mal (M : Mm) (N K b j : Nat) : m_l (m_mal M N K) b j = if m_nx M ≤ b then 0 else m_l M b j := rfl
theorem m_sh_mal (M : Mm) (N K b : Nat) : m_sh (m_mal M N K) b = if b = m_nx M then (33, N) else if m_nx M < b ∧ b < m_nx M + 1 + N then (20, K) else m_sh M b := rfl
theorem m_nx_mal (M : Mm) (N K : Nat) : m_nx (m_mal M N K) = m_nx M + 1 + N := rfl
theorem Lv.sto2 {ad : Nat → Nat} {ls : List Value} {n : Nat} {lsA : Array Slot} {i : Nat} {x : Int64} (h : lv_has lsA n ((i, Value.long x) :: (prs ad ls).filter (fun q => !(q.1 == i) && (!(q.1 == i + 1) && !(q.1 + 1 == i && q.2.category == 2))))) : Lv ad ((sto ls i (.long x)).set (i + 1) .null) n lsA := by
  refine ⟨h.1, h.2.1, fun j w hj hw => ?_⟩
  by_cases e1 : j = i + 1
  · subst e1
    have hlt := (List.getElem?_eq_some_iff.mp hj).1
    rw [List.getElem?_set_self (by simpa using hlt)] at hj
    exact absurd (Option.some.inj hj).symm hw
  · rw [List.getElem?_set_ne (Ne.symm e1)] at hj
    by_cases e : j = i
    · subst e
      have : w = .long x := by
        unfold sto at hj
        have hlt := (List.getElem?_eq_some_iff.mp hj).1
        rw [List.getElem?_set_self (by simpa using hlt)] at hj
        exact (Option.some.inj hj).symm
      subst this
      exact h.2.2 (j, Value.long x) List.mem_cons_self
    · have key : ls[j]? = some w ∧ ¬ (j + 1 = i ∧ w.category = 2) := by
        unfold sto at hj
        rw [List.getElem?_set_ne (Ne.symm e)] at hj
        match i, hj, e with
        | 0, hj, _ => exact ⟨hj, fun q => by cases q.1⟩
        | k + 1, hj, e =>
          cases hk : ls[k]? with
          | none =>
            simp only [hk] at hj
            exact ⟨hj, fun q => by have : j = k := by omega
                                   subst this; rw [hk] at hj; cases hj⟩
          | some u =>
            simp only [hk] at hj
            by_cases hc : u.category = 2
            · rw [if_pos hc] at hj
              by_cases ej : j = k
              · subst ej
                have hlt := (List.getElem?_eq_some_iff.mp hk).1
                rw [List.getElem?_set_self hlt] at hj
                exact absurd (Option.some.inj hj).symm hw
              · rw [List.getElem?_set_ne (Ne.symm ej)] at hj
                exact ⟨hj, fun q => ej (by omega)⟩
            · rw [if_neg hc] at hj
              refine ⟨hj, fun q => ?_⟩
              have : j = k := by omega
              subst this
              rw [hk] at hj
              cases hj
              exact hc q.2
      refine h.2.2 (j, tr ad w) (List.mem_cons_of_mem _ (List.mem_filter.mpr ⟨prs_mem key.1 hw, ?_⟩))
      simp only [Bool.and_eq_true, Bool.not_eq_true', beq_eq_false_iff_ne, ne_eq, Bool.and_eq_false_iff, tr_cat]
      refine ⟨e, e1, ?_⟩
      by_cases h1 : j + 1 = i
      · exact Or.inr fun q => key.2 ⟨h1, q⟩
      · exact Or.inl h1
section R8
variable {l : Launch} {G : Gx} {d : Nat} {y : MR} {pc : Nat} {ls st : List Value} {M : Mm} {bc bs : Nat} {Φ : OutV → Mm → Prop}
theorem bd_set {n : Nat} {l : List Value} {i : Nat} (h : bdL n l) : bdL n (l.set i .null) := fun a ha => (List.mem_or_eq_of_mem_set ha).elim (h a) (fun e => by cases e)
theorem Ev.lstore_n {j : Fin 4} {x : Int64} (hd : decode y.2.1 pc = .ok (.lstore_n j, 1)) (hi : (j : Nat) + 1 < y.2.2.1) (k : Ev l G d y (pc + 1) ((sto ls j (.long x)).set ((j : Nat) + 1) .null) st M bc bs Φ) : Ev l G d y pc ls (.long x :: st) M bc bs Φ := by
  intro p e s m args below meth c mc ms ad0 n0 H locs cells slots ad lsA F X
  obtain ⟨x1, x2, x3, x4, x5, x6, x7, x8, x9⟩ := id X
  refine lv_lstore_n F.1 F.2.1 hd rfl x5.has hi rfl fun lsB hB => ?_
  exact k p e s m args below meth c mc ms ad0 n0 H locs cells slots ad lsB F ⟨x1, x2, x3, x4, Lv.sto2 hB, bd_set (bd_sto x6 (bd_l (fun a h => by cases h))), bd_t x7, x8, x9⟩
theorem Ev.lstore {i : Nat} {x : Int64} (hd : decode y.2.1 pc = .ok (.lstore i, 2)) (hi : i + 1 < y.2.2.1) (k : Ev l G d y (pc + 2) ((sto ls i (.long x)).set (i + 1) .null) st M bc bs Φ) : Ev l G d y pc ls (.long x :: st) M bc bs Φ := by
  intro p e s m args below meth c mc ms ad0 n0 H locs cells slots ad lsA F X
  obtain ⟨x1, x2, x3, x4, x5, x6, x7, x8, x9⟩ := id X
  refine lv_lstore F.1 F.2.1 hd x5.has hi rfl fun lsB hB => ?_
  exact k p e s m args below meth c mc ms ad0 n0 H locs cells slots ad lsB F ⟨x1, x2, x3, x4, Lv.sto2 hB, bd_set (bd_sto x6 (bd_l (fun a h => by cases h))), bd_t x7, x8, x9⟩
theorem Ev.mna {idx N K : Nat} {n k : Int32} (hd : decode y.2.1 pc = .ok (.multianewarray idx 2, 4)) (hcl : Cond.classLink y.1.cls idx ("[" ++ (FieldType.array .int).toString) ∈ lwg) (hov : Cond.arrayOver (.array .int) ∈ lwx) (har : Cond.arrayClass .int ∈ lwg) (hn : ¬ n < 0) (hk : ¬ k < 0) (hN : n.toNatClampNeg = N) (hK : k.toNatClampNeg = K) (hb1 : N * 4 ≤ 536870912) (hb2 : K * 4 ≤ 536870912)
    (kk : Ev l G d y (pc + 4) ls (.ref (m_nx M) :: st) (m_mal M N K) bc bs Φ) : Ev l G d y pc ls (.int k :: .int n :: st) M (1 + N + bc) (N + N * K + bs) Φ := by
  intro p e s m args below meth c mc ms ad0 n0 H locs cells slots ad lsA F X0
  obtain ⟨x1, x2, x3, x4, x5, x6, x7, x8, x9⟩ := id X0
  subst hN
  subst hK
  intro T hT Xs
  have hov' : (Cond.arrayOver (.array .int)).before args s = true := F.2.2.2.2.2.2.2.2.1.2.2.2.2.2.2.2.2.2 _ hov
  obtain ⟨vm₁, cA, comp, -, fA, fC, hO, -, X', step⟩ := Xs.multianewarray2F (ty := .int) F.1 F.2.2.2.2.1 (F.2.2.2.2.2.1 _ hcl) hov' (F.2.2.2.2.2.1 _ har) (g := F0 m pc lsA ((Value.int k :: Value.int n :: st).map (tr ad))) rfl (by rw [F.2.1]; exact hd) rfl hn hk hb1 hb2 (by omega) rfl rfl (show cells + (1 + n.toNatClampNeg) ≤ mc by omega) (show slots + (n.toNatClampNeg + n.toNatClampNeg * k.toNatClampNeg) ≤ ms by omega)
  have hcA : cA = G.2.1 33 := m_arrId fA (F.2.2.2.2.2.2.2.2.1.1.2 6 (G.2.1 33, .array .int) rfl).2
  have hcy : comp = G.2.1 20 := m_arrId fC (F.2.2.2.2.2.2.2.2.1.1.2 0 (G.2.1 20, .int) rfl).2
  subst hcA
  subst hcy
  generalize n.toNatClampNeg = N at *
  generalize k.toNatClampNeg = K at *
  generalize hF : Jvm.Free.Multi.fill (T.setVm vm₁) (G.2.1 33) (G.2.1 20) N K (defaultValue .int) N = FT at X' step
  have hTh : (T.setVm vm₁).heap = H := hT
  obtain ⟨f1, f2, -, -⟩ := Jvm.Free.Multi.fill_facts (T.setVm vm₁) (G.2.1 33) (G.2.1 20) N K (defaultValue .int) N
  rw [hF, hTh] at f1 f2
  have hold : ∀ x : Nat, x < H.size → FT.heap[x]? = H[x]? := fun x hx => by
    have := Jvm.Free.Multi.fill_old (T.setVm vm₁) (G.2.1 33) (G.2.1 20) N K (defaultValue .int) (a := x) (by rw [hTh]; exact hx) N
    rw [hF, hTh] at this
    exact this
  have hrow : ∀ j : Nat, j < N → FT.heap[H.size + 1 + j]? = some (vp_cell (G.2.1 20) (K, .inl (fun _ => 0))) := fun j hj => by
    have := Jvm.Free.Multi.fill_inner (T.setVm vm₁) (G.2.1 33) (G.2.1 20) N K (defaultValue .int) N j hj
    rw [hF, hTh] at this
    rw [this]
    show some ({ cls := G.2.1 20, slots := Array.replicate K (Value.int 0), vm := .none } : Cell) = _
    rw [arrV_new]
    rfl
  have hout : Jvm.Free.Multi.outerC (G.2.1 33) N H.size N = vp_cell (G.2.1 33) (N, .inr (.inr (.inr (.inr (fun i => if i < N then some (H.size + 1 + i) else none))))) := by
    rw [vp_cell_q]
    exact vr_outer (G.2.1 33) N H.size N
  rw [hout] at f2
  have h100 := x3.2.2.1
  let ad' : Nat → Nat := fun a => if a < m_nx M then ad a else H.size + (a - m_nx M)
  have hu : ∀ a, a < m_nx M → ad' a = ad a := fun a ha => if_pos ha
  have hv : ∀ a, ¬ a < m_nx M → ad' a = H.size + (a - m_nx M) := fun a ha => if_neg ha
  have hcell : ∀ b, b < m_nx M → m_cell G.2.1 ad' (m_mal M N K) b = m_cell G.2.1 ad M b := by
    intro b hb
    have e1 : m_i (m_mal M N K) b = m_i M b := funext fun j => by rw [m_i_mal, if_neg (by omega)]
    have e2 : m_r (m_mal M N K) b = m_r M b := funext fun j => by rw [m_r_mal, if_neg (by omega), if_neg (by omega)]
    have e3 : m_l (m_mal M N K) b = m_l M b := funext fun j => by rw [m_l_mal, if_neg (by omega)]
    have e4 : m_sh (m_mal M N K) b = m_sh M b := by rw [m_sh_mal, if_neg (by omega), if_neg (by omega)]
    have e5 : ∀ k, tr ad' (.ref (m_r M b k)) = tr ad (.ref (m_r M b k)) := fun k => tr_ext hu (bd_r (x3.2.2.2.1 b k) (fun a h => by cases h))
    have e6 : ∀ ci, m_fv ad' (m_mal M N K) b ci = m_fv ad M b ci := fun ci => funext fun j => by
      unfold m_fv
      rw [e1, e2, e5]
    have e7 : (fun j => rf_ ad' (m_r M b j)) = fun j => rf_ ad (m_r M b j) := funext fun j => by
      unfold rf_
      by_cases h : m_r M b j = 0
      · rw [if_pos h, if_pos h]
      · rw [if_neg h, if_neg h, hu _ (x3.2.2.2.1 b j)]
    unfold m_cell
    rw [e4, e1, e2, e3, e6, e7]
  have hat : ∀ (i : Nat) (q : Nat × va_E), (m_ws G.2.1 ad' (m_mal M N K))[i]? = some q → 100 + i < m_nx M + 1 + N ∧ q = (ad' (100 + i), m_cell G.2.1 ad' (m_mal M N K) (100 + i)) := by
    intro i q hq
    unfold m_ws at hq
    rw [List.getElem?_map, m_nx_mal] at hq
    by_cases hl : i < m_nx M + 1 + N - 100
    · rw [List.getElem?_range hl] at hq
      exact ⟨by omega, (Option.some.inj hq).symm⟩
    · rw [List.getElem?_eq_none (by rw [List.length_range]; omega)] at hq
      cases hq
  have hltO : ∀ a, 100 ≤ a → a < m_nx M → ad a < H.size ∧ G.2.2.1.size ≤ ad a := fun a h1 h2 =>
    ⟨(x3.1 _ _ (m_ws_at G.2.1 ad M ⟨h1, h2⟩)).lt, x3.2.1.2 _ _ (m_ws_at G.2.1 ad M ⟨h1, h2⟩)⟩
  have hP : va_P G.1 vwCl (m_ws G.2.1 ad' (m_mal M N K)) FT.heap := by
    intro i q hq
    obtain ⟨hl, rfl⟩ := hat i q hq
    by_cases h1 : 100 + i < m_nx M
    · rw [hu _ h1, hcell _ h1]
      exact (x3.1 _ _ (m_ws_at G.2.1 ad M ⟨by omega, h1⟩)).kept (hold _ (hltO _ (by omega) h1).1)
    · rw [hv _ h1]
      by_cases h2 : 100 + i = m_nx M
      · rw [h2, Nat.sub_self, Nat.add_zero, m_cell_R G.2.1 ad' (m_mal M N K) (t := 33) (n := N) (by rw [m_sh_mal, if_pos rfl]) (by decide)]
        have e9 : (fun j => rf_ ad' (m_r (m_mal M N K) (m_nx M) j)) = fun i => if i < N then some (H.size + 1 + i) else none := funext fun j => by
          rw [m_r_mal, if_pos rfl]
          by_cases hj : j < N
          · rw [if_pos hj, if_pos hj]
            unfold rf_
            rw [if_neg (by omega), hv _ (by omega)]
            congr 1
            omega
          · rw [if_neg hj, if_neg hj]
            rfl
        rw [e9]
        exact f2
      · rw [m_cell_I G.2.1 ad' (m_mal M N K) (t := 20) (n := K) (by rw [m_sh_mal, if_neg h2, if_pos (by omega)]) (by decide) (by decide)]
        have e9 : m_i (m_mal M N K) (100 + i) = fun _ => 0 := funext fun j => by rw [m_i_mal, if_pos (by omega)]
        rw [e9]
        have := hrow (100 + i - m_nx M - 1) (by omega)
        rw [show H.size + 1 + (100 + i - m_nx M - 1) = H.size + (100 + i - m_nx M) by omega] at this
        exact this
  have hbase := x3.2.2.2.2.1
  have hD : va_D (fun q => G.2.2.1.size ≤ q) (m_ws G.2.1 ad' (m_mal M N K)) := by
    refine ⟨fun i j q r hi hj hqr => ?_, fun i q hi => ?_⟩
    · obtain ⟨l1, rfl⟩ := hat i q hi
      obtain ⟨l2, rfl⟩ := hat j r hj
      dsimp only at hqr
      by_cases h1 : 100 + i < m_nx M <;> by_cases h2 : 100 + j < m_nx M
      · rw [hu _ h1, hu _ h2] at hqr
        have := x3.2.1.1 _ _ _ _ (m_ws_at G.2.1 ad M ⟨by omega, h1⟩) (m_ws_at G.2.1 ad M ⟨by omega, h2⟩) hqr
        omega
      · rw [hu _ h1, hv _ h2] at hqr
        have := (hltO _ (by omega) h1).1
        omega
      · rw [hv _ h1, hu _ h2] at hqr
        have := (hltO _ (by omega) h2).1
        omega
      · rw [hv _ h1, hv _ h2] at hqr
        omega
    · obtain ⟨l1, rfl⟩ := hat i q hi
      show G.2.2.1.size ≤ ad' (100 + i)
      by_cases h1 : 100 + i < m_nx M
      · rw [hu _ h1]
        exact (hltO _ (by omega) h1).2
      · rw [hv _ h1]
        omega
  have hsz : H.size ≤ FT.heap.size := by rw [f1]; omega
  have hR : RelE G (m_mal M N K) ad' FT.heap := by
    refine ⟨hP, hD, by rw [m_nx_mal]; omega, fun a k => ?_, by omega, fun q hq => ?_, fun a ha => ?_, fun a ha => ?_⟩
    · rw [m_nx_mal, m_r_mal]
      split
      · split <;> omega
      · split
        · omega
        · have := x3.2.2.2.1 a k; omega
    · rw [hold q (by omega)]
      exact x3.2.2.2.2.2.1 q hq
    · rw [hu a (by omega)]
      exact x3.2.2.2.2.2.2.1 a ha
    · rw [m_nx_mal] at ha
      rw [m_sh_mal, if_neg (by omega), if_neg (by omega)]
      exact x3.2.2.2.2.2.2.2 a (by omega)
  have hS : va_S (fun q => G.2.2.1.size ≤ q) s.heap FT.heap locs := ⟨Nat.le_trans x4.1 hsz, fun q h1 h2 => (hold q (Nat.lt_of_lt_of_le h1 x4.1)).trans (x4.2.1 q h1 h2), x4.2.2⟩
  have KK := kk p e s m args below meth c mc ms ad0 n0 FT.heap locs (cells + 1 + N) (slots + N + N * K) ad' lsA F ⟨by omega, by omega, hR, hS, x5.ext hu x6, bd_le (by rw [m_nx_mal]; omega) x6, bd_r (by rw [m_nx_mal]; omega) (bd_le (by rw [m_nx_mal]; omega) (bd_t (bd_t x7))), fun a ha => (hu a (by omega)).trans (x8 a ha), by rw [m_nx_mal]; omega⟩
  obtain ⟨t, a1, b1⟩ := KK FT rfl X'
  refine ⟨t, step t ?_, b1⟩
  have e1 : T.heap.size = H.size := by rw [hT]
  have e2 : tr ad' (.ref (m_nx M)) = .ref H.size := by
    obtain ⟨z, hz⟩ : ∃ z, m_nx M = z + 1 := ⟨m_nx M - 1, by omega⟩
    have h3 := hv (m_nx M) (by omega)
    rw [Nat.sub_self, Nat.add_zero] at h3
    rw [hz] at h3 ⊢
    show Value.ref (ad' (z + 1)) = _
    rw [h3]
  rw [List.map_cons, tr_extL hu (bd_t (bd_t x7)), e2] at a1
  rw [e1]
  exact a1
end R8
