/-! ===== rules: throws, a word into a row of words, rows of rows, a copy ===== -/
theorem ot_good {w : Cond} (h : goodWord w = true) : vx_ot w = true := by
  unfold vx_ot
  rw [h, Bool.or_true]
theorem as_self (vm : Vm) (c : ClassId) : vm.assignable c c = true := by
  show vm.assignableAux _ c c = true
  unfold Vm.assignableAux
  simp
section R7
variable {l : Launch} {G : Gx} {d : Nat} {y : MR} {pc : Nat} {ls st : List Value} {M : Mm} {bc bs : Nat} {Φ : OutV → Mm → Prop}
/-- 'throw new X(text)' out of the method -/
theorem Ev.throwS {cls text : String} {ik is ic : Nat} (hl : l.stackTraces = false) (hcls : Bundle.fit cls = true)
    (hk : Cond.classLink y.1.cls ik cls ∈ lwg) (hini : Cond.initialized cls ∈ lwg) (hstr : (y.1.cls, is, text) ∈ f_R) (hat : (vx_atS y.1.cls ic cls ["java/lang/RuntimeException", "java/lang/Exception"]).all (fun w => (lwg.contains w || lwx.contains w) && vx_ot w) = true)
    (d0 : decode y.2.1 pc = .ok (.new ik, 3)) (d3 : decode y.2.1 (pc + 3) = .ok (.dup, 1)) (d4 : (decode y.2.1 (pc + 4) = .ok (.ldc is, 2) ∧ decode y.2.1 (pc + 6) = .ok (.invokespecial ic, 3) ∧ decode y.2.1 (pc + 9) = .ok (.athrow, 1)) ∨ (decode y.2.1 (pc + 4) = .ok (.ldc_w is, 3) ∧ decode y.2.1 (pc + 7) = .ok (.invokespecial ic, 3) ∧ decode y.2.1 (pc + 10) = .ok (.athrow, 1)))
    (hst : (st.map fun v => v.category).sum ≤ 8) (hd6 : 6 ≤ d) (hbc : 1 ≤ bc) (hbs : 6 ≤ bs) (hq : Φ (.inr cls) M) : Ev l G d y pc ls st M bc bs Φ := by
  intro p e s m args below meth c mc ms ad0 n0 H locs cells slots ad lsA F X0
  obtain ⟨x1, x2, x3, x4, x5, x6, x7, x8, x9⟩ := id X0
  have hin : ∀ w ∈ vx_atS y.1.cls ic cls ["java/lang/RuntimeException", "java/lang/Exception"], w ∈ lwg ∨ w ∈ lwx := fun w hw => by
    have h := List.all_eq_true.mp hat w hw
    rw [Bool.and_eq_true, Bool.or_eq_true] at h
    exact h.1.imp List.contains_iff_mem.mp List.contains_iff_mem.mp
  have hot : ∀ w ∈ vx_atS y.1.cls ic cls ["java/lang/RuntimeException", "java/lang/Exception"], vx_ot w = true := fun w hw => by
    have h := List.all_eq_true.mp hat w hw
    rw [Bool.and_eq_true] at h
    exact h.2
  have hat' : ∀ w ∈ vx_atS y.1.cls ic cls ["java/lang/RuntimeException", "java/lang/Exception"], w.before args s = true := fun w hw => by
    rcases hin w hw with h | h
    · exact F.2.2.2.2.2.1 w h
    · have h1 : w.before #[] s = true := F.2.2.2.2.2.2.2.2.1.2.2.2.2.2.2.2.2.2 w h
      exact vx_ot_at (State.WarmedH.refl s) rfl (hot w hw) h1
  have hgood : ∀ w ∈ Cond.classLink y.1.cls ik cls :: Cond.initialized cls :: vx_atS y.1.cls ic cls ["java/lang/RuntimeException", "java/lang/Exception"], vx_ot w = true := fun w hw => by
    rcases List.mem_cons.mp hw with e | hw
    · rw [e]; exact ot_good (List.mem_filter.mp hk).2
    · rcases List.mem_cons.mp hw with e | hw
      · rw [e]; exact ot_good (List.mem_filter.mp hini).2
      · exact hot w hw
  obtain ⟨sa, hsa⟩ := F.2.2.2.2.2.2.2.2.1.2.2.2.2.2.2.1 _ hstr
  have hU := F.2.2.2.2.2.2.2.2.1.2.2.2.2.2.2.2.1.kept (m_keepH F)
  have hN := F.2.2.2.2.2.2.2.2.1.2.2.2.2.2.2.2.2.1.kept (m_keepH F)
  have hx : ∀ t : State, s.vm.Alike t.vm → H.size ≤ t.heap.size → (∀ q : Nat, q < H.size → t.heap[q]? = H[q]?) → XcO G ad0 n0 Φ cls s t := fun t _ h1 h2 => by
    refine ⟨M, ad, hq, x8, x9, ⟨x3.1.kept (fun k q hk => h2 q.1 ((x3.1 k q hk).lt)), x3.2.1, x3.2.2.1, x3.2.2.2.1, Nat.le_trans x3.2.2.2.2.1 h1, fun q hq => ?_, x3.2.2.2.2.2.2.1, x3.2.2.2.2.2.2.2⟩, Nat.le_trans x4.1 h1⟩
    rw [h2 q (Nat.lt_of_lt_of_le hq x3.2.2.2.2.1)]
    exact x3.2.2.2.2.2.1 q hq
  have hsum := m_sum (ad := ad) hst
  have hlen : (["java/lang/RuntimeException", "java/lang/Exception"] : List String).length = 2 := rfl
  rcases d4 with ⟨e1, e2, e3⟩ | ⟨e1, e2, e3⟩
  · exact vx_throwS F.1 F.2.1 hl F.2.2.2.2.1 hcls (by decide +kernel) (F.2.2.2.2.2.1 _ hk) (F.2.2.2.2.2.1 _ hini) hsa hat' hgood hU hN x4 (x5.1.trans F.2.2.2.1.symm) d0 d3 e1 e2 e3 (fun x hx => (F.2.2.2.2.2.2.2.2.2.1 x hx).elim) (show 5 < d by omega) (show _ ≤ 64 * d by rw [hlen]; omega) (show cells + 1 ≤ mc by omega) (show slots + 6 ≤ ms by omega) F.2.2.2.2.2.2.1 hx (fun z hz => x4.2.2 z hz) (by omega) (by omega)
  · exact vx_throwSW F.1 F.2.1 hl F.2.2.2.2.1 hcls (by decide +kernel) (F.2.2.2.2.2.1 _ hk) (F.2.2.2.2.2.1 _ hini) hsa hat' hgood hU hN x4 (x5.1.trans F.2.2.2.1.symm) d0 d3 e1 e2 e3 (fun x hx => (F.2.2.2.2.2.2.2.2.2.1 x hx).elim) (show 5 < d by omega) (show _ ≤ 64 * d by rw [hlen]; omega) (show cells + 1 ≤ mc by omega) (show slots + 6 ≤ ms by omega) F.2.2.2.2.2.2.1 hx (fun z hz => x4.2.2 z hz) (by omega) (by omega)
/-- a constant WORD into a row of WORDS -/
theorem Ev.aastW {a n v : Nat} {i : Int32} (hd : decode y.2.1 pc = .ok (.aastore, 1)) (hs : m_sh M a = (32, n)) (hv : (v, "BowingRow$Word") ∈ f_C) (hv1 : 1 ≤ v ∧ v ≤ 23) (hin : vp_in i n) (kk : Ev l G d y (pc + 1) ls st (m_sr M a i.toNatClampNeg v) bc bs Φ) : Ev l G d y pc ls (.ref v :: .int i :: .ref a :: st) M bc bs Φ := by
  intro p e s m args below meth c mc ms ad0 n0 H locs cells slots ad lsA F X0
  obtain ⟨x1, x2, x3, x4, x5, x6, x7, x8, x9⟩ := id X0
  obtain ⟨o1, o2⟩ := m_own x3 (a := a) (by rw [hs]; simp)
  have hw := m_ws_at G.2.1 ad M ⟨o1, o2⟩
  rw [m_cell_R G.2.1 ad M hs (by decide)] at hw
  obtain ⟨b, rfl⟩ : ∃ b, a = b + 1 := ⟨a - 1, by omega⟩
  obtain ⟨u, rfl⟩ : ∃ u, v = u + 1 := ⟨v - 1, by omega⟩
  obtain ⟨cv, g1, g2, g3, g4⟩ := ((F.2.2.2.2.2.2.2.2.1.2.2.2.2.1 _ hv).kept (m_keepH F)).kept x4.2.1
  obtain ⟨kA, comp, k1, k2, k3, -⟩ := (F.2.2.2.2.2.2.2.2.1.1.2 5 (G.2.1 32, .object "BowingRow$Word") rfl).2
  have hcomp : comp = cv.cls := Option.some.inj (k3.symm.trans g3)
  obtain ⟨kE, hkE, -⟩ := Vm.findClass_spec k3
  have hlt : i.toNatClampNeg < n := Nat.lt_of_not_le fun q => hin (Or.inr q)
  have h0 : ¬ i < 0 := fun q => hin (Or.inl q)
  have had : ad (u + 1) = G.2.2.2 (u + 1) := x3.2.2.2.2.2.2.1 _ (by omega)
  have hcast : s.vm.assignable cv.cls comp = true := by
    rw [hcomp]
    exact as_self _ _
  have hst : ((Value.ref (u + 1) :: Value.int i :: Value.ref (b + 1) :: st).map (tr ad)) = Value.ref (G.2.2.2 (u + 1)) :: Value.int i :: Value.ref (ad (b + 1)) :: st.map (tr ad) := by
    rw [← had]
    rfl
  rw [hst]
  refine W.aast F.1 F.2.1 (x3.1 _ _ hw) (fun q h => by cases h) (fun h => by cases h) k1 k2 rfl hkE ⟨h0, by show _ < (arrV _ _ _).slots.size; rw [arrV_size]; exact hlt⟩ g1 (fun q h => by rw [h] at g2; cases g2) (by rw [← hcomp]; exact hkE) hcast rfl rfl hd fun H1 e1 z oq => ?_
  have p1 := x3.1.set (H1 := H1) (e := .inl (G.2.1 32, n, .inr (.inr (.inr (.inr (va_up (fun j => rf_ ad (m_r M (b + 1) j)) i.toNatClampNeg (some (ad (u + 1))))))))) x3.2.1 hw (by
    show H1[ad (b + 1)]? = some (vp_cell _ _)
    rw [e1, vp_cell_q, vp_cell_q, arrV_store, ← had]
    congr 2
    funext q
    by_cases hq : q = i.toNatClampNeg
    · subst hq
      simp [updV, va_up, va_rf]
    · simp [updV, va_up, hq]) oq
  have p2 := x3.2.1.set (e := .inl (G.2.1 32, n, .inr (.inr (.inr (.inr (va_up (fun j => rf_ ad (m_r M (b + 1) j)) i.toNatClampNeg (some (ad (u + 1))))))))) hw
  have p3 := x4.put (k := i.toNatClampNeg) z oq (x3.2.1.2 _ _ hw)
  have hR : RelE G (m_sr M (b + 1) i.toNatClampNeg (u + 1)) ad H1 := m_stored x3 ⟨o1, o2⟩ rfl (fun _ => rfl) (fun q j => by
      rw [m_r_sr, m_nx_sr]
      split
      · have := x3.2.2.1; omega
      · exact x3.2.2.2.1 q j) (fun q hq => m_cell_sr G.2.1 ad M (b + 1) _ _ hq) (by
      rw [m_cell_R G.2.1 ad (m_sr M (b + 1) i.toNatClampNeg (u + 1)) (t := 32) (n := n) hs (by decide)]
      congr 7
      funext j
      by_cases h : j = i.toNatClampNeg
      · subst h
        rw [m_r_sr, if_pos ⟨rfl, rfl⟩]
        show some (ad (u + 1)) = if _ then _ else _
        rw [if_pos rfl]
      · rw [m_r_sr, if_neg (fun q => h q.2)]
        show _ = if _ then _ else _
        rw [if_neg h]) F.2.2.2.2.2.2.2.2.2.2 p1 p2 p3
  exact kk p e s m args below meth c mc ms ad0 n0 H1 _ cells slots ad lsA F ⟨x1, x2, hR, p3, x5, x6, bd_t (bd_t (bd_t x7)), x8, x9⟩
/-- the memory behind System.arraycopy of ints -/
def m_cpy (M : Mm) (a b sp dp n : Nat) : Mm := (fun q j => if q = b then va_cpy (M.1 a) (M.1 b) sp dp n j else M.1 q j, M.2)
theorem Ev.copyI {idx a b na nb : Nat} {sp dp n : Int32} (hd : decode y.2.1 pc = .ok (.invokestatic idx, 3)) (hl : Cond.methodLink y.1.cls idx arraycopyName ∈ lwg) (hnat : Cond.native arraycopyName ∈ lwg) (hstat : Cond.static arraycopyName ∈ lwg) (hini : Cond.initialized "java/lang/System" ∈ lwg) (hsa : m_sh M a = (20, na)) (hsb : m_sh M b = (20, nb)) (h1 : ¬ sp < 0) (h2 : ¬ dp < 0) (h3 : ¬ n < 0) (h4 : sp.toNatClampNeg + n.toNatClampNeg ≤ na) (h5 : dp.toNatClampNeg + n.toNatClampNeg ≤ nb) (hst : (st.map fun v => v.category).sum ≤ 8) (hd1 : 1 ≤ d)
    (kk : Ev l G d y (pc + 3) ls st (m_cpy M a b sp.toNatClampNeg dp.toNatClampNeg n.toNatClampNeg) bc bs Φ) : Ev l G d y pc ls (.int n :: .int dp :: .ref b :: .int sp :: .ref a :: st) M bc bs Φ := by
  intro p e s m args below meth c mc ms ad0 n0 H locs cells slots ad lsA F X0
  obtain ⟨x1, x2, x3, x4, x5, x6, x7, x8, x9⟩ := id X0
  obtain ⟨o1, o2⟩ := m_own x3 (a := a) (by rw [hsa]; simp)
  obtain ⟨q1, q2⟩ := m_own x3 (a := b) (by rw [hsb]; simp)
  have hw := m_ws_at G.2.1 ad M ⟨o1, o2⟩
  rw [m_cell_I G.2.1 ad M hsa (by decide) (by decide)] at hw
  have hwb := m_ws_at G.2.1 ad M ⟨q1, q2⟩
  rw [m_cell_I G.2.1 ad M hsb (by decide) (by decide)] at hwb
  obtain ⟨a', rfl⟩ : ∃ b, a = b + 1 := ⟨a - 1, by omega⟩
  obtain ⟨b', rfl⟩ : ∃ u, b = u + 1 := ⟨b - 1, by omega⟩
  have hsum := m_sum (ad := ad) hst
  refine va_copyi (D := G.1) (cl := vwCl) F.1 F.2.1 (F.2.2.2.1.trans x5.1.symm) F.2.2.2.2.1 (F.2.2.2.2.2.1 _ hl) (F.2.2.2.2.2.1 _ hnat) (F.2.2.2.2.2.1 _ hstat) (F.2.2.2.2.2.1 _ hini) F.2.2.2.2.2.2.2.2.1.1 x3.1 x3.2.1 x4 (a' + 1 - 100) (b' + 1 - 100) 0 0 hw hwb rfl rfl rfl h1 h2 h3 h4 h5 (fun _ _ => rfl) hd1 (show _ ≤ 64 * d by
    have : nativeFrameWords "java/lang/System" "arraycopy" 5 ≤ 40 := by decide +kernel
    omega) hd fun H1 locs1 p1 p2 p3 => ?_
  have hR : RelE G (m_cpy M (a' + 1) (b' + 1) sp.toNatClampNeg dp.toNatClampNeg n.toNatClampNeg) ad H1 := m_stored x3 ⟨q1, q2⟩ rfl (fun _ => rfl) x3.2.2.2.1 (fun q hq => by
      have e1 : m_i (m_cpy M (a' + 1) (b' + 1) sp.toNatClampNeg dp.toNatClampNeg n.toNatClampNeg) q = m_i M q := funext fun j => by
        show (if q = b' + 1 then _ else _) = _
        rw [if_neg hq]
        rfl
      have e2 : ∀ ci, m_fv ad (m_cpy M (a' + 1) (b' + 1) sp.toNatClampNeg dp.toNatClampNeg n.toNatClampNeg) q ci = m_fv ad M q ci := fun ci => funext fun j => by
        unfold m_fv
        rw [e1]
        rfl
      unfold m_cell
      rw [e1, e2]
      rfl) (by
      rw [m_cell_I G.2.1 ad (m_cpy M (a' + 1) (b' + 1) sp.toNatClampNeg dp.toNatClampNeg n.toNatClampNeg) (t := 20) (n := nb) hsb (by decide) (by decide)]
      congr 4
      funext j
      show (if b' + 1 = b' + 1 then _ else _) = _
      rw [if_pos rfl]
      rfl) F.2.2.2.2.2.2.2.2.2.2 p1 p2 p3
  exact kk p e s m args below meth c mc ms ad0 n0 H1 locs1 cells slots ad lsA F ⟨x1, x2, hR, p3, x5, x6, bd_t (bd_t (bd_t (bd_t (bd_t x7)))), x8, x9⟩
end R7
