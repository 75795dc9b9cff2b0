/-! ===== rules: stores of references, constants of before, throws ===== -/
theorem f_Z_bd : ∀ q ∈ f_Z, (match q.2.2.2 with | .ref a => decide (a < 100) | _ => true) = true := by decide +kernel
theorem f_O_bd : ∀ q ∈ f_O, (match q.2.2.2.2 with | .ref a => decide (a < 100) | _ => true) = true ∧ (0 < q.2.2.2.1 ∧ q.2.2.2.1 < 100) := by decide +kernel
theorem f_T_bd : ∀ q ∈ f_T, (0 < q.2.1 ∧ q.2.1 < 100) ∧ ∀ v ∈ q.2.2.2, (match v with | .ref a => decide (a < 100) | _ => true) = true := by decide +kernel
theorem bd_of {v : Value} (h : (match v with | .ref a => decide (a < 100) | _ => true) = true) : bdL 100 [v] := by
  intro a ha
  rw [List.mem_singleton] at ha
  subst ha
  exact of_decide_eq_true h
section R6
variable {l : Launch} {G : Gx} {d : Nat} {y : MR} {pc : Nat} {ls st : List Value} {M : Mm} {bc bs : Nat} {Φ : OutV → Mm → Prop}
theorem m_keepH {p : Program} {s : State} {m : MethodId} {args : Array Value} {meth : Method} {c : Code} (F : FrOK G y p s m args meth c) : ∀ a : Nat, a < G.2.2.1.size → ¬ (fun q => G.2.2.1.size ≤ q) a → s.heap[a]? = G.2.2.1[a]? := fun a ha _ => F.2.2.2.2.2.2.2.2.2.2.2 a ha
theorem m_trf {ad : Nat → Nat} {H : Heap} (h : RelE G M ad H) {v : Value} (hv : bdL 100 [v]) : tr ad v = tr G.2.2.2 v := tr_ext (fun a ha => h.2.2.2.2.2.2.1 a ha) hv
theorem Ev.gets {idx : Nat} {C n ds : String} {v : Value} (hd : decode y.2.1 pc = .ok (.getstatic idx, 3)) (hZ : (C, n, ds, v) ∈ f_Z) (hl : Cond.fieldLink y.1.cls idx C n ds ∈ lwg ∨ ∃ host, Cond.fieldLinkNest y.1.cls idx C n ds host ∈ lwx) (kk : Ev l G d y (pc + 3) ls (v :: st) M bc bs Φ) : Ev l G d y pc ls st M bc bs Φ := by
  intro p e s m args below meth c mc ms ad0 n0 H locs cells slots ad lsA F X0
  obtain ⟨x1, x2, x3, x4, x5, x6, x7, x8, x9⟩ := id X0
  have hb : bdL 100 [v] := bd_of (f_Z_bd _ hZ)
  have K := kk p e s m args below meth c mc ms ad0 n0 H locs cells slots ad lsA F ⟨x1, x2, x3, x4, x5, x6, (fun a ha => (List.mem_cons.mp ha).elim (fun e => Nat.lt_of_lt_of_le (hb a (by rw [e]; exact List.mem_cons_self)) x3.2.2.1) (x7 a)), x8, x9⟩
  rw [List.map_cons, m_trf x3 hb] at K
  have hz := (F.2.2.2.2.2.2.2.2.1.2.1 _ hZ).kept (m_keepH F)
  rcases hl with hl | ⟨host, hl⟩
  · exact va_gets F.1 F.2.1 hz x4 F.2.2.2.2.1 (F.2.2.2.2.2.1 _ hl) (fun _ h => h) hd K
  · exact va_getsN F.1 F.2.1 hz x4 F.2.2.2.2.1 (va_Nw.use rfl (F.2.2.2.2.2.2.2.2.1.2.2.2.2.2.2.2.2.2 _ hl)) (fun _ h => h) hd K
/-- a static of before whose value is not known: named 99, if it is a reference -/
theorem Ev.getsQ {idx : Nat} (hd : decode y.2.1 pc = .ok (.getstatic idx, 3)) (hl : Cond.fieldLink y.1.cls idx "jdk/internal/util/Preconditions" "SIOOBE_FORMATTER" "Ljava/util/function/BiFunction;" ∈ lwg) (kk : ∀ v : Value, (v = .null ∨ v = .ref 99) → Ev l G d y (pc + 3) ls (v :: st) M bc bs Φ) : Ev l G d y pc ls st M bc bs Φ := by
  intro p e s m args below meth c mc ms ad0 n0 H locs cells slots ad lsA F X0
  obtain ⟨x1, x2, x3, x4, x5, x6, x7, x8, x9⟩ := id X0
  obtain ⟨v, hv, hz0⟩ := F.2.2.2.2.2.2.2.2.1.2.2.2.2.2.1.2
  have hb : bdL 100 [v] := by
    intro a ha
    rw [List.mem_singleton] at ha
    rcases hv with rfl | rfl
    · cases ha
    · cases ha
      exact Nat.lt_succ_self 99
  have K := kk v hv p e s m args below meth c mc ms ad0 n0 H locs cells slots ad lsA F ⟨x1, x2, x3, x4, x5, x6, (fun a ha => (List.mem_cons.mp ha).elim (fun e => Nat.lt_of_lt_of_le (hb a (by rw [e]; exact List.mem_cons_self)) x3.2.2.1) (x7 a)), x8, x9⟩
  rw [List.map_cons, m_trf x3 hb] at K
  have hz := hz0.kept (m_keepH F)
  exact va_gets F.1 F.2.1 hz x4 F.2.2.2.2.1 (F.2.2.2.2.2.1 _ hl) (fun _ h => h) hd K
/-- a field of a constant of before -/
theorem Ev.getF {idx a : Nat} {C n ds : String} {v : Value} (hd : decode y.2.1 pc = .ok (.getfield idx, 3)) (hZ : (C, n, ds, a, v) ∈ f_O) (hl : Cond.fieldLink y.1.cls idx C n ds ∈ lwg) (kk : Ev l G d y (pc + 3) ls (v :: st) M bc bs Φ) : Ev l G d y pc ls (.ref a :: st) M bc bs Φ := by
  intro p e s m args below meth c mc ms ad0 n0 H locs cells slots ad lsA F X0
  obtain ⟨x1, x2, x3, x4, x5, x6, x7, x8, x9⟩ := id X0
  obtain ⟨hb0, ha0, ha1⟩ := f_O_bd _ hZ
  have hb : bdL 100 [v] := bd_of hb0
  have K := kk p e s m args below meth c mc ms ad0 n0 H locs cells slots ad lsA F ⟨x1, x2, x3, x4, x5, x6, (fun a ha => (List.mem_cons.mp ha).elim (fun e => Nat.lt_of_lt_of_le (hb a (by rw [e]; exact List.mem_cons_self)) x3.2.2.1) (bd_t x7 a)), x8, x9⟩
  rw [List.map_cons, m_trf x3 hb] at K
  have hz := (F.2.2.2.2.2.2.2.2.1.2.2.1 _ hZ).kept (m_keepH F)
  obtain ⟨b, rfl⟩ : ∃ b, a = b + 1 := ⟨a - 1, by have : 0 < a := ha0; omega⟩
  have e1 : tr ad (.ref (b + 1)) = .ref (G.2.2.2 (b + 1)) := by
    show Value.ref (ad (b + 1)) = _
    rw [x3.2.2.2.2.2.2.1 _ ha1]
  rw [List.map_cons, e1]
  exact vk_getf F.1 F.2.1 hz x4 F.2.2.2.2.1 (F.2.2.2.2.2.1 _ hl) (fun _ h => h) hd K
/-- an element of a row of before -/
theorem Ev.taldI {a n : Nat} {vs : List Value} {i x : Int32} (hd : decode y.2.1 pc = .ok (.iaload, 1)) (hZ : (.int, a, n, vs) ∈ f_T) (hin : vp_in i n) (hv : vs.getD i.toNatClampNeg .null = .int x) (kk : Ev l G d y (pc + 1) ls (.int x :: st) M bc bs Φ) : Ev l G d y pc ls (.int i :: .ref a :: st) M bc bs Φ := by
  intro p e s m args below meth c mc ms ad0 n0 H locs cells slots ad lsA F X0
  obtain ⟨x1, x2, x3, x4, x5, x6, x7, x8, x9⟩ := id X0
  obtain ⟨⟨ha0, ha1⟩, -⟩ := f_T_bd _ hZ
  have K := kk p e s m args below meth c mc ms ad0 n0 H locs cells slots ad lsA F ⟨x1, x2, x3, x4, x5, x6, bd_i (bd_t (bd_t x7)), x8, x9⟩
  obtain ⟨cell, h1, h2, h3, h4, h5, h6, -⟩ := ((F.2.2.2.2.2.2.2.2.1.2.2.2.1 _ hZ).kept (m_keepH F)).kept x4.2.1
  obtain ⟨b, rfl⟩ : ∃ b, a = b + 1 := ⟨a - 1, by have : 0 < a := ha0; omega⟩
  have e1 : tr ad (.ref (b + 1)) = .ref (G.2.2.2 (b + 1)) := by
    show Value.ref (ad (b + 1)) = _
    rw [x3.2.2.2.2.2.2.1 _ ha1]
  have hlt : i.toNatClampNeg < n := Nat.lt_of_not_le fun q => hin (Or.inr q)
  rw [List.map_cons, List.map_cons, e1]
  refine W.iald F.1 F.2.1 h1 h2 h3 (fun q => q.elim (fun q => hin (Or.inl q)) (fun q => hin (Or.inr (Nat.le_trans h4 q)))) (v := .int x) ?_ rfl rfl hd K
  have h7 := h6 i.toNatClampNeg hlt
  dsimp only at h7
  rw [h7, hv]
  rfl
theorem Ev.taldB {a n : Nat} {vs : List Value} {i x : Int32} (hd : decode y.2.1 pc = .ok (.baload, 1)) (hZ : (.byte, a, n, vs) ∈ f_T) (hin : vp_in i n) (hv : vs.getD i.toNatClampNeg .null = .int x) (kk : Ev l G d y (pc + 1) ls (.int x :: st) M bc bs Φ) : Ev l G d y pc ls (.int i :: .ref a :: st) M bc bs Φ := by
  intro p e s m args below meth c mc ms ad0 n0 H locs cells slots ad lsA F X0
  obtain ⟨x1, x2, x3, x4, x5, x6, x7, x8, x9⟩ := id X0
  obtain ⟨⟨ha0, ha1⟩, -⟩ := f_T_bd _ hZ
  have K := kk p e s m args below meth c mc ms ad0 n0 H locs cells slots ad lsA F ⟨x1, x2, x3, x4, x5, x6, bd_i (bd_t (bd_t x7)), x8, x9⟩
  obtain ⟨cell, h1, h2, h3, h4, h5, h6, -⟩ := ((F.2.2.2.2.2.2.2.2.1.2.2.2.1 _ hZ).kept (m_keepH F)).kept x4.2.1
  obtain ⟨b, rfl⟩ : ∃ b, a = b + 1 := ⟨a - 1, by have : 0 < a := ha0; omega⟩
  have e1 : tr ad (.ref (b + 1)) = .ref (G.2.2.2 (b + 1)) := by
    show Value.ref (ad (b + 1)) = _
    rw [x3.2.2.2.2.2.2.1 _ ha1]
  have hlt : i.toNatClampNeg < n := Nat.lt_of_not_le fun q => hin (Or.inr q)
  rw [List.map_cons, List.map_cons, e1]
  refine W.bald F.1 F.2.1 h1 h2 h3 (fun q => q.elim (fun q => hin (Or.inl q)) (fun q => hin (Or.inr (Nat.le_trans h4 q)))) (v := .int x) ?_ rfl rfl hd K
  have h7 := h6 i.toNatClampNeg hlt
  dsimp only at h7
  rw [h7, hv]
  rfl
theorem Ev.taldA {a n x : Nat} {C : String} {vs : List Value} {i : Int32} (hd : decode y.2.1 pc = .ok (.aaload, 1)) (hZ : (.object C, a, n, vs) ∈ f_T) (hin : vp_in i n) (hv : vs.getD i.toNatClampNeg .null = .ref x) (hx : x < 100) (kk : Ev l G d y (pc + 1) ls (.ref x :: st) M bc bs Φ) : Ev l G d y pc ls (.int i :: .ref a :: st) M bc bs Φ := by
  intro p e s m args below meth c mc ms ad0 n0 H locs cells slots ad lsA F X0
  obtain ⟨x1, x2, x3, x4, x5, x6, x7, x8, x9⟩ := id X0
  obtain ⟨⟨ha0, ha1⟩, -⟩ := f_T_bd _ hZ
  have K := kk p e s m args below meth c mc ms ad0 n0 H locs cells slots ad lsA F ⟨x1, x2, x3, x4, x5, x6, bd_r (Nat.lt_of_lt_of_le hx x3.2.2.1) (bd_t (bd_t x7)), x8, x9⟩
  rw [List.map_cons, m_trf x3 (bd_r hx (fun a h => by cases h))] at K
  obtain ⟨cell, h1, h2, h3, h4, h5, h6, -⟩ := ((F.2.2.2.2.2.2.2.2.1.2.2.2.1 _ hZ).kept (m_keepH F)).kept x4.2.1
  obtain ⟨b, rfl⟩ : ∃ b, a = b + 1 := ⟨a - 1, by have : 0 < a := ha0; omega⟩
  have e1 : tr ad (.ref (b + 1)) = .ref (G.2.2.2 (b + 1)) := by
    show Value.ref (ad (b + 1)) = _
    rw [x3.2.2.2.2.2.2.1 _ ha1]
  have hlt : i.toNatClampNeg < n := Nat.lt_of_not_le fun q => hin (Or.inr q)
  rw [List.map_cons, List.map_cons, e1]
  refine W.aald F.1 F.2.1 h1 h2 rfl h3 (fun q => q.elim (fun q => hin (Or.inl q)) (fun q => hin (Or.inr (Nat.le_trans h4 q)))) (v := tr G.2.2.2 (.ref x)) ?_ rfl rfl hd K
  have h7 := h6 i.toNatClampNeg hlt
  dsimp only at h7
  rw [h7, hv]
theorem Ev.tlen {a n : Nat} {ty : FieldType} {vs : List Value} {v : Int32} (hd : decode y.2.1 pc = .ok (.arraylength, 1)) (hZ : (ty, a, n, vs) ∈ f_T) (hv : Int32.ofNat n = v) (kk : Ev l G d y (pc + 1) ls (.int v :: st) M bc bs Φ) : Ev l G d y pc ls (.ref a :: st) M bc bs Φ := by
  intro p e s m args below meth c mc ms ad0 n0 H locs cells slots ad lsA F X0
  obtain ⟨x1, x2, x3, x4, x5, x6, x7, x8, x9⟩ := id X0
  obtain ⟨⟨ha0, ha1⟩, -⟩ := f_T_bd _ hZ
  have K := kk p e s m args below meth c mc ms ad0 n0 H locs cells slots ad lsA F ⟨x1, x2, x3, x4, x5, x6, bd_i (bd_t x7), x8, x9⟩
  obtain ⟨cell, h1, h2, h3, h4, h5, h6, -⟩ := ((F.2.2.2.2.2.2.2.2.1.2.2.2.1 _ hZ).kept (m_keepH F)).kept x4.2.1
  obtain ⟨b, rfl⟩ : ∃ b, a = b + 1 := ⟨a - 1, by have : 0 < a := ha0; omega⟩
  have e1 : tr ad (.ref (b + 1)) = .ref (G.2.2.2 (b + 1)) := by
    show Value.ref (ad (b + 1)) = _
    rw [x3.2.2.2.2.2.2.1 _ ha1]
  rw [List.map_cons, e1]
  exact W.alen F.1 F.2.1 h1 h2 (h5.trans hv) rfl rfl hd K
/-- two references, by their names: of constants WORDS, and of cells that were made -/
theorem m_same {ad : Nat → Nat} {H : Heap} {s : State} (h : RelE G M ad H) (hF : FF G s) {a b : Nat} (ha : (1 ≤ a ∧ a ≤ 23)) (hb : (1 ≤ b ∧ b ≤ 23)) : rf_ ad a = rf_ ad b ↔ a = b := by
  constructor
  · intro q
    unfold rf_ at q
    rw [if_neg (by omega), if_neg (by omega), h.2.2.2.2.2.2.1 a (by omega), h.2.2.2.2.2.2.1 b (by omega)] at q
    exact hF.2.2.2.2.1.1 a b ha.1 ha.2 hb.1 hb.2 (Option.some.inj q)
  · intro q
    rw [q]
theorem Ev.acmp_eq {a b : Nat} {off : Int} (tgt : Nat) (ht : (pc : Int) + off = (tgt : Int)) (hd : decode y.2.1 pc = .ok (.if_acmp .eq off, 3)) (ha : (1 ≤ a ∧ a ≤ 23)) (hb : (1 ≤ b ∧ b ≤ 23)) (kt : a = b → Ev l G d y tgt ls st M bc bs Φ) (kf : ¬ a = b → Ev l G d y (pc + 3) ls st M bc bs Φ) : Ev l G d y pc ls (.ref b :: .ref a :: st) M bc bs Φ := by
  intro p e s m args below meth c mc ms ad0 n0 H locs cells slots ad lsA F X
  obtain ⟨x1, x2, x3, x4, x5, x6, x7, x8, x9⟩ := id X
  have x7' := bd_t (bd_t x7)
  have hi := m_same x3 F.2.2.2.2.2.2.2.2.1.2 ha hb
  rw [List.map_cons, List.map_cons, tr_rf, tr_rf]
  exact lv_acmp_eq F.1 F.2.1 hd ht (fun h => kt (hi.mp h) p e s m args below meth c mc ms ad0 n0 H locs cells slots ad lsA F ⟨x1, x2, x3, x4, x5, x6, x7', x8, x9⟩) (fun h => kf (fun q => h (hi.mpr q)) p e s m args below meth c mc ms ad0 n0 H locs cells slots ad lsA F ⟨x1, x2, x3, x4, x5, x6, x7', x8, x9⟩)
theorem Ev.acmp_ne {a b : Nat} {off : Int} (tgt : Nat) (ht : (pc : Int) + off = (tgt : Int)) (hd : decode y.2.1 pc = .ok (.if_acmp .ne off, 3)) (ha : (1 ≤ a ∧ a ≤ 23)) (hb : (1 ≤ b ∧ b ≤ 23)) (kt : ¬ a = b → Ev l G d y tgt ls st M bc bs Φ) (kf : a = b → Ev l G d y (pc + 3) ls st M bc bs Φ) : Ev l G d y pc ls (.ref b :: .ref a :: st) M bc bs Φ := by
  intro p e s m args below meth c mc ms ad0 n0 H locs cells slots ad lsA F X
  obtain ⟨x1, x2, x3, x4, x5, x6, x7, x8, x9⟩ := id X
  have x7' := bd_t (bd_t x7)
  have hi := m_same x3 F.2.2.2.2.2.2.2.2.1.2 ha hb
  rw [List.map_cons, List.map_cons, tr_rf, tr_rf]
  exact lv_acmp_ne F.1 F.2.1 hd ht (fun h => kt (fun q => h (hi.mpr q)) p e s m args below meth c mc ms ad0 n0 H locs cells slots ad lsA F ⟨x1, x2, x3, x4, x5, x6, x7', x8, x9⟩) (fun h => kf (hi.mp h) p e s m args below meth c mc ms ad0 n0 H locs cells slots ad lsA F ⟨x1, x2, x3, x4, x5, x6, x7', x8, x9⟩)
/-- a made object of the class ci into a row of that class -/
theorem Ev.aast {a t t0 n ci v : Nat} {r : vw_C} {i : Int32} (hd : decode y.2.1 pc = .ok (.aastore, 1)) (hs : m_sh M a = (t, n)) (ht : 22 < t ∧ t < 99) (hC : ∀ cA, (kTys cA)[t0]? = some (cA t, .object r.1)) (hr : vwCl[ci]? = some r) (hci : ci < 12) (hsv : (m_sh M v).1 = ci) (hin : vp_in i n) (kk : Ev l G d y (pc + 1) ls st (m_sr M a i.toNatClampNeg v) bc bs Φ) : Ev l G d y pc ls (.ref v :: .int i :: .ref a :: st) M bc bs Φ := by
  intro p e s m args below meth c mc ms ad0 n0 H locs cells slots ad lsA F X0
  obtain ⟨x1, x2, x3, x4, x5, x6, x7, x8, x9⟩ := id X0
  obtain ⟨o1, o2⟩ := m_own x3 (a := a) (by rw [hs]; show t ≠ 99; omega)
  obtain ⟨v1, v2⟩ := m_own x3 (a := v) (by rw [hsv]; omega)
  have hw := m_ws_at G.2.1 ad M ⟨o1, o2⟩
  rw [m_cell_R G.2.1 ad M hs ht.1] at hw
  have hwv := m_ws_at G.2.1 ad M ⟨v1, v2⟩
  rw [m_cell_O G.2.1 ad M hsv hci] at hwv
  obtain ⟨b, rfl⟩ : ∃ b, a = b + 1 := ⟨a - 1, by omega⟩
  obtain ⟨u, rfl⟩ : ∃ u, v = u + 1 := ⟨v - 1, by omega⟩
  refine va_astq (D := G.1) (cl := vwCl) F.1 F.2.1 F.2.2.2.2.2.2.2.2.1.1 x3.1 x3.2.1 x4 (b + 1 - 100) t0 (u + 1 - 100) ci hw (hC G.2.1) hwv hr hin hd fun H1 locs1 p1 p2 p3 => ?_
  have hR : RelE G (m_sr M (b + 1) i.toNatClampNeg (u + 1)) ad H1 := m_stored x3 ⟨o1, o2⟩ rfl (fun _ => rfl) (fun q j => by
      rw [m_r_sr, m_nx_sr]
      split
      · exact v2
      · exact x3.2.2.2.1 q j) (fun q hq => m_cell_sr G.2.1 ad M (b + 1) _ _ hq) (by
      rw [m_cell_R G.2.1 ad (m_sr M (b + 1) i.toNatClampNeg (u + 1)) (t := t) (n := n) hs ht.1]
      congr 7
      funext j
      by_cases h : j = i.toNatClampNeg
      · subst h
        rw [m_r_sr, if_pos ⟨rfl, rfl⟩]
        show some (ad (u + 1)) = if _ then _ else _
        rw [if_pos rfl]
      · rw [m_r_sr, if_neg (fun q => h q.2)]
        show _ = if _ then _ else _
        rw [if_neg h]) F.2.2.2.2.2.2.2.2.2.2 p1 p2 p3
  exact kk p e s m args below meth c mc ms ad0 n0 H1 locs1 cells slots ad lsA F ⟨x1, x2, hR, p3, x5, x6, bd_t (bd_t (bd_t x7)), x8, x9⟩
end R6
