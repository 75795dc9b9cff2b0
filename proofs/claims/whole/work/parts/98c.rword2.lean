/-! ===== the reference: words, one by one ===== -/
theorem kN_cg {dg eg : Nat → Nat} : ∀ c, (∀ i, i < c → dg i = eg i) → kN dg c = kN eg c
  | 0, _ => rfl
  | c + 1, h => by
    show 27 * kN dg c + dg c = 27 * kN eg c + eg c
    rw [kN_cg c (fun i hi => h i (by omega)), h c (by omega)]
def kvL (x : List Int32) : Nat := kN (fun i => (stL x i).toNatClampNeg - 96) x.length
def wrB (w : Nat) : Bool := decide (1 ≤ (wTx w).length) && (wTx w).all (fun c => decide (97 ≤ c.toNatClampNeg) && decide (c.toNatClampNeg ≤ 122) && decide (nI c.toNatClampNeg = c)) && decide (twL (wTx w) = w)
def wrBB (w : Nat) : Bool := decide (w = 1) || wrB w
theorem wrB_ok : ∀ w, (1 ≤ w ∧ w ≤ 23) → wrBB w = true := w_all (p := wrBB) (by decide +kernel)
theorem wr_of {w : Nat} (hw : 2 ≤ w ∧ w ≤ 23) : 1 ≤ (wTx w).length ∧ (∀ i, i < (wTx w).length → 97 ≤ (stL (wTx w) i).toNatClampNeg ∧ (stL (wTx w) i).toNatClampNeg ≤ 122 ∧ nI (stL (wTx w) i).toNatClampNeg = stL (wTx w) i) ∧ twL (wTx w) = w := by
  have k := wrB_ok w ⟨by omega, hw.2⟩
  unfold wrBB wrB at k
  simp only [Bool.or_eq_true, Bool.and_eq_true, decide_eq_true_eq, List.all_eq_true] at k
  rcases k with k | ⟨⟨k1, k2⟩, k3⟩
  · omega
  · refine ⟨k1, fun i hi => ?_, k3⟩
    have e : stL (wTx w) i = (wTx w)[i] := by unfold stL; rw [List.getD_eq_getElem?_getD, List.getElem?_eq_getElem hi]; rfl
    have := k2 (stL (wTx w) i) (by rw [e]; exact List.getElem_mem hi)
    exact ⟨this.1.1, this.1.2, this.2⟩
theorem txL_at (tp : Nat → Nat) (p e i : Nat) (h : i < e - p) : stL (txL tp p e) i = nI (tp (p + i)) := by
  unfold stL txL
  rw [List.getD_eq_getElem?_getD, List.getElem?_map, List.getElem?_range h]
  rfl
theorem txL_eq2 {tp : Nat → Nat} {p e : Nat} {x : List Int32} (h1 : x.length = e - p) (h2 : ∀ i, i < e - p → stL x i = nI (tp (p + i))) : txL tp p e = x := by
  apply List.ext_getElem?
  intro i
  by_cases z : i < e - p
  · have a := txL_at tp p e i z
    have b := h2 i z
    rw [← b] at a
    unfold stL at a
    rw [List.getD_eq_getElem?_getD, List.getD_eq_getElem?_getD] at a
    have l1 : i < (txL tp p e).length := by rw [txL_len]; exact z
    have l2 : i < x.length := by omega
    rw [List.getElem?_eq_getElem l1, List.getElem?_eq_getElem l2] at a ⊢
    exact congrArg some a
  · rw [List.getElem?_eq_none (by rw [txL_len]; omega), List.getElem?_eq_none (by omega)]
theorem lN_ij {a b : Nat} (ha : a < 2 ^ 63) (hb : b < 2 ^ 63) (h : lN a = lN b) : a = b := by
  have e := congrArg (fun x : Int64 => x.toBitVec.toNat) h
  have e' : (BitVec.ofNat 64 a).toNat = (BitVec.ofNat 64 b).toNat := e
  rw [BitVec.toNat_ofNat, BitVec.toNat_ofNat, Nat.mod_eq_of_lt (by omega), Nat.mod_eq_of_lt (by omega)] at e'
  exact e'
theorem lN_nm {a : Nat} (ha : a < 2 ^ 63) : ¬ lN a = -1 := by
  intro h
  have e := congrArg (fun x : Int64 => x.toBitVec.toNat) h
  have e' : (BitVec.ofNat 64 a).toNat = 18446744073709551615 := e
  rw [BitVec.toNat_ofNat, Nat.mod_eq_of_lt (by omega)] at e'
  omega
theorem p27 : ∀ c, c ≤ 9 → 27 ^ c < 2 ^ 63 := by decide
theorem isl_rng {c : Nat} (h : isl c = true) : 97 ≤ c ∧ c ≤ 122 := of_decide_eq_true h
theorem wv_iff {n : Nat} {tp : Nat → Nat} {p : Nat} (hb : ∀ j, j < n → tp j < 256) (hp : p ≤ n) {w : Nat} (hw : 2 ≤ w ∧ w ≤ 23) : wv n tp p = lN (kvL (wTx w)) ↔ wd n tp p = w := by
  obtain ⟨t1, t2, t3⟩ := wr_of hw
  have t9 := wTx_len w ⟨by omega, hw.2⟩
  have hlt : kvL (wTx w) < 2 ^ 63 := Nat.lt_trans (kN_lt _ _ t9 (fun i hi => by have := t2 i hi; omega)) (p27 _ t9)
  have hin : ∀ i, i < rn n tp isl p - p → 97 ≤ tp (p + i) ∧ tp (p + i) ≤ 122 := fun i hi => isl_rng (rn_in (n := n) (tp := tp) (q := isl) p (p + i) (by omega) (by omega))
  have hle := rn_le (n := n) (tp := tp) (q := isl) p hp
  constructor
  · intro h
    unfold wv at h
    by_cases c : rn n tp isl p - p ≤ 9
    · rw [if_pos c] at h
      have hl2 : kN (dgT tp p) (rn n tp isl p - p) < 2 ^ 63 := Nat.lt_trans (kN_lt _ _ c (fun i hi => by have := hin i hi; unfold dgT; omega)) (p27 _ c)
      have e := lN_ij hl2 hlt h
      unfold kvL at e
      obtain ⟨e1, e2⟩ := kN_inj _ _ _ _ (fun i hi => by have := hin i hi; unfold dgT; omega) (fun i hi => by have := t2 i hi; omega) e
      have hx : txL tp p (rn n tp isl p) = wTx w := txL_eq2 e1.symm (fun i hi => by
        have a := e2 i hi
        have b := t2 i (by omega)
        have c := hin i hi
        have a' : tp (p + i) - 96 = (stL (wTx w) i).toNatClampNeg - 96 := a
        rw [← b.2.2]
        exact congrArg nI (by omega))
      have hlt : p < rn n tp isl p := by omega
      have hl0 := rn_in (n := n) (tp := tp) (q := isl) p p (Nat.le_refl _) hlt
      have hr := isl_rng hl0
      have htk : tk n tp p = 2 := by
        unfold tk
        rw [if_neg (by omega), if_neg (by unfold isd; simp only [decide_eq_true_eq]; omega), if_pos hl0]
      unfold wd
      rw [if_pos htk]
      unfold tw
      rw [hx]
      exact t3
    · rw [if_neg c] at h
      exact absurd h.symm (lN_nm hlt)
  · intro h
    unfold wd at h
    by_cases c : tk n tp p = 2
    · rw [if_pos c] at h
      unfold tw at h
      have hx : wTx w = txL tp p (rn n tp isl p) := by
        have := twF_tx (txL tp p (rn n tp isl p)) 23 0 (by omega)
        rcases this with q | q
        · have q' : twL (txL tp p (rn n tp isl p)) = 1 := q
          omega
        · have q' : wTx (twL (txL tp p (rn n tp isl p))) = txL tp p (rn n tp isl p) := q
          rw [h] at q'
          exact q'
      have hl : (wTx w).length = rn n tp isl p - p := by rw [hx, txL_len]
      unfold wv
      rw [if_pos (by omega)]
      unfold kvL
      rw [hl]
      refine congrArg lN (kN_cg _ (fun i hi => ?_))
      have := hin i hi
      show tp (p + i) - 96 = (stL (wTx w) i).toNatClampNeg - 96
      rw [hx, txL_at _ _ _ _ hi, nI_clamp (by omega)]
    · rw [if_neg c] at h
      omega
def fv (a b c e f : Int32) : Int64 := if ¬ e = 0 then (if ¬ f = 0 then 27 * (27 * (27 * (27 * a.toInt64 + b.toInt64) + c.toInt64) + e.toInt64) + f.toInt64 else 27 * (27 * (27 * a.toInt64 + b.toInt64) + c.toInt64) + e.toInt64) else (if ¬ f = 0 then 27 * (27 * (27 * a.toInt64 + b.toInt64) + c.toInt64) + f.toInt64 else 27 * (27 * a.toInt64 + b.toInt64) + c.toInt64)
section RW2
variable {l : Launch} {G : Gx} {d : Nat} {bc bs : Nat} {Φ : OutV → Mm → Prop}
theorem ct_five (M : Mm) (a b c e f : Int32) (h : Φ (.inl (some (.long (fv a b c e f)))) M) : Ct l G d mRe_five bc bs [.int a, .int b, .int c, .int e, .int f] M Φ := by
  unfold fv at h
  refine Ct.of rfl (Nat.le_of_ble_eq_true rfl) (bRe_five_0 M _ _ _ _ _ ⟨fun z => ⟨fun y => ?_, fun y => ?_⟩, fun z => ⟨fun y => ?_, fun y => ?_⟩⟩)
  · rw [if_pos z, if_pos y] at h; exact h
  · rw [if_pos z, if_neg (fun k => k y)] at h; exact h
  · rw [if_neg (fun k => k z), if_pos y] at h; exact h
  · rw [if_neg (fun k => k z), if_neg (fun k => k y)] at h; exact h
theorem ct_skipWord (M : Mm) {n : Nat} {tp : Nat → Nat} {q : Nat} (hA : RA M n tp q) (hd : 0 < d) (h : ∀ M', FrS X4 M M' → RA M' n tp (rn n tp isl q) → Φ (.inl none) M') : Ct l G d mRe_skipWord bc bs [.ref 206] M Φ := by
  have hn := hA.1.2.2.1
  have hb := fun j hj => (hA.1.2.2.2 j hj).2
  refine Ct.of rfl (Nat.le_of_ble_eq_true rfl) ?_
  have stop : ∀ q, ¬ (q < n ∧ isl (tp q) = true) → ∀ M1, RA M1 n tp q → FrS X4 M M1 → (∀ M', FrS X4 M M' → RA M' n tp (rn n tp isl q) → Φ (.inl none) M') → Ev l G d mRe_skipWord 0 [.ref 206] [] M1 bc bs Φ := fun q hne M1 hA1 F h => by
    have er : rn n tp isl q = q := by
      by_cases y : q < n
      · exact rn_no (fun k => hne ⟨y, k⟩)
      · exact rn_end (by omega)
    rw [er] at h
    have hqn := hA1.2.2.1
    refine bRe_skipWord_0 _ _ ⟨hA1.1.1.c, CallVC.cps0 (by omega) ?_⟩
    rw [hA1.2.1]
    refine ct_byteAt M1 hA1.1 q (by omega) ?_
    refine bRe_skipWord_8 _ _ _ ⟨fun _ => h M1 F hA1, fun z => ⟨hA1.1.1.c, CallVC.cps0 (by omega) ?_⟩⟩
    rw [hA1.2.1]
    refine ct_byteAt M1 hA1.1 q (by omega) ?_
    refine bRe_skipWord_21 _ _ _ ⟨fun _ => h M1 F hA1, fun y => absurd ?_ hne⟩
    have z' : q < n ∧ 97 ≤ tp q := Classical.byContradiction (fun k => z ((bt_lo (p := q) hb (c := 97) (by omega)).1.mpr k))
    have y' : ¬ (q < n ∧ 122 < tp q) := fun k => y ((bt_lo (p := q) hb (c := 122) (by omega)).2.mpr k)
    exact ⟨z'.1, decide_eq_true (by omega)⟩
  have main : ∀ q, ∀ M1, RA M1 n tp q → FrS X4 M M1 → (∀ M', FrS X4 M M' → RA M' n tp (rn n tp isl q) → Φ (.inl none) M') → Ev l G d mRe_skipWord 0 [.ref 206] [] M1 bc bs Φ := by
    refine rn_ind (n := n) (tp := tp) (q := isl) (fun q hq => stop q (by omega)) (fun q hq hne => stop q (fun k => hne k.2)) (fun q hq hy ih M1 hA1 F h => ?_)
    have hr := isl_rng hy
    refine bRe_skipWord_0 _ _ ⟨hA1.1.1.c, CallVC.cps0 (by omega) ?_⟩
    rw [hA1.2.1]
    refine ct_byteAt M1 hA1.1 q (by omega) ?_
    refine bRe_skipWord_8 _ _ _ ⟨fun z => absurd ⟨hq, hr.1⟩ ((bt_lo (p := q) hb (c := 97) (by omega)).1.mp z), fun z => ⟨hA1.1.1.c, CallVC.cps0 (by omega) ?_⟩⟩
    rw [hA1.2.1]
    refine ct_byteAt M1 hA1.1 q (by omega) ?_
    refine bRe_skipWord_21 _ _ _ ⟨fun z => absurd ((bt_lo (p := q) hb (c := 122) (by omega)).2.mp z).2 (by omega), fun y => ⟨hA1.1.1.c, ?_⟩⟩
    rw [hA1.2.1, nI_1]
    have F1 : FrS X4 M1 (m_si M1 206 4 (nI (q + 1))) := FrS.si (P := X4) ⟨rfl, rfl⟩ _
    refine ih _ (hA1.x4 F1 (by rw [m_i_si, if_pos ⟨rfl, rfl⟩]) hq) (F.tr F1) (fun M' F' e => h M' F' ?_)
    rw [rn_yes hq hy]
    exact e
  exact main q M hA (FrS.rf _ _) h
theorem ct_wordHere (M : Mm) {n : Nat} {tp : Nat → Nat} {q : Nat} (hA : RA M n tp q) (hd : 1 < d) (h : ∀ M', FrS X4 M M' → RA M' n tp (rn n tp isb q) → Φ (.inl (some (.long (wv n tp (rn n tp isb q))))) M') : Ct l G d mRe_wordHere bc bs [.ref 206] M Φ := by
  have hn := hA.1.2.2.1
  have hb := fun j hj => (hA.1.2.2.2 j hj).2
  refine Ct.of rfl (Nat.le_of_ble_eq_true rfl) ?_
  refine bRe_wordHere_0 _ _ ⟨hA.1.1.c, CallVC.cps0 (by omega) ?_⟩
  refine ct_blanksA M hA (by omega) (fun M1 F1 hA1 => ?_)
  have h1 := h M1 F1 hA1
  have hpn := hA1.2.2.1
  clear h F1 hA
  generalize rn n tp isb q = p at hA1 h1 hpn ⊢
  have hle := rn_le (n := n) (tp := tp) (q := isl) p hpn
  have hge := rn_ge (n := n) (tp := tp) (q := isl) p
  have hst := rn_stop (n := n) (tp := tp) (q := isl) p
  have hin : ∀ i, i < rn n tp isl p - p → 97 ≤ tp (p + i) ∧ tp (p + i) ≤ 122 := fun i hi => isl_rng (rn_in (n := n) (tp := tp) (q := isl) p (p + i) (by omega) (by omega))
  refine bRe_wordHere_4 _ _ _ _ _ ?_
  have key : ∀ r i u, i + r = rn n tp isl p - p → Ev l G d mRe_wordHere 8 [.ref 206, .long (lN (kN (dgT tp p) (min i 9))), u, .int (nI i)] [] M1 bc bs Φ := by
    intro r
    induction r with
    | zero =>
      intro i u hi
      have hl : Ev l G d mRe_wordHere 78 [.ref 206, .long (lN (kN (dgT tp p) (min i 9))), u, .int (nI i)] [] M1 bc bs Φ := by
        unfold wv at h1
        refine bRe_wordHere_78 _ _ _ _ _ ⟨fun z => ?_, fun z => ?_⟩
        · have z' : i ≤ 9 := (nI_leI (a := i) (b := 9) (by omega) (by omega)).mp z
          rw [if_pos (by omega)] at h1
          rw [Nat.min_eq_left z', show i = rn n tp isl p - p by omega]
          exact h1
        · have z' : ¬ i ≤ 9 := fun k => z ((nI_leI (a := i) (b := 9) (by omega) (by omega)).mpr k)
          rw [if_neg (by omega)] at h1
          exact h1
      refine bRe_wordHere_8 _ _ _ _ _ ⟨hA1.1.1.c, CallVC.cps0 (by omega) ?_⟩
      rw [hA1.2.1, nI_add]
      refine ct_byteAt M1 hA1.1 (p + i) (by omega) ?_
      refine bRe_wordHere_18 _ _ _ _ _ _ ⟨fun _ => hl, fun z => ⟨hA1.1.1.c, CallVC.cps0 (by omega) ?_⟩⟩
      rw [hA1.2.1, nI_add]
      refine ct_byteAt M1 hA1.1 (p + i) (by omega) ?_
      refine bRe_wordHere_33 _ _ _ _ _ _ ⟨fun _ => hl, fun y => absurd ?_ (hst ?_)⟩
      · have z' : p + i < n ∧ 97 ≤ tp (p + i) := Classical.byContradiction (fun k => z ((bt_lo (p := p + i) hb (c := 97) (by omega)).1.mpr k))
        have y' : ¬ (p + i < n ∧ 122 < tp (p + i)) := fun k => y ((bt_lo (p := p + i) hb (c := 122) (by omega)).2.mpr k)
        rw [show rn n tp isl p = p + i by omega]
        exact decide_eq_true (by omega)
      · have z' : p + i < n ∧ 97 ≤ tp (p + i) := Classical.byContradiction (fun k => z ((bt_lo (p := p + i) hb (c := 97) (by omega)).1.mpr k))
        omega
    | succ r ih =>
      intro i u hi
      have hr := hin i (by omega)
      have hbt : bt n tp (p + i) = nI (tp (p + i)) := if_pos (by omega)
      refine bRe_wordHere_8 _ _ _ _ _ ⟨hA1.1.1.c, CallVC.cps0 (by omega) ?_⟩
      rw [hA1.2.1, nI_add]
      refine ct_byteAt M1 hA1.1 (p + i) (by omega) ?_
      refine bRe_wordHere_18 _ _ _ _ _ _ ⟨fun z => absurd ⟨by omega, hr.1⟩ ((bt_lo (p := p + i) hb (c := 97) (by omega)).1.mp z), fun z => ⟨hA1.1.1.c, CallVC.cps0 (by omega) ?_⟩⟩
      rw [hA1.2.1, nI_add]
      refine ct_byteAt M1 hA1.1 (p + i) (by omega) ?_
      refine bRe_wordHere_33 _ _ _ _ _ _ ⟨fun z => absurd ((bt_lo (p := p + i) hb (c := 122) (by omega)).2.mp z).2 (by omega), fun y => ⟨fun z => ?_, fun z => ⟨hA1.1.1.c, CallVC.cps0 (by omega) ?_⟩⟩⟩
      · have z' : 9 ≤ i := (nI_leI (a := 9) (b := i) (by omega) (by omega)).mp z
        rw [nI_1, show min i 9 = min (i + 1) 9 by omega]
        exact ih (i + 1) _ (by omega)
      · have z' : ¬ 9 ≤ i := fun k => z ((nI_leI (a := 9) (b := i) (by omega) (by omega)).mpr k)
        rw [hA1.2.1, nI_add]
        refine ct_byteAt M1 hA1.1 (p + i) (by omega) ?_
        refine bRe_wordHere_59 _ _ _ _ _ _ _ ?_
        rw [hbt, nI_l (by omega)]
        have e : lN 27 * lN (kN (dgT tp p) (min i 9)) + lN (tp (p + i)) - lN 97 + 1 = lN (kN (dgT tp p) (min (i + 1) 9)) := by
          rw [lN_mul, lN_add, lN_sub (by omega), lN_1, Nat.min_eq_left (by omega), Nat.min_eq_left (by omega)]
          show _ = lN (27 * kN (dgT tp p) i + (tp (p + i) - 96))
          exact congrArg lN (by omega)
        show Ev l G d mRe_wordHere 8 [.ref 206, .long (lN 27 * lN (kN (dgT tp p) (min i 9)) + lN (tp (p + i)) - lN 97 + 1), .null, .int (nI i + 1)] [] M1 bc bs Φ
        rw [e, nI_1]
        exact ih (i + 1) _ (by omega)
  exact key (rn n tp isl p - p) 0 _ (by omega)
theorem ct_isWord (M : Mm) {n : Nat} {tp : Nat → Nat} {q : Nat} (hA : RA M n tp q) {w : Nat} (hw : 2 ≤ w ∧ w ≤ 23) {x : Int64} (hx : x = lN (kvL (wTx w))) (hd : 2 < d) (h : ∀ M', FrS X4 M M' → RA M' n tp (rn n tp isb q) → Φ (.inl (some (.int (if wd n tp (rn n tp isb q) = w then 1 else 0)))) M') : Ct l G d mRe_isWord bc bs [.ref 206, .long x] M Φ := by
  subst hx
  refine Ct.of rfl (Nat.le_of_ble_eq_true rfl) ?_
  refine bRe_isWord_0 _ _ _ ⟨hA.1.1.c, fun z => absurd hA.2.2.2 z, fun _ => CallVC.cps0 (by omega) ?_⟩
  refine ct_wordHere M hA (by omega) (fun M1 F1 hA1 => ?_)
  have h1 := h M1 F1 hA1
  have e := wv_iff (fun j hj => (hA1.1.2.2.2 j hj).2) hA1.2.2.1 hw
  refine bRe_isWord_11 _ _ _ _ _ ⟨fun z => ?_, fun z => ?_⟩
  · rw [if_neg (fun k => z (lg_cmp0.mpr (e.mpr k)))] at h1; exact h1
  · rw [if_pos (e.mp (lg_cmp0.mp z))] at h1; exact h1
end RW2
