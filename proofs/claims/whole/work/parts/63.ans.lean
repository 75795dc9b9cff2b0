/-! ===== the answers: code of what is thrown (0: nothing), value, the world after ===== -/
abbrev An : Type := Nat × Int32 × Wd
def pIn (w : Wd) (x : Int32) : Prop := ¬ x < 0 ∧ x < nI (w_n w)
def vIn (k : Nat) (x : Int32) : Prop := ¬ x < 0 ∧ ¬ nI k < x
theorem i32_nat {x : Int32} (h : ¬ x < 0) : ∃ v, v < 2 ^ 31 ∧ x = nI v := by
  have e : 0 ≤ x.toInt := by
    have := Int32.not_lt.mp h
    rw [Int32.le_iff_toInt_le] at this
    exact this
  have e2 : x.toInt < 2 ^ 31 := Int32.toInt_lt x
  refine ⟨x.toInt.toNat, by omega, ?_⟩
  apply Int32.toInt_inj.mp
  rw [nI_toInt (by omega)]
  omega
theorem pIn_nI {w : Wd} (hn : w_n w ≤ 8) {x : Int32} : pIn w x ↔ ∃ p, p < w_n w ∧ x = nI p := by
  constructor
  · rintro ⟨a, b⟩
    obtain ⟨v, v1, rfl⟩ := i32_nat a
    exact ⟨v, (nI_ltI (by omega) (by omega)).mp b, rfl⟩
  · rintro ⟨p, hp, rfl⟩
    exact ⟨nI_pos (by omega), (nI_ltI (by omega) (by omega)).mpr hp⟩
theorem vIn_nI {k : Nat} (hk : k < 2 ^ 31) {x : Int32} : vIn k x ↔ ∃ v, v ≤ k ∧ x = nI v := by
  constructor
  · rintro ⟨a, b⟩
    obtain ⟨v, v1, rfl⟩ := i32_nat a
    exact ⟨v, Nat.le_of_not_lt (fun z => b ((nI_ltI (by omega) (by omega)).mpr z)), rfl⟩
  · rintro ⟨p, hp, rfl⟩
    exact ⟨nI_pos (by omega), fun z => by have := (nI_ltI (by omega) (by omega)).mp z; omega⟩
def dP (w : Wd) (x : Int32) : Decidable (pIn w x) := inferInstanceAs (Decidable (¬ x < 0 ∧ x < nI (w_n w)))
def dV (k : Nat) (x : Int32) : Decidable (vIn k x) := inferInstanceAs (Decidable (¬ x < 0 ∧ ¬ nI k < x))
/-- first, if a number is none such; then another one; else the answer -/
def okP (w : Wd) (x : Int32) (a : An) : An := if ¬ x < 0 ∧ x < nI (w_n w) then a else (1, 0, w)
def okV (c : Nat) (w : Wd) (k : Nat) (x : Int32) (a : An) : An := if ¬ x < 0 ∧ ¬ nI k < x then a else (c, 0, w)
theorem okP_y {w : Wd} {x : Int32} {a : An} (h : pIn w x) : okP w x a = a := if_pos h
theorem okP_n {w : Wd} {x : Int32} {a : An} (h : ¬ pIn w x) : okP w x a = (1, 0, w) := if_neg h
theorem okV_y {c : Nat} {w : Wd} {k : Nat} {x : Int32} {a : An} (h : vIn k x) : okV c w k x a = a := if_pos h
theorem okV_n {c : Nat} {w : Wd} {k : Nat} {x : Int32} {a : An} (h : ¬ vIn k x) : okV c w k x a = (c, 0, w) := if_neg h
def tN (x : Int32) : Nat := x.toNatClampNeg
theorem tN_nI {v : Nat} (h : v < 2 ^ 31) : tN (nI v) = v := nI_clamp h
def ws_F (w : Wd) (F : Nat → Nat → Nat) : Wd := (w.1, F, w.2.2)
def ws_sr (w : Wd) (sr : Nat → Int32) (ss : Nat) : Wd := (w.1, w.2.1, w.2.2.1, w.2.2.2.1, w.2.2.2.2.1, w.2.2.2.2.2.1, w.2.2.2.2.2.2.1, sr, ss, w.2.2.2.2.2.2.2.2.2)
def ws_im (w : Wd) (ic : Nat) (im : Nat → Imz) : Wd := (w.1, w.2.1, w.2.2.1, w.2.2.2.1, w.2.2.2.2.1, w.2.2.2.2.2.1, w.2.2.2.2.2.2.1, w.2.2.2.2.2.2.2.1, w.2.2.2.2.2.2.2.2.1, ic, im)
def ws_T (w : Wd) (T : Nat) (tp : Nat → Nat) : Wd := (w.1, w.2.1, w.2.2.1, w.2.2.2.1, T, tp, w.2.2.2.2.2.2)
def ws_fp (w : Wd) (fp : Int32) : Wd := (w.1, w.2.1, w.2.2.1, w.2.2.2.1, w.2.2.2.2.1, w.2.2.2.2.2.1, fp, w.2.2.2.2.2.2.2)
def upd2 (F : Nat → Nat → Nat) (p k v : Nat) : Nat → Nat → Nat := fun q j => if q = p ∧ j = k then v else F q j
def aFault (w : Wd) : An := (0, w_fp w, w)
def aTold (w : Wd) (x : Int32) : An := okV 1 w 7 x (0, if tN x = 0 then nI (w_n w) else if tN x = 1 then nI (w_R w).length else w_nu w 0 (tN x), w)
def aPerson (w : Wd) (x y : Int32) : An := okP w x (okV 2 w 7 y (0, w_f w (tN x) (tN y), w))
def aWay (w : Wd) (x y : Int32) : An := okP w x (okV 2 w 4 y (0, w_f w (tN x) 5, ws_F w (upd2 (w_F w) (tN x) 5 (tN y))))
def aUntil (w : Wd) (x y : Int32) : An := okP w x (okV 2 w 99 y (0, w_f w (tN x) 6, ws_F w (upd2 (w_F w) (tN x) 6 (tN y))))
def aMust (w : Wd) (x y z : Int32) : An := okP w x (okP w y (okV 2 w 16 z (if x = y then (2, 0, w) else (0, if mustF (w_R w) (w_nu w 0) (w_f w) (tN x) (tN y) (tN z) = true then 1 else 0, w))))
def aWorth (w : Wd) (x y z : Int32) : An := okP w x (okP w y (okV 2 w 16 z (if x = y then (2, 0, w) else (0, worthF (w_R w) (w_nu w 0) (w_f w) (tN x) (tN y) (tN z), w))))
def aTell (w : Wd) (x : Int32) : An := okP w x (if w_ss w = 8 then (0, -1, w) else (0, nI (w_ss w + 1), ws_sr w (fun j => if j = w_ss w then x else w_sr w j) (w_ss w + 1)))
def aForget (w : Wd) : An := (0, nI (w_ss w), ws_sr w (w_sr w) 0)
def aCount (w : Wd) (x : Int32) : An := (0, if x = 0 then nI (w_ss w) else if x = 1 then nI (w_ic w) else if x = 2 then nI (w_T w) else -1, w)
def aEnds (w : Wd) (x : Int32) : An := okP w x (0, g_eo (day0W w) (tN x), w)
def aBalance (w : Wd) (x : Int32) : An := okP w x (0, balL (g_ps (day0W w)) (g_fr (day0W w)) (w_nu w 0 7) (tN x), w)
def aBook (w : Wd) (x y : Int32) : An := okP w x (okP w y (0, givL (g_ps (day0W w)) (tN x) (tN y), w))
def svN (cs : List CR) : Nat → Int32
  | 0 => 0
  | i + 1 => svN cs i + (if (cs.getD i cr0).2.2.2.2.1 = -1 then 0 else 1)
def dayV (s : Sg) (k : Nat) : Int32 := if k = 0 then nI (g_cs s).length else if k = 1 then svN (g_cs s) (g_cs s).length else if k = 2 then offN (g_cs s) (g_cs s).length else if k = 3 then nI (g_ps s).length else if k = 4 then (if g_el s = true then 1 else 0) else if k = 5 then lastN (g_cs s) (g_cs s).length else unaN (g_cs s) (g_cs s).length
def aDay (w : Wd) (x : Int32) : An := okV 1 w 6 x (0, dayV (day0W w) (tN x), w)
def cIn (w : Wd) (x : Int32) : Prop := ¬ x < 0 ∧ x < nI (g_cs (day0W w)).length
def okC (w : Wd) (x : Int32) (a : An) : An := if ¬ x < 0 ∧ x < nI (g_cs (day0W w)).length then a else (1, 0, w)
theorem okC_y {w : Wd} {x : Int32} {a : An} (h : cIn w x) : okC w x a = a := if_pos h
theorem okC_n {w : Wd} {x : Int32} {a : An} (h : ¬ cIn w x) : okC w x a = (1, 0, w) := if_neg h
def calV (r : CR) (k : Nat) : Int32 := if k = 0 then r.2.2.2.2.1 else if k = 1 then nI r.2.2.1 else if k = 2 then nI r.2.2.2.1 else if k = 3 then r.2.1 else r.2.2.2.2.2.1
def aCall (w : Wd) (x y : Int32) : An := okC w x (okV 2 w 4 y (0, calV ((g_cs (day0W w)).getD (tN x) cr0) (tN y), w))
def holdV (r : CR) (y : Int32) : Int32 := if r.2.2.2.2.2.2 = true then -1 else if ¬ y < 0 ∧ ¬ nI r.2.2.2.1 < y then nI (r.1.getD (tN y % r.1.length) 0) else -1
def aHolder (w : Wd) (x y : Int32) : An := okC w x (0, holdV ((g_cs (day0W w)).getD (tN x) cr0) y, w)
def judN (w : Wd) (cs : List CR) : Nat → Nat → Int32
  | 0, _ => -1
  | k + 1, i => if cs.length ≤ i then nI i else if (cs.getD i cr0).2.2.2.2.1 = w_sr w i then judN w cs k (i + 1) else nI i
def aJudge (w : Wd) : An := (0, judN w (g_cs (day0W w)) (w_ss w) 0, w)
def aAgain (w : Wd) (x y z : Int32) : An := okP w y (okV 2 w 4 z (if x < 0 then (2, 0, w) else (0, g_eo (dyW w 0 none 0 (some (tN y)) x (tN z) (fun p => w_F w p 5)) (tN y), w)))
def planV (w : Wd) (p : Nat) (bits : Int32) : Int32 := g_eo (dyW w 0 (some p) bits none 0 0 (fun q => w_F w q 5)) p
def aPlan (w : Wd) (x y : Int32) : An := okP w x (okV 2 w 1023 y (0, planV w (tN x) y, w))
def lateV (e : Int32) : Int32 := if e = -1 then 9999 else e
def aGain (w : Wd) (x y : Int32) : An := okP w x (okV 2 w 4 y (0, lateV (g_eo (day0W w) (tN x)) - lateV (g_eo (dyW w 0 none 0 (some (tN x)) 0 (tN y) (fun q => w_F w q 5)) (tN x)), w))
