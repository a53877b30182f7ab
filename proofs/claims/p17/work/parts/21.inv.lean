def tbL : List (List (Int × Int)) := [
  [(0, 0), (0, 0), (0, 0), (0, 0), (0, 0), (0, 0), (0, 0), (0, 0), (0, 0), (0, 0), (0, 0), (0, 0), (0, 0)],
  [(0, 0), (0, 80), (0, 80), (0, 76), (0, 10), (0, 14)],
  [(0, 65535)],
  [(0, 10), (0, 14), (0, 99), (0, 9999), (0, 0), (0, 0), (0, 0), (0, 0), (0, 0), (0, 0), (0, 0), (0, 0), (0, 0), (0, 0)],
  [(0, 9)],
  [(0, 9)],
  [(0, 9)],
  [(0, 9)],
  [(0, 20)],
  [(0, 9)],
  [(0, 9)],
  [(0, 9)],
  [(0, 9)],
  [(0, 1)],
  [(0, 0), (0, 14)],
  [((-2147483648 : Int), 2147483647)],
  [(0, 9), ((-2147483648 : Int), 2147483647), (0, 0)],
  [((-2147483648 : Int), 2147483647)],
  [(0, 9), ((-2147483648 : Int), 2147483647), (0, 0)],
  [((-2147483648 : Int), 2147483647)],
  [(0, 30), (0, 29), (0, 0), (0, 0), (0, 0), (0, 0)],
  [(0, 13)],
  [(0, 9)],
  [((-2147483648 : Int), 2147483647)],
  [((-2147483648 : Int), 2147483647)],
  [],
  [(0, 0), (0, 0), (0, 0)],
  [(0, 16383)],
  [(0, 16383)],
  [(0, 3072), (0, 0)],
  [],
  [(0, 0), (0, 16384)],
  [(0, 16384), (0, 0)],
  [],
  [(0, 0), (0, 14), (0, 15), (0, 0), (0, 0), (0, 0), (0, 0)],
  [(0, 13)],
  [(0, 870)],
  [((-2147483648 : Int), 2147483647)],
  [],
  [],
  [],
  [],
  [],
  [],
  [],
  [],
  [],
  [],
  [],
  [(0, 16384), (0, 0)],
  [],
  [(0, 12), (0, 4095), (0, 0), (0, 0), (0, 0), (0, 0)],
  [],
  [(0, 13)],
  [(0, 6)],
  [((-2147483648 : Int), 2147483647)],
  [],
  [(0, 1)],
  [(0, 1), (0, 9), (0, 29), (0, 0), (0, 0), (0, 0)],
  [(0, 13)],
  [(0, 9)],
  [((-2147483648 : Int), 2147483647)],
  [(0, 1), (0, 9), (0, 29), (0, 0), (0, 0), (0, 0)],
  [(0, 13)],
  [(0, 9)],
  [((-2147483648 : Int), 2147483647)],
  [(0, 9), ((-2147483648 : Int), 2147483647), (0, 0)],
  [((-2147483648 : Int), 2147483647)],
  [(0, 9), ((-2147483648 : Int), 2147483647), (0, 0)],
  [((-2147483648 : Int), 2147483647)],
  [(0, 9), ((-2147483648 : Int), 2147483647), (0, 0)],
  [((-2147483648 : Int), 2147483647)],
  [(0, 1), (0, 24), (0, 0), (0, 10), (0, 0), (0, 0), (0, 14), (0, 0), (0, 0), (0, 0), (0, 0), (0, 0), (0, 0), (0, 0), (0, 16383), (0, 99), (0, 9999), (0, 9), (0, 9999), (0, 0), (0, 0), (0, 80), (0, 80), (0, 76), (0, 10), (0, 14), (0, 16383), (0, 30), (0, 0), (0, 0), (0, 0), (0, 0), (0, 0), (0, 0), (0, 0), (0, 0), (0, 9), (0, 9999), (0, 0), (0, 969), (0, 0), (0, 0), (0, 10), (0, 0), (0, 0), (0, 10), ((-2147483648 : Int), 2147483647), (0, 0), (0, 0), (0, 0), (0, 0), (0, 12), (0, 0), (0, 0), (0, 0), (0, 0), (0, 0)],
  [((-2147483648 : Int), 2147483647)],
  [(0, 9)],
  [(0, 9)],
  [((-1 : Int), 9)],
  [((-1 : Int), 9)],
  [((-1 : Int), 20)],
  [((-1 : Int), 9)],
  [((-1 : Int), 9)],
  [((-1 : Int), 9)],
  [((-1 : Int), 9)],
  [((-2147483648 : Int), 2147483647)],
  [(0, 255)],
  [(0, 13)],
  [(0, 9)],
  [(0, 9999)],
  [((-2147483648 : Int), 2147483647)],
  [((-1 : Int), 9)],
  [(0, 30)],
  [(0, 13)],
  [(0, 13)],
  [((-2147483648 : Int), 2147483647)],
  [(0, 9)],
  [((-2147483648 : Int), 2147483647)],
  [((-2147483648 : Int), 2147483647)],
  [((-2147483648 : Int), 2147483647)],
  [(0, 1000000)],
  [(0, 1000000)],
  [(0, 1000000)],
  [(0, 1000000)],
  [(0, 13)],
  [(0, 6)],
  [((-2147483648 : Int), 2147483647)],
  [(0, 1)],
  [((-2147483648 : Int), 2147483647)],
  []]
def tbS (l : List (Int × Int)) (k : Nat) : Int × Int := match l with
  | [p] => p
  | l => l.getD k (-2147483648, 2147483647)
def tB (a k : Nat) : Int × Int := tbS (tbL.getD a []) k
/-- hedges that are told are whole ones, also while a text is read -/
def zP (m : sm_S) : Prop := (m.1 72 6).toInt ≤ (m.1 72 25).toInt ∧ ∀ j : Nat, (j : Int) < (m.1 72 25).toInt → 0 ≤ (m.1 76 j).toInt ∧ 0 ≤ (m.1 77 j).toInt ∧ 1 ≤ (m.1 78 j).toInt ∧ 0 ≤ (m.1 82 j).toInt
/-- tours name hedges that are there -/
def zH (m : sm_S) : Prop := ∀ j : Nat, ((m.1 91 j).toInt < (m.1 72 6).toInt ∨ (m.1 91 j).toInt = 0) ∧ ((m.1 92 j).toInt < (m.1 72 6).toInt ∨ (m.1 92 j).toInt = 0) ∧ (1 ≤ (m.1 90 j).toInt → 1 ≤ (m.1 72 6).toInt)
/-- what is kept: corner, time, days -/
def zK (m : sm_S) : Prop := ∀ j : Nat, (j % 16 = 0 → 0 ≤ (m.1 106 j).toInt ∧ (m.1 106 j).toInt ≤ 9) ∧ (j % 16 = 1 → 0 ≤ (m.1 106 j).toInt ∧ (m.1 106 j).toInt ≤ 9999)
def zI (m : sm_S) : Prop := (∀ a k : Nat, (tB a k).1 ≤ (m.1 a k).toInt ∧ (m.1 a k).toInt ≤ (tB a k).2) ∧ zP m ∧ zH m ∧ zK m
def spc (a k : Nat) : Bool := or (Nat.beq a 76) (or (Nat.beq a 77) (or (Nat.beq a 78) (or (Nat.beq a 82) (or (Nat.beq a 90) (or (Nat.beq a 91) (or (Nat.beq a 92) (or (Nat.beq a 106) (and (Nat.beq a 72) (or (Nat.beq k 6) (Nat.beq k 25))))))))))
theorem zI.le {m : sm_S} (h : zI m) : (m.1 72 6).toInt ≤ (m.1 72 25).toInt := h.2.1.1
theorem zI.pfj {m : sm_S} (h : zI m) (j : Nat) (hj : (j : Int) < (m.1 72 25).toInt) : 0 ≤ (m.1 76 j).toInt ∧ 0 ≤ (m.1 77 j).toInt ∧ 1 ≤ (m.1 78 j).toInt ∧ 0 ≤ (m.1 82 j).toInt := h.2.1.2 j hj
theorem zI.pf76 {m : sm_S} (h : zI m) (x : Int32) : 0 ≤ x.toInt → x.toInt < (m.1 72 25).toInt → 0 ≤ (m.1 76 x.toNatClampNeg).toInt := fun h1 h2 => (zI.pfj h _ (by rw [a_tn h1]; exact h2)).1
theorem zI.pf77 {m : sm_S} (h : zI m) (x : Int32) : 0 ≤ x.toInt → x.toInt < (m.1 72 25).toInt → 0 ≤ (m.1 77 x.toNatClampNeg).toInt := fun h1 h2 => (zI.pfj h _ (by rw [a_tn h1]; exact h2)).2.1
theorem zI.pf78 {m : sm_S} (h : zI m) (x : Int32) : 0 ≤ x.toInt → x.toInt < (m.1 72 25).toInt → 1 ≤ (m.1 78 x.toNatClampNeg).toInt := fun h1 h2 => (zI.pfj h _ (by rw [a_tn h1]; exact h2)).2.2.1
theorem zI.pf82 {m : sm_S} (h : zI m) (x : Int32) : 0 ≤ x.toInt → x.toInt < (m.1 72 25).toInt → 0 ≤ (m.1 82 x.toNatClampNeg).toInt := fun h1 h2 => (zI.pfj h _ (by rw [a_tn h1]; exact h2)).2.2.2
theorem zI.pf76l {m : sm_S} (h : zI m) (x : Nat) : (x : Int) < (m.1 72 25).toInt → 0 ≤ (m.1 76 x).toInt := fun h2 => (zI.pfj h _ h2).1
theorem zI.pf77l {m : sm_S} (h : zI m) (x : Nat) : (x : Int) < (m.1 72 25).toInt → 0 ≤ (m.1 77 x).toInt := fun h2 => (zI.pfj h _ h2).2.1
theorem zI.h90 {m : sm_S} (h : zI m) (j : Nat) : 1 ≤ (m.1 90 j).toInt → 1 ≤ (m.1 72 6).toInt := (h.2.2.1 j).2.2
theorem zI.h91 {m : sm_S} (h : zI m) (j : Nat) : (m.1 91 j).toInt < (m.1 72 6).toInt ∨ (m.1 91 j).toInt = 0 := (h.2.2.1 j).1
theorem zI.h92 {m : sm_S} (h : zI m) (j : Nat) : (m.1 92 j).toInt < (m.1 72 6).toInt ∨ (m.1 92 j).toInt = 0 := (h.2.2.1 j).2.1
theorem zI.k106 {m : sm_S} (h : zI m) (x : Int32) : 0 ≤ x.toInt → (x.toInt % 16 = 0 → 0 ≤ (m.1 106 x.toNatClampNeg).toInt ∧ (m.1 106 x.toNatClampNeg).toInt ≤ 9) ∧ (x.toInt % 16 = 1 → 0 ≤ (m.1 106 x.toNatClampNeg).toInt ∧ (m.1 106 x.toNatClampNeg).toInt ≤ 9999) := by
  intro h1
  have e := a_tn h1
  exact ⟨fun q => (h.2.2.2 x.toNatClampNeg).1 (by omega), fun q => (h.2.2.2 x.toNatClampNeg).2 (by omega)⟩
/-- what a write keeps of the table -/
theorem tb_w {m : sm_S} {a k : Nat} {v : Int32} (h : ∀ a k : Nat, (tB a k).1 ≤ (m.1 a k).toInt ∧ (m.1 a k).toInt ≤ (tB a k).2) (hv : (tB a k).1 ≤ v.toInt ∧ v.toInt ≤ (tB a k).2) : ∀ c j : Nat, (tB c j).1 ≤ ((sm_w1 m a k v).1 c j).toInt ∧ ((sm_w1 m a k v).1 c j).toInt ≤ (tB c j).2 :=
  r_all (fun c j x => (tB c j).1 ≤ x.toInt ∧ x.toInt ≤ (tB c j).2) hv h
/-- cells that a write leaves -/
theorem zP.cong {m m' : sm_S} (h : zP m) (e6 : m'.1 72 6 = m.1 72 6) (e25 : m'.1 72 25 = m.1 72 25) (e1 : ∀ j, m'.1 76 j = m.1 76 j) (e2 : ∀ j, m'.1 77 j = m.1 77 j) (e3 : ∀ j, m'.1 78 j = m.1 78 j) (e4 : ∀ j, m'.1 82 j = m.1 82 j) : zP m' := by
  unfold zP
  rw [e6, e25]
  refine ⟨h.1, fun j hj => ?_⟩
  rw [e1, e2, e3, e4]; exact h.2 j hj
theorem zH.cong {m m' : sm_S} (h : zH m) (e6 : m'.1 72 6 = m.1 72 6) (e1 : ∀ j, m'.1 90 j = m.1 90 j) (e2 : ∀ j, m'.1 91 j = m.1 91 j) (e3 : ∀ j, m'.1 92 j = m.1 92 j) : zH m' := by
  intro j
  rw [e6, e1, e2, e3]; exact h j
theorem zK.cong {m m' : sm_S} (h : zK m) (e : ∀ j, m'.1 106 j = m.1 106 j) : zK m' := by
  intro j
  rw [e]; exact h j
theorem spc_ne {a k c : Nat} (h : spc a k = false) (hc : spc c 0 = true) : c ≠ a := by
  intro e
  subst e
  unfold spc at h hc
  cases h1 : Nat.beq c 72 with
  | false => rw [h1] at h hc; simp only [Bool.false_and] at h hc; rw [h] at hc; cases hc
  | true => have := Nat.eq_of_beq_eq_true h1; subst this; exact absurd hc (by decide)
theorem spc_72 {a k j : Nat} {m : sm_S} {v : Int32} (h : spc a k = false) (hj : spc 72 j = true) : (sm_w1 m a k v).1 72 j = m.1 72 j := by
  by_cases e : 72 = a
  · subst e
    refine r_place (fun e2 => ?_)
    subst e2
    rw [h] at hj; cases hj
  · exact r_cell e
theorem zI.w {m : sm_S} {a k : Nat} {v : Int32} (h : zI m) (hs : spc a k = false) (hv : (tB a k).1 ≤ v.toInt ∧ v.toInt ≤ (tB a k).2) : zI (sm_w1 m a k v) := by
  obtain ⟨h1, h2, h3, h4⟩ := h
  have n : ∀ c, spc c 0 = true → ∀ j, (sm_w1 m a k v).1 c j = m.1 c j := fun c hc j => r_cell (spc_ne hs hc)
  exact ⟨tb_w h1 hv, zP.cong h2 (spc_72 hs (by decide)) (spc_72 hs (by decide)) (n 76 (by decide)) (n 77 (by decide)) (n 78 (by decide)) (n 82 (by decide)), zH.cong h3 (spc_72 hs (by decide)) (n 90 (by decide)) (n 91 (by decide)) (n 92 (by decide)), zK.cong h4 (n 106 (by decide))⟩
theorem zI.row {m : sm_S} {i v : Int32} {k : Nat} (h : zI m) (hi : 0 ≤ i.toInt ∧ i.toInt < 10) : zI (sm_w1 m (39 + i.toNatClampNeg) k v) := by
  have e := a_tn hi.1
  have h10 : i.toNatClampNeg = 0 ∨ i.toNatClampNeg = 1 ∨ i.toNatClampNeg = 2 ∨ i.toNatClampNeg = 3 ∨ i.toNatClampNeg = 4 ∨ i.toNatClampNeg = 5 ∨ i.toNatClampNeg = 6 ∨ i.toNatClampNeg = 7 ∨ i.toNatClampNeg = 8 ∨ i.toNatClampNeg = 9 := by omega
  rcases h10 with q | q | q | q | q | q | q | q | q | q <;> rw [q] <;> exact zI.w h rfl (rg v)
theorem zP.arr {m : sm_S} {a k : Nat} {v : Int32} (h : zP m) (ha : a ≠ 72) (hq : ∀ j : Nat, (j : Int) < (m.1 72 25).toInt → 0 ≤ ((sm_w1 m a k v).1 76 j).toInt ∧ 0 ≤ ((sm_w1 m a k v).1 77 j).toInt ∧ 1 ≤ ((sm_w1 m a k v).1 78 j).toInt ∧ 0 ≤ ((sm_w1 m a k v).1 82 j).toInt) : zP (sm_w1 m a k v) := by
  unfold zP
  rw [r_cell (fun e => ha e.symm), r_cell (fun e => ha e.symm)]
  exact ⟨h.1, hq⟩
theorem zI.warr {m : sm_S} {a : Nat} {v x : Int32} (h : zI m) (ha : a = 76 ∨ a = 77 ∨ a = 78 ∨ a = 82) (hv : (tB a x.toNatClampNeg).1 ≤ v.toInt ∧ v.toInt ≤ (tB a x.toNatClampNeg).2) (hl : (if a = 78 then (1 : Int) else 0) ≤ v.toInt ∨ (m.1 72 25).toInt ≤ x.toInt) (h0 : 0 ≤ x.toInt) : zI (sm_w1 m a x.toNatClampNeg v) := by
  obtain ⟨h1, h2, h3, h4⟩ := h
  have e := a_tn h0
  have n72 : a ≠ 72 := by omega
  refine ⟨tb_w h1 hv, zP.arr h2 n72 (fun j hj => ?_), zH.cong h3 (r_cell (by omega)) (fun j => r_cell (by omega)) (fun j => r_cell (by omega)) (fun j => r_cell (by omega)), zK.cong h4 (fun j => r_cell (by omega))⟩
  have q := h2.2 j hj
  have key : ∀ c : Nat, (lb : Int) → lb ≤ (m.1 c j).toInt → (a = c → lb ≤ v.toInt ∨ (m.1 72 25).toInt ≤ x.toInt) → lb ≤ ((sm_w1 m a x.toNatClampNeg v).1 c j).toInt := by
    intro c lb g1 g2
    by_cases e1 : c = a
    · by_cases e2 : j = x.toNatClampNeg
      · subst e1; subst e2
        rw [r_hit]
        rcases g2 rfl with g | g
        · exact g
        · omega
      · rw [r_place e2]; exact g1
    · rw [r_cell e1]; exact g1
  refine ⟨key 76 0 q.1 (fun e1 => ?_), key 77 0 q.2.1 (fun e1 => ?_), key 78 1 q.2.2.1 (fun e1 => ?_), key 82 0 q.2.2.2 (fun e1 => ?_)⟩
  · rw [e1, if_neg (by decide)] at hl; exact hl
  · rw [e1, if_neg (by decide)] at hl; exact hl
  · rw [e1, if_pos rfl] at hl; exact hl
  · rw [e1, if_neg (by decide)] at hl; exact hl
theorem zI.w76 {m : sm_S} {v x : Int32} (h : zI m) (hv : (tB 76 x.toNatClampNeg).1 ≤ v.toInt ∧ v.toInt ≤ (tB 76 x.toNatClampNeg).2) (hl : 0 ≤ v.toInt ∨ (m.1 72 25).toInt ≤ x.toInt) (h0 : 0 ≤ x.toInt) : zI (sm_w1 m 76 x.toNatClampNeg v) := zI.warr h (by decide) hv (by rw [if_neg (by decide)]; exact hl) h0
theorem zI.w77 {m : sm_S} {v x : Int32} (h : zI m) (hv : (tB 77 x.toNatClampNeg).1 ≤ v.toInt ∧ v.toInt ≤ (tB 77 x.toNatClampNeg).2) (hl : 0 ≤ v.toInt ∨ (m.1 72 25).toInt ≤ x.toInt) (h0 : 0 ≤ x.toInt) : zI (sm_w1 m 77 x.toNatClampNeg v) := zI.warr h (by decide) hv (by rw [if_neg (by decide)]; exact hl) h0
theorem zI.w78 {m : sm_S} {v x : Int32} (h : zI m) (hv : (tB 78 x.toNatClampNeg).1 ≤ v.toInt ∧ v.toInt ≤ (tB 78 x.toNatClampNeg).2) (hl : 1 ≤ v.toInt ∨ (m.1 72 25).toInt ≤ x.toInt) (h0 : 0 ≤ x.toInt) : zI (sm_w1 m 78 x.toNatClampNeg v) := zI.warr h (by decide) hv (by rw [if_pos rfl]; exact hl) h0
theorem zI.w82 {m : sm_S} {v x : Int32} (h : zI m) (hv : (tB 82 x.toNatClampNeg).1 ≤ v.toInt ∧ v.toInt ≤ (tB 82 x.toNatClampNeg).2) (hl : 0 ≤ v.toInt ∨ (m.1 72 25).toInt ≤ x.toInt) (h0 : 0 ≤ x.toInt) : zI (sm_w1 m 82 x.toNatClampNeg v) := zI.warr h (by decide) hv (by rw [if_neg (by decide)]; exact hl) h0
theorem zH.hit {m : sm_S} {a k : Nat} {v : Int32} (h : zH m) (ha : a = 90 ∨ a = 91 ∨ a = 92) (hv : (a = 90 → 1 ≤ v.toInt → 1 ≤ (m.1 72 6).toInt) ∧ (a ≠ 90 → v.toInt < (m.1 72 6).toInt ∨ v.toInt = 0)) : zH (sm_w1 m a k v) := by
  intro j
  rw [r_cell (c := 72) (by omega)]
  have q := h j
  have key : ∀ (c : Nat) (P : Int → Prop), P (m.1 c j).toInt → (a = c → P v.toInt) → P ((sm_w1 m a k v).1 c j).toInt := by
    intro c P g1 g2
    by_cases e1 : c = a
    · by_cases e2 : j = k
      · subst e1; subst e2
        rw [r_hit]; exact g2 rfl
      · rw [r_place e2]; exact g1
    · rw [r_cell e1]; exact g1
  exact ⟨key 91 (fun z => z < (m.1 72 6).toInt ∨ z = 0) q.1 (fun e => hv.2 (by omega)), key 92 (fun z => z < (m.1 72 6).toInt ∨ z = 0) q.2.1 (fun e => hv.2 (by omega)), key 90 (fun z => 1 ≤ z → 1 ≤ (m.1 72 6).toInt) q.2.2 hv.1⟩
theorem zI.w9 {m : sm_S} {a k : Nat} {v : Int32} (h : zI m) (ha : a = 90 ∨ a = 91 ∨ a = 92) (hb : (tB a k).1 ≤ v.toInt ∧ v.toInt ≤ (tB a k).2) (hv : (a = 90 → 1 ≤ v.toInt → 1 ≤ (m.1 72 6).toInt) ∧ (a ≠ 90 → v.toInt < (m.1 72 6).toInt ∨ v.toInt = 0)) : zI (sm_w1 m a k v) := by
  obtain ⟨h1, h2, h3, h4⟩ := h
  exact ⟨tb_w h1 hb, zP.cong h2 (r_cell (by omega)) (r_cell (by omega)) (fun j => r_cell (by omega)) (fun j => r_cell (by omega)) (fun j => r_cell (by omega)) (fun j => r_cell (by omega)), zH.hit h3 ha hv, zK.cong h4 (fun j => r_cell (by omega))⟩
theorem zI.w90 {m : sm_S} {k : Nat} {v : Int32} (h : zI m) (hb : (tB 90 k).1 ≤ v.toInt ∧ v.toInt ≤ (tB 90 k).2) (hv : 1 ≤ v.toInt → 1 ≤ (m.1 72 6).toInt) : zI (sm_w1 m 90 k v) := zI.w9 h (by decide) hb ⟨fun _ => hv, fun e => absurd rfl e⟩
theorem zI.w91 {m : sm_S} {k : Nat} {v : Int32} (h : zI m) (hb : (tB 91 k).1 ≤ v.toInt ∧ v.toInt ≤ (tB 91 k).2) (hv : v.toInt < (m.1 72 6).toInt ∨ v.toInt = 0) : zI (sm_w1 m 91 k v) := zI.w9 h (by decide) hb ⟨fun e => absurd e (by decide), fun _ => hv⟩
theorem zI.w92 {m : sm_S} {k : Nat} {v : Int32} (h : zI m) (hb : (tB 92 k).1 ≤ v.toInt ∧ v.toInt ≤ (tB 92 k).2) (hv : v.toInt < (m.1 72 6).toInt ∨ v.toInt = 0) : zI (sm_w1 m 92 k v) := zI.w9 h (by decide) hb ⟨fun e => absurd e (by decide), fun _ => hv⟩
theorem zI.w106 {m : sm_S} {v x : Int32} (h : zI m) (h0 : 0 ≤ x.toInt) (hv : (x.toInt % 16 = 0 → 0 ≤ v.toInt ∧ v.toInt ≤ 9) ∧ (x.toInt % 16 = 1 → 0 ≤ v.toInt ∧ v.toInt ≤ 9999)) : zI (sm_w1 m 106 x.toNatClampNeg v) := by
  obtain ⟨h1, h2, h3, h4⟩ := h
  have e := a_tn h0
  refine ⟨tb_w h1 (rg v), zP.cong h2 (r_cell (by decide)) (r_cell (by decide)) (fun j => r_cell (by decide)) (fun j => r_cell (by decide)) (fun j => r_cell (by decide)) (fun j => r_cell (by decide)), zH.cong h3 (r_cell (by decide)) (fun j => r_cell (by decide)) (fun j => r_cell (by decide)) (fun j => r_cell (by decide)), fun j => ?_⟩
  by_cases e2 : j = x.toNatClampNeg
  · subst e2; rw [r_hit]
    exact ⟨fun q => hv.1 (by omega), fun q => hv.2 (by omega)⟩
  · rw [r_place e2]; exact h4 j
theorem zI.w6 {m : sm_S} {v : Int32} (h : zI m) (hb : (tB 72 6).1 ≤ v.toInt ∧ v.toInt ≤ (tB 72 6).2) (hv : (m.1 72 6).toInt ≤ v.toInt ∧ v.toInt ≤ (m.1 72 25).toInt) : zI (sm_w1 m 72 6 v) := by
  obtain ⟨h1, h2, h3, h4⟩ := h
  refine ⟨tb_w h1 hb, ⟨?_, fun j hj => ?_⟩, fun j => ?_, zK.cong h4 (fun j => r_cell (by decide))⟩
  · rw [r_hit, r_place (by decide)]; exact hv.2
  · rw [r_place (by decide)] at hj
    rw [r_cell (by decide), r_cell (by decide), r_cell (by decide), r_cell (by decide)]
    exact h2.2 j hj
  · rw [r_cell (c := 91) (by decide), r_cell (c := 92) (by decide), r_cell (c := 90) (by decide), r_hit]
    have q := h3 j
    exact ⟨by omega, by omega, by omega⟩
theorem zI.w25 {m : sm_S} {v : Int32} (h : zI m) (hb : (tB 72 25).1 ≤ v.toInt ∧ v.toInt ≤ (tB 72 25).2) (hv : (m.1 72 6).toInt ≤ v.toInt ∧ v.toInt ≤ (m.1 72 25).toInt) : zI (sm_w1 m 72 25 v) := by
  obtain ⟨h1, h2, h3, h4⟩ := h
  refine ⟨tb_w h1 hb, ⟨?_, fun j hj => ?_⟩, zH.cong h3 (r_place (by decide)) (fun j => r_cell (by decide)) (fun j => r_cell (by decide)) (fun j => r_cell (by decide)), zK.cong h4 (fun j => r_cell (by decide))⟩
  · rw [r_hit, r_place (by decide)]; exact hv.1
  · rw [r_hit] at hj
    rw [r_cell (by decide), r_cell (by decide), r_cell (by decide), r_cell (by decide)]
    exact h2.2 j (by omega)
theorem zI.w25b {m : sm_S} {v : Int32} (j0 : Nat) (h : zI m) (hb : (tB 72 25).1 ≤ v.toInt ∧ v.toInt ≤ (tB 72 25).2) (hv : v.toInt = (m.1 72 25).toInt + 1) (hj0 : (j0 : Int) = (m.1 72 25).toInt) (h76 : 0 ≤ (m.1 76 j0).toInt) (h77 : 0 ≤ (m.1 77 j0).toInt) (h78 : 1 ≤ (m.1 78 j0).toInt) (h82 : 0 ≤ (m.1 82 j0).toInt) : zI (sm_w1 m 72 25 v) := by
  obtain ⟨h1, h2, h3, h4⟩ := h
  have q := h2.1
  refine ⟨tb_w h1 hb, ⟨?_, fun j hj => ?_⟩, zH.cong h3 (r_place (by decide)) (fun j => r_cell (by decide)) (fun j => r_cell (by decide)) (fun j => r_cell (by decide)), zK.cong h4 (fun j => r_cell (by decide))⟩
  · rw [r_hit, r_place (by decide)]; omega
  · rw [r_hit] at hj
    rw [r_cell (by decide), r_cell (by decide), r_cell (by decide), r_cell (by decide)]
    by_cases e : j = j0
    · subst e; exact ⟨h76, h77, h78, h82⟩
    · exact h2.2 j (by omega)
theorem a_asc (x y : Int32) : x + y - y = x := Int32.toBitVec_inj.1 (by rw [Int32.toBitVec_sub, Int32.toBitVec_add]; exact BitVec.add_sub_cancel _ _)
