/-! the meaning of a formula: course, number of instants, place; a place beyond every instant (12) stands for the course without instants. o: the steps taken, in order, by number: 0 1 2 a fact, 3 not, 4 and, 5 or, 6 next, 7 until -/
abbrev cm_V : Type := (Nat → Int32) → Nat → Nat → Bool
def cm_un (f g : Nat → Bool) : Nat → Nat → Bool
  | 0 => fun _ => false
  | m + 1 => fun i => g i || (f i && cm_un f g m (i + 1))
def cm_op (o : Nat) (x y : cm_V) : cm_V := fun c n i =>
  if o < 3 then decide (i < n) && bt (c i) o
  else if o = 3 then !(y c n i)
  else if o = 4 then x c n i && y c n i
  else if o = 5 then x c n i || y c n i
  else if o = 6 then decide (i + 1 < n) && y c n (i + 1)
  else cm_un (x c n) (y c n) (n - i) i
def cm_ar (o : Nat) : Nat := if o < 3 then 0 else if o = 3 then 1 else if o = 6 then 1 else 2
/-- the depth after p steps -/
def cm_d (o : Nat → Nat) : Nat → Nat
  | 0 => 0
  | p + 1 => cm_d o p + 1 - cm_ar (o p)
/-- the meanings on the stack after p steps -/
def cm_s (o : Nat → Nat) : Nat → Nat → cm_V
  | 0 => fun _ _ _ _ => false
  | p + 1 => fun j => if j = cm_d o p - cm_ar (o p) then cm_op (o p) (cm_s o p (cm_d o p - 2)) (cm_s o p (cm_d o p - 1)) else cm_s o p j
/-- the steps whose formulas stand on the stack after p steps -/
def cm_ix (o : Nat → Nat) : Nat → Nat → Nat
  | 0 => fun _ => 0
  | p + 1 => fun j => if j = cm_d o p - cm_ar (o p) then p else cm_ix o p j
/-- the meaning of the formula that step i makes -/
def cm_N (o : Nat → Nat) (i : Nat) : cm_V := cm_op (o i) (cm_s o i (cm_d o i - 2)) (cm_s o i (cm_d o i - 1))
def cm_WF (o : Nat → Nat) (s : Nat) : Prop := ∀ p, p < s → o p < 8 ∧ cm_ar (o p) ≤ cm_d o p
theorem cm_ar2 (o : Nat) : cm_ar o ≤ 2 := by
  unfold cm_ar
  (repeat' split) <;> omega
theorem cm_dS (o : Nat → Nat) (p : Nat) : cm_d o (p + 1) = cm_d o p + 1 - cm_ar (o p) := rfl
theorem cm_ixt (o : Nat → Nat) (p : Nat) : cm_ix o (p + 1) (cm_d o p - cm_ar (o p)) = p := if_pos rfl
theorem cm_ixn {o : Nat → Nat} {p j : Nat} (h : j ≠ cm_d o p - cm_ar (o p)) : cm_ix o (p + 1) j = cm_ix o p j := if_neg h
theorem cm_stt (o : Nat → Nat) (p : Nat) : cm_s o (p + 1) (cm_d o p - cm_ar (o p)) = cm_N o p := if_pos rfl
theorem cm_stn {o : Nat → Nat} {p j : Nat} (h : j ≠ cm_d o p - cm_ar (o p)) : cm_s o (p + 1) j = cm_s o p j := if_neg h
theorem cm_wf1 {o : Nat → Nat} {s p : Nat} (w : cm_WF o s) (h : p ≤ s) : cm_WF o p := fun q hq => w q (by omega)
theorem cm_dle (o : Nat → Nat) : ∀ p, cm_d o p ≤ p := by
  intro p
  induction p with
  | zero => exact Nat.le_refl 0
  | succ p ih => rw [cm_dS]; omega
theorem cm_d1 {o : Nat → Nat} {p : Nat} (w : cm_WF o (p + 1)) : 1 ≤ cm_d o (p + 1) := by
  have h := (w p (by omega)).2
  rw [cm_dS]
  omega
theorem cm_top {o : Nat → Nat} {p : Nat} (w : cm_WF o (p + 1)) : cm_ix o (p + 1) (cm_d o (p + 1) - 1) = p := by
  have h := (w p (by omega)).2
  have e : cm_d o (p + 1) - 1 = cm_d o p - cm_ar (o p) := by rw [cm_dS]; omega
  rw [e]
  exact cm_ixt o p
/-- what stands on the stack is the meaning of an earlier step -/
theorem cm_sx (o : Nat → Nat) : ∀ p, cm_WF o p → ∀ j, j < cm_d o p → cm_ix o p j < p ∧ cm_s o p j = cm_N o (cm_ix o p j) := by
  intro p
  induction p with
  | zero => exact fun _ j h => absurd h (Nat.not_lt_zero j)
  | succ p ih =>
    intro w j h
    have hw := (w p (by omega)).2
    by_cases e : j = cm_d o p - cm_ar (o p)
    · rw [e, cm_ixt, cm_stt]
      exact ⟨by omega, rfl⟩
    · rw [cm_dS] at h
      rw [cm_ixn e, cm_stn e]
      obtain ⟨a, b⟩ := ih (cm_wf1 w (by omega)) j (by omega)
      exact ⟨by omega, b⟩
theorem cm_cg {o o' : Nat → Nat} : ∀ p, (∀ i, i < p → o i = o' i) → cm_d o p = cm_d o' p ∧ cm_ix o p = cm_ix o' p ∧ cm_s o p = cm_s o' p := by
  intro p
  induction p with
  | zero => exact fun _ => ⟨rfl, rfl, rfl⟩
  | succ p ih =>
    intro h
    obtain ⟨a, b, d⟩ := ih (fun i hi => h i (by omega))
    have e := h p (by omega)
    refine ⟨?_, ?_, ?_⟩
    · rw [cm_dS, cm_dS, a, e]
    · funext j
      show (if j = cm_d o p - cm_ar (o p) then p else cm_ix o p j) = (if j = cm_d o' p - cm_ar (o' p) then p else cm_ix o' p j)
      rw [a, b, e]
    · funext j
      show (if j = cm_d o p - cm_ar (o p) then cm_op (o p) (cm_s o p (cm_d o p - 2)) (cm_s o p (cm_d o p - 1)) else cm_s o p j) = (if j = cm_d o' p - cm_ar (o' p) then cm_op (o' p) (cm_s o' p (cm_d o' p - 2)) (cm_s o' p (cm_d o' p - 1)) else cm_s o' p j)
      rw [a, d, e]
theorem cm_wfc {o o' : Nat → Nat} {s : Nat} (h : ∀ i, i < s → o i = o' i) (w : cm_WF o s) : cm_WF o' s := by
  intro p hp
  rw [← h p hp, ← (cm_cg (o := o) (o' := o') p (fun i hi => h i (by omega))).1]
  exact w p hp
theorem cm_opc {o : Nat} {x x' y y' : cm_V} (hx : cm_ar o = 2 → x = x') (hy : 1 ≤ cm_ar o → y = y') : cm_op o x y = cm_op o x' y' := by
  by_cases h3 : o < 3
  · funext c n i
    unfold cm_op
    rw [if_pos h3, if_pos h3]
  · have e1 : 1 ≤ cm_ar o := by
      unfold cm_ar
      rw [if_neg h3]
      (repeat' split) <;> omega
    have ey := hy e1
    subst ey
    by_cases h4 : o = 3
    · subst h4
      rfl
    · by_cases h6 : o = 6
      · subst h6
        rfl
      · have e2 : cm_ar o = 2 := by
          unfold cm_ar
          rw [if_neg h3, if_neg h4, if_neg h6]
        rw [hx e2]
/-- the steps from b on, begun with nothing: as long as they never reach below the depth D of b, they do the same above D -/
theorem cm_sh (o : Nat → Nat) (b D n : Nat) (hD : cm_d o b = D) (h : ∀ p, p < n → D + cm_ar (o (b + p)) ≤ cm_d o (b + p)) : ∀ p, p ≤ n → cm_d o (b + p) = D + cm_d (fun q => o (b + q)) p ∧ (∀ j, j < cm_d (fun q => o (b + q)) p → cm_s o (b + p) (D + j) = cm_s (fun q => o (b + q)) p j) := by
  intro p
  induction p with
  | zero => exact fun _ => ⟨hD, fun j hj => absurd hj (Nat.not_lt_zero j)⟩
  | succ p ih =>
    intro hp
    obtain ⟨e, es⟩ := ih (by omega)
    have hh := h p (by omega)
    have e1 : cm_d o (b + (p + 1)) = cm_d o (b + p) + 1 - cm_ar (o (b + p)) := rfl
    have e2 : cm_d (fun q => o (b + q)) (p + 1) = cm_d (fun q => o (b + q)) p + 1 - cm_ar (o (b + p)) := rfl
    refine ⟨by omega, fun j hj => ?_⟩
    have f1 : cm_s o (b + (p + 1)) (D + j) = if D + j = cm_d o (b + p) - cm_ar (o (b + p)) then cm_op (o (b + p)) (cm_s o (b + p) (cm_d o (b + p) - 2)) (cm_s o (b + p) (cm_d o (b + p) - 1)) else cm_s o (b + p) (D + j) := rfl
    have f2 : cm_s (fun q => o (b + q)) (p + 1) j = if j = cm_d (fun q => o (b + q)) p - cm_ar (o (b + p)) then cm_op (o (b + p)) (cm_s (fun q => o (b + q)) p (cm_d (fun q => o (b + q)) p - 2)) (cm_s (fun q => o (b + q)) p (cm_d (fun q => o (b + q)) p - 1)) else cm_s (fun q => o (b + q)) p j := rfl
    rw [f1, f2]
    by_cases ej : j = cm_d (fun q => o (b + q)) p - cm_ar (o (b + p))
    · rw [if_pos ej, if_pos (by omega)]
      refine cm_opc (fun ha => ?_) (fun ha => ?_)
      · rw [show cm_d o (b + p) - 2 = D + (cm_d (fun q => o (b + q)) p - 2) by omega]
        exact es _ (by omega)
      · rw [show cm_d o (b + p) - 1 = D + (cm_d (fun q => o (b + q)) p - 1) by omega]
        exact es _ (by omega)
    · rw [if_neg ej, if_neg (by omega)]
      exact es j (by omega)
theorem cm_shN (o : Nat → Nat) (b D n : Nat) (hD : cm_d o b = D) (h : ∀ p, p < n → D + cm_ar (o (b + p)) ≤ cm_d o (b + p)) (p : Nat) (hp : p < n) : cm_N (fun q => o (b + q)) p = cm_N o (b + p) := by
  obtain ⟨e, es⟩ := cm_sh o b D n hD h p (by omega)
  have hh := h p hp
  refine cm_opc (fun ha => ?_) (fun ha => ?_)
  · have ha' : cm_ar (o (b + p)) = 2 := ha
    rw [show cm_d o (b + p) - 2 = D + (cm_d (fun q => o (b + q)) p - 2) by omega]
    exact (es _ (by omega)).symm
  · have ha' : 1 ≤ cm_ar (o (b + p)) := ha
    rw [show cm_d o (b + p) - 1 = D + (cm_d (fun q => o (b + q)) p - 1) by omega]
    exact (es _ (by omega)).symm
theorem cm_shW (o : Nat → Nat) (b D n : Nat) (w : cm_WF o (b + n)) (hD : cm_d o b = D) (h : ∀ p, p < n → D + cm_ar (o (b + p)) ≤ cm_d o (b + p)) : cm_WF (fun q => o (b + q)) n := by
  intro p hp
  have e := (cm_sh o b D n hD h p (by omega)).1
  have hh := h p hp
  refine ⟨(w (b + p) (by omega)).1, ?_⟩
  show cm_ar (o (b + p)) ≤ _
  omega
/-- a meaning looks at the instants below n alone -/
def cm_lc (f : cm_V) : Prop := ∀ (c c' : Nat → Int32) (n : Nat), (∀ j, j < n → c j = c' j) → f c n = f c' n
theorem cm_lcop {o : Nat} {x y : cm_V} (hx : cm_lc x) (hy : cm_lc y) : cm_lc (cm_op o x y) := by
  intro c c' n h
  funext i
  unfold cm_op
  rw [hx c c' n h, hy c c' n h]
  by_cases h3 : o < 3
  · rw [if_pos h3, if_pos h3]
    by_cases hi : i < n
    · rw [h i hi]
    · rw [decide_eq_false hi, Bool.false_and, Bool.false_and]
  · rw [if_neg h3, if_neg h3]
theorem cm_lcs (o : Nat → Nat) : ∀ p j, cm_lc (cm_s o p j) := by
  intro p
  induction p with
  | zero => exact fun j c c' n h => rfl
  | succ p ih =>
    intro j
    by_cases e : j = cm_d o p - cm_ar (o p)
    · rw [e, cm_stt]
      exact cm_lcop (ih _) (ih _)
    · rw [cm_stn e]
      exact ih j
theorem cm_lcN (o : Nat → Nat) (i : Nat) : cm_lc (cm_N o i) := cm_lcop (cm_lcs o _ _) (cm_lcs o _ _)
/-- the answer for the first n instants -/
def cm_A (f : cm_V) (c : Nat → Int32) (n : Nat) : Bool := f c n (if n = 0 then 12 else 0)
theorem cm_lcA {f : cm_V} (hf : cm_lc f) {c c' : Nat → Int32} {n : Nat} (h : ∀ j, j < n → c j = c' j) : cm_A f c n = cm_A f c' n := by
  unfold cm_A
  rw [hf c c' n h]
