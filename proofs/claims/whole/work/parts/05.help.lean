/-! what both walks ask of a step's parts; the reference's table of values -/
theorem cm_nd1 {o : Nat → Nat} {k : Nat} (w : cm_WF o (k + 1)) (h : cm_ar (o k) = 1) (h3 : ¬ o k < 3) : ∃ (b : Nat) (x : cm_V), b < k ∧ cm_lf o k = b ∧ 1 ≤ cm_d o k ∧ cm_ix o k (cm_d o k - 1) = b ∧ cm_N o k = cm_op (o k) x (cm_N o b) := by
  have hw := (w k (by omega)).2
  obtain ⟨a1, a2⟩ := cm_sx o k (cm_wf1 w (by omega)) (cm_d o k - 1) (by omega)
  refine ⟨cm_ix o k (cm_d o k - 1), cm_s o k (cm_d o k - 2), a1, ?_, by omega, rfl, ?_⟩
  · unfold cm_lf
    rw [if_neg h3, if_pos h]
  · rw [← a2]
    rfl
theorem cm_nd2 {o : Nat → Nat} {k : Nat} (w : cm_WF o (k + 1)) (h : cm_ar (o k) = 2) (h3 : ¬ o k < 3) : ∃ a b : Nat, a < k ∧ b < k ∧ cm_lf o k = a ∧ 2 ≤ cm_d o k ∧ cm_ix o k (cm_d o k - 2) = a ∧ cm_ix o k (cm_d o k - 1) = b ∧ cm_N o k = cm_op (o k) (cm_N o a) (cm_N o b) := by
  have hw := (w k (by omega)).2
  obtain ⟨a1, a2⟩ := cm_sx o k (cm_wf1 w (by omega)) (cm_d o k - 1) (by omega)
  obtain ⟨b1, b2⟩ := cm_sx o k (cm_wf1 w (by omega)) (cm_d o k - 2) (by omega)
  refine ⟨cm_ix o k (cm_d o k - 2), cm_ix o k (cm_d o k - 1), b1, a1, ?_, by omega, rfl, rfl, ?_⟩
  · unfold cm_lf
    rw [if_neg h3, if_neg (by omega)]
  · rw [← a2, ← b2]
    rfl
/-- the kinds of steps -/
theorem cm_8 {o : Nat} (h : o < 8) : o < 3 ∨ o = 3 ∨ o = 4 ∨ o = 5 ∨ o = 6 ∨ o = 7 := by omega
theorem cm_13 (b k : Nat) : (13 : Int32) * nI b + nI k = nI (13 * b + k) := by
  rw [show (13 : Int32) = nI 13 from rfl, pk_mul, nI_add]
/-- the reference's row a of values is that of f -/
def cm_YB (f : cm_V) (c : Nat → Int32) (n : Nat) (v : Nat → Int32) (a : Nat) : Prop := ∀ i, (i < n ∨ i = 12) → v (13 * a + i) = cm_b (f c n i)
theorem cm_YBu {f : cm_V} {c : Nat → Int32} {n : Nat} {v : Nat → Int32} {a p i : Nat} {x : Int32} (hn : n ≤ 12) (ha : a < p) (h : cm_YB f c n v a) : cm_YB f c n (upd v (13 * p + i) x) a := by
  intro j hj
  rw [pk_un (by omega)]
  exact h j hj
/-- the row p is filled below i -/
def cm_YF (f : cm_V) (c : Nat → Int32) (n : Nat) (v : Nat → Int32) (p i : Nat) : Prop := ∀ j, j < i → (j < n ∨ j = 12) → v (13 * p + j) = cm_b (f c n j)
theorem cm_YFu {f : cm_V} {c : Nat → Int32} {n : Nat} {v : Nat → Int32} {p i : Nat} {x : Int32} (h : cm_YF f c n v p i) (hx : (i < n ∨ i = 12) → x = cm_b (f c n i)) : cm_YF f c n (upd v (13 * p + i) x) p (i + 1) := by
  intro j hj hj2
  by_cases e : j = i
  · rw [e] at hj2 ⊢
    rw [pk_us]
    exact hx hj2
  · rw [pk_un (by omega)]
    exact h j (by omega) hj2
theorem cm_YFB {f : cm_V} {c : Nat → Int32} {n : Nat} {v : Nat → Int32} {p : Nat} (hn : n ≤ 12) (h : cm_YF f c n v p 13) : cm_YB f c n v p := fun i hi => h i (by omega) hi
theorem cm_YBA {f : cm_V} {c : Nat → Int32} {n : Nat} {v : Nat → Int32} {a : Nat} (h : cm_YB f c n v a) : v (13 * a + (if n = 0 then 12 else 0)) = cm_b (cm_A f c n) := by
  unfold cm_A
  apply h
  split
  · exact Or.inr rfl
  · exact Or.inl (by omega)
theorem cm_nb (b : Bool) : narrow .boolean (.int (cm_b b)) = .int (cm_b b) := by cases b <;> rfl
theorem cm_vn (b : Bool) : vp_nar .boolean (cm_b b) = cm_b b := by cases b <;> rfl
theorem cm_nI2 {x : Int32} {a : Nat} (h0 : ¬ x < 0) (h : x ≤ nI a) (ha : a < 2 ^ 31) : ∃ j, j ≤ a ∧ x = nI j := nI_of2 (nI_toInt ha) h0 h
/-- a branch on a boolean that is answered as it is -/
theorem cm_br {b : Bool} {P : Int32 → Prop} (h : P (cm_b b)) : (cm_b b = 0 → P 0) ∧ (¬ cm_b b = 0 → P 1) := by
  cases b
  · exact br_t rfl h
  · exact br_f (by decide) h
theorem cm_ar1 {o : Nat} (h : o = 3 ∨ o = 6) : cm_ar o = 1 := by
  rcases h with h | h
  · rw [h]; rfl
  · rw [h]; rfl
theorem cm_ar2b {o : Nat} (h : o = 4 ∨ o = 5 ∨ o = 7) : cm_ar o = 2 := by
  rcases h with h | h | h
  · rw [h]; rfl
  · rw [h]; rfl
  · rw [h]; rfl
theorem cm_ar0 {o : Nat} (h : o < 3) : cm_ar o = 0 := if_pos h
