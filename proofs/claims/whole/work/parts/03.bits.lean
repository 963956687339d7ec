/-! booleans as 0 and 1, and the component's sets of places by bits -/
def cm_b (b : Bool) : Int32 := if b = true then 1 else 0
theorem cm_1 : ∀ i, i < 32 → bt 1 i = decide (i = 0) := by decide +kernel
theorem cm_bb (b : Bool) {i : Nat} (hi : i < 32) : bt (cm_b b) i = (b && decide (i = 0)) := by
  cases b
  · exact b_0 i
  · exact cm_1 i hi
theorem cm_and1 (z : Int32) : z &&& 1 = cm_b (bt z 0) := by
  apply b_ext
  intro i hi
  rw [b_and, cm_bb _ hi, cm_1 i hi]
  by_cases e : i = 0
  · rw [e]
  · rw [decide_eq_false e, Bool.and_false, Bool.and_false]
theorem cm_b0 (b : Bool) : cm_b b = 0 ↔ b = false := by cases b <;> decide
theorem cm_b1 (b : Bool) : cm_b b = 1 ↔ b = true := by cases b <;> decide
theorem cm_binj {a b : Bool} (h : cm_b a = cm_b b) : a = b := by
  revert h
  cases a <;> cases b <;> decide
theorem cm_1s (k : Nat) (hk : k < 32) {i : Nat} (hi : i < 32) : bt ((1 : Int32) <<< (nI k &&& 31)) i = decide (i = k) := by
  rw [b_shl k hk 1 hi, cm_1 (i - k) (by omega)]
  by_cases e : i = k
  · simp [e]
  · by_cases h : k ≤ i
    · have h2 : ¬ i - k = 0 := by omega
      rw [decide_eq_false h2, decide_eq_false e, Bool.and_false]
    · rw [decide_eq_false h, decide_eq_false e, Bool.false_and]
theorem cm_all : ∀ n, n < 13 → ∀ i, i < 32 → bt (((1 : Int32) <<< (nI n &&& 31)) - 1) i = decide (i < n) := by decide +kernel
def cm_q (n i : Nat) : Nat := if n = 0 then 12 else i
def cm_m (n : Nat) : Nat := if n = 0 then 1 else n
/-- x is the set of the places of f -/
def cm_XB (f : cm_V) (c : Nat → Int32) (n : Nat) (x : Int32) : Prop := ∀ i, i < 32 → bt x i = (decide (i < cm_m n) && f c n (cm_q n i))
theorem cm_o0 {o : Nat} (h : o < 3) (x y : cm_V) (c : Nat → Int32) (n i : Nat) : cm_op o x y c n i = (decide (i < n) && bt (c i) o) := if_pos h
theorem cm_o3 (x y : cm_V) (c : Nat → Int32) (n i : Nat) : cm_op 3 x y c n i = !(y c n i) := rfl
theorem cm_o4 (x y : cm_V) (c : Nat → Int32) (n i : Nat) : cm_op 4 x y c n i = (x c n i && y c n i) := rfl
theorem cm_o5 (x y : cm_V) (c : Nat → Int32) (n i : Nat) : cm_op 5 x y c n i = (x c n i || y c n i) := rfl
theorem cm_o6 (x y : cm_V) (c : Nat → Int32) (n i : Nat) : cm_op 6 x y c n i = (decide (i + 1 < n) && y c n (i + 1)) := rfl
theorem cm_o7 (x y : cm_V) (c : Nat → Int32) (n i : Nat) : cm_op 7 x y c n i = cm_un (x c n) (y c n) (n - i) i := rfl
theorem cm_xb0 {o : Nat} {x y : cm_V} {c : Nat → Int32} {n : Nat} {v : Int32} (ho : o < 3) (h : ∀ i, i < 32 → bt v i = (decide (i < n) && bt (c i) o)) : cm_XB (cm_op o x y) c n v := by
  intro i hi
  rw [h i hi, cm_o0 ho]
  unfold cm_q cm_m
  by_cases hn : n = 0
  · subst hn
    simp
  · simp only [if_neg hn]
    cases decide (i < n) <;> simp
theorem cm_xb3 {x y : cm_V} {c : Nat → Int32} {n : Nat} {w v : Int32} (h : cm_XB y c n w) (hv : ∀ i, i < 32 → bt v i = (decide (i < cm_m n) && !(bt w i))) : cm_XB (cm_op 3 x y) c n v := by
  intro i hi
  rw [hv i hi, h i hi, cm_o3]
  cases decide (i < cm_m n) <;> simp
theorem cm_xb4 {x y : cm_V} {c : Nat → Int32} {n : Nat} {wx wy : Int32} (hx : cm_XB x c n wx) (hy : cm_XB y c n wy) : cm_XB (cm_op 4 x y) c n (wx &&& wy) := by
  intro i hi
  rw [b_and, hx i hi, hy i hi, cm_o4]
  cases decide (i < cm_m n) <;> simp
theorem cm_xb5 {x y : cm_V} {c : Nat → Int32} {n : Nat} {wx wy : Int32} (hx : cm_XB x c n wx) (hy : cm_XB y c n wy) : cm_XB (cm_op 5 x y) c n (wx ||| wy) := by
  intro i hi
  rw [b_or, hx i hi, hy i hi, cm_o5]
  cases decide (i < cm_m n) <;> simp
theorem cm_xbj {y : cm_V} {c : Nat → Int32} {n : Nat} {w : Int32} (h : cm_XB y c n w) {j : Nat} (h1 : 1 ≤ j) (h2 : j < 32) : bt w j = (decide (j < n) && y c n j) := by
  rw [h j h2]
  unfold cm_m cm_q
  by_cases hn : n = 0
  · subst hn
    have e : ¬ j < 1 := by omega
    simp [e]
  · simp only [if_neg hn]
theorem cm_xb6 {x y : cm_V} {c : Nat → Int32} {n : Nat} {w : Int32} (hn : n ≤ 12) (h : cm_XB y c n w) : cm_XB (cm_op 6 x y) c n (w >>> ((1 : Int32) &&& 31)) := by
  intro i hi
  have e1 : bt (w >>> ((1 : Int32) &&& 31)) i = if 1 + i < 32 then bt w (1 + i) else bt w 31 := b_sshr 1 (by omega) w hi
  rw [e1, cm_o6]
  by_cases h2 : 1 + i < 32
  · rw [if_pos h2, cm_xbj h (by omega) h2, Nat.add_comm 1 i]
    unfold cm_m cm_q
    by_cases h0 : n = 0
    · subst h0
      simp
    · simp only [if_neg h0]
      by_cases h3 : i + 1 < n
      · rw [decide_eq_true (show i < n by omega), Bool.true_and]
      · rw [decide_eq_false h3]
        simp
  · have h3 : ¬ i < cm_m n := by
      unfold cm_m
      split <;> omega
    rw [if_neg h2, cm_xbj h (by omega) (by omega), decide_eq_false (show ¬ 31 < n by omega), decide_eq_false h3, Bool.false_and, Bool.false_and]
theorem cm_xb7 {x y : cm_V} {c : Nat → Int32} {n : Nat} {v : Int32} (hv : ∀ i, i < 32 → bt v i = (decide (i < n) && cm_un (x c n) (y c n) (n - i) i)) : cm_XB (cm_op 7 x y) c n v := by
  intro i hi
  rw [hv i hi, cm_o7]
  unfold cm_m cm_q
  by_cases hn : n = 0
  · subst hn
    have e : cm_un (x c 0) (y c 0) (0 - 12) 12 = false := rfl
    rw [if_pos rfl, if_pos rfl, e, decide_eq_false (Nat.not_lt_zero i), Bool.false_and, Bool.and_false]
  · simp only [if_neg hn]
/-- one round of the component's loop over a fact's instants -/
theorem cm_f1 {c : Nat → Int32} {k o : Nat} {v : Int32} (hk : k < 32) (ho : o < 3) (h : ∀ i, i < 32 → bt v i = (decide (i < k) && bt (c i) o)) : ∀ i, i < 32 → bt (v ||| ((((c k) >>> (nI o &&& 31)) &&& 1) <<< (nI k &&& 31))) i = (decide (i < k + 1) && bt (c i) o) := by
  intro i hi
  rw [b_or, h i hi, b_shl k hk _ hi, cm_and1, b_sshr o (by omega) _ (by omega), if_pos (by omega), Nat.add_zero, cm_bb _ (by omega)]
  by_cases e : i = k
  · rw [e]
    simp
  · by_cases h1 : i < k
    · rw [decide_eq_true h1, decide_eq_true (show i < k + 1 by omega), decide_eq_false (show ¬ k ≤ i by omega)]
      simp
    · rw [decide_eq_false h1, decide_eq_false (show ¬ i < k + 1 by omega), decide_eq_false (show ¬ i - k = 0 by omega)]
      simp
/-- one round of the component's loop for until, from the end -/
theorem cm_u1 {x y : cm_V} {c : Nat → Int32} {n k : Nat} {wx wy v : Int32} (hn : n ≤ 12) (hk : k < n) (hx : cm_XB x c n wx) (hy : cm_XB y c n wy) (h : ∀ i, i < 32 → bt v i = (decide (k + 1 ≤ i ∧ i < n) && cm_un (x c n) (y c n) (n - i) i)) : ∀ i, i < 32 → bt (v ||| ((wy ||| (wx &&& (v >>> ((1 : Int32) &&& 31)))) &&& ((1 : Int32) <<< (nI k &&& 31)))) i = (decide (k ≤ i ∧ i < n) && cm_un (x c n) (y c n) (n - i) i) := by
  intro i hi
  have n0 : ¬ n = 0 := by omega
  rw [b_or, b_and, cm_1s k (by omega) hi]
  by_cases e : i = k
  · rw [e]
    have hk2 : k < 32 := by omega
    have e1 : bt (v >>> ((1 : Int32) &&& 31)) k = if 1 + k < 32 then bt v (1 + k) else bt v 31 := b_sshr 1 (by omega) v hk2
    have e2 : cm_un (x c n) (y c n) (n - k) k = (y c n k || (x c n k && cm_un (x c n) (y c n) (n - (k + 1)) (k + 1))) := by
      rw [show n - k = (n - (k + 1)) + 1 by omega]
      rfl
    have ex := hx k hk2
    have ey := hy k hk2
    unfold cm_m cm_q at ex ey
    rw [if_neg n0, if_neg n0, decide_eq_true hk, Bool.true_and] at ex ey
    have ev : bt v (1 + k) = cm_un (x c n) (y c n) (n - (k + 1)) (k + 1) := by
      rw [h (1 + k) (by omega), Nat.add_comm 1 k]
      by_cases h3 : k + 1 < n
      · rw [decide_eq_true (show k + 1 ≤ k + 1 ∧ k + 1 < n from ⟨Nat.le_refl _, h3⟩), Bool.true_and]
      · have e4 : n - (k + 1) = 0 := by omega
        rw [e4]
        exact Bool.and_false _
    rw [b_or, b_and, e1, if_pos (show 1 + k < 32 by omega), ev, ex, ey, h k hk2, decide_eq_false (show ¬ (k + 1 ≤ k ∧ k < n) by omega), decide_eq_true (show k ≤ k ∧ k < n from ⟨Nat.le_refl _, hk⟩), e2]
    simp
  · rw [decide_eq_false e, Bool.and_false, Bool.or_false, h i hi]
    by_cases h1 : k + 1 ≤ i ∧ i < n
    · rw [decide_eq_true h1, decide_eq_true (show k ≤ i ∧ i < n by omega)]
    · rw [decide_eq_false h1, decide_eq_false (show ¬ (k ≤ i ∧ i < n) by omega)]
/-- the component's last look: bit 0 -/
theorem cm_xbA {f : cm_V} {c : Nat → Int32} {n : Nat} {x : Int32} (h : cm_XB f c n x) : x &&& 1 = cm_b (cm_A f c n) := by
  rw [cm_and1, h 0 (by omega)]
  have e : decide (0 < cm_m n) = true := by
    apply decide_eq_true
    unfold cm_m
    split <;> omega
  rw [e, Bool.true_and]
  rfl
theorem cm_w8 : ∀ k, k < 8 → ∀ s, s < 2 ^ k → nI s ||| ((1 : Int32) <<< (nI k &&& 31)) = nI (s + 2 ^ k) ∧ nI s + ((1 : Int32) <<< (nI k &&& 31)) = nI (s + 2 ^ k) := by decide +kernel
/-- which further instants would do, as a number -/
def cm_ww (A : (Nat → Int32) → Nat → Bool) (c : Nat → Int32) (L : Nat) : Nat → Nat
  | 0 => 0
  | k + 1 => if A (upd c L (nI k)) (L + 1) = true then cm_ww A c L k + 2 ^ k else cm_ww A c L k
theorem cm_wwlt (A : (Nat → Int32) → Nat → Bool) (c : Nat → Int32) (L : Nat) : ∀ k, cm_ww A c L k < 2 ^ k := by
  intro k
  induction k with
  | zero => exact Nat.one_pos
  | succ k ih =>
    have e : 2 ^ (k + 1) = 2 ^ k + 2 ^ k := by rw [Nat.pow_succ]; omega
    show (if A (upd c L (nI k)) (L + 1) = true then cm_ww A c L k + 2 ^ k else cm_ww A c L k) < 2 ^ (k + 1)
    rw [e]
    generalize 2 ^ k = m at *
    split <;> omega
/-- the answer of soonest: w is the wanted answer, as an int -/
def cm_So (A : (Nat → Int32) → Nat → Bool) (c : Nat → Int32) (L : Nat) (w r : Int32) : Prop :=
  (r = 0 ∧ cm_b (A c L) = w) ∨
  (r = 1 ∧ ¬ cm_b (A c L) = w ∧ ∃ a, a < 8 ∧ cm_b (A (upd c L (nI a)) (L + 1)) = w) ∨
  (r = 2 ∧ ¬ cm_b (A c L) = w ∧ (∀ a, a < 8 → ¬ cm_b (A (upd c L (nI a)) (L + 1)) = w) ∧ ∃ a b, a < 8 ∧ b < 8 ∧ cm_b (A (upd (upd c L (nI a)) (L + 1) (nI b)) (L + 2)) = w) ∨
  (r = -4 ∧ ¬ cm_b (A c L) = w ∧ (∀ a, a < 8 → ¬ cm_b (A (upd c L (nI a)) (L + 1)) = w) ∧ ∀ a b, a < 8 → b < 8 → ¬ cm_b (A (upd (upd c L (nI a)) (L + 1) (nI b)) (L + 2)) = w)
theorem cm_Sou {A : (Nat → Int32) → Nat → Bool} {c : Nat → Int32} {L : Nat} {w r r' : Int32} (h : cm_So A c L w r) (h' : cm_So A c L w r') : r' = r := by
  rcases h with ⟨e, a⟩ | ⟨e, a, x, hx, b⟩ | ⟨e, a, b, x, y, hx, hy, d⟩ | ⟨e, a, b, d⟩ <;>
  rcases h' with ⟨e', a'⟩ | ⟨e', a', x', hx', b'⟩ | ⟨e', a', b', x', y', hx', hy', d'⟩ | ⟨e', a', b', d'⟩ <;>
  first
  | exact e'.trans e.symm
  | exact absurd a a'
  | exact absurd a' a
  | exact absurd b (b' x hx)
  | exact absurd b' (b x' hx')
  | exact absurd d (d' x y hx hy)
  | exact absurd d' (d x' y' hx' hy')
