section
/-! rows of kit/rows (PURE-ROWS, BITS), pasted -/
theorem pk_us {f : Nat → Int32} {k : Nat} {x : Int32} : upd f k x k = x := if_pos rfl
theorem pk_un {f : Nat → Int32} {k j : Nat} {x : Int32} (h : j ≠ k) : upd f k x j = f j := if_neg h
theorem pk_sub {a b : Nat} (h : b ≤ a) : nI a - nI b = nI (a - b) := by
  obtain ⟨c, rfl⟩ : ∃ c, a = c + b := ⟨a - b, by omega⟩
  rw [← nI_add, Int32.add_sub_cancel, Nat.add_sub_cancel]
theorem pk_m1 (n : Nat) : nI (n + 1) + (-1) = nI n := by
  rw [← nI_1, Int32.add_assoc, show (1 : Int32) + (-1) = 0 from rfl, Int32.add_zero]
theorem pk_mul (a b : Nat) : nI a * nI b = nI (a * b) := (Int32.ofNat_mul a b).symm
theorem pk_div {a d : Nat} (ha : a < 2 ^ 31) (h0 : 0 < d) (hd : d < 2 ^ 31) : nI a / nI d = nI (a / d) := by
  apply Int32.toInt_inj.mp
  rw [lg_idiv_nonneg (by rw [nI_toInt ha]; omega) (by rw [nI_toInt hd]; omega), nI_toInt ha, nI_toInt hd, nI_toInt (Nat.lt_of_le_of_lt (Nat.div_le_self a d) ha)]
  first | rfl | exact (Int.natCast_ediv _ _).symm
theorem pk_rem {a d : Nat} (ha : a < 2 ^ 31) (h0 : 0 < d) (hd : d < 2 ^ 31) : nI a - nI a / nI d * nI d = nI (a % d) := by
  rw [pk_div ha h0 hd, pk_mul, pk_sub (Nat.div_mul_le_self a d)]
  exact congrArg nI (by have := Nat.div_add_mod' a d; omega)
theorem pk_ix (x : Int32) {n : Nat} (hn : n < 2 ^ 31) : x < 0 ∨ nI n ≤ x ∨ ∃ j : Nat, j < n ∧ x = nI j := by
  by_cases h : x < 0
  · exact Or.inl h
  · obtain ⟨j, hj, rfl⟩ := nI_of h
    by_cases h2 : j < n
    · exact Or.inr (Or.inr ⟨j, h2, rfl⟩)
    · exact Or.inr (Or.inl (nI_le (by omega) hj))
theorem pk_le {x y : Int32} {A B : Prop} (a b : Nat) (f : a ≤ b → A) (g : b < a → B) (hx : x = nI a := by rfl) (hy : y = nI b := by rfl) (ha : a < 2 ^ 31 := by omega) (hb : b < 2 ^ 31 := by omega) : (x ≤ y → A) ∧ (¬ x ≤ y → B) := by
  subst hx hy
  rw [nI_leI ha hb]
  exact ⟨f, fun z => g (by omega)⟩
theorem pk_lt {x y : Int32} {A B : Prop} (a b : Nat) (f : a < b → A) (g : b ≤ a → B) (hx : x = nI a := by rfl) (hy : y = nI b := by rfl) (ha : a < 2 ^ 31 := by omega) (hb : b < 2 ^ 31 := by omega) : (x < y → A) ∧ (¬ x < y → B) := by
  subst hx hy
  rw [nI_ltI ha hb]
  exact ⟨f, fun z => g (by omega)⟩
theorem pk_eq {x y : Int32} {A B : Prop} (a b : Nat) (f : a = b → A) (g : a ≠ b → B) (hx : x = nI a := by rfl) (hy : y = nI b := by rfl) (ha : a < 2 ^ 31 := by omega) (hb : b < 2 ^ 31 := by omega) : (x = y → A) ∧ (¬ x = y → B) := by
  subst hx hy
  rw [nI_eq ha hb]
  exact ⟨f, g⟩
theorem pk_in {x : Int32} (n N : Nat) (h : n < N) (hx : x = nI n := by rfl) (hN : N < 2 ^ 31 := by omega) : vp_in x N := by
  subst hx
  exact vp_in_nI h hN
theorem pk_cl {x : Int32} (n : Nat) (hx : x = nI n := by rfl) (h : n < 2 ^ 31 := by omega) : x.toNatClampNeg = n := by
  subst hx
  exact nI_clamp h
theorem pk_tn {n : Nat} (h : n < 2 ^ 32) : (nI n).toBitVec.toNat = n := Nat.mod_eq_of_lt h
theorem pk_loop {σ : Type} (W : Nat → Nat → σ → Prop) (I : Nat → σ → Prop) (e i0 : Nat) (s : σ) (hi : i0 ≤ e) (h0 : I i0 s) (hx : ∀ n s, I e s → W (n + 1) e s)
    (hs : ∀ n i s, i < e → I i s → (∀ s', I (i + 1) s' → W n (i + 1) s') → W (n + 1) i s) : ∃ n, W n i0 s :=
  ⟨e + 1, loop_i W I e hx hs (e + 1) i0 s hi (by omega) h0⟩
theorem pk_loopD {σ : Type} (W : Nat → Nat → σ → Prop) (I : Nat → σ → Prop) (hx : ∀ n s, I 0 s → W (n + 1) 0 s)
    (hs : ∀ n i s, I (i + 1) s → (∀ s', I i s' → W n i s') → W (n + 1) (i + 1) s) : ∀ (e : Nat) (s : σ), I e s → W (e + 1) e s := by
  intro e
  induction e with
  | zero => exact fun s h => hx 0 s h
  | succ e ih => exact fun s h => hs (e + 1) e s h (fun s' h' => ih s' h')
def bt (x : Int32) (i : Nat) : Bool := x.toBitVec.getLsbD i
theorem b_ext {x y : Int32} (h : ∀ i, i < 32 → bt x i = bt y i) : x = y := Int32.toBitVec_inj.mp (BitVec.eq_of_getLsbD_eq (fun i hi => h i hi))
theorem b_or (x y : Int32) (i : Nat) : bt (x ||| y) i = (bt x i || bt y i) := by unfold bt; rw [Int32.toBitVec_or, BitVec.getLsbD_or]
theorem b_and (x y : Int32) (i : Nat) : bt (x &&& y) i = (bt x i && bt y i) := by unfold bt; rw [Int32.toBitVec_and, BitVec.getLsbD_and]
theorem b_xor (x y : Int32) (i : Nat) : bt (x ^^^ y) i = (bt x i ^^ bt y i) := by unfold bt; rw [Int32.toBitVec_xor, BitVec.getLsbD_xor]
theorem b_big {x : Int32} {i : Nat} (h : 32 ≤ i) : bt x i = false := BitVec.getLsbD_of_ge _ _ h
theorem b_m1 : ∀ i, i < 32 → bt (-1) i = true := by decide +kernel
theorem b_0 (i : Nat) : bt 0 i = false := BitVec.getLsbD_zero
theorem s_l : ∀ n, n < 32 → ((nI n &&& 31).toBitVec.smod 32).toNat = n := by decide +kernel
theorem b_shl (n : Nat) (hn : n < 32) (x : Int32) {i : Nat} (hi : i < 32) : bt (x <<< (nI n &&& 31)) i = (decide (n ≤ i) && bt x (i - n)) := by
  unfold bt
  rw [Int32.toBitVec_shiftLeft]
  show (x.toBitVec <<< ((nI n &&& 31).toBitVec.smod 32).toNat).getLsbD i = _
  rw [s_l n hn, BitVec.getLsbD_shiftLeft]
  rcases Nat.lt_or_ge i n with h | h
  · simp [h, Nat.not_le.mpr h]
  · simp [hi, h, Nat.not_lt.mpr h]
theorem b_sshr (n : Nat) (hn : n < 32) (x : Int32) {i : Nat} (hi : i < 32) : bt (x >>> (nI n &&& 31)) i = if n + i < 32 then bt x (n + i) else bt x 31 := by
  unfold bt
  rw [Int32.toBitVec_shiftRight]
  show (x.toBitVec.sshiftRight ((nI n &&& 31).toBitVec.smod 32).toNat).getLsbD i = _
  rw [s_l n hn, BitVec.getLsbD_sshiftRight, BitVec.msb_eq_getLsbD_last]
  simp [hi]
end
section
/-! the meaning of a formula: course, number of instants, place; a place beyond every instant (12) stands for the course without instants. o: the steps taken, in order, by number: 0 1 2 a fact, 3 not, 4 and, 5 or, 6 next, 7 until -/
abbrev cm_V : Type := (Nat → Int32) → Nat → Nat → Bool
def cm_un (f g : Nat → Bool) : Nat → Nat → Bool
  | 0 => fun _ => false
  | m + 1 => fun i => g i || (f i && cm_un f g m (i + 1))
def cm_op (o : Nat) (x y : cm_V) : cm_V := fun c n i =>
  if o < 3 then decide (i < n) && bt (c i) o
  else if o = 3 then !(y c n i)
  else if o = 4 then x c n i && y c n i
  else if o = 5 then x c n i || y c n i
  else if o = 6 then decide (i + 1 < n) && y c n (i + 1)
  else cm_un (x c n) (y c n) (n - i) i
def cm_ar (o : Nat) : Nat := if o < 3 then 0 else if o = 3 then 1 else if o = 6 then 1 else 2
/-- the depth after p steps -/
def cm_d (o : Nat → Nat) : Nat → Nat
  | 0 => 0
  | p + 1 => cm_d o p + 1 - cm_ar (o p)
/-- the meanings on the stack after p steps -/
def cm_s (o : Nat → Nat) : Nat → Nat → cm_V
  | 0 => fun _ _ _ _ => false
  | p + 1 => fun j => if j = cm_d o p - cm_ar (o p) then cm_op (o p) (cm_s o p (cm_d o p - 2)) (cm_s o p (cm_d o p - 1)) else cm_s o p j
/-- the steps whose formulas stand on the stack after p steps -/
def cm_ix (o : Nat → Nat) : Nat → Nat → Nat
  | 0 => fun _ => 0
  | p + 1 => fun j => if j = cm_d o p - cm_ar (o p) then p else cm_ix o p j
/-- the meaning of the formula that step i makes -/
def cm_N (o : Nat → Nat) (i : Nat) : cm_V := cm_op (o i) (cm_s o i (cm_d o i - 2)) (cm_s o i (cm_d o i - 1))
def cm_WF (o : Nat → Nat) (s : Nat) : Prop := ∀ p, p < s → o p < 8 ∧ cm_ar (o p) ≤ cm_d o p
theorem cm_ar2 (o : Nat) : cm_ar o ≤ 2 := by
  unfold cm_ar
  (repeat' split) <;> omega
theorem cm_dS (o : Nat → Nat) (p : Nat) : cm_d o (p + 1) = cm_d o p + 1 - cm_ar (o p) := rfl
theorem cm_ixt (o : Nat → Nat) (p : Nat) : cm_ix o (p + 1) (cm_d o p - cm_ar (o p)) = p := if_pos rfl
theorem cm_ixn {o : Nat → Nat} {p j : Nat} (h : j ≠ cm_d o p - cm_ar (o p)) : cm_ix o (p + 1) j = cm_ix o p j := if_neg h
theorem cm_stt (o : Nat → Nat) (p : Nat) : cm_s o (p + 1) (cm_d o p - cm_ar (o p)) = cm_N o p := if_pos rfl
theorem cm_stn {o : Nat → Nat} {p j : Nat} (h : j ≠ cm_d o p - cm_ar (o p)) : cm_s o (p + 1) j = cm_s o p j := if_neg h
theorem cm_wf1 {o : Nat → Nat} {s p : Nat} (w : cm_WF o s) (h : p ≤ s) : cm_WF o p := fun q hq => w q (by omega)
theorem cm_dle (o : Nat → Nat) : ∀ p, cm_d o p ≤ p := by
  intro p
  induction p with
  | zero => exact Nat.le_refl 0
  | succ p ih => rw [cm_dS]; omega
theorem cm_d1 {o : Nat → Nat} {p : Nat} (w : cm_WF o (p + 1)) : 1 ≤ cm_d o (p + 1) := by
  have h := (w p (by omega)).2
  rw [cm_dS]
  omega
theorem cm_top {o : Nat → Nat} {p : Nat} (w : cm_WF o (p + 1)) : cm_ix o (p + 1) (cm_d o (p + 1) - 1) = p := by
  have h := (w p (by omega)).2
  have e : cm_d o (p + 1) - 1 = cm_d o p - cm_ar (o p) := by rw [cm_dS]; omega
  rw [e]
  exact cm_ixt o p
/-- what stands on the stack is the meaning of an earlier step -/
theorem cm_sx (o : Nat → Nat) : ∀ p, cm_WF o p → ∀ j, j < cm_d o p → cm_ix o p j < p ∧ cm_s o p j = cm_N o (cm_ix o p j) := by
  intro p
  induction p with
  | zero => exact fun _ j h => absurd h (Nat.not_lt_zero j)
  | succ p ih =>
    intro w j h
    have hw := (w p (by omega)).2
    by_cases e : j = cm_d o p - cm_ar (o p)
    · rw [e, cm_ixt, cm_stt]
      exact ⟨by omega, rfl⟩
    · rw [cm_dS] at h
      rw [cm_ixn e, cm_stn e]
      obtain ⟨a, b⟩ := ih (cm_wf1 w (by omega)) j (by omega)
      exact ⟨by omega, b⟩
theorem cm_cg {o o' : Nat → Nat} : ∀ p, (∀ i, i < p → o i = o' i) → cm_d o p = cm_d o' p ∧ cm_ix o p = cm_ix o' p ∧ cm_s o p = cm_s o' p := by
  intro p
  induction p with
  | zero => exact fun _ => ⟨rfl, rfl, rfl⟩
  | succ p ih =>
    intro h
    obtain ⟨a, b, d⟩ := ih (fun i hi => h i (by omega))
    have e := h p (by omega)
    refine ⟨?_, ?_, ?_⟩
    · rw [cm_dS, cm_dS, a, e]
    · funext j
      show (if j = cm_d o p - cm_ar (o p) then p else cm_ix o p j) = (if j = cm_d o' p - cm_ar (o' p) then p else cm_ix o' p j)
      rw [a, b, e]
    · funext j
      show (if j = cm_d o p - cm_ar (o p) then cm_op (o p) (cm_s o p (cm_d o p - 2)) (cm_s o p (cm_d o p - 1)) else cm_s o p j) = (if j = cm_d o' p - cm_ar (o' p) then cm_op (o' p) (cm_s o' p (cm_d o' p - 2)) (cm_s o' p (cm_d o' p - 1)) else cm_s o' p j)
      rw [a, d, e]
theorem cm_wfc {o o' : Nat → Nat} {s : Nat} (h : ∀ i, i < s → o i = o' i) (w : cm_WF o s) : cm_WF o' s := by
  intro p hp
  rw [← h p hp, ← (cm_cg (o := o) (o' := o') p (fun i hi => h i (by omega))).1]
  exact w p hp
theorem cm_opc {o : Nat} {x x' y y' : cm_V} (hx : cm_ar o = 2 → x = x') (hy : 1 ≤ cm_ar o → y = y') : cm_op o x y = cm_op o x' y' := by
  by_cases h3 : o < 3
  · funext c n i
    unfold cm_op
    rw [if_pos h3, if_pos h3]
  · have e1 : 1 ≤ cm_ar o := by
      unfold cm_ar
      rw [if_neg h3]
      (repeat' split) <;> omega
    have ey := hy e1
    subst ey
    by_cases h4 : o = 3
    · subst h4
      rfl
    · by_cases h6 : o = 6
      · subst h6
        rfl
      · have e2 : cm_ar o = 2 := by
          unfold cm_ar
          rw [if_neg h3, if_neg h4, if_neg h6]
        rw [hx e2]
/-- the steps from b on, begun with nothing: as long as they never reach below the depth D of b, they do the same above D -/
theorem cm_sh (o : Nat → Nat) (b D n : Nat) (hD : cm_d o b = D) (h : ∀ p, p < n → D + cm_ar (o (b + p)) ≤ cm_d o (b + p)) : ∀ p, p ≤ n → cm_d o (b + p) = D + cm_d (fun q => o (b + q)) p ∧ (∀ j, j < cm_d (fun q => o (b + q)) p → cm_s o (b + p) (D + j) = cm_s (fun q => o (b + q)) p j) := by
  intro p
  induction p with
  | zero => exact fun _ => ⟨hD, fun j hj => absurd hj (Nat.not_lt_zero j)⟩
  | succ p ih =>
    intro hp
    obtain ⟨e, es⟩ := ih (by omega)
    have hh := h p (by omega)
    have e1 : cm_d o (b + (p + 1)) = cm_d o (b + p) + 1 - cm_ar (o (b + p)) := rfl
    have e2 : cm_d (fun q => o (b + q)) (p + 1) = cm_d (fun q => o (b + q)) p + 1 - cm_ar (o (b + p)) := rfl
    refine ⟨by omega, fun j hj => ?_⟩
    have f1 : cm_s o (b + (p + 1)) (D + j) = if D + j = cm_d o (b + p) - cm_ar (o (b + p)) then cm_op (o (b + p)) (cm_s o (b + p) (cm_d o (b + p) - 2)) (cm_s o (b + p) (cm_d o (b + p) - 1)) else cm_s o (b + p) (D + j) := rfl
    have f2 : cm_s (fun q => o (b + q)) (p + 1) j = if j = cm_d (fun q => o (b + q)) p - cm_ar (o (b + p)) then cm_op (o (b + p)) (cm_s (fun q => o (b + q)) p (cm_d (fun q => o (b + q)) p - 2)) (cm_s (fun q => o (b + q)) p (cm_d (fun q => o (b + q)) p - 1)) else cm_s (fun q => o (b + q)) p j := rfl
    rw [f1, f2]
    by_cases ej : j = cm_d (fun q => o (b + q)) p - cm_ar (o (b + p))
    · rw [if_pos ej, if_pos (by omega)]
      refine cm_opc (fun ha => ?_) (fun ha => ?_)
      · rw [show cm_d o (b + p) - 2 = D + (cm_d (fun q => o (b + q)) p - 2) by omega]
        exact es _ (by omega)
      · rw [show cm_d o (b + p) - 1 = D + (cm_d (fun q => o (b + q)) p - 1) by omega]
        exact es _ (by omega)
    · rw [if_neg ej, if_neg (by omega)]
      exact es j (by omega)
theorem cm_shN (o : Nat → Nat) (b D n : Nat) (hD : cm_d o b = D) (h : ∀ p, p < n → D + cm_ar (o (b + p)) ≤ cm_d o (b + p)) (p : Nat) (hp : p < n) : cm_N (fun q => o (b + q)) p = cm_N o (b + p) := by
  obtain ⟨e, es⟩ := cm_sh o b D n hD h p (by omega)
  have hh := h p hp
  refine cm_opc (fun ha => ?_) (fun ha => ?_)
  · have ha' : cm_ar (o (b + p)) = 2 := ha
    rw [show cm_d o (b + p) - 2 = D + (cm_d (fun q => o (b + q)) p - 2) by omega]
    exact (es _ (by omega)).symm
  · have ha' : 1 ≤ cm_ar (o (b + p)) := ha
    rw [show cm_d o (b + p) - 1 = D + (cm_d (fun q => o (b + q)) p - 1) by omega]
    exact (es _ (by omega)).symm
theorem cm_shW (o : Nat → Nat) (b D n : Nat) (w : cm_WF o (b + n)) (hD : cm_d o b = D) (h : ∀ p, p < n → D + cm_ar (o (b + p)) ≤ cm_d o (b + p)) : cm_WF (fun q => o (b + q)) n := by
  intro p hp
  have e := (cm_sh o b D n hD h p (by omega)).1
  have hh := h p hp
  refine ⟨(w (b + p) (by omega)).1, ?_⟩
  show cm_ar (o (b + p)) ≤ _
  omega
/-- a meaning looks at the instants below n alone -/
def cm_lc (f : cm_V) : Prop := ∀ (c c' : Nat → Int32) (n : Nat), (∀ j, j < n → c j = c' j) → f c n = f c' n
theorem cm_lcop {o : Nat} {x y : cm_V} (hx : cm_lc x) (hy : cm_lc y) : cm_lc (cm_op o x y) := by
  intro c c' n h
  funext i
  unfold cm_op
  rw [hx c c' n h, hy c c' n h]
  by_cases h3 : o < 3
  · rw [if_pos h3, if_pos h3]
    by_cases hi : i < n
    · rw [h i hi]
    · rw [decide_eq_false hi, Bool.false_and, Bool.false_and]
  · rw [if_neg h3, if_neg h3]
theorem cm_lcs (o : Nat → Nat) : ∀ p j, cm_lc (cm_s o p j) := by
  intro p
  induction p with
  | zero => exact fun j c c' n h => rfl
  | succ p ih =>
    intro j
    by_cases e : j = cm_d o p - cm_ar (o p)
    · rw [e, cm_stt]
      exact cm_lcop (ih _) (ih _)
    · rw [cm_stn e]
      exact ih j
theorem cm_lcN (o : Nat → Nat) (i : Nat) : cm_lc (cm_N o i) := cm_lcop (cm_lcs o _ _) (cm_lcs o _ _)
/-- the answer for the first n instants -/
def cm_A (f : cm_V) (c : Nat → Int32) (n : Nat) : Bool := f c n (if n = 0 then 12 else 0)
theorem cm_lcA {f : cm_V} (hf : cm_lc f) {c c' : Nat → Int32} {n : Nat} (h : ∀ j, j < n → c j = c' j) : cm_A f c n = cm_A f c' n := by
  unfold cm_A
  rw [hf c c' n h]
end
section
/-! booleans as 0 and 1, and the component's sets of places by bits -/
def cm_b (b : Bool) : Int32 := if b = true then 1 else 0
theorem cm_1 : ∀ i, i < 32 → bt 1 i = decide (i = 0) := by decide +kernel
theorem cm_bb (b : Bool) {i : Nat} (hi : i < 32) : bt (cm_b b) i = (b && decide (i = 0)) := by
  cases b
  · exact b_0 i
  · exact cm_1 i hi
theorem cm_and1 (z : Int32) : z &&& 1 = cm_b (bt z 0) := by
  apply b_ext
  intro i hi
  rw [b_and, cm_bb _ hi, cm_1 i hi]
  by_cases e : i = 0
  · rw [e]
  · rw [decide_eq_false e, Bool.and_false, Bool.and_false]
theorem cm_b0 (b : Bool) : cm_b b = 0 ↔ b = false := by cases b <;> decide
theorem cm_b1 (b : Bool) : cm_b b = 1 ↔ b = true := by cases b <;> decide
theorem cm_binj {a b : Bool} (h : cm_b a = cm_b b) : a = b := by
  revert h
  cases a <;> cases b <;> decide
theorem cm_1s (k : Nat) (hk : k < 32) {i : Nat} (hi : i < 32) : bt ((1 : Int32) <<< (nI k &&& 31)) i = decide (i = k) := by
  rw [b_shl k hk 1 hi, cm_1 (i - k) (by omega)]
  by_cases e : i = k
  · simp [e]
  · by_cases h : k ≤ i
    · have h2 : ¬ i - k = 0 := by omega
      rw [decide_eq_false h2, decide_eq_false e, Bool.and_false]
    · rw [decide_eq_false h, decide_eq_false e, Bool.false_and]
theorem cm_all : ∀ n, n < 13 → ∀ i, i < 32 → bt (((1 : Int32) <<< (nI n &&& 31)) - 1) i = decide (i < n) := by decide +kernel
def cm_q (n i : Nat) : Nat := if n = 0 then 12 else i
def cm_m (n : Nat) : Nat := if n = 0 then 1 else n
/-- x is the set of the places of f -/
def cm_XB (f : cm_V) (c : Nat → Int32) (n : Nat) (x : Int32) : Prop := ∀ i, i < 32 → bt x i = (decide (i < cm_m n) && f c n (cm_q n i))
theorem cm_o0 {o : Nat} (h : o < 3) (x y : cm_V) (c : Nat → Int32) (n i : Nat) : cm_op o x y c n i = (decide (i < n) && bt (c i) o) := if_pos h
theorem cm_o3 (x y : cm_V) (c : Nat → Int32) (n i : Nat) : cm_op 3 x y c n i = !(y c n i) := rfl
theorem cm_o4 (x y : cm_V) (c : Nat → Int32) (n i : Nat) : cm_op 4 x y c n i = (x c n i && y c n i) := rfl
theorem cm_o5 (x y : cm_V) (c : Nat → Int32) (n i : Nat) : cm_op 5 x y c n i = (x c n i || y c n i) := rfl
theorem cm_o6 (x y : cm_V) (c : Nat → Int32) (n i : Nat) : cm_op 6 x y c n i = (decide (i + 1 < n) && y c n (i + 1)) := rfl
theorem cm_o7 (x y : cm_V) (c : Nat → Int32) (n i : Nat) : cm_op 7 x y c n i = cm_un (x c n) (y c n) (n - i) i := rfl
theorem cm_xb0 {o : Nat} {x y : cm_V} {c : Nat → Int32} {n : Nat} {v : Int32} (ho : o < 3) (h : ∀ i, i < 32 → bt v i = (decide (i < n) && bt (c i) o)) : cm_XB (cm_op o x y) c n v := by
  intro i hi
  rw [h i hi, cm_o0 ho]
  unfold cm_q cm_m
  by_cases hn : n = 0
  · subst hn
    simp
  · simp only [if_neg hn]
    cases decide (i < n) <;> simp
theorem cm_xb3 {x y : cm_V} {c : Nat → Int32} {n : Nat} {w v : Int32} (h : cm_XB y c n w) (hv : ∀ i, i < 32 → bt v i = (decide (i < cm_m n) && !(bt w i))) : cm_XB (cm_op 3 x y) c n v := by
  intro i hi
  rw [hv i hi, h i hi, cm_o3]
  cases decide (i < cm_m n) <;> simp
theorem cm_xb4 {x y : cm_V} {c : Nat → Int32} {n : Nat} {wx wy : Int32} (hx : cm_XB x c n wx) (hy : cm_XB y c n wy) : cm_XB (cm_op 4 x y) c n (wx &&& wy) := by
  intro i hi
  rw [b_and, hx i hi, hy i hi, cm_o4]
  cases decide (i < cm_m n) <;> simp
theorem cm_xb5 {x y : cm_V} {c : Nat → Int32} {n : Nat} {wx wy : Int32} (hx : cm_XB x c n wx) (hy : cm_XB y c n wy) : cm_XB (cm_op 5 x y) c n (wx ||| wy) := by
  intro i hi
  rw [b_or, hx i hi, hy i hi, cm_o5]
  cases decide (i < cm_m n) <;> simp
theorem cm_xbj {y : cm_V} {c : Nat → Int32} {n : Nat} {w : Int32} (h : cm_XB y c n w) {j : Nat} (h1 : 1 ≤ j) (h2 : j < 32) : bt w j = (decide (j < n) && y c n j) := by
  rw [h j h2]
  unfold cm_m cm_q
  by_cases hn : n = 0
  · subst hn
    have e : ¬ j < 1 := by omega
    simp [e]
  · simp only [if_neg hn]
theorem cm_xb6 {x y : cm_V} {c : Nat → Int32} {n : Nat} {w : Int32} (hn : n ≤ 12) (h : cm_XB y c n w) : cm_XB (cm_op 6 x y) c n (w >>> ((1 : Int32) &&& 31)) := by
  intro i hi
  have e1 : bt (w >>> ((1 : Int32) &&& 31)) i = if 1 + i < 32 then bt w (1 + i) else bt w 31 := b_sshr 1 (by omega) w hi
  rw [e1, cm_o6]
  by_cases h2 : 1 + i < 32
  · rw [if_pos h2, cm_xbj h (by omega) h2, Nat.add_comm 1 i]
    unfold cm_m cm_q
    by_cases h0 : n = 0
    · subst h0
      simp
    · simp only [if_neg h0]
      by_cases h3 : i + 1 < n
      · rw [decide_eq_true (show i < n by omega), Bool.true_and]
      · rw [decide_eq_false h3]
        simp
  · have h3 : ¬ i < cm_m n := by
      unfold cm_m
      split <;> omega
    rw [if_neg h2, cm_xbj h (by omega) (by omega), decide_eq_false (show ¬ 31 < n by omega), decide_eq_false h3, Bool.false_and, Bool.false_and]
theorem cm_xb7 {x y : cm_V} {c : Nat → Int32} {n : Nat} {v : Int32} (hv : ∀ i, i < 32 → bt v i = (decide (i < n) && cm_un (x c n) (y c n) (n - i) i)) : cm_XB (cm_op 7 x y) c n v := by
  intro i hi
  rw [hv i hi, cm_o7]
  unfold cm_m cm_q
  by_cases hn : n = 0
  · subst hn
    have e : cm_un (x c 0) (y c 0) (0 - 12) 12 = false := rfl
    rw [if_pos rfl, if_pos rfl, e, decide_eq_false (Nat.not_lt_zero i), Bool.false_and, Bool.and_false]
  · simp only [if_neg hn]
/-- one round of the component's loop over a fact's instants -/
theorem cm_f1 {c : Nat → Int32} {k o : Nat} {v : Int32} (hk : k < 32) (ho : o < 3) (h : ∀ i, i < 32 → bt v i = (decide (i < k) && bt (c i) o)) : ∀ i, i < 32 → bt (v ||| ((((c k) >>> (nI o &&& 31)) &&& 1) <<< (nI k &&& 31))) i = (decide (i < k + 1) && bt (c i) o) := by
  intro i hi
  rw [b_or, h i hi, b_shl k hk _ hi, cm_and1, b_sshr o (by omega) _ (by omega), if_pos (by omega), Nat.add_zero, cm_bb _ (by omega)]
  by_cases e : i = k
  · rw [e]
    simp
  · by_cases h1 : i < k
    · rw [decide_eq_true h1, decide_eq_true (show i < k + 1 by omega), decide_eq_false (show ¬ k ≤ i by omega)]
      simp
    · rw [decide_eq_false h1, decide_eq_false (show ¬ i < k + 1 by omega), decide_eq_false (show ¬ i - k = 0 by omega)]
      simp
/-- one round of the component's loop for until, from the end -/
theorem cm_u1 {x y : cm_V} {c : Nat → Int32} {n k : Nat} {wx wy v : Int32} (hn : n ≤ 12) (hk : k < n) (hx : cm_XB x c n wx) (hy : cm_XB y c n wy) (h : ∀ i, i < 32 → bt v i = (decide (k + 1 ≤ i ∧ i < n) && cm_un (x c n) (y c n) (n - i) i)) : ∀ i, i < 32 → bt (v ||| ((wy ||| (wx &&& (v >>> ((1 : Int32) &&& 31)))) &&& ((1 : Int32) <<< (nI k &&& 31)))) i = (decide (k ≤ i ∧ i < n) && cm_un (x c n) (y c n) (n - i) i) := by
  intro i hi
  have n0 : ¬ n = 0 := by omega
  rw [b_or, b_and, cm_1s k (by omega) hi]
  by_cases e : i = k
  · rw [e]
    have hk2 : k < 32 := by omega
    have e1 : bt (v >>> ((1 : Int32) &&& 31)) k = if 1 + k < 32 then bt v (1 + k) else bt v 31 := b_sshr 1 (by omega) v hk2
    have e2 : cm_un (x c n) (y c n) (n - k) k = (y c n k || (x c n k && cm_un (x c n) (y c n) (n - (k + 1)) (k + 1))) := by
      rw [show n - k = (n - (k + 1)) + 1 by omega]
      rfl
    have ex := hx k hk2
    have ey := hy k hk2
    unfold cm_m cm_q at ex ey
    rw [if_neg n0, if_neg n0, decide_eq_true hk, Bool.true_and] at ex ey
    have ev : bt v (1 + k) = cm_un (x c n) (y c n) (n - (k + 1)) (k + 1) := by
      rw [h (1 + k) (by omega), Nat.add_comm 1 k]
      by_cases h3 : k + 1 < n
      · rw [decide_eq_true (show k + 1 ≤ k + 1 ∧ k + 1 < n from ⟨Nat.le_refl _, h3⟩), Bool.true_and]
      · have e4 : n - (k + 1) = 0 := by omega
        rw [e4]
        exact Bool.and_false _
    rw [b_or, b_and, e1, if_pos (show 1 + k < 32 by omega), ev, ex, ey, h k hk2, decide_eq_false (show ¬ (k + 1 ≤ k ∧ k < n) by omega), decide_eq_true (show k ≤ k ∧ k < n from ⟨Nat.le_refl _, hk⟩), e2]
    simp
  · rw [decide_eq_false e, Bool.and_false, Bool.or_false, h i hi]
    by_cases h1 : k + 1 ≤ i ∧ i < n
    · rw [decide_eq_true h1, decide_eq_true (show k ≤ i ∧ i < n by omega)]
    · rw [decide_eq_false h1, decide_eq_false (show ¬ (k ≤ i ∧ i < n) by omega)]
/-- the component's last look: bit 0 -/
theorem cm_xbA {f : cm_V} {c : Nat → Int32} {n : Nat} {x : Int32} (h : cm_XB f c n x) : x &&& 1 = cm_b (cm_A f c n) := by
  rw [cm_and1, h 0 (by omega)]
  have e : decide (0 < cm_m n) = true := by
    apply decide_eq_true
    unfold cm_m
    split <;> omega
  rw [e, Bool.true_and]
  rfl
theorem cm_w8 : ∀ k, k < 8 → ∀ s, s < 2 ^ k → nI s ||| ((1 : Int32) <<< (nI k &&& 31)) = nI (s + 2 ^ k) ∧ nI s + ((1 : Int32) <<< (nI k &&& 31)) = nI (s + 2 ^ k) := by decide +kernel
/-- which further instants would do, as a number -/
def cm_ww (A : (Nat → Int32) → Nat → Bool) (c : Nat → Int32) (L : Nat) : Nat → Nat
  | 0 => 0
  | k + 1 => if A (upd c L (nI k)) (L + 1) = true then cm_ww A c L k + 2 ^ k else cm_ww A c L k
theorem cm_wwlt (A : (Nat → Int32) → Nat → Bool) (c : Nat → Int32) (L : Nat) : ∀ k, cm_ww A c L k < 2 ^ k := by
  intro k
  induction k with
  | zero => exact Nat.one_pos
  | succ k ih =>
    have e : 2 ^ (k + 1) = 2 ^ k + 2 ^ k := by rw [Nat.pow_succ]; omega
    show (if A (upd c L (nI k)) (L + 1) = true then cm_ww A c L k + 2 ^ k else cm_ww A c L k) < 2 ^ (k + 1)
    rw [e]
    generalize 2 ^ k = m at *
    split <;> omega
/-- the answer of soonest: w is the wanted answer, as an int -/
def cm_So (A : (Nat → Int32) → Nat → Bool) (c : Nat → Int32) (L : Nat) (w r : Int32) : Prop :=
  (r = 0 ∧ cm_b (A c L) = w) ∨
  (r = 1 ∧ ¬ cm_b (A c L) = w ∧ ∃ a, a < 8 ∧ cm_b (A (upd c L (nI a)) (L + 1)) = w) ∨
  (r = 2 ∧ ¬ cm_b (A c L) = w ∧ (∀ a, a < 8 → ¬ cm_b (A (upd c L (nI a)) (L + 1)) = w) ∧ ∃ a b, a < 8 ∧ b < 8 ∧ cm_b (A (upd (upd c L (nI a)) (L + 1) (nI b)) (L + 2)) = w) ∨
  (r = -4 ∧ ¬ cm_b (A c L) = w ∧ (∀ a, a < 8 → ¬ cm_b (A (upd c L (nI a)) (L + 1)) = w) ∧ ∀ a b, a < 8 → b < 8 → ¬ cm_b (A (upd (upd c L (nI a)) (L + 1) (nI b)) (L + 2)) = w)
theorem cm_Sou {A : (Nat → Int32) → Nat → Bool} {c : Nat → Int32} {L : Nat} {w r r' : Int32} (h : cm_So A c L w r) (h' : cm_So A c L w r') : r' = r := by
  rcases h with ⟨e, a⟩ | ⟨e, a, x, hx, b⟩ | ⟨e, a, b, x, y, hx, hy, d⟩ | ⟨e, a, b, d⟩ <;>
  rcases h' with ⟨e', a'⟩ | ⟨e', a', x', hx', b'⟩ | ⟨e', a', b', x', y', hx', hy', d'⟩ | ⟨e', a', b', d'⟩ <;>
  first
  | exact e'.trans e.symm
  | exact absurd a a'
  | exact absurd a' a
  | exact absurd b (b' x hx)
  | exact absurd b' (b x' hx')
  | exact absurd d (d' x y hx hy)
  | exact absurd d' (d x' y' hx' hy')
end
section
/-! the relation's three parts: the steps taken, the formula in use, the course -/
theorem cm_Soc {A : (Nat → Int32) → Nat → Bool} {c c' : Nat → Int32} {L : Nat} {w r : Int32} (hA : ∀ (c c' : Nat → Int32) (n : Nat), (∀ j, j < n → c j = c' j) → A c n = A c' n) (hc : ∀ i, i < L → c i = c' i) (h : cm_So A c L w r) : cm_So A c' L w r := by
  have e0 : A c L = A c' L := hA c c' L hc
  have u1 : ∀ a : Int32, ∀ j, j < L + 1 → upd c L a j = upd c' L a j := by
    intro a j hj
    by_cases e : j = L
    · rw [e, pk_us, pk_us]
    · rw [pk_un e, pk_un e, hc j (by omega)]
  have e1 : ∀ a : Int32, A (upd c L a) (L + 1) = A (upd c' L a) (L + 1) := fun a => hA _ _ _ (u1 a)
  have e2 : ∀ a b : Int32, A (upd (upd c L a) (L + 1) b) (L + 2) = A (upd (upd c' L a) (L + 1) b) (L + 2) := by
    intro a b
    apply hA
    intro j hj
    by_cases e : j = L + 1
    · rw [e, pk_us, pk_us]
    · rw [pk_un e, pk_un e, u1 a j (by omega)]
  unfold cm_So at h ⊢
  rw [e0] at h
  simp only [e1, e2] at h
  exact h
theorem cm_wwc {A : (Nat → Int32) → Nat → Bool} {c c' : Nat → Int32} {L : Nat} (hA : ∀ (c c' : Nat → Int32) (n : Nat), (∀ j, j < n → c j = c' j) → A c n = A c' n) (hc : ∀ i, i < L → c i = c' i) : ∀ k, cm_ww A c L k = cm_ww A c' L k := by
  intro k
  induction k with
  | zero => rfl
  | succ k ih =>
    have e1 : A (upd c L (nI k)) (L + 1) = A (upd c' L (nI k)) (L + 1) := by
      apply hA
      intro j hj
      by_cases e : j = L
      · rw [e, pk_us, pk_us]
      · rw [pk_un e, pk_un e, hc j (by omega)]
    show (if A (upd c L (nI k)) (L + 1) = true then cm_ww A c L k + 2 ^ k else cm_ww A c L k) = (if A (upd c' L (nI k)) (L + 1) = true then cm_ww A c' L k + 2 ^ k else cm_ww A c' L k)
    rw [e1, ih]
def cm_kd (o : Nat) : Nat := if o < 3 then 0 else o - 2
def cm_lf (o : Nat → Nat) (i : Nat) : Nat := if o i < 3 then o i else if cm_ar (o i) = 1 then cm_ix o i (cm_d o i - 1) else cm_ix o i (cm_d o i - 2)
/-- the component's nodes for the steps o -/
def cm_XA (o : Nat → Nat) (s : Nat) (k l r : Nat → Int32) : Prop := ∀ i, i < s → k i = nI (cm_kd (o i)) ∧ l i = nI (cm_lf o i) ∧ (cm_ar (o i) = 2 → r i = nI (cm_ix o i (cm_d o i - 1)))
def cm_ph (o : Nat → Nat) (s a : Nat) : Nat → Nat := fun i => if i = s then a else o i
theorem cm_ps (o : Nat → Nat) (s a : Nat) : cm_ph o s a s = a := if_pos rfl
theorem cm_pn (o : Nat → Nat) {s : Nat} (a : Nat) : ∀ i, i < s → o i = cm_ph o s a i := fun i h => (if_neg (by omega)).symm
theorem cm_lfc {o o' : Nat → Nat} {i : Nat} (h : ∀ j, j < i + 1 → o j = o' j) : cm_lf o i = cm_lf o' i := by
  obtain ⟨e1, e2, _⟩ := cm_cg (o := o) (o' := o') i (fun j hj => h j (by omega))
  unfold cm_lf
  rw [h i (by omega), e1, e2]
theorem cm_XAc {o o' : Nat → Nat} {s : Nat} {k l r : Nat → Int32} (h : ∀ i, i < s → o i = o' i) (H : cm_XA o s k l r) : cm_XA o' s k l r := by
  intro i hi
  obtain ⟨e1, e2, _⟩ := cm_cg (o := o) (o' := o') i (fun j hj => h j (by omega))
  obtain ⟨a, b, d⟩ := H i hi
  rw [h i hi, e1, e2] at d
  rw [h i hi] at a
  rw [cm_lfc (o := o) (o' := o') (fun j hj => h j (by omega))] at b
  exact ⟨a, b, d⟩
theorem cm_XAp {o : Nat → Nat} {s a : Nat} {k l r : Nat → Int32} {K L R : Int32} (H : cm_XA o s k l r) (hK : K = nI (cm_kd a)) (hL : L = nI (if a < 3 then a else if cm_ar a = 1 then cm_ix o s (cm_d o s - 1) else cm_ix o s (cm_d o s - 2))) (hR : cm_ar a = 2 → R = nI (cm_ix o s (cm_d o s - 1))) : cm_XA (cm_ph o s a) (s + 1) (upd k s K) (upd l s L) (upd r s R) := by
  intro i hi
  by_cases e : i = s
  · obtain ⟨e1, e2, _⟩ := cm_cg (o := o) (o' := cm_ph o s a) s (cm_pn o a)
    rw [e, pk_us, pk_us, pk_us, cm_ps]
    refine ⟨hK, ?_, fun z => ?_⟩
    · unfold cm_lf
      rw [cm_ps, ← e1, ← e2]
      exact hL
    · rw [← e1, ← e2]
      exact hR z
  · rw [pk_un e, pk_un e, pk_un e]
    exact cm_XAc (cm_pn o a) H i (by omega)
/-- the steps taken: sX tX dX of the component, sY dY tY of the other -/
def cm_RD (sX tX dX : Int32) (k l r st dr : Nat → Int32) (sY dY tY : Int32) : Prop := ∃ (o : Nat → Nat) (s t : Nat), cm_WF o s ∧ s ≤ 16 ∧ t ≤ 6 ∧ cm_d o s ≤ 6 ∧ (sX = nI s ∧ sY = nI s) ∧ (tX = nI t ∧ tY = nI t) ∧ (dX = nI (cm_d o s) ∧ dY = nI (cm_d o s)) ∧ cm_XA o s k l r ∧ (∀ j, j < cm_d o s → st j = nI (cm_ix o s j)) ∧ (∀ i, i < s → dr i = nI (o i))
theorem cm_RD0 (k l r st dr : Nat → Int32) : cm_RD 0 0 0 k l r st dr 0 0 0 :=
  ⟨fun _ => 0, 0, 0, fun p hp => absurd hp (Nat.not_lt_zero p), by omega, by omega, Nat.zero_le 6, ⟨rfl, rfl⟩, ⟨rfl, rfl⟩, ⟨rfl, rfl⟩, fun i hi => absurd hi (Nat.not_lt_zero i), fun j hj => absurd hj (Nat.not_lt_zero j), fun i hi => absurd hi (Nat.not_lt_zero i)⟩
theorem cm_RDp {o : Nat → Nat} {s t a : Nat} {k l r st dr : Nat → Int32} {K L R dX dY : Int32} (w : cm_WF o s) (hs : s < 16) (ht : t ≤ 6) (ha : a < 8) (har : cm_ar a ≤ cm_d o s) (hd : cm_d o s + 1 - cm_ar a ≤ 6) (H : cm_XA o s k l r) (hst : ∀ j, j < cm_d o s → st j = nI (cm_ix o s j)) (hdr : ∀ i, i < s → dr i = nI (o i)) (hK : K = nI (cm_kd a)) (hL : L = nI (if a < 3 then a else if cm_ar a = 1 then cm_ix o s (cm_d o s - 1) else cm_ix o s (cm_d o s - 2))) (hR : cm_ar a = 2 → R = nI (cm_ix o s (cm_d o s - 1))) (edX : dX = nI (cm_d o s + 1 - cm_ar a)) (edY : dY = nI (cm_d o s + 1 - cm_ar a)) : cm_RD (nI (s + 1)) (nI t) dX (upd k s K) (upd l s L) (upd r s R) (upd st (cm_d o s - cm_ar a) (nI s)) (upd dr s (nI a)) (nI (s + 1)) dY (nI t) := by
  obtain ⟨e1, e2, _⟩ := cm_cg (o := o) (o' := cm_ph o s a) s (cm_pn o a)
  have e3 : cm_d (cm_ph o s a) (s + 1) = cm_d o s + 1 - cm_ar a := by rw [cm_dS, cm_ps, ← e1]
  refine ⟨cm_ph o s a, s + 1, t, ?_, by omega, ht, by omega, ⟨rfl, rfl⟩, ⟨rfl, rfl⟩, ⟨by rw [edX, e3], by rw [edY, e3]⟩, cm_XAp H hK hL hR, ?_, ?_⟩
  · intro p hp
    by_cases e : p = s
    · rw [e, cm_ps, ← e1]
      exact ⟨ha, har⟩
    · exact cm_wfc (cm_pn o a) w p (by omega)
  · intro j hj
    rw [e3] at hj
    have e4 : cm_ix (cm_ph o s a) (s + 1) j = if j = cm_d (cm_ph o s a) s - cm_ar (cm_ph o s a s) then s else cm_ix (cm_ph o s a) s j := rfl
    rw [e4, cm_ps, ← e1, ← e2]
    by_cases e : j = cm_d o s - cm_ar a
    · rw [if_pos e, e, pk_us]
    · rw [if_neg e, pk_un e, hst j (by omega)]
  · intro i hi
    by_cases e : i = s
    · rw [e, pk_us, cm_ps]
    · rw [pk_un e, hdr i (by omega), cm_pn o (s := s) a i (by omega)]
/-- the formula in use: its last step makes it -/
def cm_RU (uk ul ur : Nat → Int32) (us : Int32) (fo : Nat → Int32) (sz : Int32) : Prop := ∃ (oX oY : Nat → Nat) (n m : Nat), cm_WF oX (n + 1) ∧ n < 16 ∧ us = nI (n + 1) ∧ cm_XA oX (n + 1) uk ul ur ∧ cm_WF oY (m + 1) ∧ m < 16 ∧ sz = nI (m + 1) ∧ (∀ i, i < m + 1 → fo i = nI (oY i)) ∧ cm_N oX n = cm_N oY m
theorem cm_RU0 : cm_RU (upd (fun _ => 0) 0 0) (upd (fun _ => 0) 0 0) (fun _ => 0) 1 (fun _ => 0) 1 := by
  have w : cm_WF (fun _ => 0) (0 + 1) := fun p hp => ⟨(by decide : 0 < 8), show (0 : Nat) ≤ _ from Nat.zero_le _⟩
  have u : ∀ i, upd (fun _ => (0 : Int32)) 0 0 i = 0 := by
    intro i
    unfold upd
    split <;> rfl
  refine ⟨fun _ => 0, fun _ => 0, 0, 0, w, by omega, rfl, ?_, w, by omega, rfl, fun i hi => rfl, rfl⟩
  intro i hi
  rw [u i]
  exact ⟨rfl, rfl, fun z => absurd (show (0 : Nat) = 2 from z) (by decide)⟩
/-- the course: the first L instants are the same -/
def cm_RC (cx : Nat → Int32) (lx : Int32) (cy : Nat → Int32) (ly : Int32) : Prop := ∃ L, L ≤ 10 ∧ lx = nI L ∧ ly = nI L ∧ ∀ i, i < L → cx i = cy i
/-- where the top formula begins -/
theorem cm_def {o : Nat → Nat} {s a D : Nat} (w : cm_WF o s) (ha : a ≤ s) (hs : cm_d o s = D + 1) (hD : cm_d o a = D) (h : ∀ q, a < q → q ≤ s → D + 1 ≤ cm_d o q) : a < s ∧ cm_WF (fun q => o (a + q)) (s - a) ∧ cm_N o (s - 1) = cm_N (fun q => o (a + q)) (s - a - 1) := by
  have h1 : a < s := by
    rcases Nat.lt_or_ge a s with z | z
    · exact z
    · have e : a = s := by omega
      rw [e] at hD
      omega
  have h2 : ∀ p, p < s - a → D + cm_ar (o (a + p)) ≤ cm_d o (a + p) := by
    intro p hp
    have z1 := h (a + p + 1) (by omega) (by omega)
    have z2 := (w (a + p) (by omega)).2
    rw [cm_dS] at z1
    omega
  refine ⟨h1, cm_shW o a D (s - a) ?_ hD h2, ?_⟩
  · rw [show a + (s - a) = s by omega]
    exact w
  · rw [cm_shN o a D (s - a) hD h2 (s - a - 1) (by omega), show a + (s - a - 1) = s - 1 by omega]
end
section
/-! what both walks ask of a step's parts; the reference's table of values -/
theorem cm_nd1 {o : Nat → Nat} {k : Nat} (w : cm_WF o (k + 1)) (h : cm_ar (o k) = 1) (h3 : ¬ o k < 3) : ∃ (b : Nat) (x : cm_V), b < k ∧ cm_lf o k = b ∧ 1 ≤ cm_d o k ∧ cm_ix o k (cm_d o k - 1) = b ∧ cm_N o k = cm_op (o k) x (cm_N o b) := by
  have hw := (w k (by omega)).2
  obtain ⟨a1, a2⟩ := cm_sx o k (cm_wf1 w (by omega)) (cm_d o k - 1) (by omega)
  refine ⟨cm_ix o k (cm_d o k - 1), cm_s o k (cm_d o k - 2), a1, ?_, by omega, rfl, ?_⟩
  · unfold cm_lf
    rw [if_neg h3, if_pos h]
  · rw [← a2]
    rfl
theorem cm_nd2 {o : Nat → Nat} {k : Nat} (w : cm_WF o (k + 1)) (h : cm_ar (o k) = 2) (h3 : ¬ o k < 3) : ∃ a b : Nat, a < k ∧ b < k ∧ cm_lf o k = a ∧ 2 ≤ cm_d o k ∧ cm_ix o k (cm_d o k - 2) = a ∧ cm_ix o k (cm_d o k - 1) = b ∧ cm_N o k = cm_op (o k) (cm_N o a) (cm_N o b) := by
  have hw := (w k (by omega)).2
  obtain ⟨a1, a2⟩ := cm_sx o k (cm_wf1 w (by omega)) (cm_d o k - 1) (by omega)
  obtain ⟨b1, b2⟩ := cm_sx o k (cm_wf1 w (by omega)) (cm_d o k - 2) (by omega)
  refine ⟨cm_ix o k (cm_d o k - 2), cm_ix o k (cm_d o k - 1), b1, a1, ?_, by omega, rfl, rfl, ?_⟩
  · unfold cm_lf
    rw [if_neg h3, if_neg (by omega)]
  · rw [← a2, ← b2]
    rfl
/-- the kinds of steps -/
theorem cm_8 {o : Nat} (h : o < 8) : o < 3 ∨ o = 3 ∨ o = 4 ∨ o = 5 ∨ o = 6 ∨ o = 7 := by omega
theorem cm_13 (b k : Nat) : (13 : Int32) * nI b + nI k = nI (13 * b + k) := by
  rw [show (13 : Int32) = nI 13 from rfl, pk_mul, nI_add]
/-- the reference's row a of values is that of f -/
def cm_YB (f : cm_V) (c : Nat → Int32) (n : Nat) (v : Nat → Int32) (a : Nat) : Prop := ∀ i, (i < n ∨ i = 12) → v (13 * a + i) = cm_b (f c n i)
theorem cm_YBu {f : cm_V} {c : Nat → Int32} {n : Nat} {v : Nat → Int32} {a p i : Nat} {x : Int32} (hn : n ≤ 12) (ha : a < p) (h : cm_YB f c n v a) : cm_YB f c n (upd v (13 * p + i) x) a := by
  intro j hj
  rw [pk_un (by omega)]
  exact h j hj
/-- the row p is filled below i -/
def cm_YF (f : cm_V) (c : Nat → Int32) (n : Nat) (v : Nat → Int32) (p i : Nat) : Prop := ∀ j, j < i → (j < n ∨ j = 12) → v (13 * p + j) = cm_b (f c n j)
theorem cm_YFu {f : cm_V} {c : Nat → Int32} {n : Nat} {v : Nat → Int32} {p i : Nat} {x : Int32} (h : cm_YF f c n v p i) (hx : (i < n ∨ i = 12) → x = cm_b (f c n i)) : cm_YF f c n (upd v (13 * p + i) x) p (i + 1) := by
  intro j hj hj2
  by_cases e : j = i
  · rw [e] at hj2 ⊢
    rw [pk_us]
    exact hx hj2
  · rw [pk_un (by omega)]
    exact h j (by omega) hj2
theorem cm_YFB {f : cm_V} {c : Nat → Int32} {n : Nat} {v : Nat → Int32} {p : Nat} (hn : n ≤ 12) (h : cm_YF f c n v p 13) : cm_YB f c n v p := fun i hi => h i (by omega) hi
theorem cm_YBA {f : cm_V} {c : Nat → Int32} {n : Nat} {v : Nat → Int32} {a : Nat} (h : cm_YB f c n v a) : v (13 * a + (if n = 0 then 12 else 0)) = cm_b (cm_A f c n) := by
  unfold cm_A
  apply h
  split
  · exact Or.inr rfl
  · exact Or.inl (by omega)
theorem cm_nb (b : Bool) : narrow .boolean (.int (cm_b b)) = .int (cm_b b) := by cases b <;> rfl
theorem cm_vn (b : Bool) : vp_nar .boolean (cm_b b) = cm_b b := by cases b <;> rfl
theorem cm_nI2 {x : Int32} {a : Nat} (h0 : ¬ x < 0) (h : x ≤ nI a) (ha : a < 2 ^ 31) : ∃ j, j ≤ a ∧ x = nI j := nI_of2 (nI_toInt ha) h0 h
/-- a branch on a boolean that is answered as it is -/
theorem cm_br {b : Bool} {P : Int32 → Prop} (h : P (cm_b b)) : (cm_b b = 0 → P 0) ∧ (¬ cm_b b = 0 → P 1) := by
  cases b
  · exact br_t rfl h
  · exact br_f (by decide) h
theorem cm_ar1 {o : Nat} (h : o = 3 ∨ o = 6) : cm_ar o = 1 := by
  rcases h with h | h
  · rw [h]; rfl
  · rw [h]; rfl
theorem cm_ar2b {o : Nat} (h : o = 4 ∨ o = 5 ∨ o = 7) : cm_ar o = 2 := by
  rcases h with h | h | h
  · rw [h]; rfl
  · rw [h]; rfl
  · rw [h]; rfl
theorem cm_ar0 {o : Nat} (h : o < 3) : cm_ar o = 0 := if_pos h
end
section
/-! the component's walk: the sets of places -/
section
variable {sc tc ss us cl : Int32} {ka la ra sa uk ul ur co pl : Nat → Int32}
theorem cx_pf {post : Int32 → Prop} {o N : Nat} (ho : o < 3) (hN : N ≤ 12) (h : ∀ v, (∀ i, i < 32 → bt v i = (decide (i < N) && bt (co i) o)) → post v) : wpX_placesOfFact post (sc, tc, ss, us, cl, ka, la, ra, sa, uk, ul, ur, co, pl) (nI o) (nI N) := by
  have L : ∀ d k f v, k + d = N → d < f → (∀ i, i < 32 → bt v i = (decide (i < k) && bt (co i) o)) → wX_placesOfFact_5 post (nI o) (nI N) sc tc ss us cl ka la ra sa uk ul ur co pl f v (nI k) := by
    intro d
    induction d with
    | zero =>
      intro k f v e hf hv
      obtain ⟨g, rfl⟩ : ∃ g, f = g + 1 := ⟨f - 1, by omega⟩
      have ek : k = N := by omega
      subst ek
      exact br_t (nI_le (Nat.le_refl _) (by omega)) (h v hv)
    | succ d ih =>
      intro k f v e hf hv
      obtain ⟨g, rfl⟩ : ∃ g, f = g + 1 := ⟨f - 1, by omega⟩
      refine br_f (nI_ge (by omega) (by omega)) ⟨vp_in_nI (by omega) (by omega), ?_⟩
      refine nm_e (nm_r (nI_1 k) ?_)
      refine ih (k + 1) g _ (by omega) (by omega) ?_
      rw [nI_clamp (by omega)]
      exact cm_f1 (by omega) ho hv
  exact ⟨N + 1, L N 0 (N + 1) 0 (by omega) (by omega) (fun i hi => by rw [b_0, decide_eq_false (Nat.not_lt_zero i), Bool.false_and])⟩
theorem cx_pu {post : Int32 → Prop} {x y : cm_V} {c : Nat → Int32} {N : Nat} {wx wy : Int32} (hN : N ≤ 12) (hx : cm_XB x c N wx) (hy : cm_XB y c N wy) (h : ∀ v, (∀ i, i < 32 → bt v i = (decide (i < N) && cm_un (x c N) (y c N) (N - i) i)) → post v) : wpX_placesOfUntil post wx wy (nI N) := by
  have L : ∀ k f v z, z = nI k + (-1) → k < f → k ≤ N → (∀ i, i < 32 → bt v i = (decide (k ≤ i ∧ i < N) && cm_un (x c N) (y c N) (N - i) i)) → wX_placesOfUntil_7 post wx wy f v z := by
    intro k
    induction k with
    | zero =>
      intro f v z ez hf hk hv
      obtain ⟨g, rfl⟩ : ∃ g, f = g + 1 := ⟨f - 1, by omega⟩
      subst ez
      refine br_t (by decide) (h v (fun i hi => ?_))
      rw [hv i hi, show decide (0 ≤ i ∧ i < N) = decide (i < N) from by simp]
    | succ k ih =>
      intro f v z ez hf hk hv
      obtain ⟨g, rfl⟩ : ∃ g, f = g + 1 := ⟨f - 1, by omega⟩
      rw [pk_m1] at ez
      subst ez
      exact br_f (nI_pos (by omega)) (nm_e (nm_e (ih g _ _ rfl (by omega) (by omega) (cm_u1 hN (by omega) hx hy hv))))
  refine nm_r (Int32.sub_eq_add_neg (a := nI N) (b := 1)) ⟨N + 1, L N (N + 1) 0 _ rfl (by omega) (by omega) (fun i hi => ?_)⟩
  rw [b_0, decide_eq_false (by omega), Bool.false_and]
theorem cx_ap {post : Int32 → Prop} {N : Nat} (hN : N ≤ 12) (h : ∀ v, (∀ i, i < 32 → bt v i = decide (i < cm_m N)) → post v) : wpX_allPlaces post (nI N) := by
  refine pk_eq N 0 (fun e => h 1 (fun i hi => ?_)) (fun e => h _ (fun i hi => ?_))
  · rw [cm_1 i hi, e]
    show decide (i = 0) = decide (i < 1)
    by_cases z : i = 0
    · rw [decide_eq_true z, decide_eq_true (by omega)]
    · rw [decide_eq_false z, decide_eq_false (by omega)]
  · rw [cm_all N (by omega) i hi]
    unfold cm_m
    rw [if_neg e]
theorem cx_po {post : Int32 → Prop} {o : Nat → Nat} {k n N : Nat} (hk : k < n + 1) (hn : n < 16) (w : cm_WF o (n + 1)) (A : cm_XA o (n + 1) uk ul ur) (hN : N ≤ 12) (hp : ∀ a, a < k → cm_XB (cm_N o a) co N (pl a)) (h : ∀ r, cm_XB (cm_N o k) co N r → post r) : wpX_placesOf post (sc, tc, ss, us, cl, ka, la, ra, sa, uk, ul, ur, co, pl) (nI k) (nI N) := by
  obtain ⟨a1, a2, a3⟩ := A k hk
  have wk := (w k hk).1
  have hi : vp_in (nI k) 16 := vp_in_nI (by omega) (by omega)
  have w1 := cm_wf1 w (show k + 1 ≤ n + 1 by omega)
  have ck : (nI k).toNatClampNeg = k := nI_clamp (by omega)
  unfold wpX_placesOf
  dsimp only
  rw [ck]
  rcases cm_8 wk with h3 | h3 | h3 | h3 | h3 | h3
  · have b1 : uk k = nI 0 := by rw [a1, show cm_kd (o k) = 0 from if_pos h3]
    have b2 : ul k = nI (o k) := by rw [a2, show cm_lf o k = o k from if_pos h3]
    refine ⟨hi, nm_r b2 ⟨hi, nm_e ⟨hi, nm_r b1 ?_⟩⟩⟩
    refine br_f (by decide) (br_f (by decide) (br_t (by decide) ?_))
    exact cx_pf h3 hN (fun v hv => h v (cm_xb0 h3 hv))
  · obtain ⟨b, x, hb, el, _, _, eN⟩ := cm_nd1 w1 (cm_ar1 (Or.inl h3)) (by omega)
    have b1 : uk k = nI 1 := by rw [a1, h3]; rfl
    have b2 : ul k = nI b := by rw [a2, el]
    have cb : (nI b).toNatClampNeg = b := nI_clamp (by omega)
    have ib : vp_in (nI b) 16 := vp_in_nI (by omega) (by omega)
    refine ⟨hi, nm_r b2 ⟨hi, nm_e ⟨hi, nm_r b1 ?_⟩⟩⟩
    refine br_f (by decide) (br_f (by decide) (br_f (by decide) (br_t (by decide) ?_)))
    rw [cb]
    refine cx_ap hN (fun v hv => ⟨ib, h _ ?_⟩)
    rw [eN, h3]
    exact cm_xb3 (hp b hb) (fun i hi => by rw [b_and, hv i hi, b_xor, b_m1 i hi, Bool.xor_true])
  · obtain ⟨a, b, ha, hb, el, _, _, er, eN⟩ := cm_nd2 w1 (cm_ar2b (Or.inl h3)) (by omega)
    have b1 : uk k = nI 2 := by rw [a1, h3]; rfl
    have b2 : ul k = nI a := by rw [a2, el]
    have b3 : ur k = nI b := by rw [a3 (cm_ar2b (Or.inl h3)), er]
    have ca : (nI a).toNatClampNeg = a := nI_clamp (by omega)
    have cb : (nI b).toNatClampNeg = b := nI_clamp (by omega)
    have ia : vp_in (nI a) 16 := vp_in_nI (by omega) (by omega)
    have ib : vp_in (nI b) 16 := vp_in_nI (by omega) (by omega)
    refine ⟨hi, nm_r b2 ⟨hi, nm_r b3 ⟨hi, nm_r b1 ?_⟩⟩⟩
    refine br_f (by decide) (br_f (by decide) (br_f (by decide) (br_f (by decide) (br_t (by decide) ⟨ia, ib, h _ ?_⟩))))
    rw [ca, cb, eN, h3]
    exact cm_xb4 (hp a ha) (hp b hb)
  · obtain ⟨a, b, ha, hb, el, _, _, er, eN⟩ := cm_nd2 w1 (cm_ar2b (Or.inr (Or.inl h3))) (by omega)
    have b1 : uk k = nI 3 := by rw [a1, h3]; rfl
    have b2 : ul k = nI a := by rw [a2, el]
    have b3 : ur k = nI b := by rw [a3 (cm_ar2b (Or.inr (Or.inl h3))), er]
    have ca : (nI a).toNatClampNeg = a := nI_clamp (by omega)
    have cb : (nI b).toNatClampNeg = b := nI_clamp (by omega)
    have ia : vp_in (nI a) 16 := vp_in_nI (by omega) (by omega)
    have ib : vp_in (nI b) 16 := vp_in_nI (by omega) (by omega)
    refine ⟨hi, nm_r b2 ⟨hi, nm_r b3 ⟨hi, nm_r b1 ?_⟩⟩⟩
    refine br_f (by decide) (br_f (by decide) (br_f (by decide) (br_f (by decide) (br_f (by decide) (br_t (by decide) ⟨ia, ib, h _ ?_⟩)))))
    rw [ca, cb, eN, h3]
    exact cm_xb5 (hp a ha) (hp b hb)
  · obtain ⟨b, x, hb, el, _, _, eN⟩ := cm_nd1 w1 (cm_ar1 (Or.inr h3)) (by omega)
    have b1 : uk k = nI 4 := by rw [a1, h3]; rfl
    have b2 : ul k = nI b := by rw [a2, el]
    have cb : (nI b).toNatClampNeg = b := nI_clamp (by omega)
    have ib : vp_in (nI b) 16 := vp_in_nI (by omega) (by omega)
    refine ⟨hi, nm_r b2 ⟨hi, nm_e ⟨hi, nm_r b1 ?_⟩⟩⟩
    refine br_f (by decide) (br_f (by decide) (br_f (by decide) (br_f (by decide) (br_f (by decide) (br_f (by decide) (br_t (by decide) ⟨ib, h _ ?_⟩))))))
    rw [cb, eN, h3]
    exact cm_xb6 hN (hp b hb)
  · obtain ⟨a, b, ha, hb, el, _, _, er, eN⟩ := cm_nd2 w1 (cm_ar2b (Or.inr (Or.inr h3))) (by omega)
    have b1 : uk k = nI 5 := by rw [a1, h3]; rfl
    have b2 : ul k = nI a := by rw [a2, el]
    have b3 : ur k = nI b := by rw [a3 (cm_ar2b (Or.inr (Or.inr h3))), er]
    have ca : (nI a).toNatClampNeg = a := nI_clamp (by omega)
    have cb : (nI b).toNatClampNeg = b := nI_clamp (by omega)
    have ia : vp_in (nI a) 16 := vp_in_nI (by omega) (by omega)
    have ib : vp_in (nI b) 16 := vp_in_nI (by omega) (by omega)
    refine ⟨hi, nm_r b2 ⟨hi, nm_r b3 ⟨hi, nm_r b1 ?_⟩⟩⟩
    refine br_f (by decide) (br_t (by decide) ⟨ia, ib, ?_⟩)
    rw [ca, cb]
    refine cx_pu hN (hp a ha) (hp b hb) (fun v hv => h v ?_)
    rw [eN, h3]
    exact cm_xb7 hv
theorem cx_hf {post : Int32 → SX → Prop} {o : Nat → Nat} {n N : Nat} (hn : n < 16) (w : cm_WF o (n + 1)) (A : cm_XA o (n + 1) uk ul ur) (hN : N ≤ 12) (h : ∀ pl', post (cm_b (cm_A (cm_N o n) co N)) (sc, tc, ss, nI (n + 1), cl, ka, la, ra, sa, uk, ul, ur, co, pl')) : wpX_holdsForFirst post (sc, tc, ss, nI (n + 1), cl, ka, la, ra, sa, uk, ul, ur, co, pl) (nI N) := by
  have L : ∀ d k f pl, k + d = n + 1 → d < f → (∀ a, a < k → cm_XB (cm_N o a) co N (pl a)) → wX_holdsForFirst_2 post (nI N) sc tc ss (nI (n + 1)) cl f (nI k) ka la ra sa uk ul ur co pl := by
    intro d
    induction d with
    | zero =>
      intro k f pl e hf hp
      obtain ⟨g, rfl⟩ : ∃ g, f = g + 1 := ⟨f - 1, by omega⟩
      refine br_t (nI_le (by omega) (by omega)) ?_
      rw [nI_pred, nI_clamp (by omega), cm_xbA (hp n (by omega))]
      exact ⟨vp_in_nI (by omega) (by omega), cm_br (P := fun r => post r (sc, tc, ss, nI (n + 1), cl, ka, la, ra, sa, uk, ul, ur, co, pl)) (h pl)⟩
    | succ d ih =>
      intro k f pl e hf hp
      obtain ⟨g, rfl⟩ : ∃ g, f = g + 1 := ⟨f - 1, by omega⟩
      refine br_f (nI_ge (by omega) (by omega)) (cx_po (n := n) (by omega) hn w A hN hp (fun r hr => ⟨vp_in_nI (by omega) (by omega), nm_r (show upd pl (nI k).toNatClampNeg r = upd pl k r by rw [nI_clamp (by omega)]) (nm_r (nI_1 k) (ih (k + 1) g _ (by omega) (by omega) (fun a ha => ?_)))⟩))
      by_cases z : a = k
      · rw [z, pk_us]
        exact hr
      · rw [pk_un z]
        exact hp a (by omega)
  exact ⟨n + 2, L (n + 1) 0 (n + 2) pl (by omega) (by omega) (fun a ha => absurd ha (Nat.not_lt_zero a))⟩
theorem cx_fb {post : Int32 → SX → Prop} {o : Nat → Nat} {n L : Nat} {x : Int32} (hn : n < 16) (w : cm_WF o (n + 1)) (A : cm_XA o (n + 1) uk ul ur) (hL : L ≤ 10) (h : ∀ pl', post (cm_b (cm_A (cm_N o n) (upd co L x) (L + 1))) (sc, tc, ss, nI (n + 1), nI L, ka, la, ra, sa, uk, ul, ur, upd co L x, pl')) : wpX_holdsFollowedBy post (sc, tc, ss, nI (n + 1), nI L, ka, la, ra, sa, uk, ul, ur, co, pl) x := by
  unfold wpX_holdsFollowedBy
  dsimp only
  refine ⟨vp_in_nI (by omega) (by omega), nm_r (show upd co (nI L).toNatClampNeg x = upd co L x by rw [nI_clamp (by omega)]) ?_⟩
  rw [nI_1 L]
  exact cx_hf hn w A (by omega) (fun pl' => ⟨cm_nb _, h pl'⟩)
end
end
section
/-! the component's walk: wouldHoldWith, soonest -/
theorem cm_AL {o : Nat → Nat} {n : Nat} : ∀ (c c' : Nat → Int32) (N : Nat), (∀ j, j < N → c j = c' j) → cm_A (cm_N o n) c N = cm_A (cm_N o n) c' N := fun _ _ _ h => cm_lcA (cm_lcN o n) h
theorem cm_ag1 {c c' : Nat → Int32} {L : Nat} {x : Int32} (h : ∀ i, i < L → c i = c' i) : ∀ i, i < L → upd c L x i = c' i := by
  intro i hi
  rw [pk_un (by omega)]
  exact h i hi
theorem cm_ag2 {c c' : Nat → Int32} {L : Nat} {x : Int32} (h : ∀ i, i < L → c i = c' i) : ∀ i, i < L → upd c (L + 1) x i = c' i := by
  intro i hi
  rw [pk_un (by omega)]
  exact h i hi
theorem cm_ag3 {c c' : Nat → Int32} {L : Nat} {x : Int32} (h : ∀ i, i < L → c i = c' i) : ∀ i, i < L + 1 → upd c L x i = upd c' L x i := by
  intro i hi
  by_cases e : i = L
  · rw [e, pk_us, pk_us]
  · rw [pk_un e, pk_un e]
    exact h i (by omega)
theorem cm_ag4 {c c' : Nat → Int32} {L : Nat} {x y : Int32} (h : ∀ i, i < L → c i = c' i) (hL : c L = x) : ∀ i, i < L + 2 → upd c (L + 1) y i = upd (upd c' L x) (L + 1) y i := by
  intro i hi
  by_cases e : i = L + 1
  · rw [e, pk_us, pk_us]
  · rw [pk_un e, pk_un e]
    by_cases e2 : i = L
    · rw [e2, pk_us, hL]
    · rw [pk_un e2]
      exact h i (by omega)
theorem cm_2 (L : Nat) : nI L + 2 = nI (L + 2) := nI_add L 2
section
variable {sc tc ss us cl : Int32} {ka la ra sa uk ul ur co pl : Nat → Int32}
theorem cx_ww {post : Int32 → SX → Prop} {o : Nat → Nat} {n L : Nat} (hn : n < 16) (w : cm_WF o (n + 1)) (A : cm_XA o (n + 1) uk ul ur) (hL : L ≤ 10) (h : ∀ c pl', (∀ i, i < L → c i = co i) → post (nI (cm_ww (cm_A (cm_N o n)) co L 8)) (sc, tc, ss, nI (n + 1), nI L, ka, la, ra, sa, uk, ul, ur, c, pl')) : wpX_wouldHoldWith post (sc, tc, ss, nI (n + 1), nI L, ka, la, ra, sa, uk, ul, ur, co, pl) := by
  have M : ∀ d k f c pl, k + d = 8 → d < f → (∀ i, i < L → c i = co i) → wX_wouldHoldWith_4 post f (nI (cm_ww (cm_A (cm_N o n)) co L k)) (nI k) sc tc ss (nI (n + 1)) (nI L) ka la ra sa uk ul ur c pl := by
    intro d
    induction d with
    | zero =>
      intro k f c pl e hf hc
      obtain ⟨g, rfl⟩ : ∃ g, f = g + 1 := ⟨f - 1, by omega⟩
      have ek : k = 8 := by omega
      subst ek
      exact br_t (nI_le (a := 8) (b := 8) (by omega) (by omega)) (h c pl hc)
    | succ d ih =>
      intro k f c pl e hf hc
      obtain ⟨g, rfl⟩ : ∃ g, f = g + 1 := ⟨f - 1, by omega⟩
      refine br_f (nI_ge (b := 8) (by omega) (by omega)) (cx_fb hn w A hL (fun pl' => ?_))
      have e1 : cm_A (cm_N o n) (upd c L (nI k)) (L + 1) = cm_A (cm_N o n) (upd co L (nI k)) (L + 1) := cm_AL _ _ _ (cm_ag3 hc)
      rw [e1]
      by_cases z : cm_A (cm_N o n) (upd co L (nI k)) (L + 1) = true
      · have ew : cm_ww (cm_A (cm_N o n)) co L (k + 1) = cm_ww (cm_A (cm_N o n)) co L k + 2 ^ k := if_pos z
        have q := (cm_w8 k (by omega) _ (cm_wwlt (cm_A (cm_N o n)) co L k)).1
        have J := ih (k + 1) g (upd c L (nI k)) pl' (by omega) (by omega) (cm_ag1 hc)
        rw [ew] at J
        rw [z]
        exact br_f (by decide) (nm_r q (nm_r (nI_1 k) J))
      · have ew : cm_ww (cm_A (cm_N o n)) co L (k + 1) = cm_ww (cm_A (cm_N o n)) co L k := if_neg z
        have J := ih (k + 1) g (upd c L (nI k)) pl' (by omega) (by omega) (cm_ag1 hc)
        rw [ew] at J
        rw [show cm_A (cm_N o n) (upd co L (nI k)) (L + 1) = false from by cases q : cm_A (cm_N o n) (upd co L (nI k)) (L + 1) with | true => exact absurd q z | false => rfl]
        exact br_t rfl (nm_r (nI_1 k) J)
  exact ⟨9, M 8 0 9 co pl (by omega) (by omega) (fun i hi => rfl)⟩
theorem cx_74 {post : Int32 → SX → Prop} {J : Int32 → Int32 → Int32 → Int32 → Int32 → Int32 → (Nat → Int32) → (Nat → Int32) → (Nat → Int32) → (Nat → Int32) → (Nat → Int32) → (Nat → Int32) → (Nat → Int32) → (Nat → Int32) → (Nat → Int32) → Prop} {o : Nat → Nat} {n L a : Nat} {wd : Int32} (hn : n < 16) (w : cm_WF o (n + 1)) (A : cm_XA o (n + 1) uk ul ur) (hL : L ≤ 10) (h2 : ∀ b c pl', b < 8 → cm_b (cm_A (cm_N o n) (upd (upd co L (nI a)) (L + 1) (nI b)) (L + 2)) = wd → (∀ i, i < L → c i = co i) → post 2 (sc, tc, ss, nI (n + 1), nI L, ka, la, ra, sa, uk, ul, ur, c, pl'))
    (hJ : ∀ c pl', (∀ b, b < 8 → ¬ cm_b (cm_A (cm_N o n) (upd (upd co L (nI a)) (L + 1) (nI b)) (L + 2)) = wd) → (∀ i, i < L → c i = co i) → J (nI (a + 1)) sc tc ss (nI (n + 1)) (nI L) ka la ra sa uk ul ur c pl') : ∀ d b f c pl, b + d = 8 → d < f → (∀ i, i < L → c i = co i) → c L = nI a → (∀ b', b' < b → ¬ cm_b (cm_A (cm_N o n) (upd (upd co L (nI a)) (L + 1) (nI b')) (L + 2)) = wd) → wX_fewestFurther_74 post J wd (nI a) f (nI b) sc tc ss (nI (n + 1)) (nI L) ka la ra sa uk ul ur c pl := by
  intro d
  induction d with
  | zero =>
    intro b f c pl e hf hc hcL hb
    obtain ⟨g, rfl⟩ : ∃ g, f = g + 1 := ⟨f - 1, by omega⟩
    have ek : b = 8 := by omega
    subst ek
    exact br_t (nI_le (a := 8) (b := 8) (by omega) (by omega)) (nm_r (nI_1 a) (hJ c pl hb hc))
  | succ d ih =>
    intro b f c pl e hf hc hcL hb
    obtain ⟨g, rfl⟩ : ∃ g, f = g + 1 := ⟨f - 1, by omega⟩
    refine br_f (nI_ge (b := 8) (by omega) (by omega)) ?_
    rw [nI_1 L, nI_clamp (show L + 1 < 2 ^ 31 by omega), cm_2 L]
    refine ⟨vp_in_nI (by omega) (by omega), nm_e (cx_hf hn w A (by omega) (fun pl' => ?_))⟩
    have e1 : cm_A (cm_N o n) (upd c (L + 1) (nI b)) (L + 2) = cm_A (cm_N o n) (upd (upd co L (nI a)) (L + 1) (nI b)) (L + 2) := cm_AL _ _ _ (cm_ag4 hc hcL)
    rw [e1]
    refine br_c (fun z => h2 b _ pl' (by omega) z (cm_ag2 hc)) (fun z => nm_r (nI_1 b) (ih (b + 1) g _ pl' (by omega) (by omega) (cm_ag2 hc) ?_ (lt_s hb z)))
    rw [pk_un (by omega)]
    exact hcL
theorem cx_56 {post : Int32 → SX → Prop} {o : Nat → Nat} {n L : Nat} {wd : Int32} (hn : n < 16) (w : cm_WF o (n + 1)) (A : cm_XA o (n + 1) uk ul ur) (hL : L ≤ 10) (h2 : ∀ a b c pl', a < 8 → b < 8 → cm_b (cm_A (cm_N o n) (upd (upd co L (nI a)) (L + 1) (nI b)) (L + 2)) = wd → (∀ i, i < L → c i = co i) → post 2 (sc, tc, ss, nI (n + 1), nI L, ka, la, ra, sa, uk, ul, ur, c, pl'))
    (h4 : ∀ c pl', (∀ a b, a < 8 → b < 8 → ¬ cm_b (cm_A (cm_N o n) (upd (upd co L (nI a)) (L + 1) (nI b)) (L + 2)) = wd) → (∀ i, i < L → c i = co i) → post (-4) (sc, tc, ss, nI (n + 1), nI L, ka, la, ra, sa, uk, ul, ur, c, pl')) : ∀ d a f c pl, a + d = 8 → d < f → (∀ i, i < L → c i = co i) → (∀ a' b, a' < a → b < 8 → ¬ cm_b (cm_A (cm_N o n) (upd (upd co L (nI a')) (L + 1) (nI b)) (L + 2)) = wd) → wX_fewestFurther_56 post wd f (nI a) sc tc ss (nI (n + 1)) (nI L) ka la ra sa uk ul ur c pl := by
  intro d
  induction d with
  | zero =>
    intro a f c pl e hf hc ha
    obtain ⟨g, rfl⟩ : ∃ g, f = g + 1 := ⟨f - 1, by omega⟩
    have ek : a = 8 := by omega
    subst ek
    exact br_t (nI_le (a := 8) (b := 8) (by omega) (by omega)) (h4 c pl ha hc)
  | succ d ih =>
    intro a f c pl e hf hc ha
    obtain ⟨g, rfl⟩ : ∃ g, f = g + 1 := ⟨f - 1, by omega⟩
    refine br_f (nI_ge (b := 8) (by omega) (by omega)) ⟨vp_in_nI (by omega) (by omega), nm_r (show upd c (nI L).toNatClampNeg (nI a) = upd c L (nI a) by rw [nI_clamp (by omega)]) ⟨9, ?_⟩⟩
    refine cx_74 (co := co) (a := a) hn w A hL (fun b c pl' hb => h2 a b c pl' (by omega) hb) (fun c pl' hb hc' => ?_) 8 0 9 _ pl (by omega) (by omega) (cm_ag1 hc) pk_us (fun b' hb' => absurd hb' (Nat.not_lt_zero b'))
    refine ih (a + 1) g c pl' (by omega) (by omega) hc' (fun a' b ha' hb' => ?_)
    by_cases z : a' = a
    · rw [z]
      exact hb b hb'
    · exact ha a' b (by omega) hb'
theorem cx_ff {post : Int32 → SX → Prop} {o : Nat → Nat} {n L : Nat} {wd : Int32} (hn : n < 16) (w : cm_WF o (n + 1)) (A : cm_XA o (n + 1) uk ul ur) (hL : L ≤ 10) (h : ∀ r c pl', (∀ i, i < L → c i = co i) → cm_So (cm_A (cm_N o n)) co L wd r → post r (sc, tc, ss, nI (n + 1), nI L, ka, la, ra, sa, uk, ul, ur, c, pl')) : wpX_fewestFurther post (sc, tc, ss, nI (n + 1), nI L, ka, la, ra, sa, uk, ul, ur, co, pl) wd := by
  unfold wpX_fewestFurther
  dsimp only
  refine cx_hf hn w A (by omega) (fun pl1 => ?_)
  refine br_c (fun z => h 0 co pl1 (fun i hi => rfl) (Or.inl ⟨rfl, z⟩)) (fun z0 => ⟨9, ?_⟩)
  have M : ∀ d k f c pl, k + d = 8 → d < f → (∀ i, i < L → c i = co i) → (∀ a, a < k → ¬ cm_b (cm_A (cm_N o n) (upd co L (nI a)) (L + 1)) = wd) → wX_fewestFurther_16 post wd f (nI k) sc tc ss (nI (n + 1)) (nI L) ka la ra sa uk ul ur c pl := by
    intro d
    induction d with
    | zero =>
      intro k f c pl e hf hc hk
      obtain ⟨g, rfl⟩ : ∃ g, f = g + 1 := ⟨f - 1, by omega⟩
      have ek : k = 8 := by omega
      subst ek
      refine br_t (nI_le (a := 8) (b := 8) (by omega) (by omega)) ⟨9, ?_⟩
      exact cx_56 (co := co) hn w A hL (fun a b c pl' ha hb hw hc' => h 2 c pl' hc' (Or.inr (Or.inr (Or.inl ⟨rfl, z0, hk, a, b, ha, hb, hw⟩)))) (fun c pl' hab hc' => h (-4) c pl' hc' (Or.inr (Or.inr (Or.inr ⟨rfl, z0, hk, hab⟩)))) 8 0 9 c pl (by omega) (by omega) hc (fun a' b ha' _ => absurd ha' (Nat.not_lt_zero a'))
    | succ d ih =>
      intro k f c pl e hf hc hk
      obtain ⟨g, rfl⟩ : ∃ g, f = g + 1 := ⟨f - 1, by omega⟩
      refine br_f (nI_ge (b := 8) (by omega) (by omega)) ?_
      rw [nI_clamp (show L < 2 ^ 31 by omega), nI_1 L]
      refine ⟨vp_in_nI (by omega) (by omega), nm_e (cx_hf hn w A (by omega) (fun pl' => ?_))⟩
      have e1 : cm_A (cm_N o n) (upd c L (nI k)) (L + 1) = cm_A (cm_N o n) (upd co L (nI k)) (L + 1) := cm_AL _ _ _ (cm_ag3 hc)
      rw [e1]
      exact br_c (fun z => h 1 _ pl' (cm_ag1 hc) (Or.inr (Or.inl ⟨rfl, z0, k, by omega, z⟩))) (fun z => nm_r (nI_1 k) (ih (k + 1) g _ pl' (by omega) (by omega) (cm_ag1 hc) (lt_s hk z)))
  exact M 8 0 9 co pl1 (by omega) (by omega) (fun i hi => rfl) (fun a ha => absurd ha (Nat.not_lt_zero a))
end
end
section
/-! the reference's walk: its table of values -/
section
variable {ys yd yt yz yl : Int32} {dr fo cy va oa : Nat → Int32}
theorem cy_ua {post : Int32 → Prop} {X Y : cm_V} {a b N : Nat} (ha : a < 16) (hb : b < 16) (hN : N ≤ 12) (hX : cm_YB X cy N va a) (hY : cm_YB Y cy N va b) : ∀ d k f, k + d = N → d < f → post (cm_b (cm_un (X cy N) (Y cy N) d k)) → wY_untilAt_3 post (nI a) (nI b) (nI N) ys yd yt yz yl dr fo cy va oa f (nI k) := by
  intro d
  induction d with
  | zero =>
    intro k f e hf hp
    obtain ⟨g, rfl⟩ : ∃ g, f = g + 1 := ⟨f - 1, by omega⟩
    exact br_t (nI_le (by omega) (by omega)) hp
  | succ d ih =>
    intro k f e hf hp
    obtain ⟨g, rfl⟩ : ∃ g, f = g + 1 := ⟨f - 1, by omega⟩
    have e1 : cm_un (X cy N) (Y cy N) (d + 1) k = (Y cy N k || (X cy N k && cm_un (X cy N) (Y cy N) d (k + 1))) := rfl
    rw [e1] at hp
    refine br_f (nI_ge (by omega) (by omega)) ?_
    rw [cm_13 b k, cm_13 a k, nI_clamp (show 13 * b + k < 2 ^ 31 by omega), nI_clamp (show 13 * a + k < 2 ^ 31 by omega), hY k (Or.inl (by omega)), hX k (Or.inl (by omega))]
    refine ⟨vp_in_nI (by omega) (by omega), ?_⟩
    cases qy : Y cy N k with
    | true =>
      rw [qy] at hp
      exact br_f (by decide) hp
    | false =>
      rw [qy, Bool.false_or] at hp
      refine br_t rfl ⟨vp_in_nI (by omega) (by omega), ?_⟩
      cases qx : X cy N k with
      | false =>
        rw [qx] at hp
        exact br_t rfl hp
      | true =>
        rw [qx, Bool.true_and] at hp
        exact br_f (by decide) (nm_r (nI_1 k) (ih (k + 1) g (by omega) (by omega) hp))
theorem cy_ut {post : Int32 → Prop} {X Y : cm_V} {a b N i : Nat} (ha : a < 16) (hb : b < 16) (hN : N ≤ 12) (hi : i < N ∨ i = 12) (hX : cm_YB X cy N va a) (hY : cm_YB Y cy N va b) (h : post (cm_b (cm_un (X cy N) (Y cy N) (N - i) i))) : wpY_untilAt post (ys, yd, yt, yz, yl, dr, fo, cy, va, oa) (nI a) (nI b) (nI i) (nI N) := by
  by_cases z : i ≤ N
  · exact ⟨N - i + 1, cy_ua ha hb hN hX hY (N - i) i _ (by omega) (by omega) h⟩
  · rw [show N - i = 0 by omega] at h
    exact ⟨1, br_t (nI_le (by omega) (by omega)) h⟩
theorem cy_pa {post : Int32 → Prop} {o : Nat → Nat} {p i N : Nat} {X Y : Int32} (w1 : cm_WF o (p + 1)) (hp : p < 16) (hN : N ≤ 12) (hi : i < N ∨ i = 12) (hv : ∀ a, a < p → cm_YB (cm_N o a) cy N va a) (hX : cm_ar (o p) = 2 → X = nI (cm_ix o p (cm_d o p - 2))) (hY : 1 ≤ cm_ar (o p) → Y = nI (cm_ix o p (cm_d o p - 1))) (h : post (cm_b (cm_N o p cy N i))) : wpY_partAt post (ys, yd, yt, yz, yl, dr, fo, cy, va, oa) (nI (o p)) X Y (nI i) (nI N) := by
  have wk := (w1 p (by omega)).1
  unfold wpY_partAt
  dsimp only
  rcases cm_8 wk with h3 | h3 | h3 | h3 | h3 | h3
  · have e : cm_N o p cy N i = (decide (i < N) && bt (cy i) (o p)) := cm_o0 h3 _ _ _ _ _
    rw [e] at h
    refine br_f (nI_ge (b := 3) h3 (by omega)) ?_
    refine pk_le N i (fun z => ?_) (fun z => ⟨vp_in_nI (by omega) (by omega), ?_⟩)
    · rw [decide_eq_false (by omega), Bool.false_and] at h
      exact h
    · rw [decide_eq_true z, Bool.true_and] at h
      rw [nI_clamp (show i < 2 ^ 31 by omega), cm_and1, b_sshr (o p) (by omega) _ (by omega), if_pos (by omega), Nat.add_zero]
      cases q : bt (cy i) (o p) with
      | true =>
        rw [q] at h
        exact br_t rfl h
      | false =>
        rw [q] at h
        exact br_f (by decide) h
  · obtain ⟨b, x, hb, el, hd, ei, eN⟩ := cm_nd1 w1 (cm_ar1 (Or.inl h3)) (by omega)
    rw [ei] at hY
    rw [hY (by rw [cm_ar1 (Or.inl h3)]; omega), h3]
    rw [eN, h3, cm_o3] at h
    refine br_t (by decide) (br_t (by decide) ?_)
    rw [cm_13 b i, nI_clamp (show 13 * b + i < 2 ^ 31 by omega), hv b hb i hi]
    refine ⟨vp_in_nI (by omega) (by omega), ?_⟩
    cases q : cm_N o b cy N i with
    | true =>
      rw [q] at h
      exact br_f (by decide) h
    | false =>
      rw [q] at h
      exact br_t rfl h
  · obtain ⟨a, b, ha, hb, el, hd, ea, ei, eN⟩ := cm_nd2 w1 (cm_ar2b (Or.inl h3)) (by omega)
    rw [ei] at hY
    rw [ea] at hX
    rw [hX (cm_ar2b (Or.inl h3)), hY (by rw [cm_ar2b (Or.inl h3)]; omega), h3]
    rw [eN, h3, cm_o4] at h
    refine br_t (by decide) (br_f (by decide) (br_t (by decide) ?_))
    rw [cm_13 b i, cm_13 a i, nI_clamp (show 13 * b + i < 2 ^ 31 by omega), nI_clamp (show 13 * a + i < 2 ^ 31 by omega), hv b hb i hi, hv a ha i hi]
    refine ⟨vp_in_nI (by omega) (by omega), ?_⟩
    cases qa : cm_N o a cy N i with
    | false =>
      rw [qa] at h
      exact br_t rfl h
    | true =>
      rw [qa, Bool.true_and] at h
      exact br_f (by decide) ⟨vp_in_nI (by omega) (by omega), cm_br (P := post) h⟩
  · obtain ⟨a, b, ha, hb, el, hd, ea, ei, eN⟩ := cm_nd2 w1 (cm_ar2b (Or.inr (Or.inl h3))) (by omega)
    rw [ei] at hY
    rw [ea] at hX
    rw [hX (cm_ar2b (Or.inr (Or.inl h3))), hY (by rw [cm_ar2b (Or.inr (Or.inl h3))]; omega), h3]
    rw [eN, h3, cm_o5] at h
    refine br_t (by decide) (br_f (by decide) (br_f (by decide) (br_t (by decide) ?_)))
    rw [cm_13 b i, cm_13 a i, nI_clamp (show 13 * b + i < 2 ^ 31 by omega), nI_clamp (show 13 * a + i < 2 ^ 31 by omega), hv b hb i hi, hv a ha i hi]
    refine ⟨vp_in_nI (by omega) (by omega), ?_⟩
    cases qa : cm_N o a cy N i with
    | false =>
      rw [qa, Bool.false_or] at h
      exact br_t rfl ⟨vp_in_nI (by omega) (by omega), cm_br (P := post) h⟩
    | true =>
      rw [qa, Bool.true_or] at h
      exact br_f (by decide) h
  · obtain ⟨b, x, hb, el, hd, ei, eN⟩ := cm_nd1 w1 (cm_ar1 (Or.inr h3)) (by omega)
    rw [ei] at hY
    rw [hY (by rw [cm_ar1 (Or.inr h3)]; omega), h3]
    rw [eN, h3, cm_o6] at h
    refine br_t (by decide) (br_f (by decide) (br_f (by decide) (br_f (by decide) (br_t (by decide) ?_))))
    rw [cm_13 b i, nI_1 i, nI_1 (13 * b + i), nI_clamp (show 13 * b + i + 1 < 2 ^ 31 by omega)]
    refine pk_le N (i + 1) (fun z => ?_) (fun z => ⟨vp_in_nI (by omega) (by omega), ?_⟩)
    · rw [decide_eq_false (by omega), Bool.false_and] at h
      exact h
    · rw [decide_eq_true z, Bool.true_and] at h
      have e2 := hv b hb (i + 1) (Or.inl z)
      rw [show 13 * b + i + 1 = 13 * b + (i + 1) by omega, e2]
      exact cm_br (P := post) h
  · obtain ⟨a, b, ha, hb, el, hd, ea, ei, eN⟩ := cm_nd2 w1 (cm_ar2b (Or.inr (Or.inr h3))) (by omega)
    rw [ei] at hY
    rw [ea] at hX
    rw [hX (cm_ar2b (Or.inr (Or.inr h3))), hY (by rw [cm_ar2b (Or.inr (Or.inr h3))]; omega), h3]
    rw [eN, h3, cm_o7] at h
    refine br_t (by decide) (br_f (by decide) (br_f (by decide) (br_f (by decide) (br_f (by decide) ?_))))
    exact cy_ut (by omega) (by omega) hN hi (hv a ha) (hv b hb) ⟨cm_nb _, h⟩
theorem cy_161 {post : Int32 → SY → Prop} {J : Int32 → Int32 → (Nat → Int32) → (Nat → Int32) → (Nat → Int32) → (Nat → Int32) → (Nat → Int32) → Prop} {x1 z : Int32} {p m : Nat} (ez : z = nI (m + 1)) (hm : m < 16) (h : J (nI (m + 1)) (nI (p + 1)) dr fo cy va (upd oa m (nI p))) : wY_holdsFor_161 post J x1 (nI p) z ys yd yt yz yl dr fo cy va oa := by
  subst ez
  unfold wY_holdsFor_161
  rw [nI_pred, nI_clamp (by omega)]
  exact ⟨vp_in_nI (by omega) (by omega), nm_e (nm_r (nI_1 p) h)⟩
theorem cy_70 {post : Int32 → SY → Prop} {J : Int32 → Int32 → (Nat → Int32) → (Nat → Int32) → (Nat → Int32) → (Nat → Int32) → (Nat → Int32) → Prop} {o : Nat → Nat} {p N : Nat} {X Y : Int32} (w1 : cm_WF o (p + 1)) (hp : p < 16) (hN : N ≤ 12) (hX : cm_ar (o p) = 2 → X = nI (cm_ix o p (cm_d o p - 2))) (hY : 1 ≤ cm_ar (o p) → Y = nI (cm_ix o p (cm_d o p - 1))) (hJ : ∀ va', (∀ a, a < p → cm_YB (cm_N o a) cy N va' a) → cm_YB (cm_N o p) cy N va' p → J (nI (cm_d o (p + 1))) (nI (p + 1)) dr fo cy va' (upd oa (cm_d o (p + 1) - 1) (nI p))) : ∀ d i f va, i + d = 13 → d < f → (∀ a, a < p → cm_YB (cm_N o a) cy N va a) → cm_YF (cm_N o p) cy N va p i → wY_holdsFor_70 post J (nI N) (nI (cm_d o p)) (nI p) (nI (o p)) Y X ys yd yt yz yl f (nI i) dr fo cy va oa := by
  intro d
  induction d with
  | zero =>
    intro i f va e hf hv hF
    obtain ⟨g, rfl⟩ : ∃ g, f = g + 1 := ⟨f - 1, by omega⟩
    have ei : i = 13 := by omega
    subst ei
    refine br_t (nI_le (a := 13) (b := 13) (by omega) (by omega)) ?_
    have wk := w1 p (by omega)
    have e1 := cm_dS o p
    have e2 := cm_d1 w1
    have e3 := cm_dle o (p + 1)
    have q := hJ va hv (cm_YFB hN hF)
    obtain ⟨m, em⟩ : ∃ m, cm_d o (p + 1) = m + 1 := ⟨cm_d o (p + 1) - 1, by omega⟩
    rw [em, Nat.add_sub_cancel] at q
    rcases cm_8 wk.1 with h3 | h3 | h3 | h3 | h3 | h3
    · have ea := cm_ar0 h3
      exact br_f (nI_ge (b := 3) h3 (by omega)) (cy_161 (by rw [nI_1]; exact congrArg nI (by omega)) (by omega) q)
    · have ea := cm_ar1 (Or.inl h3)
      rw [h3]
      exact br_t (by decide) (br_t (by decide) (cy_161 (congrArg nI (by omega)) (by omega) q))
    · have ea := cm_ar2b (Or.inl h3)
      rw [h3]
      refine br_t (by decide) (br_f (by decide) (br_f (by decide) (cy_161 ?_ (by omega) q)))
      rw [show cm_d o p = m + 1 + 1 by omega, nI_pred]
    · have ea := cm_ar2b (Or.inr (Or.inl h3))
      rw [h3]
      refine br_t (by decide) (br_f (by decide) (br_f (by decide) (cy_161 ?_ (by omega) q)))
      rw [show cm_d o p = m + 1 + 1 by omega, nI_pred]
    · have ea := cm_ar1 (Or.inr h3)
      rw [h3]
      exact br_t (by decide) (br_f (by decide) (br_t (by decide) (cy_161 (congrArg nI (by omega)) (by omega) q)))
    · have ea := cm_ar2b (Or.inr (Or.inr h3))
      rw [h3]
      refine br_t (by decide) (br_f (by decide) (br_f (by decide) (cy_161 ?_ (by omega) q)))
      rw [show cm_d o p = m + 1 + 1 by omega, nI_pred]
  | succ d ih =>
    intro i f va e hf hv hF
    obtain ⟨g, rfl⟩ : ∃ g, f = g + 1 := ⟨f - 1, by omega⟩
    have G : ∀ (hi : i < N ∨ i = 12), wY_holdsFor_101 post J (wY_holdsFor_70 post J (nI N) (nI (cm_d o p)) (nI p) (nI (o p)) Y X ys yd yt yz yl g) (nI N) (nI (cm_d o p)) (nI p) (nI (o p)) Y X (nI i) (13 * nI p + nI i) ys yd yt yz yl dr fo cy va oa := by
      intro hi
      unfold wY_holdsFor_101
      rw [cm_13 p i, nI_clamp (show 13 * p + i < 2 ^ 31 by omega)]
      refine cy_pa w1 hp hN hi hv hX hY ?_
      have K : ∀ x, x = cm_b (cm_N o p cy N i) → wY_holdsFor_70 post J (nI N) (nI (cm_d o p)) (nI p) (nI (o p)) Y X ys yd yt yz yl g (nI (i + 1)) dr fo cy (upd va (13 * p + i) x) oa := fun x ex => ih (i + 1) g _ (by omega) (by omega) (fun a ha => cm_YBu hN ha (hv a ha)) (cm_YFu hF (fun _ => ex))
      cases q : cm_N o p cy N i with
      | false =>
        rw [q] at K
        exact br_t rfl ⟨vp_in_nI (by omega) (by omega), nm_e (nm_r (nI_1 i) (K _ (cm_vn false)))⟩
      | true =>
        rw [q] at K
        exact br_f (by decide) ⟨vp_in_nI (by omega) (by omega), nm_e (nm_r (nI_1 i) (K _ (cm_vn true)))⟩
    refine br_f (nI_ge (b := 13) (by omega) (by omega)) ?_
    refine pk_lt i N (fun z => G (Or.inl z)) (fun z => ?_)
    refine pk_eq i 12 (fun z2 => G (Or.inr z2)) (fun z2 => ?_)
    rw [cm_13 p i, nI_clamp (show 13 * p + i < 2 ^ 31 by omega)]
    refine ⟨vp_in_nI (by omega) (by omega), nm_e (nm_r (nI_1 i) (ih (i + 1) g _ (by omega) (by omega) (fun a ha => cm_YBu hN ha (hv a ha)) (cm_YFu hF (fun z3 => ?_))))⟩
    omega
theorem cy_hf {post : Int32 → SY → Prop} {o : Nat → Nat} {m N : Nat} (hm : m < 16) (w : cm_WF o (m + 1)) (A : ∀ i, i < m + 1 → fo i = nI (o i)) (hN : N ≤ 12) (h : ∀ va' oa', post (cm_b (cm_A (cm_N o m) cy N)) (ys, yd, yt, nI (m + 1), yl, dr, fo, cy, va', oa')) : wpY_holdsFor post (ys, yd, yt, nI (m + 1), yl, dr, fo, cy, va, oa) (nI N) := by
  have L : ∀ d p f va oa, p + d = m + 1 → d < f → (∀ a, a < p → cm_YB (cm_N o a) cy N va a) → (∀ j, j < cm_d o p → oa j = nI (cm_ix o p j)) → wY_holdsFor_4 post (nI N) ys yd yt (nI (m + 1)) yl f (nI (cm_d o p)) (nI p) dr fo cy va oa := by
    intro d
    induction d with
    | zero =>
      intro p f va oa e hf hv ho
      obtain ⟨g, rfl⟩ : ∃ g, f = g + 1 := ⟨f - 1, by omega⟩
      refine br_t (nI_le (by omega) (by omega)) ?_
      have ev := cm_YBA (hv m (by omega))
      have e12 : (13 : Int32) * nI m + 12 = nI (13 * m + 12) := cm_13 m 12
      have e0 : (13 : Int32) * nI m + 0 = nI (13 * m + 0) := cm_13 m 0
      rw [nI_pred, e12, e0, nI_clamp (show 13 * m + 12 < 2 ^ 31 by omega), nI_clamp (show 13 * m + 0 < 2 ^ 31 by omega)]
      refine pk_eq N 0 (fun z => ?_) (fun z => ?_)
      · rw [if_pos z] at ev
        rw [ev]
        exact ⟨vp_in_nI (by omega) (by omega), cm_nb _, h va oa⟩
      · rw [if_neg z] at ev
        rw [ev]
        exact ⟨vp_in_nI (by omega) (by omega), cm_nb _, h va oa⟩
    | succ d ih =>
      intro p f va oa e hf hv ho
      obtain ⟨g, rfl⟩ : ∃ g, f = g + 1 := ⟨f - 1, by omega⟩
      have w1 := cm_wf1 w (show p + 1 ≤ m + 1 by omega)
      have wk := w1 p (by omega)
      have e2 := cm_dle o p
      have e3 := cm_d1 w1
      have e4 := cm_dS o p
      have G : ∀ (X Y : Int32), (cm_ar (o p) = 2 → X = nI (cm_ix o p (cm_d o p - 2))) → (1 ≤ cm_ar (o p) → Y = nI (cm_ix o p (cm_d o p - 1))) → wY_holdsFor_70 post (wY_holdsFor_4 post (nI N) ys yd yt (nI (m + 1)) yl g) (nI N) (nI (cm_d o p)) (nI p) (nI (o p)) Y X ys yd yt (nI (m + 1)) yl 14 0 dr fo cy va oa := by
        intro X Y hX hY
        refine cy_70 w1 (by omega) hN hX hY (fun va' hv' hp' => ih (p + 1) g va' _ (by omega) (by omega) (fun a ha => ?_) (fun j hj => ?_)) 13 0 14 va (by omega) (by omega) hv (fun j hj => absurd hj (Nat.not_lt_zero j))
        · by_cases z : a = p
          · rw [z]
            exact hp'
          · exact hv' a (by omega)
        · by_cases z : j = cm_d o (p + 1) - 1
          · rw [z, pk_us, cm_top w1]
          · rw [pk_un z, cm_ixn (by omega)]
            exact ho j (by omega)
      refine br_f (nI_ge (by omega) (by omega)) ⟨vp_in_nI (by omega) (by omega), nm_r (show fo (nI p).toNatClampNeg = nI (o p) by rw [nI_clamp (by omega), A p (by omega)]) ?_⟩
      rcases cm_8 wk.1 with h3 | h3 | h3 | h3 | h3 | h3
      · have ea := cm_ar0 h3
        refine br_t (nI_le (b := 2) (by omega) (by omega)) ?_
        exact br_t (nI_le (b := 3) (by omega) (by omega)) ⟨14, G _ _ (fun z => absurd z (by omega)) (fun z => absurd z (by omega))⟩
      · have ea := cm_ar1 (Or.inl h3)
        obtain ⟨q, eq⟩ : ∃ q, cm_d o p = q + 1 := ⟨cm_d o p - 1, by omega⟩
        have c1 : nI (cm_d o p) - 1 = nI (cm_d o p - 1) := by rw [eq, nI_pred, Nat.add_sub_cancel]
        refine br_f (by rw [h3]; decide) ⟨by rw [c1]; exact vp_in_nI (by omega) (by omega), ?_⟩
        refine br_t (by rw [h3]; decide) ⟨14, G _ _ (fun z => absurd z (by omega)) (fun _ => ?_)⟩
        rw [c1, nI_clamp (by omega)]
        exact ho _ (by omega)
      · have ea := cm_ar2b (Or.inl h3)
        obtain ⟨q, eq⟩ : ∃ q, cm_d o p = q + 2 := ⟨cm_d o p - 2, by omega⟩
        have c1 : nI (cm_d o p) - 1 = nI (cm_d o p - 1) := pk_sub (b := 1) (by omega)
        have c2 : nI (cm_d o p) - 2 = nI (cm_d o p - 2) := pk_sub (b := 2) (by omega)
        refine br_f (by rw [h3]; decide) ⟨by rw [c1]; exact vp_in_nI (by omega) (by omega), ?_⟩
        refine br_f (by rw [h3]; decide) (br_f (by rw [h3]; decide) ⟨by rw [c2]; exact vp_in_nI (by omega) (by omega), nm_e ⟨14, G _ _ (fun _ => ?_) (fun _ => ?_)⟩⟩)
        · rw [c2, nI_clamp (by omega)]
          exact ho _ (by omega)
        · rw [c1, nI_clamp (by omega)]
          exact ho _ (by omega)
      · have ea := cm_ar2b (Or.inr (Or.inl h3))
        obtain ⟨q, eq⟩ : ∃ q, cm_d o p = q + 2 := ⟨cm_d o p - 2, by omega⟩
        have c1 : nI (cm_d o p) - 1 = nI (cm_d o p - 1) := pk_sub (b := 1) (by omega)
        have c2 : nI (cm_d o p) - 2 = nI (cm_d o p - 2) := pk_sub (b := 2) (by omega)
        refine br_f (by rw [h3]; decide) ⟨by rw [c1]; exact vp_in_nI (by omega) (by omega), ?_⟩
        refine br_f (by rw [h3]; decide) (br_f (by rw [h3]; decide) ⟨by rw [c2]; exact vp_in_nI (by omega) (by omega), nm_e ⟨14, G _ _ (fun _ => ?_) (fun _ => ?_)⟩⟩)
        · rw [c2, nI_clamp (by omega)]
          exact ho _ (by omega)
        · rw [c1, nI_clamp (by omega)]
          exact ho _ (by omega)
      · have ea := cm_ar1 (Or.inr h3)
        have c1 : nI (cm_d o p) - 1 = nI (cm_d o p - 1) := pk_sub (b := 1) (by omega)
        refine br_f (by rw [h3]; decide) ⟨by rw [c1]; exact vp_in_nI (by omega) (by omega), ?_⟩
        refine br_f (by rw [h3]; decide) (br_t (by rw [h3]; decide) ⟨14, G _ _ (fun z => absurd z (by omega)) (fun _ => ?_)⟩)
        rw [c1, nI_clamp (by omega)]
        exact ho _ (by omega)
      · have ea := cm_ar2b (Or.inr (Or.inr h3))
        have c1 : nI (cm_d o p) - 1 = nI (cm_d o p - 1) := pk_sub (b := 1) (by omega)
        have c2 : nI (cm_d o p) - 2 = nI (cm_d o p - 2) := pk_sub (b := 2) (by omega)
        refine br_f (by rw [h3]; decide) ⟨by rw [c1]; exact vp_in_nI (by omega) (by omega), ?_⟩
        refine br_f (by rw [h3]; decide) (br_f (by rw [h3]; decide) ⟨by rw [c2]; exact vp_in_nI (by omega) (by omega), nm_e ⟨14, G _ _ (fun _ => ?_) (fun _ => ?_)⟩⟩)
        · rw [c2, nI_clamp (by omega)]
          exact ho _ (by omega)
        · rw [c1, nI_clamp (by omega)]
          exact ho _ (by omega)
  exact ⟨m + 2, L (m + 1) 0 (m + 2) va oa (by omega) (by omega) (fun a ha => absurd ha (Nat.not_lt_zero a)) (fun j hj => absurd hj (Nat.not_lt_zero j))⟩
theorem cy_hw {post : Int32 → SY → Prop} {o : Nat → Nat} {m L : Nat} {x : Int32} (hm : m < 16) (w : cm_WF o (m + 1)) (A : ∀ i, i < m + 1 → fo i = nI (o i)) (hL : L ≤ 10) (h : ∀ va' oa', post (cm_b (cm_A (cm_N o m) (upd cy L x) (L + 1))) (ys, yd, yt, nI (m + 1), nI L, dr, fo, upd cy L x, va', oa')) : wpY_holdsWith post (ys, yd, yt, nI (m + 1), nI L, dr, fo, cy, va, oa) x := by
  unfold wpY_holdsWith
  dsimp only
  refine ⟨vp_in_nI (by omega) (by omega), nm_r (show upd cy (nI L).toNatClampNeg x = upd cy L x by rw [nI_clamp (by omega)]) ?_⟩
  rw [nI_1 L]
  exact cy_hf hm w A (by omega) (fun va' oa' => ⟨cm_nb _, h va' oa'⟩)
end
end
section
/-! the reference's walk: wouldHoldWith, soonest; define on both sides -/
section
variable {ys yd yt yz yl : Int32} {dr fo cy va oa : Nat → Int32}
theorem cy_ww {post : Int32 → SY → Prop} {o : Nat → Nat} {m L : Nat} (hm : m < 16) (w : cm_WF o (m + 1)) (A : ∀ i, i < m + 1 → fo i = nI (o i)) (hL : L ≤ 10) (h : ∀ c va' oa', (∀ i, i < L → c i = cy i) → post (nI (cm_ww (cm_A (cm_N o m)) cy L 8)) (ys, yd, yt, nI (m + 1), nI L, dr, fo, c, va', oa')) : wpY_wouldHoldWith post (ys, yd, yt, nI (m + 1), nI L, dr, fo, cy, va, oa) := by
  have M : ∀ d k f c va oa, k + d = 8 → d < f → (∀ i, i < L → c i = cy i) → wY_wouldHoldWith_4 post f (nI (cm_ww (cm_A (cm_N o m)) cy L k)) (nI k) ys yd yt (nI (m + 1)) (nI L) dr fo c va oa := by
    intro d
    induction d with
    | zero =>
      intro k f c va oa e hf hc
      obtain ⟨g, rfl⟩ : ∃ g, f = g + 1 := ⟨f - 1, by omega⟩
      have ek : k = 8 := by omega
      subst ek
      exact br_t (nI_le (a := 8) (b := 8) (by omega) (by omega)) (h c va oa hc)
    | succ d ih =>
      intro k f c va oa e hf hc
      obtain ⟨g, rfl⟩ : ∃ g, f = g + 1 := ⟨f - 1, by omega⟩
      refine br_f (nI_ge (b := 8) (by omega) (by omega)) (cy_hw hm w A hL (fun va' oa' => ?_))
      have e1 : cm_A (cm_N o m) (upd c L (nI k)) (L + 1) = cm_A (cm_N o m) (upd cy L (nI k)) (L + 1) := cm_AL _ _ _ (cm_ag3 hc)
      rw [e1]
      have J := ih (k + 1) g (upd c L (nI k)) va' oa' (by omega) (by omega) (cm_ag1 hc)
      by_cases z : cm_A (cm_N o m) (upd cy L (nI k)) (L + 1) = true
      · have ew : cm_ww (cm_A (cm_N o m)) cy L (k + 1) = cm_ww (cm_A (cm_N o m)) cy L k + 2 ^ k := if_pos z
        have q := (cm_w8 k (by omega) _ (cm_wwlt (cm_A (cm_N o m)) cy L k)).2
        rw [ew] at J
        rw [z]
        exact br_f (by decide) (nm_r q (nm_r (nI_1 k) J))
      · have ew : cm_ww (cm_A (cm_N o m)) cy L (k + 1) = cm_ww (cm_A (cm_N o m)) cy L k := if_neg z
        rw [ew] at J
        rw [show cm_A (cm_N o m) (upd cy L (nI k)) (L + 1) = false from by cases q : cm_A (cm_N o m) (upd cy L (nI k)) (L + 1) with | true => exact absurd q z | false => rfl]
        exact br_t rfl (nm_r (nI_1 k) J)
  exact ⟨9, M 8 0 9 cy va oa (by omega) (by omega) (fun i hi => rfl)⟩
theorem cy_41 {post : Int32 → SY → Prop} {o : Nat → Nat} {m L : Nat} {wd : Int32} (hm : m < 16) (w : cm_WF o (m + 1)) (A : ∀ i, i < m + 1 → fo i = nI (o i)) (hL : L ≤ 10) (h2 : ∀ a b c va' oa', a < 8 → b < 8 → cm_b (cm_A (cm_N o m) (upd (upd cy L (nI a)) (L + 1) (nI b)) (L + 2)) = wd → (∀ i, i < L → c i = cy i) → post 2 (ys, yd, yt, nI (m + 1), nI L, dr, fo, c, va', oa'))
    (h4 : ∀ c va' oa', (∀ a b, a < 8 → b < 8 → ¬ cm_b (cm_A (cm_N o m) (upd (upd cy L (nI a)) (L + 1) (nI b)) (L + 2)) = wd) → (∀ i, i < L → c i = cy i) → post (-4) (ys, yd, yt, nI (m + 1), nI L, dr, fo, c, va', oa')) : ∀ d k f c va oa, k + d = 64 → d < f → (∀ i, i < L → c i = cy i) → (∀ a b, a < 8 → b < 8 → 8 * a + b < k → ¬ cm_b (cm_A (cm_N o m) (upd (upd cy L (nI a)) (L + 1) (nI b)) (L + 2)) = wd) → wY_soonestThat_41 post wd f (nI k) ys yd yt (nI (m + 1)) (nI L) dr fo c va oa := by
  intro d
  induction d with
  | zero =>
    intro k f c va oa e hf hc ha
    obtain ⟨g, rfl⟩ : ∃ g, f = g + 1 := ⟨f - 1, by omega⟩
    have ek : k = 64 := by omega
    subst ek
    exact br_t (nI_le (a := 64) (b := 64) (by omega) (by omega)) (h4 c va oa (fun a b ha' hb' => ha a b ha' hb' (by omega)) hc)
  | succ d ih =>
    intro k f c va oa e hf hc ha
    obtain ⟨g, rfl⟩ : ∃ g, f = g + 1 := ⟨f - 1, by omega⟩
    refine br_f (nI_ge (b := 64) (by omega) (by omega)) ?_
    have q1 : nI k / 8 = nI (k / 8) := pk_div (d := 8) (by omega) (by omega) (by omega)
    have q2 : nI k - nI (k / 8) * 8 = nI (k % 8) := by rw [← q1]; exact pk_rem (d := 8) (by omega) (by omega) (by omega)
    rw [q1, q2, nI_1 L, nI_clamp (show L < 2 ^ 31 by omega), nI_clamp (show L + 1 < 2 ^ 31 by omega), cm_2 L]
    refine ⟨by decide, vp_in_nI (by omega) (by omega), nm_e ⟨by decide, vp_in_nI (by omega) (by omega), nm_e (cy_hf hm w A (by omega) (fun va' oa' => ?_))⟩⟩
    have e1 : cm_A (cm_N o m) (upd (upd c L (nI (k / 8))) (L + 1) (nI (k % 8))) (L + 2) = cm_A (cm_N o m) (upd (upd cy L (nI (k / 8))) (L + 1) (nI (k % 8))) (L + 2) := cm_AL _ _ _ (cm_ag4 (cm_ag1 hc) pk_us)
    rw [e1]
    refine br_c (fun z => h2 (k / 8) (k % 8) _ va' oa' (by omega) (by omega) z (cm_ag2 (cm_ag1 hc))) (fun z => nm_r (nI_1 k) (ih (k + 1) g _ va' oa' (by omega) (by omega) (cm_ag2 (cm_ag1 hc)) (fun a b ha' hb' hk => ?_)))
    by_cases y : 8 * a + b = k
    · rw [show a = k / 8 by omega, show b = k % 8 by omega]
      exact z
    · exact ha a b ha' hb' (by omega)
theorem cy_so {post : Int32 → SY → Prop} {o : Nat → Nat} {m L : Nat} {wd : Int32} (hm : m < 16) (w : cm_WF o (m + 1)) (A : ∀ i, i < m + 1 → fo i = nI (o i)) (hL : L ≤ 10) (h : ∀ r c va' oa', (∀ i, i < L → c i = cy i) → cm_So (cm_A (cm_N o m)) cy L wd r → post r (ys, yd, yt, nI (m + 1), nI L, dr, fo, c, va', oa')) : wpY_soonestThat post (ys, yd, yt, nI (m + 1), nI L, dr, fo, cy, va, oa) wd := by
  unfold wpY_soonestThat
  dsimp only
  refine cy_hf hm w A (by omega) (fun va1 oa1 => ?_)
  refine br_c (fun z => h 0 cy va1 oa1 (fun i hi => rfl) (Or.inl ⟨rfl, z⟩)) (fun z0 => ⟨9, ?_⟩)
  have M : ∀ d k f c va oa, k + d = 8 → d < f → (∀ i, i < L → c i = cy i) → (∀ a, a < k → ¬ cm_b (cm_A (cm_N o m) (upd cy L (nI a)) (L + 1)) = wd) → wY_soonestThat_16 post wd f (nI k) ys yd yt (nI (m + 1)) (nI L) dr fo c va oa := by
    intro d
    induction d with
    | zero =>
      intro k f c va oa e hf hc hk
      obtain ⟨g, rfl⟩ : ∃ g, f = g + 1 := ⟨f - 1, by omega⟩
      have ek : k = 8 := by omega
      subst ek
      refine br_t (nI_le (a := 8) (b := 8) (by omega) (by omega)) ⟨65, ?_⟩
      exact cy_41 (cy := cy) hm w A hL (fun a b c va' oa' ha hb hw hc' => h 2 c va' oa' hc' (Or.inr (Or.inr (Or.inl ⟨rfl, z0, hk, a, b, ha, hb, hw⟩)))) (fun c va' oa' hab hc' => h (-4) c va' oa' hc' (Or.inr (Or.inr (Or.inr ⟨rfl, z0, hk, hab⟩)))) 64 0 65 c va oa (by omega) (by omega) hc (fun a b _ _ hk' => absurd hk' (Nat.not_lt_zero _))
    | succ d ih =>
      intro k f c va oa e hf hc hk
      obtain ⟨g, rfl⟩ : ∃ g, f = g + 1 := ⟨f - 1, by omega⟩
      refine br_f (nI_ge (b := 8) (by omega) (by omega)) (cy_hw hm w A hL (fun va' oa' => ?_))
      have e1 : cm_A (cm_N o m) (upd c L (nI k)) (L + 1) = cm_A (cm_N o m) (upd cy L (nI k)) (L + 1) := cm_AL _ _ _ (cm_ag3 hc)
      rw [e1]
      exact br_c (fun z => h 1 _ va' oa' (cm_ag1 hc) (Or.inr (Or.inl ⟨rfl, z0, k, by omega, z⟩))) (fun z => nm_r (nI_1 k) (ih (k + 1) g _ va' oa' (by omega) (by omega) (cm_ag1 hc) (lt_s hk z)))
  exact M 8 0 9 cy va1 oa1 (by omega) (by omega) (fun i hi => rfl) (fun a ha => absurd ha (Nat.not_lt_zero a))
/-- where the top formula begins -/
theorem cy_tb {post : Int32 → Prop} {o : Nat → Nat} {s D : Nat} (w : cm_WF o s) (hs : s ≤ 16) (hD : cm_d o s = D + 1) (A : ∀ i, i < s → dr i = nI (o i)) (h : ∀ a, a ≤ s → cm_d o a = D → (∀ q, a < q → q ≤ s → D + 1 ≤ cm_d o q) → post (nI a)) : wpY_topBegin post (nI s, yd, yt, yz, yl, dr, fo, cy, va, oa) := by
  have M : ∀ a f mi, a < f → a ≤ s → cm_d o a = D + mi → (∀ q, a < q → q ≤ s → D + 1 ≤ cm_d o q) → wY_topBegin_7 post (nI s) yd yt yz yl dr fo cy va oa f (nI a) (nI mi) := by
    intro a
    induction a with
    | zero =>
      intro f mi hf ha e hq
      obtain ⟨g, rfl⟩ : ∃ g, f = g + 1 := ⟨f - 1, by omega⟩
      have z : cm_d o 0 = 0 := rfl
      exact br_t (nI_le (b := 0) (by omega) (by omega)) (h 0 ha (by omega) hq)
    | succ a ih =>
      intro f mi hf ha e hq
      obtain ⟨g, rfl⟩ : ∃ g, f = g + 1 := ⟨f - 1, by omega⟩
      refine br_f (nI_nle (by omega) (by omega)) ?_
      refine pk_le mi 0 (fun z => h (a + 1) ha (by omega) hq) (fun z => ?_) rfl rfl (by have := cm_dle o (a + 1); omega) (by omega)
      refine nm_r (pk_m1 a) ⟨vp_in_nI (by omega) (by omega), nm_r (show dr (nI a).toNatClampNeg = nI (o a) by rw [nI_clamp (by omega), A a (by omega)]) ?_⟩
      have wk := w a (by omega)
      have e1 := cm_dS o a
      have hq' : ∀ q, a < q → q ≤ s → D + 1 ≤ cm_d o q := by
        intro q h1 h2
        by_cases y : q = a + 1
        · rw [y]; omega
        · exact hq q (by omega) h2
      rcases cm_8 wk.1 with h3 | h3 | h3 | h3 | h3 | h3
      · have ea := cm_ar0 h3
        obtain ⟨r, rfl⟩ : ∃ r, mi = r + 1 := ⟨mi - 1, by omega⟩
        exact br_f (nI_ge (b := 3) h3 (by omega)) (nm_r (nI_pred r) (ih g r (by omega) (by omega) (by omega) hq'))
      · have ea := cm_ar1 (Or.inl h3)
        rw [h3]
        exact br_t (by decide) (br_f (by decide) (br_f (by decide) (br_f (by decide) (ih g mi (by omega) (by omega) (by omega) hq'))))
      · have ea := cm_ar2b (Or.inl h3)
        rw [h3]
        exact br_t (by decide) (br_t (by decide) (nm_r (nI_1 mi) (ih g (mi + 1) (by omega) (by omega) (by omega) hq')))
      · have ea := cm_ar2b (Or.inr (Or.inl h3))
        rw [h3]
        exact br_t (by decide) (br_f (by decide) (br_t (by decide) (nm_r (nI_1 mi) (ih g (mi + 1) (by omega) (by omega) (by omega) hq'))))
      · have ea := cm_ar1 (Or.inr h3)
        rw [h3]
        exact br_t (by decide) (br_f (by decide) (br_f (by decide) (br_f (by decide) (ih g mi (by omega) (by omega) (by omega) hq'))))
      · have ea := cm_ar2b (Or.inr (Or.inr h3))
        rw [h3]
        exact br_t (by decide) (br_f (by decide) (br_f (by decide) (br_t (by decide) (nm_r (nI_1 mi) (ih g (mi + 1) (by omega) (by omega) (by omega) hq')))))
  exact ⟨s + 1, M s (s + 1) 1 (by omega) (by omega) hD (fun q h1 h2 => absurd h1 (by omega))⟩
theorem cy_df {post : Int32 → SY → Prop} {o : Nat → Nat} {s D : Nat} (w : cm_WF o s) (hs : s ≤ 16) (hD : cm_d o s = D + 1) (hD6 : D < 6) (A : ∀ i, i < s → dr i = nI (o i)) (h : ∀ oY m fo', cm_WF oY (m + 1) → m < 16 → (∀ i, i < m + 1 → fo' i = nI (oY i)) → cm_N o (s - 1) = cm_N oY m → post (nI (D + 1)) (0, 0, 0, nI (m + 1), yl, dr, fo', cy, va, oa)) : wpY_define post (nI s, nI (D + 1), yt, yz, yl, dr, fo, cy, va, oa) := by
  unfold wpY_define
  dsimp only
  refine br_f (nI_ne0 (by omega) (by omega)) (cy_tb w hs hD A (fun a ha ea hq => ?_))
  obtain ⟨h1, h2, h3⟩ := cm_def w ha hD ea hq
  obtain ⟨m, em⟩ : ∃ m, s - a = m + 1 := ⟨s - a - 1, by omega⟩
  rw [em] at h2 h3
  refine nm_r (show nI s - nI a = nI (m + 1) by rw [pk_sub (by omega), em]) ⟨m + 2, ?_⟩
  have M : ∀ d k f fo, k + d = m + 1 → d < f → (∀ i, i < k → fo i = nI (o (a + i))) → wY_define_32 post (nI (D + 1)) (nI a) (nI s) (nI (D + 1)) yt (nI (m + 1)) yl f (nI k) dr fo cy va oa := by
    intro d
    induction d with
    | zero =>
      intro k f fo e hf hk
      obtain ⟨g, rfl⟩ : ∃ g, f = g + 1 := ⟨f - 1, by omega⟩
      refine br_t (nI_le (by omega) (by omega)) ?_
      exact h (fun q => o (a + q)) m fo h2 (by omega) (fun i hi => hk i (by omega)) h3
    | succ d ih =>
      intro k f fo e hf hk
      obtain ⟨g, rfl⟩ : ∃ g, f = g + 1 := ⟨f - 1, by omega⟩
      refine br_f (nI_ge (by omega) (by omega)) ?_
      rw [nI_add a k, nI_clamp (show a + k < 2 ^ 31 by omega), nI_clamp (show k < 2 ^ 31 by omega)]
      refine ⟨vp_in_nI (by omega) (by omega), vp_in_nI (by omega) (by omega), nm_e (nm_r (nI_1 k) (ih (k + 1) g _ (by omega) (by omega) (fun i hi => ?_)))⟩
      by_cases y : i = k
      · rw [y, pk_us, A (a + k) (by omega)]
      · rw [pk_un y]
        exact hk i (by omega)
  exact M (m + 1) 0 (m + 2) fo (by omega) (by omega) (fun i hi => absurd hi (Nat.not_lt_zero i))
end
section
variable {sc tc ss us cl : Int32} {ka la ra sa uk ul ur co pl : Nat → Int32}
theorem cx_df {post : Int32 → SX → Prop} {s D : Nat} (hs : s ≤ 16) (hD6 : D < 6) (h : ∀ uk' ul' ur', (∀ i, i < s → uk' i = ka i ∧ ul' i = la i ∧ ur' i = ra i) → post (nI (D + 1)) (0, 0, 0, nI s, cl, ka, la, ra, sa, uk', ul', ur', co, pl)) : wpX_define post (nI s, tc, nI (D + 1), us, cl, ka, la, ra, sa, uk, ul, ur, co, pl) := by
  unfold wpX_define
  dsimp only
  refine br_t (nI_le (a := 1) (by omega) (by omega)) ⟨s + 1, ?_⟩
  have M : ∀ d k f uk ul ur, k + d = s → d < f → (∀ i, i < k → uk i = ka i ∧ ul i = la i ∧ ur i = ra i) → wX_define_13 post (nI s) tc (nI (D + 1)) us cl f (nI k) ka la ra sa uk ul ur co pl := by
    intro d
    induction d with
    | zero =>
      intro k f uk ul ur e hf hk
      obtain ⟨g, rfl⟩ : ∃ g, f = g + 1 := ⟨f - 1, by omega⟩
      refine br_t (nI_le (by omega) (by omega)) ?_
      exact h uk ul ur (fun i hi => hk i (by omega))
    | succ d ih =>
      intro k f uk ul ur e hf hk
      obtain ⟨g, rfl⟩ : ∃ g, f = g + 1 := ⟨f - 1, by omega⟩
      have hi : vp_in (nI k) 16 := vp_in_nI (by omega) (by omega)
      refine br_f (nI_ge (by omega) (by omega)) ?_
      rw [nI_clamp (show k < 2 ^ 31 by omega)]
      refine ⟨hi, hi, nm_e ⟨hi, hi, nm_e ⟨hi, hi, nm_e (nm_r (nI_1 k) (ih (k + 1) g _ _ _ (by omega) (by omega) (fun i hi => ?_)))⟩⟩⟩
      by_cases y : i = k
      · rw [y, pk_us, pk_us, pk_us]
        exact ⟨rfl, rfl, rfl⟩
      · rw [pk_un y, pk_un y, pk_un y]
        exact hk i (by omega)
  exact M s 0 (s + 1) uk ul ur (by omega) (by omega) (fun i hi => absurd hi (Nat.not_lt_zero i))
end
end
section
/-! both walks: a new step -/
def cm_fu (a s t : Nat) : Prop := s = 16 ∨ (6 ≤ a ∧ t = 6)
def cm_t (a t : Nat) : Nat := if 6 ≤ a then t + 1 else t
theorem cm_t6 {a s t : Nat} (ht : t ≤ 6) (h : ¬ cm_fu a s t) : cm_t a t ≤ 6 := by
  unfold cm_fu at h
  unfold cm_t
  split <;> omega
theorem cm_all8 {P : Nat → Prop} (h0 : P 0) (h1 : P 1) (h2 : P 2) (h3 : P 3) (h4 : P 4) (h5 : P 5) (h6 : P 6) (h7 : P 7) {a : Nat} (ha : a < 8) : P a := by
  have e : a = 0 ∨ a = 1 ∨ a = 2 ∨ a = 3 ∨ a = 4 ∨ a = 5 ∨ a = 6 ∨ a = 7 := by omega
  rcases e with e | e | e | e | e | e | e | e <;> rw [e] <;> assumption
theorem cx_it {post : Int32 → Prop} {a : Nat} (ha : a < 8) (h1 : 6 ≤ a → post 1) (h0 : a < 6 → post 0) : wpX_isTemporal post (nI (cm_kd a)) := by
  have e : a < 3 ∨ a = 3 ∨ a = 4 ∨ a = 5 ∨ a = 6 ∨ a = 7 := cm_8 ha
  rcases e with e | e | e | e | e | e
  · rw [show cm_kd a = 0 from if_pos e]
    exact br_f (by decide) (br_f (by decide) (h0 (by omega)))
  · rw [e]
    exact br_f (by decide) (br_f (by decide) (h0 (by omega)))
  · rw [e]
    exact br_f (by decide) (br_f (by decide) (h0 (by omega)))
  · rw [e]
    exact br_f (by decide) (br_f (by decide) (h0 (by omega)))
  · rw [e]
    exact br_t (by decide) (h1 (by omega))
  · rw [e]
    exact br_f (by decide) (br_t (by decide) (h1 (by omega)))
section
variable {ss us cl : Int32} {ka la ra sa uk ul ur co pl : Nat → Int32}
theorem cx_nr {post : Int32 → Prop} {a s t : Nat} (ha : a < 8) (hs : s ≤ 16) (ht : t ≤ 6) (h1 : cm_fu a s t → post 1) (h0 : ¬ cm_fu a s t → post 0) : wpX_noRoomFor post (nI s, nI t, ss, us, cl, ka, la, ra, sa, uk, ul, ur, co, pl) (nI (cm_kd a)) := by
  unfold wpX_noRoomFor
  dsimp only
  refine pk_le 16 s (fun z => h1 (Or.inl (by omega))) (fun z => ?_)
  refine cx_it ha (fun z2 => br_f (by decide) ?_) (fun z2 => br_t rfl (h0 ?_))
  · refine pk_lt t 6 (fun z3 => h0 ?_) (fun z3 => h1 (Or.inr ⟨z2, by omega⟩))
    unfold cm_fu
    omega
  · unfold cm_fu
    omega
theorem cx_rt {post : Int32 → SX → Prop} {a s t d : Nat} {R0 L R : Int32} (ha : a < 8) (hs : s < 16) (ht : t ≤ 6) (hd : d ≤ 6) (hr : cm_ar a ≤ d) (hd2 : d + 1 - cm_ar a ≤ 6) (eR : R0 = nI (cm_ar a)) (h : post (nI (d + 1 - cm_ar a)) (nI (s + 1), nI (cm_t a t), nI (d + 1 - cm_ar a), us, cl, upd ka s (nI (cm_kd a)), upd la s L, upd ra s R, upd sa (d - cm_ar a) (nI s), uk, ul, ur, co, pl)) : wpX_replaceTop post (nI s, nI t, nI d, us, cl, ka, la, ra, sa, uk, ul, ur, co, pl) R0 (nI (cm_kd a)) L R := by
  have hi : vp_in (nI s) 16 := vp_in_nI hs (by omega)
  subst eR
  unfold wpX_replaceTop
  dsimp only
  rw [nI_clamp (show s < 2 ^ 31 by omega)]
  refine ⟨hi, nm_e ⟨hi, nm_e ⟨hi, nm_e (nm_r (pk_sub hr) ⟨vp_in_nI (by omega) (by omega), nm_r (show upd sa (nI (d - cm_ar a)).toNatClampNeg (nI s) = upd sa (d - cm_ar a) (nI s) by rw [nI_clamp (by omega)]) (nm_r (show nI (d - cm_ar a) + 1 = nI (d + 1 - cm_ar a) by rw [nI_1]; exact congrArg nI (by omega)) (nm_r (nI_1 s) ?_))⟩)⟩⟩⟩
  refine cx_it ha (fun z => br_f (by decide) (nm_r (nI_1 t) ?_)) (fun z => br_t rfl ?_)
  · rw [show cm_t a t = t + 1 from if_pos z] at h
    exact h
  · rw [show cm_t a t = t from if_neg (by omega)] at h
    exact h
theorem cx_mu {post : Int32 → SX → Prop} {a s t d : Nat} (hr : cm_ar a = 1) (ha : a < 8) (hs : s ≤ 16) (ht : t ≤ 6) (hd : d ≤ 6) (h1 : cm_fu a s t → post (-2) (nI s, nI t, nI d, us, cl, ka, la, ra, sa, uk, ul, ur, co, pl)) (h2 : ¬ cm_fu a s t → ¬ cm_ar a ≤ d → post (-3) (nI s, nI t, nI d, us, cl, ka, la, ra, sa, uk, ul, ur, co, pl)) (h3 : ¬ cm_fu a s t → cm_ar a ≤ d → post (nI (d + 1 - cm_ar a)) (nI (s + 1), nI (cm_t a t), nI (d + 1 - cm_ar a), us, cl, upd ka s (nI (cm_kd a)), upd la s (sa (d - 1)), upd ra s 0, upd sa (d - cm_ar a) (nI s), uk, ul, ur, co, pl)) : wpX_makeUnary post (nI s, nI t, nI d, us, cl, ka, la, ra, sa, uk, ul, ur, co, pl) (nI (cm_kd a)) := by
  unfold wpX_makeUnary
  dsimp only
  refine cx_nr ha hs ht (fun z => br_f (by decide) (h1 z)) (fun z => br_t rfl ?_)
  refine pk_le 1 d (fun z2 => ?_) (fun z2 => h2 z (by omega))
  have e : nI d - 1 = nI (d - 1) := pk_sub (b := 1) z2
  rw [e, nI_clamp (show d - 1 < 2 ^ 31 by omega)]
  have zs : s ≠ 16 := fun q => z (Or.inl q)
  exact ⟨vp_in_nI (by omega) (by omega), cx_rt ha (by omega) ht hd (by omega) (by omega) (by rw [hr]; rfl) (h3 z (by omega))⟩
theorem cx_mb {post : Int32 → SX → Prop} {a s t d : Nat} (hr : cm_ar a = 2) (ha : a < 8) (hs : s ≤ 16) (ht : t ≤ 6) (hd : d ≤ 6) (h1 : cm_fu a s t → post (-2) (nI s, nI t, nI d, us, cl, ka, la, ra, sa, uk, ul, ur, co, pl)) (h2 : ¬ cm_fu a s t → ¬ cm_ar a ≤ d → post (-3) (nI s, nI t, nI d, us, cl, ka, la, ra, sa, uk, ul, ur, co, pl)) (h3 : ¬ cm_fu a s t → cm_ar a ≤ d → post (nI (d + 1 - cm_ar a)) (nI (s + 1), nI (cm_t a t), nI (d + 1 - cm_ar a), us, cl, upd ka s (nI (cm_kd a)), upd la s (sa (d - 2)), upd ra s (sa (d - 1)), upd sa (d - cm_ar a) (nI s), uk, ul, ur, co, pl)) : wpX_makeBinary post (nI s, nI t, nI d, us, cl, ka, la, ra, sa, uk, ul, ur, co, pl) (nI (cm_kd a)) := by
  unfold wpX_makeBinary
  dsimp only
  refine cx_nr ha hs ht (fun z => br_f (by decide) (h1 z)) (fun z => br_t rfl ?_)
  refine pk_le 2 d (fun z2 => ?_) (fun z2 => h2 z (by omega))
  have e : nI d - 1 = nI (d - 1) := pk_sub (b := 1) (by omega)
  have e2 : nI d - 2 = nI (d - 2) := pk_sub (b := 2) z2
  rw [e, e2, nI_clamp (show d - 1 < 2 ^ 31 by omega), nI_clamp (show d - 2 < 2 ^ 31 by omega)]
  have zs : s ≠ 16 := fun q => z (Or.inl q)
  exact ⟨vp_in_nI (by omega) (by omega), vp_in_nI (by omega) (by omega), cx_rt ha (by omega) ht hd (by omega) (by omega) (by rw [hr]; rfl) (h3 z (by omega))⟩
theorem cx_fa {post : Int32 → SX → Prop} {j s t d : Nat} (hj : j < 3) (hs : s ≤ 16) (ht : t ≤ 6) (hd : d ≤ 6) (h1 : (s = 16 ∨ d = 6) → post (-2) (nI s, nI t, nI d, us, cl, ka, la, ra, sa, uk, ul, ur, co, pl)) (h3 : ¬ (s = 16 ∨ d = 6) → post (nI (d + 1 - cm_ar j)) (nI (s + 1), nI t, nI (d + 1 - cm_ar j), us, cl, upd ka s (nI (cm_kd j)), upd la s (nI j), upd ra s 0, upd sa (d - cm_ar j) (nI s), uk, ul, ur, co, pl)) : wpX_fact post (nI s, nI t, nI d, us, cl, ka, la, ra, sa, uk, ul, ur, co, pl) (nI j) := by
  have ek : cm_kd j = 0 := if_pos hj
  have ea := cm_ar0 hj
  have et : cm_t j t = t := if_neg (by omega)
  unfold wpX_fact
  dsimp only
  refine br_f (nI_pos (by omega)) (br_t (nI_lt (b := 3) hj (by omega)) ?_)
  have q : wpX_noRoomFor (fun r_3 => ((r_3 = 0 → (((nI d < 6 → (wpX_replaceTop post (nI s, nI t, nI d, us, cl, ka, la, ra, sa, uk, ul, ur, co, pl) 0 0 (nI j) 0)) ∧ (¬ nI d < 6 → (post (-2) (nI s, nI t, nI d, us, cl, ka, la, ra, sa, uk, ul, ur, co, pl)))))) ∧ (¬ r_3 = 0 → (post (-2) (nI s, nI t, nI d, us, cl, ka, la, ra, sa, uk, ul, ur, co, pl))))) (nI s, nI t, nI d, us, cl, ka, la, ra, sa, uk, ul, ur, co, pl) (nI (cm_kd j)) := by
    refine cx_nr (by omega) hs ht (fun z => br_f (by decide) (h1 ?_)) (fun z => br_t rfl ?_)
    · rcases z with z | z
      · exact Or.inl z
      · exact absurd z.1 (by omega)
    · refine pk_lt d 6 (fun z2 => ?_) (fun z2 => h1 (Or.inr (by omega)))
      have zs : s ≠ 16 := fun q => z (Or.inl q)
      have g := h3 (by omega)
      rw [← et] at g
      have hh := cx_rt (post := post) (a := j) (R0 := 0) (L := nI j) (R := 0) (by omega) (by omega) ht hd (by omega) (by omega) (by rw [ea]; rfl) g
      rw [ek] at hh
      exact hh
  rw [ek] at q
  exact q
end
section
variable {yz yl : Int32} {dr fo cy va oa : Nat → Int32}
theorem cy_nt {post : Int32 → SY → Prop} {s : Nat} {yd yt P g e : Int32} (hs : s < 16) (he : yd + g = e) (h : post e (nI (s + 1), e, yt, yz, yl, upd dr s P, fo, cy, va, oa)) : wpY_note post (nI s, yd, yt, yz, yl, dr, fo, cy, va, oa) P g := by
  unfold wpY_note
  dsimp only
  rw [nI_clamp (show s < 2 ^ 31 by omega)]
  exact ⟨vp_in_nI hs (by omega), nm_e (nm_r (nI_1 s) (nm_r he h))⟩
theorem cy_ch {post : Int32 → SY → Prop} {a s t d : Nat} {R : Int32} (eR : R = nI (cm_ar a)) (ha : a < 8) (hs : s ≤ 16) (ht : t ≤ 6) (hd : d ≤ 6) (h1 : cm_fu a s t → post (-2) (nI s, nI d, nI t, yz, yl, dr, fo, cy, va, oa)) (h2 : ¬ cm_fu a s t → ¬ cm_ar a ≤ d → post (-3) (nI s, nI d, nI t, yz, yl, dr, fo, cy, va, oa)) (h3 : ¬ cm_fu a s t → cm_ar a ≤ d → post (nI (d + 1 - cm_ar a)) (nI (s + 1), nI (d + 1 - cm_ar a), nI (cm_t a t), yz, yl, upd dr s (nI a), fo, cy, va, oa)) : wpY_change post (nI s, nI d, nI t, yz, yl, dr, fo, cy, va, oa) (nI a) R := by
  have hr := cm_ar2 a
  subst eR
  have K : ¬ cm_fu a s t → wY_change_26 post (nI a) (nI (cm_ar a)) (nI s) (nI d) (nI t) yz yl dr fo cy va oa := by
    intro z
    have zs : s ≠ 16 := fun q => z (Or.inl q)
    unfold wY_change_26
    refine pk_le (cm_ar a) d (fun z2 => ?_) (fun z2 => h2 z (by omega))
    have q := h3 z z2
    have e : nI d + (1 - nI (cm_ar a)) = nI (d + 1 - cm_ar a) := by
      rw [← pk_sub (show cm_ar a ≤ d + 1 by omega), ← nI_1]
      grind
    refine pk_le a 5 (fun z3 => ?_) (fun z3 => ?_)
    · rw [show cm_t a t = t from if_neg (by omega)] at q
      exact cy_nt (by omega) e q
    · rw [show cm_t a t = t + 1 from if_pos (by omega)] at q
      unfold wY_change_56
      rw [nI_1 t]
      exact cy_nt (by omega) e q
  unfold wpY_change
  dsimp only
  refine pk_eq s 16 (fun z => h1 (Or.inl z)) (fun z => ?_)
  refine pk_le a 5 (fun z2 => K ?_) (fun z2 => ?_)
  · unfold cm_fu
    omega
  · refine pk_eq t 6 (fun z3 => h1 (Or.inr ⟨by omega, z3⟩)) (fun z3 => K ?_)
    unfold cm_fu
    omega
theorem cy_fa {post : Int32 → SY → Prop} {j s t d : Nat} (hj : j < 3) (hs : s ≤ 16) (hd : d ≤ 6) (h1 : (s = 16 ∨ d = 6) → post (-2) (nI s, nI d, nI t, yz, yl, dr, fo, cy, va, oa)) (h3 : ¬ (s = 16 ∨ d = 6) → post (nI (d + 1 - cm_ar j)) (nI (s + 1), nI (d + 1 - cm_ar j), nI t, yz, yl, upd dr s (nI j), fo, cy, va, oa)) : wpY_fact post (nI s, nI d, nI t, yz, yl, dr, fo, cy, va, oa) (nI j) := by
  have ea := cm_ar0 hj
  unfold wpY_fact
  dsimp only
  refine br_f (nI_pos (by omega)) (br_t (nI_le (b := 2) (by omega) (by omega)) ?_)
  refine pk_eq s 16 (fun z => h1 (Or.inl z)) (fun z => ?_)
  refine pk_eq d 6 (fun z2 => h1 (Or.inr z2)) (fun z2 => ?_)
  exact cy_nt (by omega) (by rw [nI_1]; exact congrArg nI (by omega)) (h3 (by omega))
end
end
section
/-! the relation and what is owed -/
def i_Rel (_ : Nat) (u : SX) (v : SY) : Prop := match u, v with
  | (sc, tc, ss, us, cl, ka, la, ra, sa, uk, ul, ur, co, _), (ys, yd, yt, yz, yl, dr, fo, cy, _, _) => cm_RD sc tc ss ka la ra sa dr ys yd yt ∧ cm_RU uk ul ur us fo yz ∧ cm_RC co cl cy yl
theorem i_up {k : Nat} {u : SX} {v : SY} (h : i_Rel k u v) : i_Rel (k + 2) u v := h
theorem i_vc0 : wpX_init (fun u => wpY_init (fun v => i_Rel 0 u v)) := nm_e (nm_e ⟨cm_RD0 _ _ _ _ _, cm_RU0, 0, by omega, rfl, rfl, fun i hi => absurd hi (Nat.not_lt_zero i)⟩)
theorem i_vc_fact {k : Nat} {u : SX} {v : SY} (I : i_Rel k u v) (hk : k + 2 ≤ 1024) (v1 : Int32) : wpX_fact (fun r u' => wpY_fact (fun r' v' => r' = r ∧ i_Rel (k + 2) u' v') v v1) u v1 := by
  obtain ⟨sc, tc, ss, us, cl, ka, la, ra, sa, uk, ul, ur, co, pl⟩ := u
  obtain ⟨ys, yd, yt, yz, yl, dr, fo, cy, va, oa⟩ := v
  have J := I
  obtain ⟨⟨o, s, t, w, hs, ht, hd, ⟨rfl, rfl⟩, ⟨rfl, rfl⟩, ⟨rfl, rfl⟩, XA, hst, hdr⟩, RU, RC⟩ := I
  by_cases h0 : v1 < 0
  · exact br_t h0 (br_t h0 ⟨rfl, J⟩)
  · obtain ⟨j, hj, rfl⟩ := nI_of h0
    by_cases h3 : j < 3
    · refine cx_fa h3 hs ht hd (fun z => cy_fa h3 hs hd (fun _ => ⟨rfl, J⟩) (fun z2 => absurd z z2)) (fun z => cy_fa h3 hs hd (fun z2 => absurd z2 z) (fun _ => ⟨rfl, ?_, RU, RC⟩))
      have ea := cm_ar0 h3
      exact cm_RDp w (by omega) ht (by omega) (by omega) (by omega) XA hst hdr rfl (by rw [if_pos h3]) (fun q => absurd q (by omega)) rfl rfl
    · have a1 : ¬ nI j < 3 := nI_nlt (b := 3) (by omega) hj
      have a2 : ¬ nI j ≤ 2 := nI_ge (a := 2) (by omega) hj
      exact br_f h0 (br_f a1 (br_f h0 (br_f a2 ⟨rfl, J⟩)))
theorem i_vc_not {k : Nat} {u : SX} {v : SY} (I : i_Rel k u v) (hk : k + 2 ≤ 1024) : wpX_not (fun r u' => wpY_not (fun r' v' => r' = r ∧ i_Rel (k + 2) u' v') v) u := by
  obtain ⟨sc, tc, ss, us, cl, ka, la, ra, sa, uk, ul, ur, co, pl⟩ := u
  obtain ⟨ys, yd, yt, yz, yl, dr, fo, cy, va, oa⟩ := v
  have J := I
  obtain ⟨⟨o, s, t, w, hs, ht, hd, ⟨rfl, rfl⟩, ⟨rfl, rfl⟩, ⟨rfl, rfl⟩, XA, hst, hdr⟩, RU, RC⟩ := I
  unfold wpX_not wpY_not
  dsimp only
  refine cx_mu (a := 3) rfl (by omega) hs ht hd (fun z => ?_) (fun z z1 => ?_) (fun z z1 => ?_)
  · exact cy_ch (a := 3) rfl (by omega) hs ht hd (fun _ => ⟨rfl, J⟩) (fun z2 => absurd z z2) (fun z2 => absurd z z2)
  · exact cy_ch (a := 3) rfl (by omega) hs ht hd (fun z2 => absurd z2 z) (fun _ _ => ⟨rfl, J⟩) (fun _ z2 => absurd z2 z1)
  refine cy_ch (a := 3) rfl (by omega) hs ht hd (fun z2 => absurd z2 z) (fun _ z2 => absurd z1 z2) (fun _ _ => ⟨rfl, ?_, RU, RC⟩)
  have ea : cm_ar 3 = 1 := rfl
  have zs : s ≠ 16 := fun q => z (Or.inl q)
  exact cm_RDp w (by omega) (cm_t6 ht z) (by omega) z1 (by omega) XA hst hdr rfl (by rw [hst _ (by omega)]; rfl) (fun q => absurd q (by omega)) rfl rfl
theorem i_vc_and {k : Nat} {u : SX} {v : SY} (I : i_Rel k u v) (hk : k + 2 ≤ 1024) : wpX_and (fun r u' => wpY_and (fun r' v' => r' = r ∧ i_Rel (k + 2) u' v') v) u := by
  obtain ⟨sc, tc, ss, us, cl, ka, la, ra, sa, uk, ul, ur, co, pl⟩ := u
  obtain ⟨ys, yd, yt, yz, yl, dr, fo, cy, va, oa⟩ := v
  have J := I
  obtain ⟨⟨o, s, t, w, hs, ht, hd, ⟨rfl, rfl⟩, ⟨rfl, rfl⟩, ⟨rfl, rfl⟩, XA, hst, hdr⟩, RU, RC⟩ := I
  unfold wpX_and wpY_and
  dsimp only
  refine cx_mb (a := 4) rfl (by omega) hs ht hd (fun z => ?_) (fun z z1 => ?_) (fun z z1 => ?_)
  · exact cy_ch (a := 4) rfl (by omega) hs ht hd (fun _ => ⟨rfl, J⟩) (fun z2 => absurd z z2) (fun z2 => absurd z z2)
  · exact cy_ch (a := 4) rfl (by omega) hs ht hd (fun z2 => absurd z2 z) (fun _ _ => ⟨rfl, J⟩) (fun _ z2 => absurd z2 z1)
  refine cy_ch (a := 4) rfl (by omega) hs ht hd (fun z2 => absurd z2 z) (fun _ z2 => absurd z1 z2) (fun _ _ => ⟨rfl, ?_, RU, RC⟩)
  have ea : cm_ar 4 = 2 := rfl
  have zs : s ≠ 16 := fun q => z (Or.inl q)
  exact cm_RDp w (by omega) (cm_t6 ht z) (by omega) z1 (by omega) XA hst hdr rfl (by rw [hst _ (by omega)]; rfl) (fun _ => hst _ (by omega)) rfl rfl
theorem i_vc_or {k : Nat} {u : SX} {v : SY} (I : i_Rel k u v) (hk : k + 2 ≤ 1024) : wpX_or (fun r u' => wpY_or (fun r' v' => r' = r ∧ i_Rel (k + 2) u' v') v) u := by
  obtain ⟨sc, tc, ss, us, cl, ka, la, ra, sa, uk, ul, ur, co, pl⟩ := u
  obtain ⟨ys, yd, yt, yz, yl, dr, fo, cy, va, oa⟩ := v
  have J := I
  obtain ⟨⟨o, s, t, w, hs, ht, hd, ⟨rfl, rfl⟩, ⟨rfl, rfl⟩, ⟨rfl, rfl⟩, XA, hst, hdr⟩, RU, RC⟩ := I
  unfold wpX_or wpY_or
  dsimp only
  refine cx_mb (a := 5) rfl (by omega) hs ht hd (fun z => ?_) (fun z z1 => ?_) (fun z z1 => ?_)
  · exact cy_ch (a := 5) rfl (by omega) hs ht hd (fun _ => ⟨rfl, J⟩) (fun z2 => absurd z z2) (fun z2 => absurd z z2)
  · exact cy_ch (a := 5) rfl (by omega) hs ht hd (fun z2 => absurd z2 z) (fun _ _ => ⟨rfl, J⟩) (fun _ z2 => absurd z2 z1)
  refine cy_ch (a := 5) rfl (by omega) hs ht hd (fun z2 => absurd z2 z) (fun _ z2 => absurd z1 z2) (fun _ _ => ⟨rfl, ?_, RU, RC⟩)
  have ea : cm_ar 5 = 2 := rfl
  have zs : s ≠ 16 := fun q => z (Or.inl q)
  exact cm_RDp w (by omega) (cm_t6 ht z) (by omega) z1 (by omega) XA hst hdr rfl (by rw [hst _ (by omega)]; rfl) (fun _ => hst _ (by omega)) rfl rfl
theorem i_vc_next {k : Nat} {u : SX} {v : SY} (I : i_Rel k u v) (hk : k + 2 ≤ 1024) : wpX_next (fun r u' => wpY_next (fun r' v' => r' = r ∧ i_Rel (k + 2) u' v') v) u := by
  obtain ⟨sc, tc, ss, us, cl, ka, la, ra, sa, uk, ul, ur, co, pl⟩ := u
  obtain ⟨ys, yd, yt, yz, yl, dr, fo, cy, va, oa⟩ := v
  have J := I
  obtain ⟨⟨o, s, t, w, hs, ht, hd, ⟨rfl, rfl⟩, ⟨rfl, rfl⟩, ⟨rfl, rfl⟩, XA, hst, hdr⟩, RU, RC⟩ := I
  unfold wpX_next wpY_next
  dsimp only
  refine cx_mu (a := 6) rfl (by omega) hs ht hd (fun z => ?_) (fun z z1 => ?_) (fun z z1 => ?_)
  · exact cy_ch (a := 6) rfl (by omega) hs ht hd (fun _ => ⟨rfl, J⟩) (fun z2 => absurd z z2) (fun z2 => absurd z z2)
  · exact cy_ch (a := 6) rfl (by omega) hs ht hd (fun z2 => absurd z2 z) (fun _ _ => ⟨rfl, J⟩) (fun _ z2 => absurd z2 z1)
  refine cy_ch (a := 6) rfl (by omega) hs ht hd (fun z2 => absurd z2 z) (fun _ z2 => absurd z1 z2) (fun _ _ => ⟨rfl, ?_, RU, RC⟩)
  have ea : cm_ar 6 = 1 := rfl
  have zs : s ≠ 16 := fun q => z (Or.inl q)
  exact cm_RDp w (by omega) (cm_t6 ht z) (by omega) z1 (by omega) XA hst hdr rfl (by rw [hst _ (by omega)]; rfl) (fun q => absurd q (by omega)) rfl rfl
theorem i_vc_until {k : Nat} {u : SX} {v : SY} (I : i_Rel k u v) (hk : k + 2 ≤ 1024) : wpX_until (fun r u' => wpY_until (fun r' v' => r' = r ∧ i_Rel (k + 2) u' v') v) u := by
  obtain ⟨sc, tc, ss, us, cl, ka, la, ra, sa, uk, ul, ur, co, pl⟩ := u
  obtain ⟨ys, yd, yt, yz, yl, dr, fo, cy, va, oa⟩ := v
  have J := I
  obtain ⟨⟨o, s, t, w, hs, ht, hd, ⟨rfl, rfl⟩, ⟨rfl, rfl⟩, ⟨rfl, rfl⟩, XA, hst, hdr⟩, RU, RC⟩ := I
  unfold wpX_until wpY_until
  dsimp only
  refine cx_mb (a := 7) rfl (by omega) hs ht hd (fun z => ?_) (fun z z1 => ?_) (fun z z1 => ?_)
  · exact cy_ch (a := 7) rfl (by omega) hs ht hd (fun _ => ⟨rfl, J⟩) (fun z2 => absurd z z2) (fun z2 => absurd z z2)
  · exact cy_ch (a := 7) rfl (by omega) hs ht hd (fun z2 => absurd z2 z) (fun _ _ => ⟨rfl, J⟩) (fun _ z2 => absurd z2 z1)
  refine cy_ch (a := 7) rfl (by omega) hs ht hd (fun z2 => absurd z2 z) (fun _ z2 => absurd z1 z2) (fun _ _ => ⟨rfl, ?_, RU, RC⟩)
  have ea : cm_ar 7 = 2 := rfl
  have zs : s ≠ 16 := fun q => z (Or.inl q)
  exact cm_RDp w (by omega) (cm_t6 ht z) (by omega) z1 (by omega) XA hst hdr rfl (by rw [hst _ (by omega)]; rfl) (fun _ => hst _ (by omega)) rfl rfl
theorem i_vc_steps {k : Nat} {u : SX} {v : SY} (I : i_Rel k u v) (hk : k + 2 ≤ 1024) : wpX_steps (fun r => wpY_steps (fun r' => r' = r ∧ i_Rel (k + 2) u v) v) u := by
  obtain ⟨sc, tc, ss, us, cl, ka, la, ra, sa, uk, ul, ur, co, pl⟩ := u
  obtain ⟨ys, yd, yt, yz, yl, dr, fo, cy, va, oa⟩ := v
  have J := I
  obtain ⟨⟨o, s, t, w, hs, ht, hd, ⟨rfl, rfl⟩, ⟨rfl, rfl⟩, ⟨rfl, rfl⟩, XA, hst, hdr⟩, RU, RC⟩ := I
  exact ⟨rfl, J⟩
theorem i_vc_depth {k : Nat} {u : SX} {v : SY} (I : i_Rel k u v) (hk : k + 2 ≤ 1024) : wpX_depth (fun r => wpY_depth (fun r' => r' = r ∧ i_Rel (k + 2) u v) v) u := by
  obtain ⟨sc, tc, ss, us, cl, ka, la, ra, sa, uk, ul, ur, co, pl⟩ := u
  obtain ⟨ys, yd, yt, yz, yl, dr, fo, cy, va, oa⟩ := v
  have J := I
  obtain ⟨⟨o, s, t, w, hs, ht, hd, ⟨rfl, rfl⟩, ⟨rfl, rfl⟩, ⟨rfl, rfl⟩, XA, hst, hdr⟩, RU, RC⟩ := I
  exact ⟨rfl, J⟩
theorem i_vc_discard {k : Nat} {u : SX} {v : SY} (I : i_Rel k u v) (hk : k + 2 ≤ 1024) : wpX_discard (fun u' => wpY_discard (fun v' => i_Rel (k + 2) u' v') v) u := by
  obtain ⟨sc, tc, ss, us, cl, ka, la, ra, sa, uk, ul, ur, co, pl⟩ := u
  obtain ⟨ys, yd, yt, yz, yl, dr, fo, cy, va, oa⟩ := v
  exact ⟨cm_RD0 _ _ _ _ _, I.2⟩
theorem i_vc_define {k : Nat} {u : SX} {v : SY} (I : i_Rel k u v) (hk : k + 2 ≤ 1024) : wpX_define (fun r u' => wpY_define (fun r' v' => r' = r ∧ i_Rel (k + 2) u' v') v) u := by
  obtain ⟨sc, tc, ss, us, cl, ka, la, ra, sa, uk, ul, ur, co, pl⟩ := u
  obtain ⟨ys, yd, yt, yz, yl, dr, fo, cy, va, oa⟩ := v
  have J := I
  obtain ⟨⟨o, s, t, w, hs, ht, hd, ⟨rfl, rfl⟩, ⟨rfl, rfl⟩, ⟨rfl, rfl⟩, XA, hst, hdr⟩, RU, RC⟩ := I
  have hds := cm_dle o s
  rcases Nat.eq_zero_or_pos (cm_d o s) with e | e
  · rw [e] at J ⊢
    exact br_f (by decide) (br_t rfl ⟨rfl, J⟩)
  · obtain ⟨D, eD⟩ : ∃ D, cm_d o s = D + 1 := ⟨cm_d o s - 1, by omega⟩
    obtain ⟨n, rfl⟩ : ∃ n, s = n + 1 := ⟨s - 1, by omega⟩
    rw [eD]
    refine cx_df hs (by omega) (fun uk' ul' ur' hu => cy_df w hs eD (by omega) hdr (fun oY m fo' wY hm hfo eN => ⟨rfl, cm_RD0 _ _ _ _ _, ⟨o, oY, n, m, w, by omega, rfl, fun i hi => ?_, wY, hm, rfl, hfo, eN⟩, RC⟩))
    obtain ⟨q1, q2, q3⟩ := hu i hi
    rw [q1, q2, q3]
    exact XA i hi
theorem i_vc_step {k : Nat} {u : SX} {v : SY} (I : i_Rel k u v) (hk : k + 2 ≤ 1024) (v1 : Int32) : wpX_step (fun r u' => wpY_step (fun r' v' => r' = r ∧ i_Rel (k + 2) u' v') v v1) u v1 := by
  obtain ⟨sc, tc, ss, us, cl, ka, la, ra, sa, uk, ul, ur, co, pl⟩ := u
  obtain ⟨ys, yd, yt, yz, yl, dr, fo, cy, va, oa⟩ := v
  have J := I
  obtain ⟨RD, RU, L, hL, rfl, rfl, hc⟩ := I
  unfold wpX_step
  dsimp only
  by_cases h0 : v1 < 0
  · exact br_t h0 (br_t rfl (br_t h0 ⟨rfl, J⟩))
  · obtain ⟨j, hj, rfl⟩ := nI_of h0
    by_cases h8 : j < 8
    · have a1 : ¬ (8 : Int32) ≤ nI j := nI_ge (b := 8) h8 (by omega)
      have a2 : nI j ≤ 7 := nI_le (b := 7) (by omega) (by omega)
      refine br_f h0 (br_f a1 (br_f (by decide) ?_))
      refine pk_lt L 10 (fun z => ?_) (fun z => ?_)
      · have hi : vp_in (nI L) 12 := vp_in_nI (by omega) (by omega)
        have zl : ¬ nI L = 10 := fun q => absurd ((nI_eq (b := 10) (by omega) (by omega)).mp q) (by omega)
        refine ⟨hi, nm_r (show upd co (nI L).toNatClampNeg (nI j) = upd co L (nI j) by rw [nI_clamp (by omega)]) (nm_r (nI_1 L) ?_)⟩
        refine br_f h0 (br_t a2 (br_f zl ⟨hi, nm_r (show upd cy (nI L).toNatClampNeg (nI j) = upd cy L (nI j) by rw [nI_clamp (by omega)]) (nm_r (nI_1 L) ⟨rfl, RD, RU, L + 1, by omega, rfl, rfl, cm_ag3 hc⟩)⟩))
      · have el : L = 10 := by omega
        have zl : nI L = 10 := by rw [el]; rfl
        exact br_f h0 (br_t a2 (br_t zl ⟨rfl, J⟩))
    · have a1 : (8 : Int32) ≤ nI j := nI_le (a := 8) (by omega) hj
      have a2 : ¬ nI j ≤ 7 := nI_ge (a := 7) (by omega) hj
      exact br_f h0 (br_t a1 (br_t rfl (br_f h0 (br_f a2 ⟨rfl, J⟩))))
theorem i_vc_undo {k : Nat} {u : SX} {v : SY} (I : i_Rel k u v) (hk : k + 2 ≤ 1024) : wpX_undo (fun r u' => wpY_undo (fun r' v' => r' = r ∧ i_Rel (k + 2) u' v') v) u := by
  obtain ⟨sc, tc, ss, us, cl, ka, la, ra, sa, uk, ul, ur, co, pl⟩ := u
  obtain ⟨ys, yd, yt, yz, yl, dr, fo, cy, va, oa⟩ := v
  have J := I
  obtain ⟨RD, RU, L, hL, rfl, rfl, hc⟩ := I
  rcases Nat.eq_zero_or_pos L with e | e
  · subst e
    exact br_f (by decide) (br_t rfl ⟨rfl, J⟩)
  · obtain ⟨M, rfl⟩ : ∃ M, L = M + 1 := ⟨L - 1, by omega⟩
    have hi : vp_in (nI M) 12 := vp_in_nI (by omega) (by omega)
    refine br_t (nI_le (a := 1) (by omega) (by omega)) (nm_r (nI_pred M) ⟨hi, ?_⟩)
    refine br_f (nI_ne0 (by omega) (by omega)) (nm_r (nI_pred M) ⟨hi, ?_, RD, RU, M, by omega, rfl, rfl, fun i hi => hc i (by omega)⟩)
    rw [nI_clamp (by omega)]
    exact (hc M (by omega)).symm
theorem i_vc_restart {k : Nat} {u : SX} {v : SY} (I : i_Rel k u v) (hk : k + 2 ≤ 1024) : wpX_restart (fun u' => wpY_restart (fun v' => i_Rel (k + 2) u' v') v) u := by
  obtain ⟨sc, tc, ss, us, cl, ka, la, ra, sa, uk, ul, ur, co, pl⟩ := u
  obtain ⟨ys, yd, yt, yz, yl, dr, fo, cy, va, oa⟩ := v
  exact ⟨I.1, I.2.1, 0, by omega, rfl, rfl, fun i hi => absurd hi (Nat.not_lt_zero i)⟩
theorem i_vc_length {k : Nat} {u : SX} {v : SY} (I : i_Rel k u v) (hk : k + 2 ≤ 1024) : wpX_length (fun r => wpY_length (fun r' => r' = r ∧ i_Rel (k + 2) u v) v) u := by
  obtain ⟨sc, tc, ss, us, cl, ka, la, ra, sa, uk, ul, ur, co, pl⟩ := u
  obtain ⟨ys, yd, yt, yz, yl, dr, fo, cy, va, oa⟩ := v
  have J := I
  obtain ⟨RD, RU, L, hL, rfl, rfl, hc⟩ := I
  exact ⟨rfl, J⟩
end
section
/-! what is owed, the questions -/
theorem i_vc_holds {k : Nat} {u : SX} {v : SY} (I : i_Rel k u v) (hk : k + 2 ≤ 1024) : wpX_holds (fun r u' => wpY_holds (fun r' v' => r' = r ∧ i_Rel (k + 2) u' v') v) u := by
  obtain ⟨sc, tc, ss, us, cl, ka, la, ra, sa, uk, ul, ur, co, pl⟩ := u
  obtain ⟨ys, yd, yt, yz, yl, dr, fo, cy, va, oa⟩ := v
  have J := I
  obtain ⟨RD, ⟨oX, oY, n, m, wX, hn, rfl, AX, wY, hm, rfl, AY, eN⟩, L, hL, rfl, rfl, hc⟩ := I
  refine cx_hf hn wX AX (by omega) (fun pl' => ⟨cm_nb _, ?_⟩)
  refine cy_hf hm wY AY (by omega) (fun va' oa' => ⟨cm_nb _, ?_, J⟩)
  rw [eN]
  exact congrArg cm_b (cm_AL _ _ _ hc).symm
theorem i_vc_heldAfter {k : Nat} {u : SX} {v : SY} (I : i_Rel k u v) (hk : k + 2 ≤ 1024) (v1 : Int32) : wpX_heldAfter (fun r u' => wpY_heldAfter (fun r' v' => r' = r ∧ i_Rel (k + 2) u' v') v v1) u v1 := by
  obtain ⟨sc, tc, ss, us, cl, ka, la, ra, sa, uk, ul, ur, co, pl⟩ := u
  obtain ⟨ys, yd, yt, yz, yl, dr, fo, cy, va, oa⟩ := v
  have J := I
  obtain ⟨RD, ⟨oX, oY, n, m, wX, hn, rfl, AX, wY, hm, rfl, AY, eN⟩, L, hL, rfl, rfl, hc⟩ := I
  by_cases h0 : v1 < 0
  · exact br_t h0 (br_t h0 ⟨rfl, J⟩)
  · obtain ⟨j, hj, rfl⟩ := nI_of h0
    by_cases h1 : L < j
    · have a1 : nI L < nI j := nI_lt h1 hj
      exact br_f h0 (br_t a1 (br_f h0 (br_t a1 ⟨rfl, J⟩)))
    · have a1 : ¬ nI L < nI j := nI_nlt (by omega) (by omega)
      refine br_f h0 (br_f a1 (cx_hf hn wX AX (by omega) (fun pl' => ?_)))
      have e : cm_A (cm_N oX n) co j = cm_A (cm_N oY m) cy j := by
        rw [eN]
        exact cm_AL _ _ _ (fun i hi => hc i (by omega))
      rw [e]
      have H : ∀ r, r = cm_b (cm_A (cm_N oY m) cy j) → wpY_heldAfter (fun r' v' => r' = r ∧ i_Rel (k + 2) (sc, tc, ss, nI (n + 1), nI L, ka, la, ra, sa, uk, ul, ur, co, pl') v') (ys, yd, yt, nI (m + 1), nI L, dr, fo, cy, va, oa) (nI j) := by
        intro r er
        refine br_f h0 (br_f a1 (cy_hf hm wY AY (by omega) (fun va' oa' => ?_)))
        rw [er]
        exact cm_br (P := fun q => q = cm_b (cm_A (cm_N oY m) cy j) ∧ i_Rel (k + 2) (sc, tc, ss, nI (n + 1), nI L, ka, la, ra, sa, uk, ul, ur, co, pl') (ys, yd, yt, nI (m + 1), nI L, dr, fo, cy, va', oa')) ⟨rfl, J⟩
      exact cm_br (P := fun q => wpY_heldAfter (fun r' v' => r' = q ∧ i_Rel (k + 2) (sc, tc, ss, nI (n + 1), nI L, ka, la, ra, sa, uk, ul, ur, co, pl') v') (ys, yd, yt, nI (m + 1), nI L, dr, fo, cy, va, oa) (nI j)) (H _ rfl)
theorem i_vc_wouldHold {k : Nat} {u : SX} {v : SY} (I : i_Rel k u v) (hk : k + 2 ≤ 1024) (v1 : Int32) : wpX_wouldHold (fun r u' => wpY_wouldHold (fun r' v' => r' = r ∧ i_Rel (k + 2) u' v') v v1) u v1 := by
  obtain ⟨sc, tc, ss, us, cl, ka, la, ra, sa, uk, ul, ur, co, pl⟩ := u
  obtain ⟨ys, yd, yt, yz, yl, dr, fo, cy, va, oa⟩ := v
  have J := I
  obtain ⟨RD, ⟨oX, oY, n, m, wX, hn, rfl, AX, wY, hm, rfl, AY, eN⟩, L, hL, rfl, rfl, hc⟩ := I
  unfold wpX_wouldHold
  dsimp only
  by_cases h0 : v1 < 0
  · exact br_t h0 (br_t rfl (br_t h0 ⟨rfl, J⟩))
  · obtain ⟨j, hj, rfl⟩ := nI_of h0
    by_cases h1 : 7 < j
    · have a1 : (8 : Int32) ≤ nI j := nI_le (a := 8) (by omega) hj
      have a2 : (7 : Int32) < nI j := nI_lt (a := 7) h1 hj
      exact br_f h0 (br_t a1 (br_t rfl (br_f h0 (br_t a2 ⟨rfl, J⟩))))
    · have a1 : ¬ (8 : Int32) ≤ nI j := nI_ge (b := 8) (by omega) (by omega)
      have a2 : ¬ (7 : Int32) < nI j := nI_nlt (b := j) (a := 7) (by omega) (by omega)
      refine br_f h0 (br_f a1 (br_f (by decide) (cx_fb hn wX AX hL (fun pl' => ?_))))
      have e : cm_A (cm_N oX n) (upd co L (nI j)) (L + 1) = cm_A (cm_N oY m) (upd cy L (nI j)) (L + 1) := by
        rw [eN]
        exact cm_AL _ _ _ (cm_ag3 hc)
      rw [e]
      have Q : ∀ va' oa', i_Rel (k + 2) (sc, tc, ss, nI (n + 1), nI L, ka, la, ra, sa, uk, ul, ur, upd co L (nI j), pl') (ys, yd, yt, nI (m + 1), nI L, dr, fo, upd cy L (nI j), va', oa') := fun va' oa' => ⟨J.1, J.2.1, L, hL, rfl, rfl, fun i hi => cm_ag3 hc i (by omega)⟩
      have H : ∀ r, r = cm_b (cm_A (cm_N oY m) (upd cy L (nI j)) (L + 1)) → wpY_wouldHold (fun r' v' => r' = r ∧ i_Rel (k + 2) (sc, tc, ss, nI (n + 1), nI L, ka, la, ra, sa, uk, ul, ur, upd co L (nI j), pl') v') (ys, yd, yt, nI (m + 1), nI L, dr, fo, cy, va, oa) (nI j) := by
        intro r er
        refine br_f h0 (br_f a2 (cy_hw hm wY AY hL (fun va' oa' => ?_)))
        rw [er]
        exact cm_br (P := fun q => q = cm_b (cm_A (cm_N oY m) (upd cy L (nI j)) (L + 1)) ∧ i_Rel (k + 2) (sc, tc, ss, nI (n + 1), nI L, ka, la, ra, sa, uk, ul, ur, upd co L (nI j), pl') (ys, yd, yt, nI (m + 1), nI L, dr, fo, upd cy L (nI j), va', oa')) ⟨rfl, Q va' oa'⟩
      exact cm_br (P := fun q => wpY_wouldHold (fun r' v' => r' = q ∧ i_Rel (k + 2) (sc, tc, ss, nI (n + 1), nI L, ka, la, ra, sa, uk, ul, ur, upd co L (nI j), pl') v') (ys, yd, yt, nI (m + 1), nI L, dr, fo, cy, va, oa) (nI j)) (H _ rfl)
theorem i_vc_wouldHoldWith {k : Nat} {u : SX} {v : SY} (I : i_Rel k u v) (hk : k + 2 ≤ 1024) : wpX_wouldHoldWith (fun r u' => wpY_wouldHoldWith (fun r' v' => r' = r ∧ i_Rel (k + 2) u' v') v) u := by
  obtain ⟨sc, tc, ss, us, cl, ka, la, ra, sa, uk, ul, ur, co, pl⟩ := u
  obtain ⟨ys, yd, yt, yz, yl, dr, fo, cy, va, oa⟩ := v
  have J := I
  obtain ⟨RD, ⟨oX, oY, n, m, wX, hn, rfl, AX, wY, hm, rfl, AY, eN⟩, L, hL, rfl, rfl, hc⟩ := I
  refine cx_ww hn wX AX hL (fun c pl' h1 => cy_ww hm wY AY hL (fun c' va' oa' h2 => ⟨?_, J.1, J.2.1, L, hL, rfl, rfl, fun i hi => (h1 i hi).trans ((hc i hi).trans (h2 i hi).symm)⟩))
  rw [eN]
  exact congrArg nI (cm_wwc cm_AL (fun i hi => (hc i hi).symm) 8)
theorem i_vc_soonest {k : Nat} {u : SX} {v : SY} (I : i_Rel k u v) (hk : k + 2 ≤ 1024) : wpX_soonest (fun r u' => wpY_soonest (fun r' v' => r' = r ∧ i_Rel (k + 2) u' v') v) u := by
  obtain ⟨sc, tc, ss, us, cl, ka, la, ra, sa, uk, ul, ur, co, pl⟩ := u
  obtain ⟨ys, yd, yt, yz, yl, dr, fo, cy, va, oa⟩ := v
  have J := I
  obtain ⟨RD, ⟨oX, oY, n, m, wX, hn, rfl, AX, wY, hm, rfl, AY, eN⟩, L, hL, rfl, rfl, hc⟩ := I
  unfold wpX_soonest wpY_soonest
  dsimp only
  refine cx_ff hn wX AX hL (fun r c pl' h1 S => ?_)
  refine cy_so hm wY AY hL (fun r' c' va' oa' h2 S' => ⟨?_, J.1, J.2.1, L, hL, rfl, rfl, fun i hi => (h1 i hi).trans ((hc i hi).trans (h2 i hi).symm)⟩)
  rw [eN] at S
  exact cm_Sou (cm_Soc cm_AL hc S) S'
theorem i_vc_soonestNot {k : Nat} {u : SX} {v : SY} (I : i_Rel k u v) (hk : k + 2 ≤ 1024) : wpX_soonestNot (fun r u' => wpY_soonestNot (fun r' v' => r' = r ∧ i_Rel (k + 2) u' v') v) u := by
  obtain ⟨sc, tc, ss, us, cl, ka, la, ra, sa, uk, ul, ur, co, pl⟩ := u
  obtain ⟨ys, yd, yt, yz, yl, dr, fo, cy, va, oa⟩ := v
  have J := I
  obtain ⟨RD, ⟨oX, oY, n, m, wX, hn, rfl, AX, wY, hm, rfl, AY, eN⟩, L, hL, rfl, rfl, hc⟩ := I
  unfold wpX_soonestNot wpY_soonestNot
  dsimp only
  refine cx_ff hn wX AX hL (fun r c pl' h1 S => ?_)
  refine cy_so hm wY AY hL (fun r' c' va' oa' h2 S' => ⟨?_, J.1, J.2.1, L, hL, rfl, rfl, fun i hi => (h1 i hi).trans ((hc i hi).trans (h2 i hi).symm)⟩)
  rw [eN] at S
  exact cm_Sou (cm_Soc cm_AL hc S) S'
end
