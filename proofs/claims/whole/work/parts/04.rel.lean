/-! the relation's three parts: the steps taken, the formula in use, the course -/
theorem cm_Soc {A : (Nat → Int32) → Nat → Bool} {c c' : Nat → Int32} {L : Nat} {w r : Int32} (hA : ∀ (c c' : Nat → Int32) (n : Nat), (∀ j, j < n → c j = c' j) → A c n = A c' n) (hc : ∀ i, i < L → c i = c' i) (h : cm_So A c L w r) : cm_So A c' L w r := by
  have e0 : A c L = A c' L := hA c c' L hc
  have u1 : ∀ a : Int32, ∀ j, j < L + 1 → upd c L a j = upd c' L a j := by
    intro a j hj
    by_cases e : j = L
    · rw [e, pk_us, pk_us]
    · rw [pk_un e, pk_un e, hc j (by omega)]
  have e1 : ∀ a : Int32, A (upd c L a) (L + 1) = A (upd c' L a) (L + 1) := fun a => hA _ _ _ (u1 a)
  have e2 : ∀ a b : Int32, A (upd (upd c L a) (L + 1) b) (L + 2) = A (upd (upd c' L a) (L + 1) b) (L + 2) := by
    intro a b
    apply hA
    intro j hj
    by_cases e : j = L + 1
    · rw [e, pk_us, pk_us]
    · rw [pk_un e, pk_un e, u1 a j (by omega)]
  unfold cm_So at h ⊢
  rw [e0] at h
  simp only [e1, e2] at h
  exact h
theorem cm_wwc {A : (Nat → Int32) → Nat → Bool} {c c' : Nat → Int32} {L : Nat} (hA : ∀ (c c' : Nat → Int32) (n : Nat), (∀ j, j < n → c j = c' j) → A c n = A c' n) (hc : ∀ i, i < L → c i = c' i) : ∀ k, cm_ww A c L k = cm_ww A c' L k := by
  intro k
  induction k with
  | zero => rfl
  | succ k ih =>
    have e1 : A (upd c L (nI k)) (L + 1) = A (upd c' L (nI k)) (L + 1) := by
      apply hA
      intro j hj
      by_cases e : j = L
      · rw [e, pk_us, pk_us]
      · rw [pk_un e, pk_un e, hc j (by omega)]
    show (if A (upd c L (nI k)) (L + 1) = true then cm_ww A c L k + 2 ^ k else cm_ww A c L k) = (if A (upd c' L (nI k)) (L + 1) = true then cm_ww A c' L k + 2 ^ k else cm_ww A c' L k)
    rw [e1, ih]
def cm_kd (o : Nat) : Nat := if o < 3 then 0 else o - 2
def cm_lf (o : Nat → Nat) (i : Nat) : Nat := if o i < 3 then o i else if cm_ar (o i) = 1 then cm_ix o i (cm_d o i - 1) else cm_ix o i (cm_d o i - 2)
/-- the component's nodes for the steps o -/
def cm_XA (o : Nat → Nat) (s : Nat) (k l r : Nat → Int32) : Prop := ∀ i, i < s → k i = nI (cm_kd (o i)) ∧ l i = nI (cm_lf o i) ∧ (cm_ar (o i) = 2 → r i = nI (cm_ix o i (cm_d o i - 1)))
def cm_ph (o : Nat → Nat) (s a : Nat) : Nat → Nat := fun i => if i = s then a else o i
theorem cm_ps (o : Nat → Nat) (s a : Nat) : cm_ph o s a s = a := if_pos rfl
theorem cm_pn (o : Nat → Nat) {s : Nat} (a : Nat) : ∀ i, i < s → o i = cm_ph o s a i := fun i h => (if_neg (by omega)).symm
theorem cm_lfc {o o' : Nat → Nat} {i : Nat} (h : ∀ j, j < i + 1 → o j = o' j) : cm_lf o i = cm_lf o' i := by
  obtain ⟨e1, e2, _⟩ := cm_cg (o := o) (o' := o') i (fun j hj => h j (by omega))
  unfold cm_lf
  rw [h i (by omega), e1, e2]
theorem cm_XAc {o o' : Nat → Nat} {s : Nat} {k l r : Nat → Int32} (h : ∀ i, i < s → o i = o' i) (H : cm_XA o s k l r) : cm_XA o' s k l r := by
  intro i hi
  obtain ⟨e1, e2, _⟩ := cm_cg (o := o) (o' := o') i (fun j hj => h j (by omega))
  obtain ⟨a, b, d⟩ := H i hi
  rw [h i hi, e1, e2] at d
  rw [h i hi] at a
  rw [cm_lfc (o := o) (o' := o') (fun j hj => h j (by omega))] at b
  exact ⟨a, b, d⟩
theorem cm_XAp {o : Nat → Nat} {s a : Nat} {k l r : Nat → Int32} {K L R : Int32} (H : cm_XA o s k l r) (hK : K = nI (cm_kd a)) (hL : L = nI (if a < 3 then a else if cm_ar a = 1 then cm_ix o s (cm_d o s - 1) else cm_ix o s (cm_d o s - 2))) (hR : cm_ar a = 2 → R = nI (cm_ix o s (cm_d o s - 1))) : cm_XA (cm_ph o s a) (s + 1) (upd k s K) (upd l s L) (upd r s R) := by
  intro i hi
  by_cases e : i = s
  · obtain ⟨e1, e2, _⟩ := cm_cg (o := o) (o' := cm_ph o s a) s (cm_pn o a)
    rw [e, pk_us, pk_us, pk_us, cm_ps]
    refine ⟨hK, ?_, fun z => ?_⟩
    · unfold cm_lf
      rw [cm_ps, ← e1, ← e2]
      exact hL
    · rw [← e1, ← e2]
      exact hR z
  · rw [pk_un e, pk_un e, pk_un e]
    exact cm_XAc (cm_pn o a) H i (by omega)
/-- the steps taken: sX tX dX of the component, sY dY tY of the other -/
def cm_RD (sX tX dX : Int32) (k l r st dr : Nat → Int32) (sY dY tY : Int32) : Prop := ∃ (o : Nat → Nat) (s t : Nat), cm_WF o s ∧ s ≤ 16 ∧ t ≤ 6 ∧ cm_d o s ≤ 6 ∧ (sX = nI s ∧ sY = nI s) ∧ (tX = nI t ∧ tY = nI t) ∧ (dX = nI (cm_d o s) ∧ dY = nI (cm_d o s)) ∧ cm_XA o s k l r ∧ (∀ j, j < cm_d o s → st j = nI (cm_ix o s j)) ∧ (∀ i, i < s → dr i = nI (o i))
theorem cm_RD0 (k l r st dr : Nat → Int32) : cm_RD 0 0 0 k l r st dr 0 0 0 :=
  ⟨fun _ => 0, 0, 0, fun p hp => absurd hp (Nat.not_lt_zero p), by omega, by omega, Nat.zero_le 6, ⟨rfl, rfl⟩, ⟨rfl, rfl⟩, ⟨rfl, rfl⟩, fun i hi => absurd hi (Nat.not_lt_zero i), fun j hj => absurd hj (Nat.not_lt_zero j), fun i hi => absurd hi (Nat.not_lt_zero i)⟩
theorem cm_RDp {o : Nat → Nat} {s t a : Nat} {k l r st dr : Nat → Int32} {K L R dX dY : Int32} (w : cm_WF o s) (hs : s < 16) (ht : t ≤ 6) (ha : a < 8) (har : cm_ar a ≤ cm_d o s) (hd : cm_d o s + 1 - cm_ar a ≤ 6) (H : cm_XA o s k l r) (hst : ∀ j, j < cm_d o s → st j = nI (cm_ix o s j)) (hdr : ∀ i, i < s → dr i = nI (o i)) (hK : K = nI (cm_kd a)) (hL : L = nI (if a < 3 then a else if cm_ar a = 1 then cm_ix o s (cm_d o s - 1) else cm_ix o s (cm_d o s - 2))) (hR : cm_ar a = 2 → R = nI (cm_ix o s (cm_d o s - 1))) (edX : dX = nI (cm_d o s + 1 - cm_ar a)) (edY : dY = nI (cm_d o s + 1 - cm_ar a)) : cm_RD (nI (s + 1)) (nI t) dX (upd k s K) (upd l s L) (upd r s R) (upd st (cm_d o s - cm_ar a) (nI s)) (upd dr s (nI a)) (nI (s + 1)) dY (nI t) := by
  obtain ⟨e1, e2, _⟩ := cm_cg (o := o) (o' := cm_ph o s a) s (cm_pn o a)
  have e3 : cm_d (cm_ph o s a) (s + 1) = cm_d o s + 1 - cm_ar a := by rw [cm_dS, cm_ps, ← e1]
  refine ⟨cm_ph o s a, s + 1, t, ?_, by omega, ht, by omega, ⟨rfl, rfl⟩, ⟨rfl, rfl⟩, ⟨by rw [edX, e3], by rw [edY, e3]⟩, cm_XAp H hK hL hR, ?_, ?_⟩
  · intro p hp
    by_cases e : p = s
    · rw [e, cm_ps, ← e1]
      exact ⟨ha, har⟩
    · exact cm_wfc (cm_pn o a) w p (by omega)
  · intro j hj
    rw [e3] at hj
    have e4 : cm_ix (cm_ph o s a) (s + 1) j = if j = cm_d (cm_ph o s a) s - cm_ar (cm_ph o s a s) then s else cm_ix (cm_ph o s a) s j := rfl
    rw [e4, cm_ps, ← e1, ← e2]
    by_cases e : j = cm_d o s - cm_ar a
    · rw [if_pos e, e, pk_us]
    · rw [if_neg e, pk_un e, hst j (by omega)]
  · intro i hi
    by_cases e : i = s
    · rw [e, pk_us, cm_ps]
    · rw [pk_un e, hdr i (by omega), cm_pn o (s := s) a i (by omega)]
/-- the formula in use: its last step makes it -/
def cm_RU (uk ul ur : Nat → Int32) (us : Int32) (fo : Nat → Int32) (sz : Int32) : Prop := ∃ (oX oY : Nat → Nat) (n m : Nat), cm_WF oX (n + 1) ∧ n < 16 ∧ us = nI (n + 1) ∧ cm_XA oX (n + 1) uk ul ur ∧ cm_WF oY (m + 1) ∧ m < 16 ∧ sz = nI (m + 1) ∧ (∀ i, i < m + 1 → fo i = nI (oY i)) ∧ cm_N oX n = cm_N oY m
theorem cm_RU0 : cm_RU (upd (fun _ => 0) 0 0) (upd (fun _ => 0) 0 0) (fun _ => 0) 1 (fun _ => 0) 1 := by
  have w : cm_WF (fun _ => 0) (0 + 1) := fun p hp => ⟨(by decide : 0 < 8), show (0 : Nat) ≤ _ from Nat.zero_le _⟩
  have u : ∀ i, upd (fun _ => (0 : Int32)) 0 0 i = 0 := by
    intro i
    unfold upd
    split <;> rfl
  refine ⟨fun _ => 0, fun _ => 0, 0, 0, w, by omega, rfl, ?_, w, by omega, rfl, fun i hi => rfl, rfl⟩
  intro i hi
  rw [u i]
  exact ⟨rfl, rfl, fun z => absurd (show (0 : Nat) = 2 from z) (by decide)⟩
/-- the course: the first L instants are the same -/
def cm_RC (cx : Nat → Int32) (lx : Int32) (cy : Nat → Int32) (ly : Int32) : Prop := ∃ L, L ≤ 10 ∧ lx = nI L ∧ ly = nI L ∧ ∀ i, i < L → cx i = cy i
/-- where the top formula begins -/
theorem cm_def {o : Nat → Nat} {s a D : Nat} (w : cm_WF o s) (ha : a ≤ s) (hs : cm_d o s = D + 1) (hD : cm_d o a = D) (h : ∀ q, a < q → q ≤ s → D + 1 ≤ cm_d o q) : a < s ∧ cm_WF (fun q => o (a + q)) (s - a) ∧ cm_N o (s - 1) = cm_N (fun q => o (a + q)) (s - a - 1) := by
  have h1 : a < s := by
    rcases Nat.lt_or_ge a s with z | z
    · exact z
    · have e : a = s := by omega
      rw [e] at hD
      omega
  have h2 : ∀ p, p < s - a → D + cm_ar (o (a + p)) ≤ cm_d o (a + p) := by
    intro p hp
    have z1 := h (a + p + 1) (by omega) (by omega)
    have z2 := (w (a + p) (by omega)).2
    rw [cm_dS] at z1
    omega
  refine ⟨h1, cm_shW o a D (s - a) ?_ hD h2, ?_⟩
  · rw [show a + (s - a) = s by omega]
    exact w
  · rw [cm_shN o a D (s - a) hD h2 (s - a - 1) (by omega), show a + (s - a - 1) = s - 1 by omega]
