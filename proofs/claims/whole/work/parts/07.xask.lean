/-! the component's walk: wouldHoldWith, soonest -/
theorem cm_AL {o : Nat → Nat} {n : Nat} : ∀ (c c' : Nat → Int32) (N : Nat), (∀ j, j < N → c j = c' j) → cm_A (cm_N o n) c N = cm_A (cm_N o n) c' N := fun _ _ _ h => cm_lcA (cm_lcN o n) h
theorem cm_ag1 {c c' : Nat → Int32} {L : Nat} {x : Int32} (h : ∀ i, i < L → c i = c' i) : ∀ i, i < L → upd c L x i = c' i := by
  intro i hi
  rw [pk_un (by omega)]
  exact h i hi
theorem cm_ag2 {c c' : Nat → Int32} {L : Nat} {x : Int32} (h : ∀ i, i < L → c i = c' i) : ∀ i, i < L → upd c (L + 1) x i = c' i := by
  intro i hi
  rw [pk_un (by omega)]
  exact h i hi
theorem cm_ag3 {c c' : Nat → Int32} {L : Nat} {x : Int32} (h : ∀ i, i < L → c i = c' i) : ∀ i, i < L + 1 → upd c L x i = upd c' L x i := by
  intro i hi
  by_cases e : i = L
  · rw [e, pk_us, pk_us]
  · rw [pk_un e, pk_un e]
    exact h i (by omega)
theorem cm_ag4 {c c' : Nat → Int32} {L : Nat} {x y : Int32} (h : ∀ i, i < L → c i = c' i) (hL : c L = x) : ∀ i, i < L + 2 → upd c (L + 1) y i = upd (upd c' L x) (L + 1) y i := by
  intro i hi
  by_cases e : i = L + 1
  · rw [e, pk_us, pk_us]
  · rw [pk_un e, pk_un e]
    by_cases e2 : i = L
    · rw [e2, pk_us, hL]
    · rw [pk_un e2]
      exact h i (by omega)
theorem cm_2 (L : Nat) : nI L + 2 = nI (L + 2) := nI_add L 2
section
variable {sc tc ss us cl : Int32} {ka la ra sa uk ul ur co pl : Nat → Int32}
theorem cx_ww {post : Int32 → SX → Prop} {o : Nat → Nat} {n L : Nat} (hn : n < 16) (w : cm_WF o (n + 1)) (A : cm_XA o (n + 1) uk ul ur) (hL : L ≤ 10) (h : ∀ c pl', (∀ i, i < L → c i = co i) → post (nI (cm_ww (cm_A (cm_N o n)) co L 8)) (sc, tc, ss, nI (n + 1), nI L, ka, la, ra, sa, uk, ul, ur, c, pl')) : wpX_wouldHoldWith post (sc, tc, ss, nI (n + 1), nI L, ka, la, ra, sa, uk, ul, ur, co, pl) := by
  have M : ∀ d k f c pl, k + d = 8 → d < f → (∀ i, i < L → c i = co i) → wX_wouldHoldWith_4 post f (nI (cm_ww (cm_A (cm_N o n)) co L k)) (nI k) sc tc ss (nI (n + 1)) (nI L) ka la ra sa uk ul ur c pl := by
    intro d
    induction d with
    | zero =>
      intro k f c pl e hf hc
      obtain ⟨g, rfl⟩ : ∃ g, f = g + 1 := ⟨f - 1, by omega⟩
      have ek : k = 8 := by omega
      subst ek
      exact br_t (nI_le (a := 8) (b := 8) (by omega) (by omega)) (h c pl hc)
    | succ d ih =>
      intro k f c pl e hf hc
      obtain ⟨g, rfl⟩ : ∃ g, f = g + 1 := ⟨f - 1, by omega⟩
      refine br_f (nI_ge (b := 8) (by omega) (by omega)) (cx_fb hn w A hL (fun pl' => ?_))
      have e1 : cm_A (cm_N o n) (upd c L (nI k)) (L + 1) = cm_A (cm_N o n) (upd co L (nI k)) (L + 1) := cm_AL _ _ _ (cm_ag3 hc)
      rw [e1]
      by_cases z : cm_A (cm_N o n) (upd co L (nI k)) (L + 1) = true
      · have ew : cm_ww (cm_A (cm_N o n)) co L (k + 1) = cm_ww (cm_A (cm_N o n)) co L k + 2 ^ k := if_pos z
        have q := (cm_w8 k (by omega) _ (cm_wwlt (cm_A (cm_N o n)) co L k)).1
        have J := ih (k + 1) g (upd c L (nI k)) pl' (by omega) (by omega) (cm_ag1 hc)
        rw [ew] at J
        rw [z]
        exact br_f (by decide) (nm_r q (nm_r (nI_1 k) J))
      · have ew : cm_ww (cm_A (cm_N o n)) co L (k + 1) = cm_ww (cm_A (cm_N o n)) co L k := if_neg z
        have J := ih (k + 1) g (upd c L (nI k)) pl' (by omega) (by omega) (cm_ag1 hc)
        rw [ew] at J
        rw [show cm_A (cm_N o n) (upd co L (nI k)) (L + 1) = false from by cases q : cm_A (cm_N o n) (upd co L (nI k)) (L + 1) with | true => exact absurd q z | false => rfl]
        exact br_t rfl (nm_r (nI_1 k) J)
  exact ⟨9, M 8 0 9 co pl (by omega) (by omega) (fun i hi => rfl)⟩
theorem cx_74 {post : Int32 → SX → Prop} {J : Int32 → Int32 → Int32 → Int32 → Int32 → Int32 → (Nat → Int32) → (Nat → Int32) → (Nat → Int32) → (Nat → Int32) → (Nat → Int32) → (Nat → Int32) → (Nat → Int32) → (Nat → Int32) → (Nat → Int32) → Prop} {o : Nat → Nat} {n L a : Nat} {wd : Int32} (hn : n < 16) (w : cm_WF o (n + 1)) (A : cm_XA o (n + 1) uk ul ur) (hL : L ≤ 10) (h2 : ∀ b c pl', b < 8 → cm_b (cm_A (cm_N o n) (upd (upd co L (nI a)) (L + 1) (nI b)) (L + 2)) = wd → (∀ i, i < L → c i = co i) → post 2 (sc, tc, ss, nI (n + 1), nI L, ka, la, ra, sa, uk, ul, ur, c, pl'))
    (hJ : ∀ c pl', (∀ b, b < 8 → ¬ cm_b (cm_A (cm_N o n) (upd (upd co L (nI a)) (L + 1) (nI b)) (L + 2)) = wd) → (∀ i, i < L → c i = co i) → J (nI (a + 1)) sc tc ss (nI (n + 1)) (nI L) ka la ra sa uk ul ur c pl') : ∀ d b f c pl, b + d = 8 → d < f → (∀ i, i < L → c i = co i) → c L = nI a → (∀ b', b' < b → ¬ cm_b (cm_A (cm_N o n) (upd (upd co L (nI a)) (L + 1) (nI b')) (L + 2)) = wd) → wX_fewestFurther_74 post J wd (nI a) f (nI b) sc tc ss (nI (n + 1)) (nI L) ka la ra sa uk ul ur c pl := by
  intro d
  induction d with
  | zero =>
    intro b f c pl e hf hc hcL hb
    obtain ⟨g, rfl⟩ : ∃ g, f = g + 1 := ⟨f - 1, by omega⟩
    have ek : b = 8 := by omega
    subst ek
    exact br_t (nI_le (a := 8) (b := 8) (by omega) (by omega)) (nm_r (nI_1 a) (hJ c pl hb hc))
  | succ d ih =>
    intro b f c pl e hf hc hcL hb
    obtain ⟨g, rfl⟩ : ∃ g, f = g + 1 := ⟨f - 1, by omega⟩
    refine br_f (nI_ge (b := 8) (by omega) (by omega)) ?_
    rw [nI_1 L, nI_clamp (show L + 1 < 2 ^ 31 by omega), cm_2 L]
    refine ⟨vp_in_nI (by omega) (by omega), nm_e (cx_hf hn w A (by omega) (fun pl' => ?_))⟩
    have e1 : cm_A (cm_N o n) (upd c (L + 1) (nI b)) (L + 2) = cm_A (cm_N o n) (upd (upd co L (nI a)) (L + 1) (nI b)) (L + 2) := cm_AL _ _ _ (cm_ag4 hc hcL)
    rw [e1]
    refine br_c (fun z => h2 b _ pl' (by omega) z (cm_ag2 hc)) (fun z => nm_r (nI_1 b) (ih (b + 1) g _ pl' (by omega) (by omega) (cm_ag2 hc) ?_ (lt_s hb z)))
    rw [pk_un (by omega)]
    exact hcL
theorem cx_56 {post : Int32 → SX → Prop} {o : Nat → Nat} {n L : Nat} {wd : Int32} (hn : n < 16) (w : cm_WF o (n + 1)) (A : cm_XA o (n + 1) uk ul ur) (hL : L ≤ 10) (h2 : ∀ a b c pl', a < 8 → b < 8 → cm_b (cm_A (cm_N o n) (upd (upd co L (nI a)) (L + 1) (nI b)) (L + 2)) = wd → (∀ i, i < L → c i = co i) → post 2 (sc, tc, ss, nI (n + 1), nI L, ka, la, ra, sa, uk, ul, ur, c, pl'))
    (h4 : ∀ c pl', (∀ a b, a < 8 → b < 8 → ¬ cm_b (cm_A (cm_N o n) (upd (upd co L (nI a)) (L + 1) (nI b)) (L + 2)) = wd) → (∀ i, i < L → c i = co i) → post (-4) (sc, tc, ss, nI (n + 1), nI L, ka, la, ra, sa, uk, ul, ur, c, pl')) : ∀ d a f c pl, a + d = 8 → d < f → (∀ i, i < L → c i = co i) → (∀ a' b, a' < a → b < 8 → ¬ cm_b (cm_A (cm_N o n) (upd (upd co L (nI a')) (L + 1) (nI b)) (L + 2)) = wd) → wX_fewestFurther_56 post wd f (nI a) sc tc ss (nI (n + 1)) (nI L) ka la ra sa uk ul ur c pl := by
  intro d
  induction d with
  | zero =>
    intro a f c pl e hf hc ha
    obtain ⟨g, rfl⟩ : ∃ g, f = g + 1 := ⟨f - 1, by omega⟩
    have ek : a = 8 := by omega
    subst ek
    exact br_t (nI_le (a := 8) (b := 8) (by omega) (by omega)) (h4 c pl ha hc)
  | succ d ih =>
    intro a f c pl e hf hc ha
    obtain ⟨g, rfl⟩ : ∃ g, f = g + 1 := ⟨f - 1, by omega⟩
    refine br_f (nI_ge (b := 8) (by omega) (by omega)) ⟨vp_in_nI (by omega) (by omega), nm_r (show upd c (nI L).toNatClampNeg (nI a) = upd c L (nI a) by rw [nI_clamp (by omega)]) ⟨9, ?_⟩⟩
    refine cx_74 (co := co) (a := a) hn w A hL (fun b c pl' hb => h2 a b c pl' (by omega) hb) (fun c pl' hb hc' => ?_) 8 0 9 _ pl (by omega) (by omega) (cm_ag1 hc) pk_us (fun b' hb' => absurd hb' (Nat.not_lt_zero b'))
    refine ih (a + 1) g c pl' (by omega) (by omega) hc' (fun a' b ha' hb' => ?_)
    by_cases z : a' = a
    · rw [z]
      exact hb b hb'
    · exact ha a' b (by omega) hb'
theorem cx_ff {post : Int32 → SX → Prop} {o : Nat → Nat} {n L : Nat} {wd : Int32} (hn : n < 16) (w : cm_WF o (n + 1)) (A : cm_XA o (n + 1) uk ul ur) (hL : L ≤ 10) (h : ∀ r c pl', (∀ i, i < L → c i = co i) → cm_So (cm_A (cm_N o n)) co L wd r → post r (sc, tc, ss, nI (n + 1), nI L, ka, la, ra, sa, uk, ul, ur, c, pl')) : wpX_fewestFurther post (sc, tc, ss, nI (n + 1), nI L, ka, la, ra, sa, uk, ul, ur, co, pl) wd := by
  unfold wpX_fewestFurther
  dsimp only
  refine cx_hf hn w A (by omega) (fun pl1 => ?_)
  refine br_c (fun z => h 0 co pl1 (fun i hi => rfl) (Or.inl ⟨rfl, z⟩)) (fun z0 => ⟨9, ?_⟩)
  have M : ∀ d k f c pl, k + d = 8 → d < f → (∀ i, i < L → c i = co i) → (∀ a, a < k → ¬ cm_b (cm_A (cm_N o n) (upd co L (nI a)) (L + 1)) = wd) → wX_fewestFurther_16 post wd f (nI k) sc tc ss (nI (n + 1)) (nI L) ka la ra sa uk ul ur c pl := by
    intro d
    induction d with
    | zero =>
      intro k f c pl e hf hc hk
      obtain ⟨g, rfl⟩ : ∃ g, f = g + 1 := ⟨f - 1, by omega⟩
      have ek : k = 8 := by omega
      subst ek
      refine br_t (nI_le (a := 8) (b := 8) (by omega) (by omega)) ⟨9, ?_⟩
      exact cx_56 (co := co) hn w A hL (fun a b c pl' ha hb hw hc' => h 2 c pl' hc' (Or.inr (Or.inr (Or.inl ⟨rfl, z0, hk, a, b, ha, hb, hw⟩)))) (fun c pl' hab hc' => h (-4) c pl' hc' (Or.inr (Or.inr (Or.inr ⟨rfl, z0, hk, hab⟩)))) 8 0 9 c pl (by omega) (by omega) hc (fun a' b ha' _ => absurd ha' (Nat.not_lt_zero a'))
    | succ d ih =>
      intro k f c pl e hf hc hk
      obtain ⟨g, rfl⟩ : ∃ g, f = g + 1 := ⟨f - 1, by omega⟩
      refine br_f (nI_ge (b := 8) (by omega) (by omega)) ?_
      rw [nI_clamp (show L < 2 ^ 31 by omega), nI_1 L]
      refine ⟨vp_in_nI (by omega) (by omega), nm_e (cx_hf hn w A (by omega) (fun pl' => ?_))⟩
      have e1 : cm_A (cm_N o n) (upd c L (nI k)) (L + 1) = cm_A (cm_N o n) (upd co L (nI k)) (L + 1) := cm_AL _ _ _ (cm_ag3 hc)
      rw [e1]
      exact br_c (fun z => h 1 _ pl' (cm_ag1 hc) (Or.inr (Or.inl ⟨rfl, z0, k, by omega, z⟩))) (fun z => nm_r (nI_1 k) (ih (k + 1) g _ pl' (by omega) (by omega) (cm_ag1 hc) (lt_s hk z)))
  exact M 8 0 9 co pl1 (by omega) (by omega) (fun i hi => rfl) (fun a ha => absurd ha (Nat.not_lt_zero a))
end
