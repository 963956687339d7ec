/-! the reference's walk: its table of values -/
section
variable {ys yd yt yz yl : Int32} {dr fo cy va oa : Nat → Int32}
theorem cy_ua {post : Int32 → Prop} {X Y : cm_V} {a b N : Nat} (ha : a < 16) (hb : b < 16) (hN : N ≤ 12) (hX : cm_YB X cy N va a) (hY : cm_YB Y cy N va b) : ∀ d k f, k + d = N → d < f → post (cm_b (cm_un (X cy N) (Y cy N) d k)) → wY_untilAt_3 post (nI a) (nI b) (nI N) ys yd yt yz yl dr fo cy va oa f (nI k) := by
  intro d
  induction d with
  | zero =>
    intro k f e hf hp
    obtain ⟨g, rfl⟩ : ∃ g, f = g + 1 := ⟨f - 1, by omega⟩
    exact br_t (nI_le (by omega) (by omega)) hp
  | succ d ih =>
    intro k f e hf hp
    obtain ⟨g, rfl⟩ : ∃ g, f = g + 1 := ⟨f - 1, by omega⟩
    have e1 : cm_un (X cy N) (Y cy N) (d + 1) k = (Y cy N k || (X cy N k && cm_un (X cy N) (Y cy N) d (k + 1))) := rfl
    rw [e1] at hp
    refine br_f (nI_ge (by omega) (by omega)) ?_
    rw [cm_13 b k, cm_13 a k, nI_clamp (show 13 * b + k < 2 ^ 31 by omega), nI_clamp (show 13 * a + k < 2 ^ 31 by omega), hY k (Or.inl (by omega)), hX k (Or.inl (by omega))]
    refine ⟨vp_in_nI (by omega) (by omega), ?_⟩
    cases qy : Y cy N k with
    | true =>
      rw [qy] at hp
      exact br_f (by decide) hp
    | false =>
      rw [qy, Bool.false_or] at hp
      refine br_t rfl ⟨vp_in_nI (by omega) (by omega), ?_⟩
      cases qx : X cy N k with
      | false =>
        rw [qx] at hp
        exact br_t rfl hp
      | true =>
        rw [qx, Bool.true_and] at hp
        exact br_f (by decide) (nm_r (nI_1 k) (ih (k + 1) g (by omega) (by omega) hp))
theorem cy_ut {post : Int32 → Prop} {X Y : cm_V} {a b N i : Nat} (ha : a < 16) (hb : b < 16) (hN : N ≤ 12) (hi : i < N ∨ i = 12) (hX : cm_YB X cy N va a) (hY : cm_YB Y cy N va b) (h : post (cm_b (cm_un (X cy N) (Y cy N) (N - i) i))) : wpY_untilAt post (ys, yd, yt, yz, yl, dr, fo, cy, va, oa) (nI a) (nI b) (nI i) (nI N) := by
  by_cases z : i ≤ N
  · exact ⟨N - i + 1, cy_ua ha hb hN hX hY (N - i) i _ (by omega) (by omega) h⟩
  · rw [show N - i = 0 by omega] at h
    exact ⟨1, br_t (nI_le (by omega) (by omega)) h⟩
theorem cy_pa {post : Int32 → Prop} {o : Nat → Nat} {p i N : Nat} {X Y : Int32} (w1 : cm_WF o (p + 1)) (hp : p < 16) (hN : N ≤ 12) (hi : i < N ∨ i = 12) (hv : ∀ a, a < p → cm_YB (cm_N o a) cy N va a) (hX : cm_ar (o p) = 2 → X = nI (cm_ix o p (cm_d o p - 2))) (hY : 1 ≤ cm_ar (o p) → Y = nI (cm_ix o p (cm_d o p - 1))) (h : post (cm_b (cm_N o p cy N i))) : wpY_partAt post (ys, yd, yt, yz, yl, dr, fo, cy, va, oa) (nI (o p)) X Y (nI i) (nI N) := by
  have wk := (w1 p (by omega)).1
  unfold wpY_partAt
  dsimp only
  rcases cm_8 wk with h3 | h3 | h3 | h3 | h3 | h3
  · have e : cm_N o p cy N i = (decide (i < N) && bt (cy i) (o p)) := cm_o0 h3 _ _ _ _ _
    rw [e] at h
    refine br_f (nI_ge (b := 3) h3 (by omega)) ?_
    refine pk_le N i (fun z => ?_) (fun z => ⟨vp_in_nI (by omega) (by omega), ?_⟩)
    · rw [decide_eq_false (by omega), Bool.false_and] at h
      exact h
    · rw [decide_eq_true z, Bool.true_and] at h
      rw [nI_clamp (show i < 2 ^ 31 by omega), cm_and1, b_sshr (o p) (by omega) _ (by omega), if_pos (by omega), Nat.add_zero]
      cases q : bt (cy i) (o p) with
      | true =>
        rw [q] at h
        exact br_t rfl h
      | false =>
        rw [q] at h
        exact br_f (by decide) h
  · obtain ⟨b, x, hb, el, hd, ei, eN⟩ := cm_nd1 w1 (cm_ar1 (Or.inl h3)) (by omega)
    rw [ei] at hY
    rw [hY (by rw [cm_ar1 (Or.inl h3)]; omega), h3]
    rw [eN, h3, cm_o3] at h
    refine br_t (by decide) (br_t (by decide) ?_)
    rw [cm_13 b i, nI_clamp (show 13 * b + i < 2 ^ 31 by omega), hv b hb i hi]
    refine ⟨vp_in_nI (by omega) (by omega), ?_⟩
    cases q : cm_N o b cy N i with
    | true =>
      rw [q] at h
      exact br_f (by decide) h
    | false =>
      rw [q] at h
      exact br_t rfl h
  · obtain ⟨a, b, ha, hb, el, hd, ea, ei, eN⟩ := cm_nd2 w1 (cm_ar2b (Or.inl h3)) (by omega)
    rw [ei] at hY
    rw [ea] at hX
    rw [hX (cm_ar2b (Or.inl h3)), hY (by rw [cm_ar2b (Or.inl h3)]; omega), h3]
    rw [eN, h3, cm_o4] at h
    refine br_t (by decide) (br_f (by decide) (br_t (by decide) ?_))
    rw [cm_13 b i, cm_13 a i, nI_clamp (show 13 * b + i < 2 ^ 31 by omega), nI_clamp (show 13 * a + i < 2 ^ 31 by omega), hv b hb i hi, hv a ha i hi]
    refine ⟨vp_in_nI (by omega) (by omega), ?_⟩
    cases qa : cm_N o a cy N i with
    | false =>
      rw [qa] at h
      exact br_t rfl h
    | true =>
      rw [qa, Bool.true_and] at h
      exact br_f (by decide) ⟨vp_in_nI (by omega) (by omega), cm_br (P := post) h⟩
  · obtain ⟨a, b, ha, hb, el, hd, ea, ei, eN⟩ := cm_nd2 w1 (cm_ar2b (Or.inr (Or.inl h3))) (by omega)
    rw [ei] at hY
    rw [ea] at hX
    rw [hX (cm_ar2b (Or.inr (Or.inl h3))), hY (by rw [cm_ar2b (Or.inr (Or.inl h3))]; omega), h3]
    rw [eN, h3, cm_o5] at h
    refine br_t (by decide) (br_f (by decide) (br_f (by decide) (br_t (by decide) ?_)))
    rw [cm_13 b i, cm_13 a i, nI_clamp (show 13 * b + i < 2 ^ 31 by omega), nI_clamp (show 13 * a + i < 2 ^ 31 by omega), hv b hb i hi, hv a ha i hi]
    refine ⟨vp_in_nI (by omega) (by omega), ?_⟩
    cases qa : cm_N o a cy N i with
    | false =>
      rw [qa, Bool.false_or] at h
      exact br_t rfl ⟨vp_in_nI (by omega) (by omega), cm_br (P := post) h⟩
    | true =>
      rw [qa, Bool.true_or] at h
      exact br_f (by decide) h
  · obtain ⟨b, x, hb, el, hd, ei, eN⟩ := cm_nd1 w1 (cm_ar1 (Or.inr h3)) (by omega)
    rw [ei] at hY
    rw [hY (by rw [cm_ar1 (Or.inr h3)]; omega), h3]
    rw [eN, h3, cm_o6] at h
    refine br_t (by decide) (br_f (by decide) (br_f (by decide) (br_f (by decide) (br_t (by decide) ?_))))
    rw [cm_13 b i, nI_1 i, nI_1 (13 * b + i), nI_clamp (show 13 * b + i + 1 < 2 ^ 31 by omega)]
    refine pk_le N (i + 1) (fun z => ?_) (fun z => ⟨vp_in_nI (by omega) (by omega), ?_⟩)
    · rw [decide_eq_false (by omega), Bool.false_and] at h
      exact h
    · rw [decide_eq_true z, Bool.true_and] at h
      have e2 := hv b hb (i + 1) (Or.inl z)
      rw [show 13 * b + i + 1 = 13 * b + (i + 1) by omega, e2]
      exact cm_br (P := post) h
  · obtain ⟨a, b, ha, hb, el, hd, ea, ei, eN⟩ := cm_nd2 w1 (cm_ar2b (Or.inr (Or.inr h3))) (by omega)
    rw [ei] at hY
    rw [ea] at hX
    rw [hX (cm_ar2b (Or.inr (Or.inr h3))), hY (by rw [cm_ar2b (Or.inr (Or.inr h3))]; omega), h3]
    rw [eN, h3, cm_o7] at h
    refine br_t (by decide) (br_f (by decide) (br_f (by decide) (br_f (by decide) (br_f (by decide) ?_))))
    exact cy_ut (by omega) (by omega) hN hi (hv a ha) (hv b hb) ⟨cm_nb _, h⟩
theorem cy_161 {post : Int32 → SY → Prop} {J : Int32 → Int32 → (Nat → Int32) → (Nat → Int32) → (Nat → Int32) → (Nat → Int32) → (Nat → Int32) → Prop} {x1 z : Int32} {p m : Nat} (ez : z = nI (m + 1)) (hm : m < 16) (h : J (nI (m + 1)) (nI (p + 1)) dr fo cy va (upd oa m (nI p))) : wY_holdsFor_161 post J x1 (nI p) z ys yd yt yz yl dr fo cy va oa := by
  subst ez
  unfold wY_holdsFor_161
  rw [nI_pred, nI_clamp (by omega)]
  exact ⟨vp_in_nI (by omega) (by omega), nm_e (nm_r (nI_1 p) h)⟩
theorem cy_70 {post : Int32 → SY → Prop} {J : Int32 → Int32 → (Nat → Int32) → (Nat → Int32) → (Nat → Int32) → (Nat → Int32) → (Nat → Int32) → Prop} {o : Nat → Nat} {p N : Nat} {X Y : Int32} (w1 : cm_WF o (p + 1)) (hp : p < 16) (hN : N ≤ 12) (hX : cm_ar (o p) = 2 → X = nI (cm_ix o p (cm_d o p - 2))) (hY : 1 ≤ cm_ar (o p) → Y = nI (cm_ix o p (cm_d o p - 1))) (hJ : ∀ va', (∀ a, a < p → cm_YB (cm_N o a) cy N va' a) → cm_YB (cm_N o p) cy N va' p → J (nI (cm_d o (p + 1))) (nI (p + 1)) dr fo cy va' (upd oa (cm_d o (p + 1) - 1) (nI p))) : ∀ d i f va, i + d = 13 → d < f → (∀ a, a < p → cm_YB (cm_N o a) cy N va a) → cm_YF (cm_N o p) cy N va p i → wY_holdsFor_70 post J (nI N) (nI (cm_d o p)) (nI p) (nI (o p)) Y X ys yd yt yz yl f (nI i) dr fo cy va oa := by
  intro d
  induction d with
  | zero =>
    intro i f va e hf hv hF
    obtain ⟨g, rfl⟩ : ∃ g, f = g + 1 := ⟨f - 1, by omega⟩
    have ei : i = 13 := by omega
    subst ei
    refine br_t (nI_le (a := 13) (b := 13) (by omega) (by omega)) ?_
    have wk := w1 p (by omega)
    have e1 := cm_dS o p
    have e2 := cm_d1 w1
    have e3 := cm_dle o (p + 1)
    have q := hJ va hv (cm_YFB hN hF)
    obtain ⟨m, em⟩ : ∃ m, cm_d o (p + 1) = m + 1 := ⟨cm_d o (p + 1) - 1, by omega⟩
    rw [em, Nat.add_sub_cancel] at q
    rcases cm_8 wk.1 with h3 | h3 | h3 | h3 | h3 | h3
    · have ea := cm_ar0 h3
      exact br_f (nI_ge (b := 3) h3 (by omega)) (cy_161 (by rw [nI_1]; exact congrArg nI (by omega)) (by omega) q)
    · have ea := cm_ar1 (Or.inl h3)
      rw [h3]
      exact br_t (by decide) (br_t (by decide) (cy_161 (congrArg nI (by omega)) (by omega) q))
    · have ea := cm_ar2b (Or.inl h3)
      rw [h3]
      refine br_t (by decide) (br_f (by decide) (br_f (by decide) (cy_161 ?_ (by omega) q)))
      rw [show cm_d o p = m + 1 + 1 by omega, nI_pred]
    · have ea := cm_ar2b (Or.inr (Or.inl h3))
      rw [h3]
      refine br_t (by decide) (br_f (by decide) (br_f (by decide) (cy_161 ?_ (by omega) q)))
      rw [show cm_d o p = m + 1 + 1 by omega, nI_pred]
    · have ea := cm_ar1 (Or.inr h3)
      rw [h3]
      exact br_t (by decide) (br_f (by decide) (br_t (by decide) (cy_161 (congrArg nI (by omega)) (by omega) q)))
    · have ea := cm_ar2b (Or.inr (Or.inr h3))
      rw [h3]
      refine br_t (by decide) (br_f (by decide) (br_f (by decide) (cy_161 ?_ (by omega) q)))
      rw [show cm_d o p = m + 1 + 1 by omega, nI_pred]
  | succ d ih =>
    intro i f va e hf hv hF
    obtain ⟨g, rfl⟩ : ∃ g, f = g + 1 := ⟨f - 1, by omega⟩
    have G : ∀ (hi : i < N ∨ i = 12), wY_holdsFor_101 post J (wY_holdsFor_70 post J (nI N) (nI (cm_d o p)) (nI p) (nI (o p)) Y X ys yd yt yz yl g) (nI N) (nI (cm_d o p)) (nI p) (nI (o p)) Y X (nI i) (13 * nI p + nI i) ys yd yt yz yl dr fo cy va oa := by
      intro hi
      unfold wY_holdsFor_101
      rw [cm_13 p i, nI_clamp (show 13 * p + i < 2 ^ 31 by omega)]
      refine cy_pa w1 hp hN hi hv hX hY ?_
      have K : ∀ x, x = cm_b (cm_N o p cy N i) → wY_holdsFor_70 post J (nI N) (nI (cm_d o p)) (nI p) (nI (o p)) Y X ys yd yt yz yl g (nI (i + 1)) dr fo cy (upd va (13 * p + i) x) oa := fun x ex => ih (i + 1) g _ (by omega) (by omega) (fun a ha => cm_YBu hN ha (hv a ha)) (cm_YFu hF (fun _ => ex))
      cases q : cm_N o p cy N i with
      | false =>
        rw [q] at K
        exact br_t rfl ⟨vp_in_nI (by omega) (by omega), nm_e (nm_r (nI_1 i) (K _ (cm_vn false)))⟩
      | true =>
        rw [q] at K
        exact br_f (by decide) ⟨vp_in_nI (by omega) (by omega), nm_e (nm_r (nI_1 i) (K _ (cm_vn true)))⟩
    refine br_f (nI_ge (b := 13) (by omega) (by omega)) ?_
    refine pk_lt i N (fun z => G (Or.inl z)) (fun z => ?_)
    refine pk_eq i 12 (fun z2 => G (Or.inr z2)) (fun z2 => ?_)
    rw [cm_13 p i, nI_clamp (show 13 * p + i < 2 ^ 31 by omega)]
    refine ⟨vp_in_nI (by omega) (by omega), nm_e (nm_r (nI_1 i) (ih (i + 1) g _ (by omega) (by omega) (fun a ha => cm_YBu hN ha (hv a ha)) (cm_YFu hF (fun z3 => ?_))))⟩
    omega
theorem cy_hf {post : Int32 → SY → Prop} {o : Nat → Nat} {m N : Nat} (hm : m < 16) (w : cm_WF o (m + 1)) (A : ∀ i, i < m + 1 → fo i = nI (o i)) (hN : N ≤ 12) (h : ∀ va' oa', post (cm_b (cm_A (cm_N o m) cy N)) (ys, yd, yt, nI (m + 1), yl, dr, fo, cy, va', oa')) : wpY_holdsFor post (ys, yd, yt, nI (m + 1), yl, dr, fo, cy, va, oa) (nI N) := by
  have L : ∀ d p f va oa, p + d = m + 1 → d < f → (∀ a, a < p → cm_YB (cm_N o a) cy N va a) → (∀ j, j < cm_d o p → oa j = nI (cm_ix o p j)) → wY_holdsFor_4 post (nI N) ys yd yt (nI (m + 1)) yl f (nI (cm_d o p)) (nI p) dr fo cy va oa := by
    intro d
    induction d with
    | zero =>
      intro p f va oa e hf hv ho
      obtain ⟨g, rfl⟩ : ∃ g, f = g + 1 := ⟨f - 1, by omega⟩
      refine br_t (nI_le (by omega) (by omega)) ?_
      have ev := cm_YBA (hv m (by omega))
      have e12 : (13 : Int32) * nI m + 12 = nI (13 * m + 12) := cm_13 m 12
      have e0 : (13 : Int32) * nI m + 0 = nI (13 * m + 0) := cm_13 m 0
      rw [nI_pred, e12, e0, nI_clamp (show 13 * m + 12 < 2 ^ 31 by omega), nI_clamp (show 13 * m + 0 < 2 ^ 31 by omega)]
      refine pk_eq N 0 (fun z => ?_) (fun z => ?_)
      · rw [if_pos z] at ev
        rw [ev]
        exact ⟨vp_in_nI (by omega) (by omega), cm_nb _, h va oa⟩
      · rw [if_neg z] at ev
        rw [ev]
        exact ⟨vp_in_nI (by omega) (by omega), cm_nb _, h va oa⟩
    | succ d ih =>
      intro p f va oa e hf hv ho
      obtain ⟨g, rfl⟩ : ∃ g, f = g + 1 := ⟨f - 1, by omega⟩
      have w1 := cm_wf1 w (show p + 1 ≤ m + 1 by omega)
      have wk := w1 p (by omega)
      have e2 := cm_dle o p
      have e3 := cm_d1 w1
      have e4 := cm_dS o p
      have G : ∀ (X Y : Int32), (cm_ar (o p) = 2 → X = nI (cm_ix o p (cm_d o p - 2))) → (1 ≤ cm_ar (o p) → Y = nI (cm_ix o p (cm_d o p - 1))) → wY_holdsFor_70 post (wY_holdsFor_4 post (nI N) ys yd yt (nI (m + 1)) yl g) (nI N) (nI (cm_d o p)) (nI p) (nI (o p)) Y X ys yd yt (nI (m + 1)) yl 14 0 dr fo cy va oa := by
        intro X Y hX hY
        refine cy_70 w1 (by omega) hN hX hY (fun va' hv' hp' => ih (p + 1) g va' _ (by omega) (by omega) (fun a ha => ?_) (fun j hj => ?_)) 13 0 14 va (by omega) (by omega) hv (fun j hj => absurd hj (Nat.not_lt_zero j))
        · by_cases z : a = p
          · rw [z]
            exact hp'
          · exact hv' a (by omega)
        · by_cases z : j = cm_d o (p + 1) - 1
          · rw [z, pk_us, cm_top w1]
          · rw [pk_un z, cm_ixn (by omega)]
            exact ho j (by omega)
      refine br_f (nI_ge (by omega) (by omega)) ⟨vp_in_nI (by omega) (by omega), nm_r (show fo (nI p).toNatClampNeg = nI (o p) by rw [nI_clamp (by omega), A p (by omega)]) ?_⟩
      rcases cm_8 wk.1 with h3 | h3 | h3 | h3 | h3 | h3
      · have ea := cm_ar0 h3
        refine br_t (nI_le (b := 2) (by omega) (by omega)) ?_
        exact br_t (nI_le (b := 3) (by omega) (by omega)) ⟨14, G _ _ (fun z => absurd z (by omega)) (fun z => absurd z (by omega))⟩
      · have ea := cm_ar1 (Or.inl h3)
        obtain ⟨q, eq⟩ : ∃ q, cm_d o p = q + 1 := ⟨cm_d o p - 1, by omega⟩
        have c1 : nI (cm_d o p) - 1 = nI (cm_d o p - 1) := by rw [eq, nI_pred, Nat.add_sub_cancel]
        refine br_f (by rw [h3]; decide) ⟨by rw [c1]; exact vp_in_nI (by omega) (by omega), ?_⟩
        refine br_t (by rw [h3]; decide) ⟨14, G _ _ (fun z => absurd z (by omega)) (fun _ => ?_)⟩
        rw [c1, nI_clamp (by omega)]
        exact ho _ (by omega)
      · have ea := cm_ar2b (Or.inl h3)
        obtain ⟨q, eq⟩ : ∃ q, cm_d o p = q + 2 := ⟨cm_d o p - 2, by omega⟩
        have c1 : nI (cm_d o p) - 1 = nI (cm_d o p - 1) := pk_sub (b := 1) (by omega)
        have c2 : nI (cm_d o p) - 2 = nI (cm_d o p - 2) := pk_sub (b := 2) (by omega)
        refine br_f (by rw [h3]; decide) ⟨by rw [c1]; exact vp_in_nI (by omega) (by omega), ?_⟩
        refine br_f (by rw [h3]; decide) (br_f (by rw [h3]; decide) ⟨by rw [c2]; exact vp_in_nI (by omega) (by omega), nm_e ⟨14, G _ _ (fun _ => ?_) (fun _ => ?_)⟩⟩)
        · rw [c2, nI_clamp (by omega)]
          exact ho _ (by omega)
        · rw [c1, nI_clamp (by omega)]
          exact ho _ (by omega)
      · have ea := cm_ar2b (Or.inr (Or.inl h3))
        obtain ⟨q, eq⟩ : ∃ q, cm_d o p = q + 2 := ⟨cm_d o p - 2, by omega⟩
        have c1 : nI (cm_d o p) - 1 = nI (cm_d o p - 1) := pk_sub (b := 1) (by omega)
        have c2 : nI (cm_d o p) - 2 = nI (cm_d o p - 2) := pk_sub (b := 2) (by omega)
        refine br_f (by rw [h3]; decide) ⟨by rw [c1]; exact vp_in_nI (by omega) (by omega), ?_⟩
        refine br_f (by rw [h3]; decide) (br_f (by rw [h3]; decide) ⟨by rw [c2]; exact vp_in_nI (by omega) (by omega), nm_e ⟨14, G _ _ (fun _ => ?_) (fun _ => ?_)⟩⟩)
        · rw [c2, nI_clamp (by omega)]
          exact ho _ (by omega)
        · rw [c1, nI_clamp (by omega)]
          exact ho _ (by omega)
      · have ea := cm_ar1 (Or.inr h3)
        have c1 : nI (cm_d o p) - 1 = nI (cm_d o p - 1) := pk_sub (b := 1) (by omega)
        refine br_f (by rw [h3]; decide) ⟨by rw [c1]; exact vp_in_nI (by omega) (by omega), ?_⟩
        refine br_f (by rw [h3]; decide) (br_t (by rw [h3]; decide) ⟨14, G _ _ (fun z => absurd z (by omega)) (fun _ => ?_)⟩)
        rw [c1, nI_clamp (by omega)]
        exact ho _ (by omega)
      · have ea := cm_ar2b (Or.inr (Or.inr h3))
        have c1 : nI (cm_d o p) - 1 = nI (cm_d o p - 1) := pk_sub (b := 1) (by omega)
        have c2 : nI (cm_d o p) - 2 = nI (cm_d o p - 2) := pk_sub (b := 2) (by omega)
        refine br_f (by rw [h3]; decide) ⟨by rw [c1]; exact vp_in_nI (by omega) (by omega), ?_⟩
        refine br_f (by rw [h3]; decide) (br_f (by rw [h3]; decide) ⟨by rw [c2]; exact vp_in_nI (by omega) (by omega), nm_e ⟨14, G _ _ (fun _ => ?_) (fun _ => ?_)⟩⟩)
        · rw [c2, nI_clamp (by omega)]
          exact ho _ (by omega)
        · rw [c1, nI_clamp (by omega)]
          exact ho _ (by omega)
  exact ⟨m + 2, L (m + 1) 0 (m + 2) va oa (by omega) (by omega) (fun a ha => absurd ha (Nat.not_lt_zero a)) (fun j hj => absurd hj (Nat.not_lt_zero j))⟩
theorem cy_hw {post : Int32 → SY → Prop} {o : Nat → Nat} {m L : Nat} {x : Int32} (hm : m < 16) (w : cm_WF o (m + 1)) (A : ∀ i, i < m + 1 → fo i = nI (o i)) (hL : L ≤ 10) (h : ∀ va' oa', post (cm_b (cm_A (cm_N o m) (upd cy L x) (L + 1))) (ys, yd, yt, nI (m + 1), nI L, dr, fo, upd cy L x, va', oa')) : wpY_holdsWith post (ys, yd, yt, nI (m + 1), nI L, dr, fo, cy, va, oa) x := by
  unfold wpY_holdsWith
  dsimp only
  refine ⟨vp_in_nI (by omega) (by omega), nm_r (show upd cy (nI L).toNatClampNeg x = upd cy L x by rw [nI_clamp (by omega)]) ?_⟩
  rw [nI_1 L]
  exact cy_hf hm w A (by omega) (fun va' oa' => ⟨cm_nb _, h va' oa'⟩)
end
