/-! the reference's walk: wouldHoldWith, soonest; define on both sides -/
section
variable {ys yd yt yz yl : Int32} {dr fo cy va oa : Nat → Int32}
theorem cy_ww {post : Int32 → SY → Prop} {o : Nat → Nat} {m L : Nat} (hm : m < 16) (w : cm_WF o (m + 1)) (A : ∀ i, i < m + 1 → fo i = nI (o i)) (hL : L ≤ 10) (h : ∀ c va' oa', (∀ i, i < L → c i = cy i) → post (nI (cm_ww (cm_A (cm_N o m)) cy L 8)) (ys, yd, yt, nI (m + 1), nI L, dr, fo, c, va', oa')) : wpY_wouldHoldWith post (ys, yd, yt, nI (m + 1), nI L, dr, fo, cy, va, oa) := by
  have M : ∀ d k f c va oa, k + d = 8 → d < f → (∀ i, i < L → c i = cy i) → wY_wouldHoldWith_4 post f (nI (cm_ww (cm_A (cm_N o m)) cy L k)) (nI k) ys yd yt (nI (m + 1)) (nI L) dr fo c va oa := by
    intro d
    induction d with
    | zero =>
      intro k f c va oa e hf hc
      obtain ⟨g, rfl⟩ : ∃ g, f = g + 1 := ⟨f - 1, by omega⟩
      have ek : k = 8 := by omega
      subst ek
      exact br_t (nI_le (a := 8) (b := 8) (by omega) (by omega)) (h c va oa hc)
    | succ d ih =>
      intro k f c va oa e hf hc
      obtain ⟨g, rfl⟩ : ∃ g, f = g + 1 := ⟨f - 1, by omega⟩
      refine br_f (nI_ge (b := 8) (by omega) (by omega)) (cy_hw hm w A hL (fun va' oa' => ?_))
      have e1 : cm_A (cm_N o m) (upd c L (nI k)) (L + 1) = cm_A (cm_N o m) (upd cy L (nI k)) (L + 1) := cm_AL _ _ _ (cm_ag3 hc)
      rw [e1]
      have J := ih (k + 1) g (upd c L (nI k)) va' oa' (by omega) (by omega) (cm_ag1 hc)
      by_cases z : cm_A (cm_N o m) (upd cy L (nI k)) (L + 1) = true
      · have ew : cm_ww (cm_A (cm_N o m)) cy L (k + 1) = cm_ww (cm_A (cm_N o m)) cy L k + 2 ^ k := if_pos z
        have q := (cm_w8 k (by omega) _ (cm_wwlt (cm_A (cm_N o m)) cy L k)).2
        rw [ew] at J
        rw [z]
        exact br_f (by decide) (nm_r q (nm_r (nI_1 k) J))
      · have ew : cm_ww (cm_A (cm_N o m)) cy L (k + 1) = cm_ww (cm_A (cm_N o m)) cy L k := if_neg z
        rw [ew] at J
        rw [show cm_A (cm_N o m) (upd cy L (nI k)) (L + 1) = false from by cases q : cm_A (cm_N o m) (upd cy L (nI k)) (L + 1) with | true => exact absurd q z | false => rfl]
        exact br_t rfl (nm_r (nI_1 k) J)
  exact ⟨9, M 8 0 9 cy va oa (by omega) (by omega) (fun i hi => rfl)⟩
theorem cy_41 {post : Int32 → SY → Prop} {o : Nat → Nat} {m L : Nat} {wd : Int32} (hm : m < 16) (w : cm_WF o (m + 1)) (A : ∀ i, i < m + 1 → fo i = nI (o i)) (hL : L ≤ 10) (h2 : ∀ a b c va' oa', a < 8 → b < 8 → cm_b (cm_A (cm_N o m) (upd (upd cy L (nI a)) (L + 1) (nI b)) (L + 2)) = wd → (∀ i, i < L → c i = cy i) → post 2 (ys, yd, yt, nI (m + 1), nI L, dr, fo, c, va', oa'))
    (h4 : ∀ c va' oa', (∀ a b, a < 8 → b < 8 → ¬ cm_b (cm_A (cm_N o m) (upd (upd cy L (nI a)) (L + 1) (nI b)) (L + 2)) = wd) → (∀ i, i < L → c i = cy i) → post (-4) (ys, yd, yt, nI (m + 1), nI L, dr, fo, c, va', oa')) : ∀ d k f c va oa, k + d = 64 → d < f → (∀ i, i < L → c i = cy i) → (∀ a b, a < 8 → b < 8 → 8 * a + b < k → ¬ cm_b (cm_A (cm_N o m) (upd (upd cy L (nI a)) (L + 1) (nI b)) (L + 2)) = wd) → wY_soonestThat_41 post wd f (nI k) ys yd yt (nI (m + 1)) (nI L) dr fo c va oa := by
  intro d
  induction d with
  | zero =>
    intro k f c va oa e hf hc ha
    obtain ⟨g, rfl⟩ : ∃ g, f = g + 1 := ⟨f - 1, by omega⟩
    have ek : k = 64 := by omega
    subst ek
    exact br_t (nI_le (a := 64) (b := 64) (by omega) (by omega)) (h4 c va oa (fun a b ha' hb' => ha a b ha' hb' (by omega)) hc)
  | succ d ih =>
    intro k f c va oa e hf hc ha
    obtain ⟨g, rfl⟩ : ∃ g, f = g + 1 := ⟨f - 1, by omega⟩
    refine br_f (nI_ge (b := 64) (by omega) (by omega)) ?_
    have q1 : nI k / 8 = nI (k / 8) := pk_div (d := 8) (by omega) (by omega) (by omega)
    have q2 : nI k - nI (k / 8) * 8 = nI (k % 8) := by rw [← q1]; exact pk_rem (d := 8) (by omega) (by omega) (by omega)
    rw [q1, q2, nI_1 L, nI_clamp (show L < 2 ^ 31 by omega), nI_clamp (show L + 1 < 2 ^ 31 by omega), cm_2 L]
    refine ⟨by decide, vp_in_nI (by omega) (by omega), nm_e ⟨by decide, vp_in_nI (by omega) (by omega), nm_e (cy_hf hm w A (by omega) (fun va' oa' => ?_))⟩⟩
    have e1 : cm_A (cm_N o m) (upd (upd c L (nI (k / 8))) (L + 1) (nI (k % 8))) (L + 2) = cm_A (cm_N o m) (upd (upd cy L (nI (k / 8))) (L + 1) (nI (k % 8))) (L + 2) := cm_AL _ _ _ (cm_ag4 (cm_ag1 hc) pk_us)
    rw [e1]
    refine br_c (fun z => h2 (k / 8) (k % 8) _ va' oa' (by omega) (by omega) z (cm_ag2 (cm_ag1 hc))) (fun z => nm_r (nI_1 k) (ih (k + 1) g _ va' oa' (by omega) (by omega) (cm_ag2 (cm_ag1 hc)) (fun a b ha' hb' hk => ?_)))
    by_cases y : 8 * a + b = k
    · rw [show a = k / 8 by omega, show b = k % 8 by omega]
      exact z
    · exact ha a b ha' hb' (by omega)
theorem cy_so {post : Int32 → SY → Prop} {o : Nat → Nat} {m L : Nat} {wd : Int32} (hm : m < 16) (w : cm_WF o (m + 1)) (A : ∀ i, i < m + 1 → fo i = nI (o i)) (hL : L ≤ 10) (h : ∀ r c va' oa', (∀ i, i < L → c i = cy i) → cm_So (cm_A (cm_N o m)) cy L wd r → post r (ys, yd, yt, nI (m + 1), nI L, dr, fo, c, va', oa')) : wpY_soonestThat post (ys, yd, yt, nI (m + 1), nI L, dr, fo, cy, va, oa) wd := by
  unfold wpY_soonestThat
  dsimp only
  refine cy_hf hm w A (by omega) (fun va1 oa1 => ?_)
  refine br_c (fun z => h 0 cy va1 oa1 (fun i hi => rfl) (Or.inl ⟨rfl, z⟩)) (fun z0 => ⟨9, ?_⟩)
  have M : ∀ d k f c va oa, k + d = 8 → d < f → (∀ i, i < L → c i = cy i) → (∀ a, a < k → ¬ cm_b (cm_A (cm_N o m) (upd cy L (nI a)) (L + 1)) = wd) → wY_soonestThat_16 post wd f (nI k) ys yd yt (nI (m + 1)) (nI L) dr fo c va oa := by
    intro d
    induction d with
    | zero =>
      intro k f c va oa e hf hc hk
      obtain ⟨g, rfl⟩ : ∃ g, f = g + 1 := ⟨f - 1, by omega⟩
      have ek : k = 8 := by omega
      subst ek
      refine br_t (nI_le (a := 8) (b := 8) (by omega) (by omega)) ⟨65, ?_⟩
      exact cy_41 (cy := cy) hm w A hL (fun a b c va' oa' ha hb hw hc' => h 2 c va' oa' hc' (Or.inr (Or.inr (Or.inl ⟨rfl, z0, hk, a, b, ha, hb, hw⟩)))) (fun c va' oa' hab hc' => h (-4) c va' oa' hc' (Or.inr (Or.inr (Or.inr ⟨rfl, z0, hk, hab⟩)))) 64 0 65 c va oa (by omega) (by omega) hc (fun a b _ _ hk' => absurd hk' (Nat.not_lt_zero _))
    | succ d ih =>
      intro k f c va oa e hf hc hk
      obtain ⟨g, rfl⟩ : ∃ g, f = g + 1 := ⟨f - 1, by omega⟩
      refine br_f (nI_ge (b := 8) (by omega) (by omega)) (cy_hw hm w A hL (fun va' oa' => ?_))
      have e1 : cm_A (cm_N o m) (upd c L (nI k)) (L + 1) = cm_A (cm_N o m) (upd cy L (nI k)) (L + 1) := cm_AL _ _ _ (cm_ag3 hc)
      rw [e1]
      exact br_c (fun z => h 1 _ va' oa' (cm_ag1 hc) (Or.inr (Or.inl ⟨rfl, z0, k, by omega, z⟩))) (fun z => nm_r (nI_1 k) (ih (k + 1) g _ va' oa' (by omega) (by omega) (cm_ag1 hc) (lt_s hk z)))
  exact M 8 0 9 cy va1 oa1 (by omega) (by omega) (fun i hi => rfl) (fun a ha => absurd ha (Nat.not_lt_zero a))
/-- where the top formula begins -/
theorem cy_tb {post : Int32 → Prop} {o : Nat → Nat} {s D : Nat} (w : cm_WF o s) (hs : s ≤ 16) (hD : cm_d o s = D + 1) (A : ∀ i, i < s → dr i = nI (o i)) (h : ∀ a, a ≤ s → cm_d o a = D → (∀ q, a < q → q ≤ s → D + 1 ≤ cm_d o q) → post (nI a)) : wpY_topBegin post (nI s, yd, yt, yz, yl, dr, fo, cy, va, oa) := by
  have M : ∀ a f mi, a < f → a ≤ s → cm_d o a = D + mi → (∀ q, a < q → q ≤ s → D + 1 ≤ cm_d o q) → wY_topBegin_7 post (nI s) yd yt yz yl dr fo cy va oa f (nI a) (nI mi) := by
    intro a
    induction a with
    | zero =>
      intro f mi hf ha e hq
      obtain ⟨g, rfl⟩ : ∃ g, f = g + 1 := ⟨f - 1, by omega⟩
      have z : cm_d o 0 = 0 := rfl
      exact br_t (nI_le (b := 0) (by omega) (by omega)) (h 0 ha (by omega) hq)
    | succ a ih =>
      intro f mi hf ha e hq
      obtain ⟨g, rfl⟩ : ∃ g, f = g + 1 := ⟨f - 1, by omega⟩
      refine br_f (nI_nle (by omega) (by omega)) ?_
      refine pk_le mi 0 (fun z => h (a + 1) ha (by omega) hq) (fun z => ?_) rfl rfl (by have := cm_dle o (a + 1); omega) (by omega)
      refine nm_r (pk_m1 a) ⟨vp_in_nI (by omega) (by omega), nm_r (show dr (nI a).toNatClampNeg = nI (o a) by rw [nI_clamp (by omega), A a (by omega)]) ?_⟩
      have wk := w a (by omega)
      have e1 := cm_dS o a
      have hq' : ∀ q, a < q → q ≤ s → D + 1 ≤ cm_d o q := by
        intro q h1 h2
        by_cases y : q = a + 1
        · rw [y]; omega
        · exact hq q (by omega) h2
      rcases cm_8 wk.1 with h3 | h3 | h3 | h3 | h3 | h3
      · have ea := cm_ar0 h3
        obtain ⟨r, rfl⟩ : ∃ r, mi = r + 1 := ⟨mi - 1, by omega⟩
        exact br_f (nI_ge (b := 3) h3 (by omega)) (nm_r (nI_pred r) (ih g r (by omega) (by omega) (by omega) hq'))
      · have ea := cm_ar1 (Or.inl h3)
        rw [h3]
        exact br_t (by decide) (br_f (by decide) (br_f (by decide) (br_f (by decide) (ih g mi (by omega) (by omega) (by omega) hq'))))
      · have ea := cm_ar2b (Or.inl h3)
        rw [h3]
        exact br_t (by decide) (br_t (by decide) (nm_r (nI_1 mi) (ih g (mi + 1) (by omega) (by omega) (by omega) hq')))
      · have ea := cm_ar2b (Or.inr (Or.inl h3))
        rw [h3]
        exact br_t (by decide) (br_f (by decide) (br_t (by decide) (nm_r (nI_1 mi) (ih g (mi + 1) (by omega) (by omega) (by omega) hq'))))
      · have ea := cm_ar1 (Or.inr h3)
        rw [h3]
        exact br_t (by decide) (br_f (by decide) (br_f (by decide) (br_f (by decide) (ih g mi (by omega) (by omega) (by omega) hq'))))
      · have ea := cm_ar2b (Or.inr (Or.inr h3))
        rw [h3]
        exact br_t (by decide) (br_f (by decide) (br_f (by decide) (br_t (by decide) (nm_r (nI_1 mi) (ih g (mi + 1) (by omega) (by omega) (by omega) hq')))))
  exact ⟨s + 1, M s (s + 1) 1 (by omega) (by omega) hD (fun q h1 h2 => absurd h1 (by omega))⟩
theorem cy_df {post : Int32 → SY → Prop} {o : Nat → Nat} {s D : Nat} (w : cm_WF o s) (hs : s ≤ 16) (hD : cm_d o s = D + 1) (hD6 : D < 6) (A : ∀ i, i < s → dr i = nI (o i)) (h : ∀ oY m fo', cm_WF oY (m + 1) → m < 16 → (∀ i, i < m + 1 → fo' i = nI (oY i)) → cm_N o (s - 1) = cm_N oY m → post (nI (D + 1)) (0, 0, 0, nI (m + 1), yl, dr, fo', cy, va, oa)) : wpY_define post (nI s, nI (D + 1), yt, yz, yl, dr, fo, cy, va, oa) := by
  unfold wpY_define
  dsimp only
  refine br_f (nI_ne0 (by omega) (by omega)) (cy_tb w hs hD A (fun a ha ea hq => ?_))
  obtain ⟨h1, h2, h3⟩ := cm_def w ha hD ea hq
  obtain ⟨m, em⟩ : ∃ m, s - a = m + 1 := ⟨s - a - 1, by omega⟩
  rw [em] at h2 h3
  refine nm_r (show nI s - nI a = nI (m + 1) by rw [pk_sub (by omega), em]) ⟨m + 2, ?_⟩
  have M : ∀ d k f fo, k + d = m + 1 → d < f → (∀ i, i < k → fo i = nI (o (a + i))) → wY_define_32 post (nI (D + 1)) (nI a) (nI s) (nI (D + 1)) yt (nI (m + 1)) yl f (nI k) dr fo cy va oa := by
    intro d
    induction d with
    | zero =>
      intro k f fo e hf hk
      obtain ⟨g, rfl⟩ : ∃ g, f = g + 1 := ⟨f - 1, by omega⟩
      refine br_t (nI_le (by omega) (by omega)) ?_
      exact h (fun q => o (a + q)) m fo h2 (by omega) (fun i hi => hk i (by omega)) h3
    | succ d ih =>
      intro k f fo e hf hk
      obtain ⟨g, rfl⟩ : ∃ g, f = g + 1 := ⟨f - 1, by omega⟩
      refine br_f (nI_ge (by omega) (by omega)) ?_
      rw [nI_add a k, nI_clamp (show a + k < 2 ^ 31 by omega), nI_clamp (show k < 2 ^ 31 by omega)]
      refine ⟨vp_in_nI (by omega) (by omega), vp_in_nI (by omega) (by omega), nm_e (nm_r (nI_1 k) (ih (k + 1) g _ (by omega) (by omega) (fun i hi => ?_)))⟩
      by_cases y : i = k
      · rw [y, pk_us, A (a + k) (by omega)]
      · rw [pk_un y]
        exact hk i (by omega)
  exact M (m + 1) 0 (m + 2) fo (by omega) (by omega) (fun i hi => absurd hi (Nat.not_lt_zero i))
end
section
variable {sc tc ss us cl : Int32} {ka la ra sa uk ul ur co pl : Nat → Int32}
theorem cx_df {post : Int32 → SX → Prop} {s D : Nat} (hs : s ≤ 16) (hD6 : D < 6) (h : ∀ uk' ul' ur', (∀ i, i < s → uk' i = ka i ∧ ul' i = la i ∧ ur' i = ra i) → post (nI (D + 1)) (0, 0, 0, nI s, cl, ka, la, ra, sa, uk', ul', ur', co, pl)) : wpX_define post (nI s, tc, nI (D + 1), us, cl, ka, la, ra, sa, uk, ul, ur, co, pl) := by
  unfold wpX_define
  dsimp only
  refine br_t (nI_le (a := 1) (by omega) (by omega)) ⟨s + 1, ?_⟩
  have M : ∀ d k f uk ul ur, k + d = s → d < f → (∀ i, i < k → uk i = ka i ∧ ul i = la i ∧ ur i = ra i) → wX_define_13 post (nI s) tc (nI (D + 1)) us cl f (nI k) ka la ra sa uk ul ur co pl := by
    intro d
    induction d with
    | zero =>
      intro k f uk ul ur e hf hk
      obtain ⟨g, rfl⟩ : ∃ g, f = g + 1 := ⟨f - 1, by omega⟩
      refine br_t (nI_le (by omega) (by omega)) ?_
      exact h uk ul ur (fun i hi => hk i (by omega))
    | succ d ih =>
      intro k f uk ul ur e hf hk
      obtain ⟨g, rfl⟩ : ∃ g, f = g + 1 := ⟨f - 1, by omega⟩
      have hi : vp_in (nI k) 16 := vp_in_nI (by omega) (by omega)
      refine br_f (nI_ge (by omega) (by omega)) ?_
      rw [nI_clamp (show k < 2 ^ 31 by omega)]
      refine ⟨hi, hi, nm_e ⟨hi, hi, nm_e ⟨hi, hi, nm_e (nm_r (nI_1 k) (ih (k + 1) g _ _ _ (by omega) (by omega) (fun i hi => ?_)))⟩⟩⟩
      by_cases y : i = k
      · rw [y, pk_us, pk_us, pk_us]
        exact ⟨rfl, rfl, rfl⟩
      · rw [pk_un y, pk_un y, pk_un y]
        exact hk i (by omega)
  exact M s 0 (s + 1) uk ul ur (by omega) (by omega) (fun i hi => absurd hi (Nat.not_lt_zero i))
end
