/-! the component's walk: the sets of places -/
section
variable {sc tc ss us cl : Int32} {ka la ra sa uk ul ur co pl : Nat → Int32}
theorem cx_pf {post : Int32 → Prop} {o N : Nat} (ho : o < 3) (hN : N ≤ 12) (h : ∀ v, (∀ i, i < 32 → bt v i = (decide (i < N) && bt (co i) o)) → post v) : wpX_placesOfFact post (sc, tc, ss, us, cl, ka, la, ra, sa, uk, ul, ur, co, pl) (nI o) (nI N) := by
  have L : ∀ d k f v, k + d = N → d < f → (∀ i, i < 32 → bt v i = (decide (i < k) && bt (co i) o)) → wX_placesOfFact_5 post (nI o) (nI N) sc tc ss us cl ka la ra sa uk ul ur co pl f v (nI k) := by
    intro d
    induction d with
    | zero =>
      intro k f v e hf hv
      obtain ⟨g, rfl⟩ : ∃ g, f = g + 1 := ⟨f - 1, by omega⟩
      have ek : k = N := by omega
      subst ek
      exact br_t (nI_le (Nat.le_refl _) (by omega)) (h v hv)
    | succ d ih =>
      intro k f v e hf hv
      obtain ⟨g, rfl⟩ : ∃ g, f = g + 1 := ⟨f - 1, by omega⟩
      refine br_f (nI_ge (by omega) (by omega)) ⟨vp_in_nI (by omega) (by omega), ?_⟩
      refine nm_e (nm_r (nI_1 k) ?_)
      refine ih (k + 1) g _ (by omega) (by omega) ?_
      rw [nI_clamp (by omega)]
      exact cm_f1 (by omega) ho hv
  exact ⟨N + 1, L N 0 (N + 1) 0 (by omega) (by omega) (fun i hi => by rw [b_0, decide_eq_false (Nat.not_lt_zero i), Bool.false_and])⟩
theorem cx_pu {post : Int32 → Prop} {x y : cm_V} {c : Nat → Int32} {N : Nat} {wx wy : Int32} (hN : N ≤ 12) (hx : cm_XB x c N wx) (hy : cm_XB y c N wy) (h : ∀ v, (∀ i, i < 32 → bt v i = (decide (i < N) && cm_un (x c N) (y c N) (N - i) i)) → post v) : wpX_placesOfUntil post wx wy (nI N) := by
  have L : ∀ k f v z, z = nI k + (-1) → k < f → k ≤ N → (∀ i, i < 32 → bt v i = (decide (k ≤ i ∧ i < N) && cm_un (x c N) (y c N) (N - i) i)) → wX_placesOfUntil_7 post wx wy f v z := by
    intro k
    induction k with
    | zero =>
      intro f v z ez hf hk hv
      obtain ⟨g, rfl⟩ : ∃ g, f = g + 1 := ⟨f - 1, by omega⟩
      subst ez
      refine br_t (by decide) (h v (fun i hi => ?_))
      rw [hv i hi, show decide (0 ≤ i ∧ i < N) = decide (i < N) from by simp]
    | succ k ih =>
      intro f v z ez hf hk hv
      obtain ⟨g, rfl⟩ : ∃ g, f = g + 1 := ⟨f - 1, by omega⟩
      rw [pk_m1] at ez
      subst ez
      exact br_f (nI_pos (by omega)) (nm_e (nm_e (ih g _ _ rfl (by omega) (by omega) (cm_u1 hN (by omega) hx hy hv))))
  refine nm_r (Int32.sub_eq_add_neg (a := nI N) (b := 1)) ⟨N + 1, L N (N + 1) 0 _ rfl (by omega) (by omega) (fun i hi => ?_)⟩
  rw [b_0, decide_eq_false (by omega), Bool.false_and]
theorem cx_ap {post : Int32 → Prop} {N : Nat} (hN : N ≤ 12) (h : ∀ v, (∀ i, i < 32 → bt v i = decide (i < cm_m N)) → post v) : wpX_allPlaces post (nI N) := by
  refine pk_eq N 0 (fun e => h 1 (fun i hi => ?_)) (fun e => h _ (fun i hi => ?_))
  · rw [cm_1 i hi, e]
    show decide (i = 0) = decide (i < 1)
    by_cases z : i = 0
    · rw [decide_eq_true z, decide_eq_true (by omega)]
    · rw [decide_eq_false z, decide_eq_false (by omega)]
  · rw [cm_all N (by omega) i hi]
    unfold cm_m
    rw [if_neg e]
theorem cx_po {post : Int32 → Prop} {o : Nat → Nat} {k n N : Nat} (hk : k < n + 1) (hn : n < 16) (w : cm_WF o (n + 1)) (A : cm_XA o (n + 1) uk ul ur) (hN : N ≤ 12) (hp : ∀ a, a < k → cm_XB (cm_N o a) co N (pl a)) (h : ∀ r, cm_XB (cm_N o k) co N r → post r) : wpX_placesOf post (sc, tc, ss, us, cl, ka, la, ra, sa, uk, ul, ur, co, pl) (nI k) (nI N) := by
  obtain ⟨a1, a2, a3⟩ := A k hk
  have wk := (w k hk).1
  have hi : vp_in (nI k) 16 := vp_in_nI (by omega) (by omega)
  have w1 := cm_wf1 w (show k + 1 ≤ n + 1 by omega)
  have ck : (nI k).toNatClampNeg = k := nI_clamp (by omega)
  unfold wpX_placesOf
  dsimp only
  rw [ck]
  rcases cm_8 wk with h3 | h3 | h3 | h3 | h3 | h3
  · have b1 : uk k = nI 0 := by rw [a1, show cm_kd (o k) = 0 from if_pos h3]
    have b2 : ul k = nI (o k) := by rw [a2, show cm_lf o k = o k from if_pos h3]
    refine ⟨hi, nm_r b2 ⟨hi, nm_e ⟨hi, nm_r b1 ?_⟩⟩⟩
    refine br_f (by decide) (br_f (by decide) (br_t (by decide) ?_))
    exact cx_pf h3 hN (fun v hv => h v (cm_xb0 h3 hv))
  · obtain ⟨b, x, hb, el, _, _, eN⟩ := cm_nd1 w1 (cm_ar1 (Or.inl h3)) (by omega)
    have b1 : uk k = nI 1 := by rw [a1, h3]; rfl
    have b2 : ul k = nI b := by rw [a2, el]
    have cb : (nI b).toNatClampNeg = b := nI_clamp (by omega)
    have ib : vp_in (nI b) 16 := vp_in_nI (by omega) (by omega)
    refine ⟨hi, nm_r b2 ⟨hi, nm_e ⟨hi, nm_r b1 ?_⟩⟩⟩
    refine br_f (by decide) (br_f (by decide) (br_f (by decide) (br_t (by decide) ?_)))
    rw [cb]
    refine cx_ap hN (fun v hv => ⟨ib, h _ ?_⟩)
    rw [eN, h3]
    exact cm_xb3 (hp b hb) (fun i hi => by rw [b_and, hv i hi, b_xor, b_m1 i hi, Bool.xor_true])
  · obtain ⟨a, b, ha, hb, el, _, _, er, eN⟩ := cm_nd2 w1 (cm_ar2b (Or.inl h3)) (by omega)
    have b1 : uk k = nI 2 := by rw [a1, h3]; rfl
    have b2 : ul k = nI a := by rw [a2, el]
    have b3 : ur k = nI b := by rw [a3 (cm_ar2b (Or.inl h3)), er]
    have ca : (nI a).toNatClampNeg = a := nI_clamp (by omega)
    have cb : (nI b).toNatClampNeg = b := nI_clamp (by omega)
    have ia : vp_in (nI a) 16 := vp_in_nI (by omega) (by omega)
    have ib : vp_in (nI b) 16 := vp_in_nI (by omega) (by omega)
    refine ⟨hi, nm_r b2 ⟨hi, nm_r b3 ⟨hi, nm_r b1 ?_⟩⟩⟩
    refine br_f (by decide) (br_f (by decide) (br_f (by decide) (br_f (by decide) (br_t (by decide) ⟨ia, ib, h _ ?_⟩))))
    rw [ca, cb, eN, h3]
    exact cm_xb4 (hp a ha) (hp b hb)
  · obtain ⟨a, b, ha, hb, el, _, _, er, eN⟩ := cm_nd2 w1 (cm_ar2b (Or.inr (Or.inl h3))) (by omega)
    have b1 : uk k = nI 3 := by rw [a1, h3]; rfl
    have b2 : ul k = nI a := by rw [a2, el]
    have b3 : ur k = nI b := by rw [a3 (cm_ar2b (Or.inr (Or.inl h3))), er]
    have ca : (nI a).toNatClampNeg = a := nI_clamp (by omega)
    have cb : (nI b).toNatClampNeg = b := nI_clamp (by omega)
    have ia : vp_in (nI a) 16 := vp_in_nI (by omega) (by omega)
    have ib : vp_in (nI b) 16 := vp_in_nI (by omega) (by omega)
    refine ⟨hi, nm_r b2 ⟨hi, nm_r b3 ⟨hi, nm_r b1 ?_⟩⟩⟩
    refine br_f (by decide) (br_f (by decide) (br_f (by decide) (br_f (by decide) (br_f (by decide) (br_t (by decide) ⟨ia, ib, h _ ?_⟩)))))
    rw [ca, cb, eN, h3]
    exact cm_xb5 (hp a ha) (hp b hb)
  · obtain ⟨b, x, hb, el, _, _, eN⟩ := cm_nd1 w1 (cm_ar1 (Or.inr h3)) (by omega)
    have b1 : uk k = nI 4 := by rw [a1, h3]; rfl
    have b2 : ul k = nI b := by rw [a2, el]
    have cb : (nI b).toNatClampNeg = b := nI_clamp (by omega)
    have ib : vp_in (nI b) 16 := vp_in_nI (by omega) (by omega)
    refine ⟨hi, nm_r b2 ⟨hi, nm_e ⟨hi, nm_r b1 ?_⟩⟩⟩
    refine br_f (by decide) (br_f (by decide) (br_f (by decide) (br_f (by decide) (br_f (by decide) (br_f (by decide) (br_t (by decide) ⟨ib, h _ ?_⟩))))))
    rw [cb, eN, h3]
    exact cm_xb6 hN (hp b hb)
  · obtain ⟨a, b, ha, hb, el, _, _, er, eN⟩ := cm_nd2 w1 (cm_ar2b (Or.inr (Or.inr h3))) (by omega)
    have b1 : uk k = nI 5 := by rw [a1, h3]; rfl
    have b2 : ul k = nI a := by rw [a2, el]
    have b3 : ur k = nI b := by rw [a3 (cm_ar2b (Or.inr (Or.inr h3))), er]
    have ca : (nI a).toNatClampNeg = a := nI_clamp (by omega)
    have cb : (nI b).toNatClampNeg = b := nI_clamp (by omega)
    have ia : vp_in (nI a) 16 := vp_in_nI (by omega) (by omega)
    have ib : vp_in (nI b) 16 := vp_in_nI (by omega) (by omega)
    refine ⟨hi, nm_r b2 ⟨hi, nm_r b3 ⟨hi, nm_r b1 ?_⟩⟩⟩
    refine br_f (by decide) (br_t (by decide) ⟨ia, ib, ?_⟩)
    rw [ca, cb]
    refine cx_pu hN (hp a ha) (hp b hb) (fun v hv => h v ?_)
    rw [eN, h3]
    exact cm_xb7 hv
theorem cx_hf {post : Int32 → SX → Prop} {o : Nat → Nat} {n N : Nat} (hn : n < 16) (w : cm_WF o (n + 1)) (A : cm_XA o (n + 1) uk ul ur) (hN : N ≤ 12) (h : ∀ pl', post (cm_b (cm_A (cm_N o n) co N)) (sc, tc, ss, nI (n + 1), cl, ka, la, ra, sa, uk, ul, ur, co, pl')) : wpX_holdsForFirst post (sc, tc, ss, nI (n + 1), cl, ka, la, ra, sa, uk, ul, ur, co, pl) (nI N) := by
  have L : ∀ d k f pl, k + d = n + 1 → d < f → (∀ a, a < k → cm_XB (cm_N o a) co N (pl a)) → wX_holdsForFirst_2 post (nI N) sc tc ss (nI (n + 1)) cl f (nI k) ka la ra sa uk ul ur co pl := by
    intro d
    induction d with
    | zero =>
      intro k f pl e hf hp
      obtain ⟨g, rfl⟩ : ∃ g, f = g + 1 := ⟨f - 1, by omega⟩
      refine br_t (nI_le (by omega) (by omega)) ?_
      rw [nI_pred, nI_clamp (by omega), cm_xbA (hp n (by omega))]
      exact ⟨vp_in_nI (by omega) (by omega), cm_br (P := fun r => post r (sc, tc, ss, nI (n + 1), cl, ka, la, ra, sa, uk, ul, ur, co, pl)) (h pl)⟩
    | succ d ih =>
      intro k f pl e hf hp
      obtain ⟨g, rfl⟩ : ∃ g, f = g + 1 := ⟨f - 1, by omega⟩
      refine br_f (nI_ge (by omega) (by omega)) (cx_po (n := n) (by omega) hn w A hN hp (fun r hr => ⟨vp_in_nI (by omega) (by omega), nm_r (show upd pl (nI k).toNatClampNeg r = upd pl k r by rw [nI_clamp (by omega)]) (nm_r (nI_1 k) (ih (k + 1) g _ (by omega) (by omega) (fun a ha => ?_)))⟩))
      by_cases z : a = k
      · rw [z, pk_us]
        exact hr
      · rw [pk_un z]
        exact hp a (by omega)
  exact ⟨n + 2, L (n + 1) 0 (n + 2) pl (by omega) (by omega) (fun a ha => absurd ha (Nat.not_lt_zero a))⟩
theorem cx_fb {post : Int32 → SX → Prop} {o : Nat → Nat} {n L : Nat} {x : Int32} (hn : n < 16) (w : cm_WF o (n + 1)) (A : cm_XA o (n + 1) uk ul ur) (hL : L ≤ 10) (h : ∀ pl', post (cm_b (cm_A (cm_N o n) (upd co L x) (L + 1))) (sc, tc, ss, nI (n + 1), nI L, ka, la, ra, sa, uk, ul, ur, upd co L x, pl')) : wpX_holdsFollowedBy post (sc, tc, ss, nI (n + 1), nI L, ka, la, ra, sa, uk, ul, ur, co, pl) x := by
  unfold wpX_holdsFollowedBy
  dsimp only
  refine ⟨vp_in_nI (by omega) (by omega), nm_r (show upd co (nI L).toNatClampNeg x = upd co L x by rw [nI_clamp (by omega)]) ?_⟩
  rw [nI_1 L]
  exact cx_hf hn w A (by omega) (fun pl' => ⟨cm_nb _, h pl'⟩)
end
