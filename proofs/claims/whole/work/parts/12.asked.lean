/-! what is owed, the questions -/
theorem i_vc_holds {k : Nat} {u : SX} {v : SY} (I : i_Rel k u v) (hk : k + 2 ≤ 1024) : wpX_holds (fun r u' => wpY_holds (fun r' v' => r' = r ∧ i_Rel (k + 2) u' v') v) u := by
  obtain ⟨sc, tc, ss, us, cl, ka, la, ra, sa, uk, ul, ur, co, pl⟩ := u
  obtain ⟨ys, yd, yt, yz, yl, dr, fo, cy, va, oa⟩ := v
  have J := I
  obtain ⟨RD, ⟨oX, oY, n, m, wX, hn, rfl, AX, wY, hm, rfl, AY, eN⟩, L, hL, rfl, rfl, hc⟩ := I
  refine cx_hf hn wX AX (by omega) (fun pl' => ⟨cm_nb _, ?_⟩)
  refine cy_hf hm wY AY (by omega) (fun va' oa' => ⟨cm_nb _, ?_, J⟩)
  rw [eN]
  exact congrArg cm_b (cm_AL _ _ _ hc).symm
theorem i_vc_heldAfter {k : Nat} {u : SX} {v : SY} (I : i_Rel k u v) (hk : k + 2 ≤ 1024) (v1 : Int32) : wpX_heldAfter (fun r u' => wpY_heldAfter (fun r' v' => r' = r ∧ i_Rel (k + 2) u' v') v v1) u v1 := by
  obtain ⟨sc, tc, ss, us, cl, ka, la, ra, sa, uk, ul, ur, co, pl⟩ := u
  obtain ⟨ys, yd, yt, yz, yl, dr, fo, cy, va, oa⟩ := v
  have J := I
  obtain ⟨RD, ⟨oX, oY, n, m, wX, hn, rfl, AX, wY, hm, rfl, AY, eN⟩, L, hL, rfl, rfl, hc⟩ := I
  by_cases h0 : v1 < 0
  · exact br_t h0 (br_t h0 ⟨rfl, J⟩)
  · obtain ⟨j, hj, rfl⟩ := nI_of h0
    by_cases h1 : L < j
    · have a1 : nI L < nI j := nI_lt h1 hj
      exact br_f h0 (br_t a1 (br_f h0 (br_t a1 ⟨rfl, J⟩)))
    · have a1 : ¬ nI L < nI j := nI_nlt (by omega) (by omega)
      refine br_f h0 (br_f a1 (cx_hf hn wX AX (by omega) (fun pl' => ?_)))
      have e : cm_A (cm_N oX n) co j = cm_A (cm_N oY m) cy j := by
        rw [eN]
        exact cm_AL _ _ _ (fun i hi => hc i (by omega))
      rw [e]
      have H : ∀ r, r = cm_b (cm_A (cm_N oY m) cy j) → wpY_heldAfter (fun r' v' => r' = r ∧ i_Rel (k + 2) (sc, tc, ss, nI (n + 1), nI L, ka, la, ra, sa, uk, ul, ur, co, pl') v') (ys, yd, yt, nI (m + 1), nI L, dr, fo, cy, va, oa) (nI j) := by
        intro r er
        refine br_f h0 (br_f a1 (cy_hf hm wY AY (by omega) (fun va' oa' => ?_)))
        rw [er]
        exact cm_br (P := fun q => q = cm_b (cm_A (cm_N oY m) cy j) ∧ i_Rel (k + 2) (sc, tc, ss, nI (n + 1), nI L, ka, la, ra, sa, uk, ul, ur, co, pl') (ys, yd, yt, nI (m + 1), nI L, dr, fo, cy, va', oa')) ⟨rfl, J⟩
      exact cm_br (P := fun q => wpY_heldAfter (fun r' v' => r' = q ∧ i_Rel (k + 2) (sc, tc, ss, nI (n + 1), nI L, ka, la, ra, sa, uk, ul, ur, co, pl') v') (ys, yd, yt, nI (m + 1), nI L, dr, fo, cy, va, oa) (nI j)) (H _ rfl)
theorem i_vc_wouldHold {k : Nat} {u : SX} {v : SY} (I : i_Rel k u v) (hk : k + 2 ≤ 1024) (v1 : Int32) : wpX_wouldHold (fun r u' => wpY_wouldHold (fun r' v' => r' = r ∧ i_Rel (k + 2) u' v') v v1) u v1 := by
  obtain ⟨sc, tc, ss, us, cl, ka, la, ra, sa, uk, ul, ur, co, pl⟩ := u
  obtain ⟨ys, yd, yt, yz, yl, dr, fo, cy, va, oa⟩ := v
  have J := I
  obtain ⟨RD, ⟨oX, oY, n, m, wX, hn, rfl, AX, wY, hm, rfl, AY, eN⟩, L, hL, rfl, rfl, hc⟩ := I
  unfold wpX_wouldHold
  dsimp only
  by_cases h0 : v1 < 0
  · exact br_t h0 (br_t rfl (br_t h0 ⟨rfl, J⟩))
  · obtain ⟨j, hj, rfl⟩ := nI_of h0
    by_cases h1 : 7 < j
    · have a1 : (8 : Int32) ≤ nI j := nI_le (a := 8) (by omega) hj
      have a2 : (7 : Int32) < nI j := nI_lt (a := 7) h1 hj
      exact br_f h0 (br_t a1 (br_t rfl (br_f h0 (br_t a2 ⟨rfl, J⟩))))
    · have a1 : ¬ (8 : Int32) ≤ nI j := nI_ge (b := 8) (by omega) (by omega)
      have a2 : ¬ (7 : Int32) < nI j := nI_nlt (b := j) (a := 7) (by omega) (by omega)
      refine br_f h0 (br_f a1 (br_f (by decide) (cx_fb hn wX AX hL (fun pl' => ?_))))
      have e : cm_A (cm_N oX n) (upd co L (nI j)) (L + 1) = cm_A (cm_N oY m) (upd cy L (nI j)) (L + 1) := by
        rw [eN]
        exact cm_AL _ _ _ (cm_ag3 hc)
      rw [e]
      have Q : ∀ va' oa', i_Rel (k + 2) (sc, tc, ss, nI (n + 1), nI L, ka, la, ra, sa, uk, ul, ur, upd co L (nI j), pl') (ys, yd, yt, nI (m + 1), nI L, dr, fo, upd cy L (nI j), va', oa') := fun va' oa' => ⟨J.1, J.2.1, L, hL, rfl, rfl, fun i hi => cm_ag3 hc i (by omega)⟩
      have H : ∀ r, r = cm_b (cm_A (cm_N oY m) (upd cy L (nI j)) (L + 1)) → wpY_wouldHold (fun r' v' => r' = r ∧ i_Rel (k + 2) (sc, tc, ss, nI (n + 1), nI L, ka, la, ra, sa, uk, ul, ur, upd co L (nI j), pl') v') (ys, yd, yt, nI (m + 1), nI L, dr, fo, cy, va, oa) (nI j) := by
        intro r er
        refine br_f h0 (br_f a2 (cy_hw hm wY AY hL (fun va' oa' => ?_)))
        rw [er]
        exact cm_br (P := fun q => q = cm_b (cm_A (cm_N oY m) (upd cy L (nI j)) (L + 1)) ∧ i_Rel (k + 2) (sc, tc, ss, nI (n + 1), nI L, ka, la, ra, sa, uk, ul, ur, upd co L (nI j), pl') (ys, yd, yt, nI (m + 1), nI L, dr, fo, upd cy L (nI j), va', oa')) ⟨rfl, Q va' oa'⟩
      exact cm_br (P := fun q => wpY_wouldHold (fun r' v' => r' = q ∧ i_Rel (k + 2) (sc, tc, ss, nI (n + 1), nI L, ka, la, ra, sa, uk, ul, ur, upd co L (nI j), pl') v') (ys, yd, yt, nI (m + 1), nI L, dr, fo, cy, va, oa) (nI j)) (H _ rfl)
theorem i_vc_wouldHoldWith {k : Nat} {u : SX} {v : SY} (I : i_Rel k u v) (hk : k + 2 ≤ 1024) : wpX_wouldHoldWith (fun r u' => wpY_wouldHoldWith (fun r' v' => r' = r ∧ i_Rel (k + 2) u' v') v) u := by
  obtain ⟨sc, tc, ss, us, cl, ka, la, ra, sa, uk, ul, ur, co, pl⟩ := u
  obtain ⟨ys, yd, yt, yz, yl, dr, fo, cy, va, oa⟩ := v
  have J := I
  obtain ⟨RD, ⟨oX, oY, n, m, wX, hn, rfl, AX, wY, hm, rfl, AY, eN⟩, L, hL, rfl, rfl, hc⟩ := I
  refine cx_ww hn wX AX hL (fun c pl' h1 => cy_ww hm wY AY hL (fun c' va' oa' h2 => ⟨?_, J.1, J.2.1, L, hL, rfl, rfl, fun i hi => (h1 i hi).trans ((hc i hi).trans (h2 i hi).symm)⟩))
  rw [eN]
  exact congrArg nI (cm_wwc cm_AL (fun i hi => (hc i hi).symm) 8)
theorem i_vc_soonest {k : Nat} {u : SX} {v : SY} (I : i_Rel k u v) (hk : k + 2 ≤ 1024) : wpX_soonest (fun r u' => wpY_soonest (fun r' v' => r' = r ∧ i_Rel (k + 2) u' v') v) u := by
  obtain ⟨sc, tc, ss, us, cl, ka, la, ra, sa, uk, ul, ur, co, pl⟩ := u
  obtain ⟨ys, yd, yt, yz, yl, dr, fo, cy, va, oa⟩ := v
  have J := I
  obtain ⟨RD, ⟨oX, oY, n, m, wX, hn, rfl, AX, wY, hm, rfl, AY, eN⟩, L, hL, rfl, rfl, hc⟩ := I
  unfold wpX_soonest wpY_soonest
  dsimp only
  refine cx_ff hn wX AX hL (fun r c pl' h1 S => ?_)
  refine cy_so hm wY AY hL (fun r' c' va' oa' h2 S' => ⟨?_, J.1, J.2.1, L, hL, rfl, rfl, fun i hi => (h1 i hi).trans ((hc i hi).trans (h2 i hi).symm)⟩)
  rw [eN] at S
  exact cm_Sou (cm_Soc cm_AL hc S) S'
theorem i_vc_soonestNot {k : Nat} {u : SX} {v : SY} (I : i_Rel k u v) (hk : k + 2 ≤ 1024) : wpX_soonestNot (fun r u' => wpY_soonestNot (fun r' v' => r' = r ∧ i_Rel (k + 2) u' v') v) u := by
  obtain ⟨sc, tc, ss, us, cl, ka, la, ra, sa, uk, ul, ur, co, pl⟩ := u
  obtain ⟨ys, yd, yt, yz, yl, dr, fo, cy, va, oa⟩ := v
  have J := I
  obtain ⟨RD, ⟨oX, oY, n, m, wX, hn, rfl, AX, wY, hm, rfl, AY, eN⟩, L, hL, rfl, rfl, hc⟩ := I
  unfold wpX_soonestNot wpY_soonestNot
  dsimp only
  refine cx_ff hn wX AX hL (fun r c pl' h1 S => ?_)
  refine cy_so hm wY AY hL (fun r' c' va' oa' h2 S' => ⟨?_, J.1, J.2.1, L, hL, rfl, rfl, fun i hi => (h1 i hi).trans ((hc i hi).trans (h2 i hi).symm)⟩)
  rw [eN] at S
  exact cm_Sou (cm_Soc cm_AL hc S) S'
