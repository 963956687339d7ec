/-! the relation and what is owed -/
def i_Rel (_ : Nat) (u : SX) (v : SY) : Prop := match u, v with
  | (sc, tc, ss, us, cl, ka, la, ra, sa, uk, ul, ur, co, _), (ys, yd, yt, yz, yl, dr, fo, cy, _, _) => cm_RD sc tc ss ka la ra sa dr ys yd yt ∧ cm_RU uk ul ur us fo yz ∧ cm_RC co cl cy yl
theorem i_up {k : Nat} {u : SX} {v : SY} (h : i_Rel k u v) : i_Rel (k + 2) u v := h
theorem i_vc0 : wpX_init (fun u => wpY_init (fun v => i_Rel 0 u v)) := nm_e (nm_e ⟨cm_RD0 _ _ _ _ _, cm_RU0, 0, by omega, rfl, rfl, fun i hi => absurd hi (Nat.not_lt_zero i)⟩)
theorem i_vc_fact {k : Nat} {u : SX} {v : SY} (I : i_Rel k u v) (hk : k + 2 ≤ 1024) (v1 : Int32) : wpX_fact (fun r u' => wpY_fact (fun r' v' => r' = r ∧ i_Rel (k + 2) u' v') v v1) u v1 := by
  obtain ⟨sc, tc, ss, us, cl, ka, la, ra, sa, uk, ul, ur, co, pl⟩ := u
  obtain ⟨ys, yd, yt, yz, yl, dr, fo, cy, va, oa⟩ := v
  have J := I
  obtain ⟨⟨o, s, t, w, hs, ht, hd, ⟨rfl, rfl⟩, ⟨rfl, rfl⟩, ⟨rfl, rfl⟩, XA, hst, hdr⟩, RU, RC⟩ := I
  by_cases h0 : v1 < 0
  · exact br_t h0 (br_t h0 ⟨rfl, J⟩)
  · obtain ⟨j, hj, rfl⟩ := nI_of h0
    by_cases h3 : j < 3
    · refine cx_fa h3 hs ht hd (fun z => cy_fa h3 hs hd (fun _ => ⟨rfl, J⟩) (fun z2 => absurd z z2)) (fun z => cy_fa h3 hs hd (fun z2 => absurd z2 z) (fun _ => ⟨rfl, ?_, RU, RC⟩))
      have ea := cm_ar0 h3
      exact cm_RDp w (by omega) ht (by omega) (by omega) (by omega) XA hst hdr rfl (by rw [if_pos h3]) (fun q => absurd q (by omega)) rfl rfl
    · have a1 : ¬ nI j < 3 := nI_nlt (b := 3) (by omega) hj
      have a2 : ¬ nI j ≤ 2 := nI_ge (a := 2) (by omega) hj
      exact br_f h0 (br_f a1 (br_f h0 (br_f a2 ⟨rfl, J⟩)))
theorem i_vc_not {k : Nat} {u : SX} {v : SY} (I : i_Rel k u v) (hk : k + 2 ≤ 1024) : wpX_not (fun r u' => wpY_not (fun r' v' => r' = r ∧ i_Rel (k + 2) u' v') v) u := by
  obtain ⟨sc, tc, ss, us, cl, ka, la, ra, sa, uk, ul, ur, co, pl⟩ := u
  obtain ⟨ys, yd, yt, yz, yl, dr, fo, cy, va, oa⟩ := v
  have J := I
  obtain ⟨⟨o, s, t, w, hs, ht, hd, ⟨rfl, rfl⟩, ⟨rfl, rfl⟩, ⟨rfl, rfl⟩, XA, hst, hdr⟩, RU, RC⟩ := I
  unfold wpX_not wpY_not
  dsimp only
  refine cx_mu (a := 3) rfl (by omega) hs ht hd (fun z => ?_) (fun z z1 => ?_) (fun z z1 => ?_)
  · exact cy_ch (a := 3) rfl (by omega) hs ht hd (fun _ => ⟨rfl, J⟩) (fun z2 => absurd z z2) (fun z2 => absurd z z2)
  · exact cy_ch (a := 3) rfl (by omega) hs ht hd (fun z2 => absurd z2 z) (fun _ _ => ⟨rfl, J⟩) (fun _ z2 => absurd z2 z1)
  refine cy_ch (a := 3) rfl (by omega) hs ht hd (fun z2 => absurd z2 z) (fun _ z2 => absurd z1 z2) (fun _ _ => ⟨rfl, ?_, RU, RC⟩)
  have ea : cm_ar 3 = 1 := rfl
  have zs : s ≠ 16 := fun q => z (Or.inl q)
  exact cm_RDp w (by omega) (cm_t6 ht z) (by omega) z1 (by omega) XA hst hdr rfl (by rw [hst _ (by omega)]; rfl) (fun q => absurd q (by omega)) rfl rfl
theorem i_vc_and {k : Nat} {u : SX} {v : SY} (I : i_Rel k u v) (hk : k + 2 ≤ 1024) : wpX_and (fun r u' => wpY_and (fun r' v' => r' = r ∧ i_Rel (k + 2) u' v') v) u := by
  obtain ⟨sc, tc, ss, us, cl, ka, la, ra, sa, uk, ul, ur, co, pl⟩ := u
  obtain ⟨ys, yd, yt, yz, yl, dr, fo, cy, va, oa⟩ := v
  have J := I
  obtain ⟨⟨o, s, t, w, hs, ht, hd, ⟨rfl, rfl⟩, ⟨rfl, rfl⟩, ⟨rfl, rfl⟩, XA, hst, hdr⟩, RU, RC⟩ := I
  unfold wpX_and wpY_and
  dsimp only
  refine cx_mb (a := 4) rfl (by omega) hs ht hd (fun z => ?_) (fun z z1 => ?_) (fun z z1 => ?_)
  · exact cy_ch (a := 4) rfl (by omega) hs ht hd (fun _ => ⟨rfl, J⟩) (fun z2 => absurd z z2) (fun z2 => absurd z z2)
  · exact cy_ch (a := 4) rfl (by omega) hs ht hd (fun z2 => absurd z2 z) (fun _ _ => ⟨rfl, J⟩) (fun _ z2 => absurd z2 z1)
  refine cy_ch (a := 4) rfl (by omega) hs ht hd (fun z2 => absurd z2 z) (fun _ z2 => absurd z1 z2) (fun _ _ => ⟨rfl, ?_, RU, RC⟩)
  have ea : cm_ar 4 = 2 := rfl
  have zs : s ≠ 16 := fun q => z (Or.inl q)
  exact cm_RDp w (by omega) (cm_t6 ht z) (by omega) z1 (by omega) XA hst hdr rfl (by rw [hst _ (by omega)]; rfl) (fun _ => hst _ (by omega)) rfl rfl
theorem i_vc_or {k : Nat} {u : SX} {v : SY} (I : i_Rel k u v) (hk : k + 2 ≤ 1024) : wpX_or (fun r u' => wpY_or (fun r' v' => r' = r ∧ i_Rel (k + 2) u' v') v) u := by
  obtain ⟨sc, tc, ss, us, cl, ka, la, ra, sa, uk, ul, ur, co, pl⟩ := u
  obtain ⟨ys, yd, yt, yz, yl, dr, fo, cy, va, oa⟩ := v
  have J := I
  obtain ⟨⟨o, s, t, w, hs, ht, hd, ⟨rfl, rfl⟩, ⟨rfl, rfl⟩, ⟨rfl, rfl⟩, XA, hst, hdr⟩, RU, RC⟩ := I
  unfold wpX_or wpY_or
  dsimp only
  refine cx_mb (a := 5) rfl (by omega) hs ht hd (fun z => ?_) (fun z z1 => ?_) (fun z z1 => ?_)
  · exact cy_ch (a := 5) rfl (by omega) hs ht hd (fun _ => ⟨rfl, J⟩) (fun z2 => absurd z z2) (fun z2 => absurd z z2)
  · exact cy_ch (a := 5) rfl (by omega) hs ht hd (fun z2 => absurd z2 z) (fun _ _ => ⟨rfl, J⟩) (fun _ z2 => absurd z2 z1)
  refine cy_ch (a := 5) rfl (by omega) hs ht hd (fun z2 => absurd z2 z) (fun _ z2 => absurd z1 z2) (fun _ _ => ⟨rfl, ?_, RU, RC⟩)
  have ea : cm_ar 5 = 2 := rfl
  have zs : s ≠ 16 := fun q => z (Or.inl q)
  exact cm_RDp w (by omega) (cm_t6 ht z) (by omega) z1 (by omega) XA hst hdr rfl (by rw [hst _ (by omega)]; rfl) (fun _ => hst _ (by omega)) rfl rfl
theorem i_vc_next {k : Nat} {u : SX} {v : SY} (I : i_Rel k u v) (hk : k + 2 ≤ 1024) : wpX_next (fun r u' => wpY_next (fun r' v' => r' = r ∧ i_Rel (k + 2) u' v') v) u := by
  obtain ⟨sc, tc, ss, us, cl, ka, la, ra, sa, uk, ul, ur, co, pl⟩ := u
  obtain ⟨ys, yd, yt, yz, yl, dr, fo, cy, va, oa⟩ := v
  have J := I
  obtain ⟨⟨o, s, t, w, hs, ht, hd, ⟨rfl, rfl⟩, ⟨rfl, rfl⟩, ⟨rfl, rfl⟩, XA, hst, hdr⟩, RU, RC⟩ := I
  unfold wpX_next wpY_next
  dsimp only
  refine cx_mu (a := 6) rfl (by omega) hs ht hd (fun z => ?_) (fun z z1 => ?_) (fun z z1 => ?_)
  · exact cy_ch (a := 6) rfl (by omega) hs ht hd (fun _ => ⟨rfl, J⟩) (fun z2 => absurd z z2) (fun z2 => absurd z z2)
  · exact cy_ch (a := 6) rfl (by omega) hs ht hd (fun z2 => absurd z2 z) (fun _ _ => ⟨rfl, J⟩) (fun _ z2 => absurd z2 z1)
  refine cy_ch (a := 6) rfl (by omega) hs ht hd (fun z2 => absurd z2 z) (fun _ z2 => absurd z1 z2) (fun _ _ => ⟨rfl, ?_, RU, RC⟩)
  have ea : cm_ar 6 = 1 := rfl
  have zs : s ≠ 16 := fun q => z (Or.inl q)
  exact cm_RDp w (by omega) (cm_t6 ht z) (by omega) z1 (by omega) XA hst hdr rfl (by rw [hst _ (by omega)]; rfl) (fun q => absurd q (by omega)) rfl rfl
theorem i_vc_until {k : Nat} {u : SX} {v : SY} (I : i_Rel k u v) (hk : k + 2 ≤ 1024) : wpX_until (fun r u' => wpY_until (fun r' v' => r' = r ∧ i_Rel (k + 2) u' v') v) u := by
  obtain ⟨sc, tc, ss, us, cl, ka, la, ra, sa, uk, ul, ur, co, pl⟩ := u
  obtain ⟨ys, yd, yt, yz, yl, dr, fo, cy, va, oa⟩ := v
  have J := I
  obtain ⟨⟨o, s, t, w, hs, ht, hd, ⟨rfl, rfl⟩, ⟨rfl, rfl⟩, ⟨rfl, rfl⟩, XA, hst, hdr⟩, RU, RC⟩ := I
  unfold wpX_until wpY_until
  dsimp only
  refine cx_mb (a := 7) rfl (by omega) hs ht hd (fun z => ?_) (fun z z1 => ?_) (fun z z1 => ?_)
  · exact cy_ch (a := 7) rfl (by omega) hs ht hd (fun _ => ⟨rfl, J⟩) (fun z2 => absurd z z2) (fun z2 => absurd z z2)
  · exact cy_ch (a := 7) rfl (by omega) hs ht hd (fun z2 => absurd z2 z) (fun _ _ => ⟨rfl, J⟩) (fun _ z2 => absurd z2 z1)
  refine cy_ch (a := 7) rfl (by omega) hs ht hd (fun z2 => absurd z2 z) (fun _ z2 => absurd z1 z2) (fun _ _ => ⟨rfl, ?_, RU, RC⟩)
  have ea : cm_ar 7 = 2 := rfl
  have zs : s ≠ 16 := fun q => z (Or.inl q)
  exact cm_RDp w (by omega) (cm_t6 ht z) (by omega) z1 (by omega) XA hst hdr rfl (by rw [hst _ (by omega)]; rfl) (fun _ => hst _ (by omega)) rfl rfl
theorem i_vc_steps {k : Nat} {u : SX} {v : SY} (I : i_Rel k u v) (hk : k + 2 ≤ 1024) : wpX_steps (fun r => wpY_steps (fun r' => r' = r ∧ i_Rel (k + 2) u v) v) u := by
  obtain ⟨sc, tc, ss, us, cl, ka, la, ra, sa, uk, ul, ur, co, pl⟩ := u
  obtain ⟨ys, yd, yt, yz, yl, dr, fo, cy, va, oa⟩ := v
  have J := I
  obtain ⟨⟨o, s, t, w, hs, ht, hd, ⟨rfl, rfl⟩, ⟨rfl, rfl⟩, ⟨rfl, rfl⟩, XA, hst, hdr⟩, RU, RC⟩ := I
  exact ⟨rfl, J⟩
theorem i_vc_depth {k : Nat} {u : SX} {v : SY} (I : i_Rel k u v) (hk : k + 2 ≤ 1024) : wpX_depth (fun r => wpY_depth (fun r' => r' = r ∧ i_Rel (k + 2) u v) v) u := by
  obtain ⟨sc, tc, ss, us, cl, ka, la, ra, sa, uk, ul, ur, co, pl⟩ := u
  obtain ⟨ys, yd, yt, yz, yl, dr, fo, cy, va, oa⟩ := v
  have J := I
  obtain ⟨⟨o, s, t, w, hs, ht, hd, ⟨rfl, rfl⟩, ⟨rfl, rfl⟩, ⟨rfl, rfl⟩, XA, hst, hdr⟩, RU, RC⟩ := I
  exact ⟨rfl, J⟩
theorem i_vc_discard {k : Nat} {u : SX} {v : SY} (I : i_Rel k u v) (hk : k + 2 ≤ 1024) : wpX_discard (fun u' => wpY_discard (fun v' => i_Rel (k + 2) u' v') v) u := by
  obtain ⟨sc, tc, ss, us, cl, ka, la, ra, sa, uk, ul, ur, co, pl⟩ := u
  obtain ⟨ys, yd, yt, yz, yl, dr, fo, cy, va, oa⟩ := v
  exact ⟨cm_RD0 _ _ _ _ _, I.2⟩
theorem i_vc_define {k : Nat} {u : SX} {v : SY} (I : i_Rel k u v) (hk : k + 2 ≤ 1024) : wpX_define (fun r u' => wpY_define (fun r' v' => r' = r ∧ i_Rel (k + 2) u' v') v) u := by
  obtain ⟨sc, tc, ss, us, cl, ka, la, ra, sa, uk, ul, ur, co, pl⟩ := u
  obtain ⟨ys, yd, yt, yz, yl, dr, fo, cy, va, oa⟩ := v
  have J := I
  obtain ⟨⟨o, s, t, w, hs, ht, hd, ⟨rfl, rfl⟩, ⟨rfl, rfl⟩, ⟨rfl, rfl⟩, XA, hst, hdr⟩, RU, RC⟩ := I
  have hds := cm_dle o s
  rcases Nat.eq_zero_or_pos (cm_d o s) with e | e
  · rw [e] at J ⊢
    exact br_f (by decide) (br_t rfl ⟨rfl, J⟩)
  · obtain ⟨D, eD⟩ : ∃ D, cm_d o s = D + 1 := ⟨cm_d o s - 1, by omega⟩
    obtain ⟨n, rfl⟩ : ∃ n, s = n + 1 := ⟨s - 1, by omega⟩
    rw [eD]
    refine cx_df hs (by omega) (fun uk' ul' ur' hu => cy_df w hs eD (by omega) hdr (fun oY m fo' wY hm hfo eN => ⟨rfl, cm_RD0 _ _ _ _ _, ⟨o, oY, n, m, w, by omega, rfl, fun i hi => ?_, wY, hm, rfl, hfo, eN⟩, RC⟩))
    obtain ⟨q1, q2, q3⟩ := hu i hi
    rw [q1, q2, q3]
    exact XA i hi
theorem i_vc_step {k : Nat} {u : SX} {v : SY} (I : i_Rel k u v) (hk : k + 2 ≤ 1024) (v1 : Int32) : wpX_step (fun r u' => wpY_step (fun r' v' => r' = r ∧ i_Rel (k + 2) u' v') v v1) u v1 := by
  obtain ⟨sc, tc, ss, us, cl, ka, la, ra, sa, uk, ul, ur, co, pl⟩ := u
  obtain ⟨ys, yd, yt, yz, yl, dr, fo, cy, va, oa⟩ := v
  have J := I
  obtain ⟨RD, RU, L, hL, rfl, rfl, hc⟩ := I
  unfold wpX_step
  dsimp only
  by_cases h0 : v1 < 0
  · exact br_t h0 (br_t rfl (br_t h0 ⟨rfl, J⟩))
  · obtain ⟨j, hj, rfl⟩ := nI_of h0
    by_cases h8 : j < 8
    · have a1 : ¬ (8 : Int32) ≤ nI j := nI_ge (b := 8) h8 (by omega)
      have a2 : nI j ≤ 7 := nI_le (b := 7) (by omega) (by omega)
      refine br_f h0 (br_f a1 (br_f (by decide) ?_))
      refine pk_lt L 10 (fun z => ?_) (fun z => ?_)
      · have hi : vp_in (nI L) 12 := vp_in_nI (by omega) (by omega)
        have zl : ¬ nI L = 10 := fun q => absurd ((nI_eq (b := 10) (by omega) (by omega)).mp q) (by omega)
        refine ⟨hi, nm_r (show upd co (nI L).toNatClampNeg (nI j) = upd co L (nI j) by rw [nI_clamp (by omega)]) (nm_r (nI_1 L) ?_)⟩
        refine br_f h0 (br_t a2 (br_f zl ⟨hi, nm_r (show upd cy (nI L).toNatClampNeg (nI j) = upd cy L (nI j) by rw [nI_clamp (by omega)]) (nm_r (nI_1 L) ⟨rfl, RD, RU, L + 1, by omega, rfl, rfl, cm_ag3 hc⟩)⟩))
      · have el : L = 10 := by omega
        have zl : nI L = 10 := by rw [el]; rfl
        exact br_f h0 (br_t a2 (br_t zl ⟨rfl, J⟩))
    · have a1 : (8 : Int32) ≤ nI j := nI_le (a := 8) (by omega) hj
      have a2 : ¬ nI j ≤ 7 := nI_ge (a := 7) (by omega) hj
      exact br_f h0 (br_t a1 (br_t rfl (br_f h0 (br_f a2 ⟨rfl, J⟩))))
theorem i_vc_undo {k : Nat} {u : SX} {v : SY} (I : i_Rel k u v) (hk : k + 2 ≤ 1024) : wpX_undo (fun r u' => wpY_undo (fun r' v' => r' = r ∧ i_Rel (k + 2) u' v') v) u := by
  obtain ⟨sc, tc, ss, us, cl, ka, la, ra, sa, uk, ul, ur, co, pl⟩ := u
  obtain ⟨ys, yd, yt, yz, yl, dr, fo, cy, va, oa⟩ := v
  have J := I
  obtain ⟨RD, RU, L, hL, rfl, rfl, hc⟩ := I
  rcases Nat.eq_zero_or_pos L with e | e
  · subst e
    exact br_f (by decide) (br_t rfl ⟨rfl, J⟩)
  · obtain ⟨M, rfl⟩ : ∃ M, L = M + 1 := ⟨L - 1, by omega⟩
    have hi : vp_in (nI M) 12 := vp_in_nI (by omega) (by omega)
    refine br_t (nI_le (a := 1) (by omega) (by omega)) (nm_r (nI_pred M) ⟨hi, ?_⟩)
    refine br_f (nI_ne0 (by omega) (by omega)) (nm_r (nI_pred M) ⟨hi, ?_, RD, RU, M, by omega, rfl, rfl, fun i hi => hc i (by omega)⟩)
    rw [nI_clamp (by omega)]
    exact (hc M (by omega)).symm
theorem i_vc_restart {k : Nat} {u : SX} {v : SY} (I : i_Rel k u v) (hk : k + 2 ≤ 1024) : wpX_restart (fun u' => wpY_restart (fun v' => i_Rel (k + 2) u' v') v) u := by
  obtain ⟨sc, tc, ss, us, cl, ka, la, ra, sa, uk, ul, ur, co, pl⟩ := u
  obtain ⟨ys, yd, yt, yz, yl, dr, fo, cy, va, oa⟩ := v
  exact ⟨I.1, I.2.1, 0, by omega, rfl, rfl, fun i hi => absurd hi (Nat.not_lt_zero i)⟩
theorem i_vc_length {k : Nat} {u : SX} {v : SY} (I : i_Rel k u v) (hk : k + 2 ≤ 1024) : wpX_length (fun r => wpY_length (fun r' => r' = r ∧ i_Rel (k + 2) u v) v) u := by
  obtain ⟨sc, tc, ss, us, cl, ka, la, ra, sa, uk, ul, ur, co, pl⟩ := u
  obtain ⟨ys, yd, yt, yz, yl, dr, fo, cy, va, oa⟩ := v
  have J := I
  obtain ⟨RD, RU, L, hL, rfl, rfl, hc⟩ := I
  exact ⟨rfl, J⟩
