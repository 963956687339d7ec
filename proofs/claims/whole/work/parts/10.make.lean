/-! both walks: a new step -/
def cm_fu (a s t : Nat) : Prop := s = 16 ∨ (6 ≤ a ∧ t = 6)
def cm_t (a t : Nat) : Nat := if 6 ≤ a then t + 1 else t
theorem cm_t6 {a s t : Nat} (ht : t ≤ 6) (h : ¬ cm_fu a s t) : cm_t a t ≤ 6 := by
  unfold cm_fu at h
  unfold cm_t
  split <;> omega
theorem cm_all8 {P : Nat → Prop} (h0 : P 0) (h1 : P 1) (h2 : P 2) (h3 : P 3) (h4 : P 4) (h5 : P 5) (h6 : P 6) (h7 : P 7) {a : Nat} (ha : a < 8) : P a := by
  have e : a = 0 ∨ a = 1 ∨ a = 2 ∨ a = 3 ∨ a = 4 ∨ a = 5 ∨ a = 6 ∨ a = 7 := by omega
  rcases e with e | e | e | e | e | e | e | e <;> rw [e] <;> assumption
theorem cx_it {post : Int32 → Prop} {a : Nat} (ha : a < 8) (h1 : 6 ≤ a → post 1) (h0 : a < 6 → post 0) : wpX_isTemporal post (nI (cm_kd a)) := by
  have e : a < 3 ∨ a = 3 ∨ a = 4 ∨ a = 5 ∨ a = 6 ∨ a = 7 := cm_8 ha
  rcases e with e | e | e | e | e | e
  · rw [show cm_kd a = 0 from if_pos e]
    exact br_f (by decide) (br_f (by decide) (h0 (by omega)))
  · rw [e]
    exact br_f (by decide) (br_f (by decide) (h0 (by omega)))
  · rw [e]
    exact br_f (by decide) (br_f (by decide) (h0 (by omega)))
  · rw [e]
    exact br_f (by decide) (br_f (by decide) (h0 (by omega)))
  · rw [e]
    exact br_t (by decide) (h1 (by omega))
  · rw [e]
    exact br_f (by decide) (br_t (by decide) (h1 (by omega)))
section
variable {ss us cl : Int32} {ka la ra sa uk ul ur co pl : Nat → Int32}
theorem cx_nr {post : Int32 → Prop} {a s t : Nat} (ha : a < 8) (hs : s ≤ 16) (ht : t ≤ 6) (h1 : cm_fu a s t → post 1) (h0 : ¬ cm_fu a s t → post 0) : wpX_noRoomFor post (nI s, nI t, ss, us, cl, ka, la, ra, sa, uk, ul, ur, co, pl) (nI (cm_kd a)) := by
  unfold wpX_noRoomFor
  dsimp only
  refine pk_le 16 s (fun z => h1 (Or.inl (by omega))) (fun z => ?_)
  refine cx_it ha (fun z2 => br_f (by decide) ?_) (fun z2 => br_t rfl (h0 ?_))
  · refine pk_lt t 6 (fun z3 => h0 ?_) (fun z3 => h1 (Or.inr ⟨z2, by omega⟩))
    unfold cm_fu
    omega
  · unfold cm_fu
    omega
theorem cx_rt {post : Int32 → SX → Prop} {a s t d : Nat} {R0 L R : Int32} (ha : a < 8) (hs : s < 16) (ht : t ≤ 6) (hd : d ≤ 6) (hr : cm_ar a ≤ d) (hd2 : d + 1 - cm_ar a ≤ 6) (eR : R0 = nI (cm_ar a)) (h : post (nI (d + 1 - cm_ar a)) (nI (s + 1), nI (cm_t a t), nI (d + 1 - cm_ar a), us, cl, upd ka s (nI (cm_kd a)), upd la s L, upd ra s R, upd sa (d - cm_ar a) (nI s), uk, ul, ur, co, pl)) : wpX_replaceTop post (nI s, nI t, nI d, us, cl, ka, la, ra, sa, uk, ul, ur, co, pl) R0 (nI (cm_kd a)) L R := by
  have hi : vp_in (nI s) 16 := vp_in_nI hs (by omega)
  subst eR
  unfold wpX_replaceTop
  dsimp only
  rw [nI_clamp (show s < 2 ^ 31 by omega)]
  refine ⟨hi, nm_e ⟨hi, nm_e ⟨hi, nm_e (nm_r (pk_sub hr) ⟨vp_in_nI (by omega) (by omega), nm_r (show upd sa (nI (d - cm_ar a)).toNatClampNeg (nI s) = upd sa (d - cm_ar a) (nI s) by rw [nI_clamp (by omega)]) (nm_r (show nI (d - cm_ar a) + 1 = nI (d + 1 - cm_ar a) by rw [nI_1]; exact congrArg nI (by omega)) (nm_r (nI_1 s) ?_))⟩)⟩⟩⟩
  refine cx_it ha (fun z => br_f (by decide) (nm_r (nI_1 t) ?_)) (fun z => br_t rfl ?_)
  · rw [show cm_t a t = t + 1 from if_pos z] at h
    exact h
  · rw [show cm_t a t = t from if_neg (by omega)] at h
    exact h
theorem cx_mu {post : Int32 → SX → Prop} {a s t d : Nat} (hr : cm_ar a = 1) (ha : a < 8) (hs : s ≤ 16) (ht : t ≤ 6) (hd : d ≤ 6) (h1 : cm_fu a s t → post (-2) (nI s, nI t, nI d, us, cl, ka, la, ra, sa, uk, ul, ur, co, pl)) (h2 : ¬ cm_fu a s t → ¬ cm_ar a ≤ d → post (-3) (nI s, nI t, nI d, us, cl, ka, la, ra, sa, uk, ul, ur, co, pl)) (h3 : ¬ cm_fu a s t → cm_ar a ≤ d → post (nI (d + 1 - cm_ar a)) (nI (s + 1), nI (cm_t a t), nI (d + 1 - cm_ar a), us, cl, upd ka s (nI (cm_kd a)), upd la s (sa (d - 1)), upd ra s 0, upd sa (d - cm_ar a) (nI s), uk, ul, ur, co, pl)) : wpX_makeUnary post (nI s, nI t, nI d, us, cl, ka, la, ra, sa, uk, ul, ur, co, pl) (nI (cm_kd a)) := by
  unfold wpX_makeUnary
  dsimp only
  refine cx_nr ha hs ht (fun z => br_f (by decide) (h1 z)) (fun z => br_t rfl ?_)
  refine pk_le 1 d (fun z2 => ?_) (fun z2 => h2 z (by omega))
  have e : nI d - 1 = nI (d - 1) := pk_sub (b := 1) z2
  rw [e, nI_clamp (show d - 1 < 2 ^ 31 by omega)]
  have zs : s ≠ 16 := fun q => z (Or.inl q)
  exact ⟨vp_in_nI (by omega) (by omega), cx_rt ha (by omega) ht hd (by omega) (by omega) (by rw [hr]; rfl) (h3 z (by omega))⟩
theorem cx_mb {post : Int32 → SX → Prop} {a s t d : Nat} (hr : cm_ar a = 2) (ha : a < 8) (hs : s ≤ 16) (ht : t ≤ 6) (hd : d ≤ 6) (h1 : cm_fu a s t → post (-2) (nI s, nI t, nI d, us, cl, ka, la, ra, sa, uk, ul, ur, co, pl)) (h2 : ¬ cm_fu a s t → ¬ cm_ar a ≤ d → post (-3) (nI s, nI t, nI d, us, cl, ka, la, ra, sa, uk, ul, ur, co, pl)) (h3 : ¬ cm_fu a s t → cm_ar a ≤ d → post (nI (d + 1 - cm_ar a)) (nI (s + 1), nI (cm_t a t), nI (d + 1 - cm_ar a), us, cl, upd ka s (nI (cm_kd a)), upd la s (sa (d - 2)), upd ra s (sa (d - 1)), upd sa (d - cm_ar a) (nI s), uk, ul, ur, co, pl)) : wpX_makeBinary post (nI s, nI t, nI d, us, cl, ka, la, ra, sa, uk, ul, ur, co, pl) (nI (cm_kd a)) := by
  unfold wpX_makeBinary
  dsimp only
  refine cx_nr ha hs ht (fun z => br_f (by decide) (h1 z)) (fun z => br_t rfl ?_)
  refine pk_le 2 d (fun z2 => ?_) (fun z2 => h2 z (by omega))
  have e : nI d - 1 = nI (d - 1) := pk_sub (b := 1) (by omega)
  have e2 : nI d - 2 = nI (d - 2) := pk_sub (b := 2) z2
  rw [e, e2, nI_clamp (show d - 1 < 2 ^ 31 by omega), nI_clamp (show d - 2 < 2 ^ 31 by omega)]
  have zs : s ≠ 16 := fun q => z (Or.inl q)
  exact ⟨vp_in_nI (by omega) (by omega), vp_in_nI (by omega) (by omega), cx_rt ha (by omega) ht hd (by omega) (by omega) (by rw [hr]; rfl) (h3 z (by omega))⟩
theorem cx_fa {post : Int32 → SX → Prop} {j s t d : Nat} (hj : j < 3) (hs : s ≤ 16) (ht : t ≤ 6) (hd : d ≤ 6) (h1 : (s = 16 ∨ d = 6) → post (-2) (nI s, nI t, nI d, us, cl, ka, la, ra, sa, uk, ul, ur, co, pl)) (h3 : ¬ (s = 16 ∨ d = 6) → post (nI (d + 1 - cm_ar j)) (nI (s + 1), nI t, nI (d + 1 - cm_ar j), us, cl, upd ka s (nI (cm_kd j)), upd la s (nI j), upd ra s 0, upd sa (d - cm_ar j) (nI s), uk, ul, ur, co, pl)) : wpX_fact post (nI s, nI t, nI d, us, cl, ka, la, ra, sa, uk, ul, ur, co, pl) (nI j) := by
  have ek : cm_kd j = 0 := if_pos hj
  have ea := cm_ar0 hj
  have et : cm_t j t = t := if_neg (by omega)
  unfold wpX_fact
  dsimp only
  refine br_f (nI_pos (by omega)) (br_t (nI_lt (b := 3) hj (by omega)) ?_)
  have q : wpX_noRoomFor (fun r_3 => ((r_3 = 0 → (((nI d < 6 → (wpX_replaceTop post (nI s, nI t, nI d, us, cl, ka, la, ra, sa, uk, ul, ur, co, pl) 0 0 (nI j) 0)) ∧ (¬ nI d < 6 → (post (-2) (nI s, nI t, nI d, us, cl, ka, la, ra, sa, uk, ul, ur, co, pl)))))) ∧ (¬ r_3 = 0 → (post (-2) (nI s, nI t, nI d, us, cl, ka, la, ra, sa, uk, ul, ur, co, pl))))) (nI s, nI t, nI d, us, cl, ka, la, ra, sa, uk, ul, ur, co, pl) (nI (cm_kd j)) := by
    refine cx_nr (by omega) hs ht (fun z => br_f (by decide) (h1 ?_)) (fun z => br_t rfl ?_)
    · rcases z with z | z
      · exact Or.inl z
      · exact absurd z.1 (by omega)
    · refine pk_lt d 6 (fun z2 => ?_) (fun z2 => h1 (Or.inr (by omega)))
      have zs : s ≠ 16 := fun q => z (Or.inl q)
      have g := h3 (by omega)
      rw [← et] at g
      have hh := cx_rt (post := post) (a := j) (R0 := 0) (L := nI j) (R := 0) (by omega) (by omega) ht hd (by omega) (by omega) (by rw [ea]; rfl) g
      rw [ek] at hh
      exact hh
  rw [ek] at q
  exact q
end
section
variable {yz yl : Int32} {dr fo cy va oa : Nat → Int32}
theorem cy_nt {post : Int32 → SY → Prop} {s : Nat} {yd yt P g e : Int32} (hs : s < 16) (he : yd + g = e) (h : post e (nI (s + 1), e, yt, yz, yl, upd dr s P, fo, cy, va, oa)) : wpY_note post (nI s, yd, yt, yz, yl, dr, fo, cy, va, oa) P g := by
  unfold wpY_note
  dsimp only
  rw [nI_clamp (show s < 2 ^ 31 by omega)]
  exact ⟨vp_in_nI hs (by omega), nm_e (nm_r (nI_1 s) (nm_r he h))⟩
theorem cy_ch {post : Int32 → SY → Prop} {a s t d : Nat} {R : Int32} (eR : R = nI (cm_ar a)) (ha : a < 8) (hs : s ≤ 16) (ht : t ≤ 6) (hd : d ≤ 6) (h1 : cm_fu a s t → post (-2) (nI s, nI d, nI t, yz, yl, dr, fo, cy, va, oa)) (h2 : ¬ cm_fu a s t → ¬ cm_ar a ≤ d → post (-3) (nI s, nI d, nI t, yz, yl, dr, fo, cy, va, oa)) (h3 : ¬ cm_fu a s t → cm_ar a ≤ d → post (nI (d + 1 - cm_ar a)) (nI (s + 1), nI (d + 1 - cm_ar a), nI (cm_t a t), yz, yl, upd dr s (nI a), fo, cy, va, oa)) : wpY_change post (nI s, nI d, nI t, yz, yl, dr, fo, cy, va, oa) (nI a) R := by
  have hr := cm_ar2 a
  subst eR
  have K : ¬ cm_fu a s t → wY_change_26 post (nI a) (nI (cm_ar a)) (nI s) (nI d) (nI t) yz yl dr fo cy va oa := by
    intro z
    have zs : s ≠ 16 := fun q => z (Or.inl q)
    unfold wY_change_26
    refine pk_le (cm_ar a) d (fun z2 => ?_) (fun z2 => h2 z (by omega))
    have q := h3 z z2
    have e : nI d + (1 - nI (cm_ar a)) = nI (d + 1 - cm_ar a) := by
      rw [← pk_sub (show cm_ar a ≤ d + 1 by omega), ← nI_1]
      grind
    refine pk_le a 5 (fun z3 => ?_) (fun z3 => ?_)
    · rw [show cm_t a t = t from if_neg (by omega)] at q
      exact cy_nt (by omega) e q
    · rw [show cm_t a t = t + 1 from if_pos (by omega)] at q
      unfold wY_change_56
      rw [nI_1 t]
      exact cy_nt (by omega) e q
  unfold wpY_change
  dsimp only
  refine pk_eq s 16 (fun z => h1 (Or.inl z)) (fun z => ?_)
  refine pk_le a 5 (fun z2 => K ?_) (fun z2 => ?_)
  · unfold cm_fu
    omega
  · refine pk_eq t 6 (fun z3 => h1 (Or.inr ⟨by omega, z3⟩)) (fun z3 => K ?_)
    unfold cm_fu
    omega
theorem cy_fa {post : Int32 → SY → Prop} {j s t d : Nat} (hj : j < 3) (hs : s ≤ 16) (hd : d ≤ 6) (h1 : (s = 16 ∨ d = 6) → post (-2) (nI s, nI d, nI t, yz, yl, dr, fo, cy, va, oa)) (h3 : ¬ (s = 16 ∨ d = 6) → post (nI (d + 1 - cm_ar j)) (nI (s + 1), nI (d + 1 - cm_ar j), nI t, yz, yl, upd dr s (nI j), fo, cy, va, oa)) : wpY_fact post (nI s, nI d, nI t, yz, yl, dr, fo, cy, va, oa) (nI j) := by
  have ea := cm_ar0 hj
  unfold wpY_fact
  dsimp only
  refine br_f (nI_pos (by omega)) (br_t (nI_le (b := 2) (by omega) (by omega)) ?_)
  refine pk_eq s 16 (fun z => h1 (Or.inl z)) (fun z => ?_)
  refine pk_eq d 6 (fun z2 => h1 (Or.inr z2)) (fun z2 => ?_)
  exact cy_nt (by omega) (by rw [nI_1]; exact congrArg nI (by omega)) (h3 (by omega))
end
