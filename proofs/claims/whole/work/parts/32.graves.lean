/-! copies of a chapel; GRAVES and LOOK -/
section CP
variable {E : EE} {σ : Mm} {A : Ab}
theorem p_copyFrom_14_4 {Q : Mm → Prop} (ok : OK A) (hA : HC 4 σ A) (hQ : ∀ τ, Fr [14, 15, 16, 17, 18, 19, 20, 21, 22, 23] σ τ → HC 14 τ A → Q τ) : r_X2_copyFrom_14_4_0 E σ Q := by
  have o1 := ok.1
  have o2 := ok.2.1
  have o6 := ok.2.2.2.2.2.1
  have hL : ∀ k ∈ [14, 15, 16, 17, 18, 19, 20, 21, 22, 23], k < 4 ∨ 4 + 9 < k := by decide
  have l3 : ∀ i, i ≤ A 0 5 → ∀ τ, Fr [14, 15, 16, 17, 18, 19, 20, 21, 22, 23] σ τ → (∀ j, j < 6 → τ 14 j = nI (A 0 j)) → (∀ p, p < A 0 1 → τ 15 p = nI (A 1 p) ∧ τ 16 p = nI (A 2 p) ∧ τ 17 p = nI (A 3 p)) → (∀ w, w < A 0 2 → τ 18 w = nI (A 4 w) ∧ τ 19 w = nI (A 5 w) ∧ τ 20 w = nI (A 6 w)) → (∀ s, s < i → τ 21 s = nI (A 7 s) ∧ τ 22 s = nI (A 8 s) ∧ τ 23 s = nI (A 9 s)) → r_X2_copyFrom_14_4_154 E (nI i) τ Q := by
    refine up_to (P := fun i => ∀ τ, Fr [14, 15, 16, 17, 18, 19, 20, 21, 22, 23] σ τ → (∀ j, j < 6 → τ 14 j = nI (A 0 j)) → (∀ p, p < A 0 1 → τ 15 p = nI (A 1 p) ∧ τ 16 p = nI (A 2 p) ∧ τ 17 p = nI (A 3 p)) → (∀ w, w < A 0 2 → τ 18 w = nI (A 4 w) ∧ τ 19 w = nI (A 5 w) ∧ τ 20 w = nI (A 6 w)) → (∀ s, s < i → τ 21 s = nI (A 7 s) ∧ τ 22 s = nI (A 8 s) ∧ τ 23 s = nI (A 9 s)) → r_X2_copyFrom_14_4_154 E (nI i) τ Q) (A 0 5) ?_ ?_
    · intro τ hf h0 h1 h2 h3
      exact s_X2_copyFrom_14_4_154 _ _ _ _ (fe (h0 5 (by decide)) (Nat.le_refl _) (by omega) (hQ τ hf ⟨h0, h1, h2, h3⟩))
    · intro i hi ih τ hf h0 h1 h2 h3
      have hA' := hA.fr hf hL
      have v6 : vp_in (nI i) 6 := vp_in_nI (by omega) (by omega)
      obtain ⟨d1, d2, d3⟩ := hA'.2.2.2 i hi
      have a9 := (ok.2.2.2.2.2.2.2.2 i hi).2.2.2
      refine s_X2_copyFrom_14_4_154 _ _ _ _ (fs (h0 5 (by decide)) hi (by omega) ⟨v6, v6, v6, v6, v6, v6, ?_⟩)
      rw [nI_clamp (by omega), show τ 11 i = nI (A 7 i) from d1, show τ 12 i = nI (A 8 i) from d2, show τ 13 i = nI (A 9 i) from d3, nbb (show nI (A 9 i) = 0 ∨ nI (A 9 i) = 1 by rcases (show A 9 i = 0 ∨ A 9 i = 1 by omega) with e | e <;> rw [e] <;> decide), nI_1]
      refine ih _ (((hf.tr (Fr.up (by decide))).tr (Fr.up (by decide))).tr (Fr.up (by decide))) (fun j hj => ?_) (fun p hp => ?_) (fun w hw => ?_) (fun s hs => ?_)
      · rw [up_ne (by decide), up_ne (by decide), up_ne (by decide)]; exact h0 j hj
      · rw [up_ne (by decide), up_ne (by decide), up_ne (by decide), up_ne (by decide), up_ne (by decide), up_ne (by decide), up_ne (by decide), up_ne (by decide), up_ne (by decide)]; exact h1 p hp
      · rw [up_ne (by decide), up_ne (by decide), up_ne (by decide), up_ne (by decide), up_ne (by decide), up_ne (by decide), up_ne (by decide), up_ne (by decide), up_ne (by decide)]; exact h2 w hw
      · rw [up_ne (a := 21) (by decide), up_ne (a := 21) (by decide), up_eq, up_ne (a := 22) (by decide), up_eq, up_ne (a := 22) (by decide), up_eq, up_ne (a := 23) (by decide), up_ne (a := 23) (by decide)]
        by_cases e : s = i
        · subst e; rw [upd_eq, upd_eq, upd_eq]; exact ⟨rfl, rfl, rfl⟩
        · rw [upd_ne e, upd_ne e, upd_ne e]; exact h3 s (by omega)
  have l2 : ∀ i, i ≤ A 0 2 → ∀ τ, Fr [14, 15, 16, 17, 18, 19, 20, 21, 22, 23] σ τ → (∀ j, j < 6 → τ 14 j = nI (A 0 j)) → (∀ p, p < A 0 1 → τ 15 p = nI (A 1 p) ∧ τ 16 p = nI (A 2 p) ∧ τ 17 p = nI (A 3 p)) → (∀ w, w < i → τ 18 w = nI (A 4 w) ∧ τ 19 w = nI (A 5 w) ∧ τ 20 w = nI (A 6 w)) → r_X2_copyFrom_14_4_102 E (nI i) τ Q := by
    refine up_to (P := fun i => ∀ τ, Fr [14, 15, 16, 17, 18, 19, 20, 21, 22, 23] σ τ → (∀ j, j < 6 → τ 14 j = nI (A 0 j)) → (∀ p, p < A 0 1 → τ 15 p = nI (A 1 p) ∧ τ 16 p = nI (A 2 p) ∧ τ 17 p = nI (A 3 p)) → (∀ w, w < i → τ 18 w = nI (A 4 w) ∧ τ 19 w = nI (A 5 w) ∧ τ 20 w = nI (A 6 w)) → r_X2_copyFrom_14_4_102 E (nI i) τ Q) (A 0 2) ?_ ?_
    · intro τ hf h0 h1 h2
      exact s_X2_copyFrom_14_4_102 _ _ _ _ (fe (h0 2 (by decide)) (Nat.le_refl _) (by omega) (l3 0 (Nat.zero_le _) τ hf h0 h1 h2 (fun s hs => by omega)))
    · intro i hi ih τ hf h0 h1 h2
      have hA' := hA.fr hf hL
      have v8 : vp_in (nI i) 8 := vp_in_nI (by omega) (by omega)
      obtain ⟨d1, d2, d3⟩ := hA'.2.2.1 i hi
      refine s_X2_copyFrom_14_4_102 _ _ _ _ (fs (h0 2 (by decide)) hi (by omega) ⟨v8, v8, v8, v8, v8, v8, ?_⟩)
      rw [nI_clamp (by omega), show τ 8 i = nI (A 4 i) from d1, show τ 9 i = nI (A 5 i) from d2, show τ 10 i = nI (A 6 i) from d3, nI_1]
      refine ih _ (((hf.tr (Fr.up (by decide))).tr (Fr.up (by decide))).tr (Fr.up (by decide))) (fun j hj => ?_) (fun p hp => ?_) (fun s hs => ?_)
      · rw [up_ne (by decide), up_ne (by decide), up_ne (by decide)]; exact h0 j hj
      · rw [up_ne (by decide), up_ne (by decide), up_ne (by decide), up_ne (by decide), up_ne (by decide), up_ne (by decide), up_ne (by decide), up_ne (by decide), up_ne (by decide)]; exact h1 p hp
      · rw [up_ne (a := 18) (by decide), up_ne (a := 18) (by decide), up_eq, up_ne (a := 19) (by decide), up_eq, up_ne (a := 19) (by decide), up_eq, up_ne (a := 20) (by decide), up_ne (a := 20) (by decide)]
        by_cases e : s = i
        · subst e; rw [upd_eq, upd_eq, upd_eq]; exact ⟨rfl, rfl, rfl⟩
        · rw [upd_ne e, upd_ne e, upd_ne e]; exact h2 s (by omega)
  have l1 : ∀ i, i ≤ A 0 1 → ∀ τ, Fr [14, 15, 16, 17, 18, 19, 20, 21, 22, 23] σ τ → (∀ j, j < 6 → τ 14 j = nI (A 0 j)) → (∀ p, p < i → τ 15 p = nI (A 1 p) ∧ τ 16 p = nI (A 2 p) ∧ τ 17 p = nI (A 3 p)) → r_X2_copyFrom_14_4_50 E (nI i) τ Q := by
    refine up_to (P := fun i => ∀ τ, Fr [14, 15, 16, 17, 18, 19, 20, 21, 22, 23] σ τ → (∀ j, j < 6 → τ 14 j = nI (A 0 j)) → (∀ p, p < i → τ 15 p = nI (A 1 p) ∧ τ 16 p = nI (A 2 p) ∧ τ 17 p = nI (A 3 p)) → r_X2_copyFrom_14_4_50 E (nI i) τ Q) (A 0 1) ?_ ?_
    · intro τ hf h0 h1
      exact s_X2_copyFrom_14_4_50 _ _ _ _ (fe (h0 1 (by decide)) (Nat.le_refl _) (by omega) (l2 0 (Nat.zero_le _) τ hf h0 h1 (fun s hs => by omega)))
    · intro i hi ih τ hf h0 h1
      have hA' := hA.fr hf hL
      have v6 : vp_in (nI i) 6 := vp_in_nI (by omega) (by omega)
      obtain ⟨d1, d2, d3⟩ := hA'.2.1 i hi
      refine s_X2_copyFrom_14_4_50 _ _ _ _ (fs (h0 1 (by decide)) hi (by omega) ⟨v6, v6, v6, v6, v6, v6, ?_⟩)
      rw [nI_clamp (by omega), show τ 5 i = nI (A 1 i) from d1, show τ 6 i = nI (A 2 i) from d2, show τ 7 i = nI (A 3 i) from d3, nI_1]
      refine ih _ (((hf.tr (Fr.up (by decide))).tr (Fr.up (by decide))).tr (Fr.up (by decide))) (fun j hj => ?_) (fun s hs => ?_)
      · rw [up_ne (by decide), up_ne (by decide), up_ne (by decide)]; exact h0 j hj
      · rw [up_ne (a := 15) (by decide), up_ne (a := 15) (by decide), up_eq, up_ne (a := 16) (by decide), up_eq, up_ne (a := 16) (by decide), up_eq, up_ne (a := 17) (by decide), up_ne (a := 17) (by decide)]
        by_cases e : s = i
        · subst e; rw [upd_eq, upd_eq, upd_eq]; exact ⟨rfl, rfl, rfl⟩
        · rw [upd_ne e, upd_ne e, upd_ne e]; exact h1 s (by omega)
  refine s_X2_copyFrom_14_4_0 _ _ _ (l1 0 (Nat.zero_le _) _ ((((((Fr.up (by decide)).tr (Fr.up (by decide))).tr (Fr.up (by decide))).tr (Fr.up (by decide))).tr (Fr.up (by decide))).tr (Fr.up (by decide))) (fun j hj => ?_) (fun s hs => by omega))
  rw [hA.1 0 (by decide), hA.1 1 (by decide), hA.1 2 (by decide), hA.1 3 (by decide), hA.1 4 (by decide), hA.1 5 (by decide)]
  simp only [up_eq]
  rcases (show j = 0 ∨ j = 1 ∨ j = 2 ∨ j = 3 ∨ j = 4 ∨ j = 5 by omega) with e | e | e | e | e | e <;> subst e <;> simp [upd]
theorem p_copyFrom_34_14 {Q : Mm → Prop} (ok : OK A) (hA : HC 14 σ A) (hQ : ∀ τ, Fr [34, 35, 36, 37, 38, 39, 40, 41, 42, 43] σ τ → HC 34 τ A → Q τ) : r_X2_copyFrom_34_14_0 E σ Q := by
  have o1 := ok.1
  have o2 := ok.2.1
  have o6 := ok.2.2.2.2.2.1
  have hL : ∀ k ∈ [34, 35, 36, 37, 38, 39, 40, 41, 42, 43], k < 14 ∨ 14 + 9 < k := by decide
  have l3 : ∀ i, i ≤ A 0 5 → ∀ τ, Fr [34, 35, 36, 37, 38, 39, 40, 41, 42, 43] σ τ → (∀ j, j < 6 → τ 34 j = nI (A 0 j)) → (∀ p, p < A 0 1 → τ 35 p = nI (A 1 p) ∧ τ 36 p = nI (A 2 p) ∧ τ 37 p = nI (A 3 p)) → (∀ w, w < A 0 2 → τ 38 w = nI (A 4 w) ∧ τ 39 w = nI (A 5 w) ∧ τ 40 w = nI (A 6 w)) → (∀ s, s < i → τ 41 s = nI (A 7 s) ∧ τ 42 s = nI (A 8 s) ∧ τ 43 s = nI (A 9 s)) → r_X2_copyFrom_34_14_154 E (nI i) τ Q := by
    refine up_to (P := fun i => ∀ τ, Fr [34, 35, 36, 37, 38, 39, 40, 41, 42, 43] σ τ → (∀ j, j < 6 → τ 34 j = nI (A 0 j)) → (∀ p, p < A 0 1 → τ 35 p = nI (A 1 p) ∧ τ 36 p = nI (A 2 p) ∧ τ 37 p = nI (A 3 p)) → (∀ w, w < A 0 2 → τ 38 w = nI (A 4 w) ∧ τ 39 w = nI (A 5 w) ∧ τ 40 w = nI (A 6 w)) → (∀ s, s < i → τ 41 s = nI (A 7 s) ∧ τ 42 s = nI (A 8 s) ∧ τ 43 s = nI (A 9 s)) → r_X2_copyFrom_34_14_154 E (nI i) τ Q) (A 0 5) ?_ ?_
    · intro τ hf h0 h1 h2 h3
      exact s_X2_copyFrom_34_14_154 _ _ _ _ (fe (h0 5 (by decide)) (Nat.le_refl _) (by omega) (hQ τ hf ⟨h0, h1, h2, h3⟩))
    · intro i hi ih τ hf h0 h1 h2 h3
      have hA' := hA.fr hf hL
      have v6 : vp_in (nI i) 6 := vp_in_nI (by omega) (by omega)
      obtain ⟨d1, d2, d3⟩ := hA'.2.2.2 i hi
      have a9 := (ok.2.2.2.2.2.2.2.2 i hi).2.2.2
      refine s_X2_copyFrom_34_14_154 _ _ _ _ (fs (h0 5 (by decide)) hi (by omega) ⟨v6, v6, v6, v6, v6, v6, ?_⟩)
      rw [nI_clamp (by omega), show τ 21 i = nI (A 7 i) from d1, show τ 22 i = nI (A 8 i) from d2, show τ 23 i = nI (A 9 i) from d3, nbb (show nI (A 9 i) = 0 ∨ nI (A 9 i) = 1 by rcases (show A 9 i = 0 ∨ A 9 i = 1 by omega) with e | e <;> rw [e] <;> decide), nI_1]
      refine ih _ (((hf.tr (Fr.up (by decide))).tr (Fr.up (by decide))).tr (Fr.up (by decide))) (fun j hj => ?_) (fun p hp => ?_) (fun w hw => ?_) (fun s hs => ?_)
      · rw [up_ne (by decide), up_ne (by decide), up_ne (by decide)]; exact h0 j hj
      · rw [up_ne (by decide), up_ne (by decide), up_ne (by decide), up_ne (by decide), up_ne (by decide), up_ne (by decide), up_ne (by decide), up_ne (by decide), up_ne (by decide)]; exact h1 p hp
      · rw [up_ne (by decide), up_ne (by decide), up_ne (by decide), up_ne (by decide), up_ne (by decide), up_ne (by decide), up_ne (by decide), up_ne (by decide), up_ne (by decide)]; exact h2 w hw
      · rw [up_ne (a := 41) (by decide), up_ne (a := 41) (by decide), up_eq, up_ne (a := 42) (by decide), up_eq, up_ne (a := 42) (by decide), up_eq, up_ne (a := 43) (by decide), up_ne (a := 43) (by decide)]
        by_cases e : s = i
        · subst e; rw [upd_eq, upd_eq, upd_eq]; exact ⟨rfl, rfl, rfl⟩
        · rw [upd_ne e, upd_ne e, upd_ne e]; exact h3 s (by omega)
  have l2 : ∀ i, i ≤ A 0 2 → ∀ τ, Fr [34, 35, 36, 37, 38, 39, 40, 41, 42, 43] σ τ → (∀ j, j < 6 → τ 34 j = nI (A 0 j)) → (∀ p, p < A 0 1 → τ 35 p = nI (A 1 p) ∧ τ 36 p = nI (A 2 p) ∧ τ 37 p = nI (A 3 p)) → (∀ w, w < i → τ 38 w = nI (A 4 w) ∧ τ 39 w = nI (A 5 w) ∧ τ 40 w = nI (A 6 w)) → r_X2_copyFrom_34_14_102 E (nI i) τ Q := by
    refine up_to (P := fun i => ∀ τ, Fr [34, 35, 36, 37, 38, 39, 40, 41, 42, 43] σ τ → (∀ j, j < 6 → τ 34 j = nI (A 0 j)) → (∀ p, p < A 0 1 → τ 35 p = nI (A 1 p) ∧ τ 36 p = nI (A 2 p) ∧ τ 37 p = nI (A 3 p)) → (∀ w, w < i → τ 38 w = nI (A 4 w) ∧ τ 39 w = nI (A 5 w) ∧ τ 40 w = nI (A 6 w)) → r_X2_copyFrom_34_14_102 E (nI i) τ Q) (A 0 2) ?_ ?_
    · intro τ hf h0 h1 h2
      exact s_X2_copyFrom_34_14_102 _ _ _ _ (fe (h0 2 (by decide)) (Nat.le_refl _) (by omega) (l3 0 (Nat.zero_le _) τ hf h0 h1 h2 (fun s hs => by omega)))
    · intro i hi ih τ hf h0 h1 h2
      have hA' := hA.fr hf hL
      have v8 : vp_in (nI i) 8 := vp_in_nI (by omega) (by omega)
      obtain ⟨d1, d2, d3⟩ := hA'.2.2.1 i hi
      refine s_X2_copyFrom_34_14_102 _ _ _ _ (fs (h0 2 (by decide)) hi (by omega) ⟨v8, v8, v8, v8, v8, v8, ?_⟩)
      rw [nI_clamp (by omega), show τ 18 i = nI (A 4 i) from d1, show τ 19 i = nI (A 5 i) from d2, show τ 20 i = nI (A 6 i) from d3, nI_1]
      refine ih _ (((hf.tr (Fr.up (by decide))).tr (Fr.up (by decide))).tr (Fr.up (by decide))) (fun j hj => ?_) (fun p hp => ?_) (fun s hs => ?_)
      · rw [up_ne (by decide), up_ne (by decide), up_ne (by decide)]; exact h0 j hj
      · rw [up_ne (by decide), up_ne (by decide), up_ne (by decide), up_ne (by decide), up_ne (by decide), up_ne (by decide), up_ne (by decide), up_ne (by decide), up_ne (by decide)]; exact h1 p hp
      · rw [up_ne (a := 38) (by decide), up_ne (a := 38) (by decide), up_eq, up_ne (a := 39) (by decide), up_eq, up_ne (a := 39) (by decide), up_eq, up_ne (a := 40) (by decide), up_ne (a := 40) (by decide)]
        by_cases e : s = i
        · subst e; rw [upd_eq, upd_eq, upd_eq]; exact ⟨rfl, rfl, rfl⟩
        · rw [upd_ne e, upd_ne e, upd_ne e]; exact h2 s (by omega)
  have l1 : ∀ i, i ≤ A 0 1 → ∀ τ, Fr [34, 35, 36, 37, 38, 39, 40, 41, 42, 43] σ τ → (∀ j, j < 6 → τ 34 j = nI (A 0 j)) → (∀ p, p < i → τ 35 p = nI (A 1 p) ∧ τ 36 p = nI (A 2 p) ∧ τ 37 p = nI (A 3 p)) → r_X2_copyFrom_34_14_50 E (nI i) τ Q := by
    refine up_to (P := fun i => ∀ τ, Fr [34, 35, 36, 37, 38, 39, 40, 41, 42, 43] σ τ → (∀ j, j < 6 → τ 34 j = nI (A 0 j)) → (∀ p, p < i → τ 35 p = nI (A 1 p) ∧ τ 36 p = nI (A 2 p) ∧ τ 37 p = nI (A 3 p)) → r_X2_copyFrom_34_14_50 E (nI i) τ Q) (A 0 1) ?_ ?_
    · intro τ hf h0 h1
      exact s_X2_copyFrom_34_14_50 _ _ _ _ (fe (h0 1 (by decide)) (Nat.le_refl _) (by omega) (l2 0 (Nat.zero_le _) τ hf h0 h1 (fun s hs => by omega)))
    · intro i hi ih τ hf h0 h1
      have hA' := hA.fr hf hL
      have v6 : vp_in (nI i) 6 := vp_in_nI (by omega) (by omega)
      obtain ⟨d1, d2, d3⟩ := hA'.2.1 i hi
      refine s_X2_copyFrom_34_14_50 _ _ _ _ (fs (h0 1 (by decide)) hi (by omega) ⟨v6, v6, v6, v6, v6, v6, ?_⟩)
      rw [nI_clamp (by omega), show τ 15 i = nI (A 1 i) from d1, show τ 16 i = nI (A 2 i) from d2, show τ 17 i = nI (A 3 i) from d3, nI_1]
      refine ih _ (((hf.tr (Fr.up (by decide))).tr (Fr.up (by decide))).tr (Fr.up (by decide))) (fun j hj => ?_) (fun s hs => ?_)
      · rw [up_ne (by decide), up_ne (by decide), up_ne (by decide)]; exact h0 j hj
      · rw [up_ne (a := 35) (by decide), up_ne (a := 35) (by decide), up_eq, up_ne (a := 36) (by decide), up_eq, up_ne (a := 36) (by decide), up_eq, up_ne (a := 37) (by decide), up_ne (a := 37) (by decide)]
        by_cases e : s = i
        · subst e; rw [upd_eq, upd_eq, upd_eq]; exact ⟨rfl, rfl, rfl⟩
        · rw [upd_ne e, upd_ne e, upd_ne e]; exact h1 s (by omega)
  refine s_X2_copyFrom_34_14_0 _ _ _ (l1 0 (Nat.zero_le _) _ ((((((Fr.up (by decide)).tr (Fr.up (by decide))).tr (Fr.up (by decide))).tr (Fr.up (by decide))).tr (Fr.up (by decide))).tr (Fr.up (by decide))) (fun j hj => ?_) (fun s hs => by omega))
  rw [hA.1 0 (by decide), hA.1 1 (by decide), hA.1 2 (by decide), hA.1 3 (by decide), hA.1 4 (by decide), hA.1 5 (by decide)]
  simp only [up_eq]
  rcases (show j = 0 ∨ j = 1 ∨ j = 2 ∨ j = 3 ∨ j = 4 ∨ j = 5 by omega) with e | e | e | e | e | e <;> subst e <;> simp [upd]
theorem p_copyFrom_24_14 {Q : Mm → Prop} (ok : OK A) (hA : HC 14 σ A) (hQ : ∀ τ, Fr [24, 25, 26, 27, 28, 29, 30, 31, 32, 33] σ τ → HC 24 τ A → Q τ) : r_X2_copyFrom_24_14_0 E σ Q := by
  have o1 := ok.1
  have o2 := ok.2.1
  have o6 := ok.2.2.2.2.2.1
  have hL : ∀ k ∈ [24, 25, 26, 27, 28, 29, 30, 31, 32, 33], k < 14 ∨ 14 + 9 < k := by decide
  have l3 : ∀ i, i ≤ A 0 5 → ∀ τ, Fr [24, 25, 26, 27, 28, 29, 30, 31, 32, 33] σ τ → (∀ j, j < 6 → τ 24 j = nI (A 0 j)) → (∀ p, p < A 0 1 → τ 25 p = nI (A 1 p) ∧ τ 26 p = nI (A 2 p) ∧ τ 27 p = nI (A 3 p)) → (∀ w, w < A 0 2 → τ 28 w = nI (A 4 w) ∧ τ 29 w = nI (A 5 w) ∧ τ 30 w = nI (A 6 w)) → (∀ s, s < i → τ 31 s = nI (A 7 s) ∧ τ 32 s = nI (A 8 s) ∧ τ 33 s = nI (A 9 s)) → r_X2_copyFrom_24_14_154 E (nI i) τ Q := by
    refine up_to (P := fun i => ∀ τ, Fr [24, 25, 26, 27, 28, 29, 30, 31, 32, 33] σ τ → (∀ j, j < 6 → τ 24 j = nI (A 0 j)) → (∀ p, p < A 0 1 → τ 25 p = nI (A 1 p) ∧ τ 26 p = nI (A 2 p) ∧ τ 27 p = nI (A 3 p)) → (∀ w, w < A 0 2 → τ 28 w = nI (A 4 w) ∧ τ 29 w = nI (A 5 w) ∧ τ 30 w = nI (A 6 w)) → (∀ s, s < i → τ 31 s = nI (A 7 s) ∧ τ 32 s = nI (A 8 s) ∧ τ 33 s = nI (A 9 s)) → r_X2_copyFrom_24_14_154 E (nI i) τ Q) (A 0 5) ?_ ?_
    · intro τ hf h0 h1 h2 h3
      exact s_X2_copyFrom_24_14_154 _ _ _ _ (fe (h0 5 (by decide)) (Nat.le_refl _) (by omega) (hQ τ hf ⟨h0, h1, h2, h3⟩))
    · intro i hi ih τ hf h0 h1 h2 h3
      have hA' := hA.fr hf hL
      have v6 : vp_in (nI i) 6 := vp_in_nI (by omega) (by omega)
      obtain ⟨d1, d2, d3⟩ := hA'.2.2.2 i hi
      have a9 := (ok.2.2.2.2.2.2.2.2 i hi).2.2.2
      refine s_X2_copyFrom_24_14_154 _ _ _ _ (fs (h0 5 (by decide)) hi (by omega) ⟨v6, v6, v6, v6, v6, v6, ?_⟩)
      rw [nI_clamp (by omega), show τ 21 i = nI (A 7 i) from d1, show τ 22 i = nI (A 8 i) from d2, show τ 23 i = nI (A 9 i) from d3, nbb (show nI (A 9 i) = 0 ∨ nI (A 9 i) = 1 by rcases (show A 9 i = 0 ∨ A 9 i = 1 by omega) with e | e <;> rw [e] <;> decide), nI_1]
      refine ih _ (((hf.tr (Fr.up (by decide))).tr (Fr.up (by decide))).tr (Fr.up (by decide))) (fun j hj => ?_) (fun p hp => ?_) (fun w hw => ?_) (fun s hs => ?_)
      · rw [up_ne (by decide), up_ne (by decide), up_ne (by decide)]; exact h0 j hj
      · rw [up_ne (by decide), up_ne (by decide), up_ne (by decide), up_ne (by decide), up_ne (by decide), up_ne (by decide), up_ne (by decide), up_ne (by decide), up_ne (by decide)]; exact h1 p hp
      · rw [up_ne (by decide), up_ne (by decide), up_ne (by decide), up_ne (by decide), up_ne (by decide), up_ne (by decide), up_ne (by decide), up_ne (by decide), up_ne (by decide)]; exact h2 w hw
      · rw [up_ne (a := 31) (by decide), up_ne (a := 31) (by decide), up_eq, up_ne (a := 32) (by decide), up_eq, up_ne (a := 32) (by decide), up_eq, up_ne (a := 33) (by decide), up_ne (a := 33) (by decide)]
        by_cases e : s = i
        · subst e; rw [upd_eq, upd_eq, upd_eq]; exact ⟨rfl, rfl, rfl⟩
        · rw [upd_ne e, upd_ne e, upd_ne e]; exact h3 s (by omega)
  have l2 : ∀ i, i ≤ A 0 2 → ∀ τ, Fr [24, 25, 26, 27, 28, 29, 30, 31, 32, 33] σ τ → (∀ j, j < 6 → τ 24 j = nI (A 0 j)) → (∀ p, p < A 0 1 → τ 25 p = nI (A 1 p) ∧ τ 26 p = nI (A 2 p) ∧ τ 27 p = nI (A 3 p)) → (∀ w, w < i → τ 28 w = nI (A 4 w) ∧ τ 29 w = nI (A 5 w) ∧ τ 30 w = nI (A 6 w)) → r_X2_copyFrom_24_14_102 E (nI i) τ Q := by
    refine up_to (P := fun i => ∀ τ, Fr [24, 25, 26, 27, 28, 29, 30, 31, 32, 33] σ τ → (∀ j, j < 6 → τ 24 j = nI (A 0 j)) → (∀ p, p < A 0 1 → τ 25 p = nI (A 1 p) ∧ τ 26 p = nI (A 2 p) ∧ τ 27 p = nI (A 3 p)) → (∀ w, w < i → τ 28 w = nI (A 4 w) ∧ τ 29 w = nI (A 5 w) ∧ τ 30 w = nI (A 6 w)) → r_X2_copyFrom_24_14_102 E (nI i) τ Q) (A 0 2) ?_ ?_
    · intro τ hf h0 h1 h2
      exact s_X2_copyFrom_24_14_102 _ _ _ _ (fe (h0 2 (by decide)) (Nat.le_refl _) (by omega) (l3 0 (Nat.zero_le _) τ hf h0 h1 h2 (fun s hs => by omega)))
    · intro i hi ih τ hf h0 h1 h2
      have hA' := hA.fr hf hL
      have v8 : vp_in (nI i) 8 := vp_in_nI (by omega) (by omega)
      obtain ⟨d1, d2, d3⟩ := hA'.2.2.1 i hi
      refine s_X2_copyFrom_24_14_102 _ _ _ _ (fs (h0 2 (by decide)) hi (by omega) ⟨v8, v8, v8, v8, v8, v8, ?_⟩)
      rw [nI_clamp (by omega), show τ 18 i = nI (A 4 i) from d1, show τ 19 i = nI (A 5 i) from d2, show τ 20 i = nI (A 6 i) from d3, nI_1]
      refine ih _ (((hf.tr (Fr.up (by decide))).tr (Fr.up (by decide))).tr (Fr.up (by decide))) (fun j hj => ?_) (fun p hp => ?_) (fun s hs => ?_)
      · rw [up_ne (by decide), up_ne (by decide), up_ne (by decide)]; exact h0 j hj
      · rw [up_ne (by decide), up_ne (by decide), up_ne (by decide), up_ne (by decide), up_ne (by decide), up_ne (by decide), up_ne (by decide), up_ne (by decide), up_ne (by decide)]; exact h1 p hp
      · rw [up_ne (a := 28) (by decide), up_ne (a := 28) (by decide), up_eq, up_ne (a := 29) (by decide), up_eq, up_ne (a := 29) (by decide), up_eq, up_ne (a := 30) (by decide), up_ne (a := 30) (by decide)]
        by_cases e : s = i
        · subst e; rw [upd_eq, upd_eq, upd_eq]; exact ⟨rfl, rfl, rfl⟩
        · rw [upd_ne e, upd_ne e, upd_ne e]; exact h2 s (by omega)
  have l1 : ∀ i, i ≤ A 0 1 → ∀ τ, Fr [24, 25, 26, 27, 28, 29, 30, 31, 32, 33] σ τ → (∀ j, j < 6 → τ 24 j = nI (A 0 j)) → (∀ p, p < i → τ 25 p = nI (A 1 p) ∧ τ 26 p = nI (A 2 p) ∧ τ 27 p = nI (A 3 p)) → r_X2_copyFrom_24_14_50 E (nI i) τ Q := by
    refine up_to (P := fun i => ∀ τ, Fr [24, 25, 26, 27, 28, 29, 30, 31, 32, 33] σ τ → (∀ j, j < 6 → τ 24 j = nI (A 0 j)) → (∀ p, p < i → τ 25 p = nI (A 1 p) ∧ τ 26 p = nI (A 2 p) ∧ τ 27 p = nI (A 3 p)) → r_X2_copyFrom_24_14_50 E (nI i) τ Q) (A 0 1) ?_ ?_
    · intro τ hf h0 h1
      exact s_X2_copyFrom_24_14_50 _ _ _ _ (fe (h0 1 (by decide)) (Nat.le_refl _) (by omega) (l2 0 (Nat.zero_le _) τ hf h0 h1 (fun s hs => by omega)))
    · intro i hi ih τ hf h0 h1
      have hA' := hA.fr hf hL
      have v6 : vp_in (nI i) 6 := vp_in_nI (by omega) (by omega)
      obtain ⟨d1, d2, d3⟩ := hA'.2.1 i hi
      refine s_X2_copyFrom_24_14_50 _ _ _ _ (fs (h0 1 (by decide)) hi (by omega) ⟨v6, v6, v6, v6, v6, v6, ?_⟩)
      rw [nI_clamp (by omega), show τ 15 i = nI (A 1 i) from d1, show τ 16 i = nI (A 2 i) from d2, show τ 17 i = nI (A 3 i) from d3, nI_1]
      refine ih _ (((hf.tr (Fr.up (by decide))).tr (Fr.up (by decide))).tr (Fr.up (by decide))) (fun j hj => ?_) (fun s hs => ?_)
      · rw [up_ne (by decide), up_ne (by decide), up_ne (by decide)]; exact h0 j hj
      · rw [up_ne (a := 25) (by decide), up_ne (a := 25) (by decide), up_eq, up_ne (a := 26) (by decide), up_eq, up_ne (a := 26) (by decide), up_eq, up_ne (a := 27) (by decide), up_ne (a := 27) (by decide)]
        by_cases e : s = i
        · subst e; rw [upd_eq, upd_eq, upd_eq]; exact ⟨rfl, rfl, rfl⟩
        · rw [upd_ne e, upd_ne e, upd_ne e]; exact h1 s (by omega)
  refine s_X2_copyFrom_24_14_0 _ _ _ (l1 0 (Nat.zero_le _) _ ((((((Fr.up (by decide)).tr (Fr.up (by decide))).tr (Fr.up (by decide))).tr (Fr.up (by decide))).tr (Fr.up (by decide))).tr (Fr.up (by decide))) (fun j hj => ?_) (fun s hs => by omega))
  rw [hA.1 0 (by decide), hA.1 1 (by decide), hA.1 2 (by decide), hA.1 3 (by decide), hA.1 4 (by decide), hA.1 5 (by decide)]
  simp only [up_eq]
  rcases (show j = 0 ∨ j = 1 ∨ j = 2 ∨ j = 3 ∨ j = 4 ∨ j = 5 by omega) with e | e | e | e | e | e <;> subst e <;> simp [upd]
theorem p_copyFrom_14_24 {Q : Mm → Prop} (ok : OK A) (hA : HC 24 σ A) (hQ : ∀ τ, Fr [14, 15, 16, 17, 18, 19, 20, 21, 22, 23] σ τ → HC 14 τ A → Q τ) : r_X2_copyFrom_14_24_0 E σ Q := by
  have o1 := ok.1
  have o2 := ok.2.1
  have o6 := ok.2.2.2.2.2.1
  have hL : ∀ k ∈ [14, 15, 16, 17, 18, 19, 20, 21, 22, 23], k < 24 ∨ 24 + 9 < k := by decide
  have l3 : ∀ i, i ≤ A 0 5 → ∀ τ, Fr [14, 15, 16, 17, 18, 19, 20, 21, 22, 23] σ τ → (∀ j, j < 6 → τ 14 j = nI (A 0 j)) → (∀ p, p < A 0 1 → τ 15 p = nI (A 1 p) ∧ τ 16 p = nI (A 2 p) ∧ τ 17 p = nI (A 3 p)) → (∀ w, w < A 0 2 → τ 18 w = nI (A 4 w) ∧ τ 19 w = nI (A 5 w) ∧ τ 20 w = nI (A 6 w)) → (∀ s, s < i → τ 21 s = nI (A 7 s) ∧ τ 22 s = nI (A 8 s) ∧ τ 23 s = nI (A 9 s)) → r_X2_copyFrom_14_24_154 E (nI i) τ Q := by
    refine up_to (P := fun i => ∀ τ, Fr [14, 15, 16, 17, 18, 19, 20, 21, 22, 23] σ τ → (∀ j, j < 6 → τ 14 j = nI (A 0 j)) → (∀ p, p < A 0 1 → τ 15 p = nI (A 1 p) ∧ τ 16 p = nI (A 2 p) ∧ τ 17 p = nI (A 3 p)) → (∀ w, w < A 0 2 → τ 18 w = nI (A 4 w) ∧ τ 19 w = nI (A 5 w) ∧ τ 20 w = nI (A 6 w)) → (∀ s, s < i → τ 21 s = nI (A 7 s) ∧ τ 22 s = nI (A 8 s) ∧ τ 23 s = nI (A 9 s)) → r_X2_copyFrom_14_24_154 E (nI i) τ Q) (A 0 5) ?_ ?_
    · intro τ hf h0 h1 h2 h3
      exact s_X2_copyFrom_14_24_154 _ _ _ _ (fe (h0 5 (by decide)) (Nat.le_refl _) (by omega) (hQ τ hf ⟨h0, h1, h2, h3⟩))
    · intro i hi ih τ hf h0 h1 h2 h3
      have hA' := hA.fr hf hL
      have v6 : vp_in (nI i) 6 := vp_in_nI (by omega) (by omega)
      obtain ⟨d1, d2, d3⟩ := hA'.2.2.2 i hi
      have a9 := (ok.2.2.2.2.2.2.2.2 i hi).2.2.2
      refine s_X2_copyFrom_14_24_154 _ _ _ _ (fs (h0 5 (by decide)) hi (by omega) ⟨v6, v6, v6, v6, v6, v6, ?_⟩)
      rw [nI_clamp (by omega), show τ 31 i = nI (A 7 i) from d1, show τ 32 i = nI (A 8 i) from d2, show τ 33 i = nI (A 9 i) from d3, nbb (show nI (A 9 i) = 0 ∨ nI (A 9 i) = 1 by rcases (show A 9 i = 0 ∨ A 9 i = 1 by omega) with e | e <;> rw [e] <;> decide), nI_1]
      refine ih _ (((hf.tr (Fr.up (by decide))).tr (Fr.up (by decide))).tr (Fr.up (by decide))) (fun j hj => ?_) (fun p hp => ?_) (fun w hw => ?_) (fun s hs => ?_)
      · rw [up_ne (by decide), up_ne (by decide), up_ne (by decide)]; exact h0 j hj
      · rw [up_ne (by decide), up_ne (by decide), up_ne (by decide), up_ne (by decide), up_ne (by decide), up_ne (by decide), up_ne (by decide), up_ne (by decide), up_ne (by decide)]; exact h1 p hp
      · rw [up_ne (by decide), up_ne (by decide), up_ne (by decide), up_ne (by decide), up_ne (by decide), up_ne (by decide), up_ne (by decide), up_ne (by decide), up_ne (by decide)]; exact h2 w hw
      · rw [up_ne (a := 21) (by decide), up_ne (a := 21) (by decide), up_eq, up_ne (a := 22) (by decide), up_eq, up_ne (a := 22) (by decide), up_eq, up_ne (a := 23) (by decide), up_ne (a := 23) (by decide)]
        by_cases e : s = i
        · subst e; rw [upd_eq, upd_eq, upd_eq]; exact ⟨rfl, rfl, rfl⟩
        · rw [upd_ne e, upd_ne e, upd_ne e]; exact h3 s (by omega)
  have l2 : ∀ i, i ≤ A 0 2 → ∀ τ, Fr [14, 15, 16, 17, 18, 19, 20, 21, 22, 23] σ τ → (∀ j, j < 6 → τ 14 j = nI (A 0 j)) → (∀ p, p < A 0 1 → τ 15 p = nI (A 1 p) ∧ τ 16 p = nI (A 2 p) ∧ τ 17 p = nI (A 3 p)) → (∀ w, w < i → τ 18 w = nI (A 4 w) ∧ τ 19 w = nI (A 5 w) ∧ τ 20 w = nI (A 6 w)) → r_X2_copyFrom_14_24_102 E (nI i) τ Q := by
    refine up_to (P := fun i => ∀ τ, Fr [14, 15, 16, 17, 18, 19, 20, 21, 22, 23] σ τ → (∀ j, j < 6 → τ 14 j = nI (A 0 j)) → (∀ p, p < A 0 1 → τ 15 p = nI (A 1 p) ∧ τ 16 p = nI (A 2 p) ∧ τ 17 p = nI (A 3 p)) → (∀ w, w < i → τ 18 w = nI (A 4 w) ∧ τ 19 w = nI (A 5 w) ∧ τ 20 w = nI (A 6 w)) → r_X2_copyFrom_14_24_102 E (nI i) τ Q) (A 0 2) ?_ ?_
    · intro τ hf h0 h1 h2
      exact s_X2_copyFrom_14_24_102 _ _ _ _ (fe (h0 2 (by decide)) (Nat.le_refl _) (by omega) (l3 0 (Nat.zero_le _) τ hf h0 h1 h2 (fun s hs => by omega)))
    · intro i hi ih τ hf h0 h1 h2
      have hA' := hA.fr hf hL
      have v8 : vp_in (nI i) 8 := vp_in_nI (by omega) (by omega)
      obtain ⟨d1, d2, d3⟩ := hA'.2.2.1 i hi
      refine s_X2_copyFrom_14_24_102 _ _ _ _ (fs (h0 2 (by decide)) hi (by omega) ⟨v8, v8, v8, v8, v8, v8, ?_⟩)
      rw [nI_clamp (by omega), show τ 28 i = nI (A 4 i) from d1, show τ 29 i = nI (A 5 i) from d2, show τ 30 i = nI (A 6 i) from d3, nI_1]
      refine ih _ (((hf.tr (Fr.up (by decide))).tr (Fr.up (by decide))).tr (Fr.up (by decide))) (fun j hj => ?_) (fun p hp => ?_) (fun s hs => ?_)
      · rw [up_ne (by decide), up_ne (by decide), up_ne (by decide)]; exact h0 j hj
      · rw [up_ne (by decide), up_ne (by decide), up_ne (by decide), up_ne (by decide), up_ne (by decide), up_ne (by decide), up_ne (by decide), up_ne (by decide), up_ne (by decide)]; exact h1 p hp
      · rw [up_ne (a := 18) (by decide), up_ne (a := 18) (by decide), up_eq, up_ne (a := 19) (by decide), up_eq, up_ne (a := 19) (by decide), up_eq, up_ne (a := 20) (by decide), up_ne (a := 20) (by decide)]
        by_cases e : s = i
        · subst e; rw [upd_eq, upd_eq, upd_eq]; exact ⟨rfl, rfl, rfl⟩
        · rw [upd_ne e, upd_ne e, upd_ne e]; exact h2 s (by omega)
  have l1 : ∀ i, i ≤ A 0 1 → ∀ τ, Fr [14, 15, 16, 17, 18, 19, 20, 21, 22, 23] σ τ → (∀ j, j < 6 → τ 14 j = nI (A 0 j)) → (∀ p, p < i → τ 15 p = nI (A 1 p) ∧ τ 16 p = nI (A 2 p) ∧ τ 17 p = nI (A 3 p)) → r_X2_copyFrom_14_24_50 E (nI i) τ Q := by
    refine up_to (P := fun i => ∀ τ, Fr [14, 15, 16, 17, 18, 19, 20, 21, 22, 23] σ τ → (∀ j, j < 6 → τ 14 j = nI (A 0 j)) → (∀ p, p < i → τ 15 p = nI (A 1 p) ∧ τ 16 p = nI (A 2 p) ∧ τ 17 p = nI (A 3 p)) → r_X2_copyFrom_14_24_50 E (nI i) τ Q) (A 0 1) ?_ ?_
    · intro τ hf h0 h1
      exact s_X2_copyFrom_14_24_50 _ _ _ _ (fe (h0 1 (by decide)) (Nat.le_refl _) (by omega) (l2 0 (Nat.zero_le _) τ hf h0 h1 (fun s hs => by omega)))
    · intro i hi ih τ hf h0 h1
      have hA' := hA.fr hf hL
      have v6 : vp_in (nI i) 6 := vp_in_nI (by omega) (by omega)
      obtain ⟨d1, d2, d3⟩ := hA'.2.1 i hi
      refine s_X2_copyFrom_14_24_50 _ _ _ _ (fs (h0 1 (by decide)) hi (by omega) ⟨v6, v6, v6, v6, v6, v6, ?_⟩)
      rw [nI_clamp (by omega), show τ 25 i = nI (A 1 i) from d1, show τ 26 i = nI (A 2 i) from d2, show τ 27 i = nI (A 3 i) from d3, nI_1]
      refine ih _ (((hf.tr (Fr.up (by decide))).tr (Fr.up (by decide))).tr (Fr.up (by decide))) (fun j hj => ?_) (fun s hs => ?_)
      · rw [up_ne (by decide), up_ne (by decide), up_ne (by decide)]; exact h0 j hj
      · rw [up_ne (a := 15) (by decide), up_ne (a := 15) (by decide), up_eq, up_ne (a := 16) (by decide), up_eq, up_ne (a := 16) (by decide), up_eq, up_ne (a := 17) (by decide), up_ne (a := 17) (by decide)]
        by_cases e : s = i
        · subst e; rw [upd_eq, upd_eq, upd_eq]; exact ⟨rfl, rfl, rfl⟩
        · rw [upd_ne e, upd_ne e, upd_ne e]; exact h1 s (by omega)
  refine s_X2_copyFrom_14_24_0 _ _ _ (l1 0 (Nat.zero_le _) _ ((((((Fr.up (by decide)).tr (Fr.up (by decide))).tr (Fr.up (by decide))).tr (Fr.up (by decide))).tr (Fr.up (by decide))).tr (Fr.up (by decide))) (fun j hj => ?_) (fun s hs => by omega))
  rw [hA.1 0 (by decide), hA.1 1 (by decide), hA.1 2 (by decide), hA.1 3 (by decide), hA.1 4 (by decide), hA.1 5 (by decide)]
  simp only [up_eq]
  rcases (show j = 0 ∨ j = 1 ∨ j = 2 ∨ j = 3 ∨ j = 4 ∨ j = 5 by omega) with e | e | e | e | e | e <;> subst e <;> simp [upd]
end CP
/-- a wrong's gravity, set -/
def sg (A : Ab) (w g : Nat) : Ab := fun r j => if r = 6 ∧ j = w then g else A r j
theorem sg_sg (A : Ab) (w g g' : Nat) : sg (sg A w g') w g = sg A w g := by
  funext r j
  unfold sg
  by_cases h : r = 6 ∧ j = w
  · rw [if_pos h, if_pos h]
  · rw [if_neg h, if_neg h, if_neg h]
theorem sg_OK {A : Ab} (ok : OK A) {w g : Nat} (h1 : 1 ≤ g) (h2 : g ≤ 9) : OK (sg A w g) := by
  obtain ⟨a1, a2, a3, a4, a5, a6, a7, a8, a9⟩ := ok
  refine ⟨a1, a2, a3, a4, a5, a6, a7, fun v hv => ?_, a9⟩
  obtain ⟨b1, b2, b3, b4⟩ := a8 v hv
  refine ⟨b1, b2, ?_, ?_⟩ <;> (show _ ≤ _; unfold sg; split <;> omega)
def iSx (A : Ab) (w : Nat) (f : Nat → Nat) : Nat → Nat
  | 0 => 1
  | n + 1 => if iSx A w f n = 0 then 0 else if A 7 n = w ∧ f (A 8 n) ≠ A 9 n then 0 else 1
theorem iSx_le {A : Ab} {w : Nat} {f : Nat → Nat} : ∀ n, iSx A w f n ≤ 1
  | 0 => Nat.le_refl _
  | n + 1 => by
    show (if iSx A w f n = 0 then 0 else if A 7 n = w ∧ f (A 8 n) ≠ A 9 n then 0 else 1) ≤ 1
    (repeat' split) <;> omega
theorem iSx_0 {A : Ab} {w : Nat} {f : Nat → Nat} {n : Nat} (h : iSx A w f n = 0) : ∀ m, n ≤ m → iSx A w f m = 0 := by
  intro m
  induction m with
  | zero => intro hm; rw [show n = 0 by omega] at h; exact h
  | succ m ih =>
    intro hm
    by_cases e : n = m + 1
    · rw [← e]; exact h
    · show (if iSx A w f m = 0 then 0 else if A 7 m = w ∧ f (A 8 m) ≠ A 9 m then 0 else 1) = 0
      rw [if_pos (ih (by omega))]
def sG (A : Ab) (w g r : Nat) : Nat := st (sg A w g) (A 0 3) r (A 4 w)
def iS (A : Ab) (w g : Nat) : Nat := iSx A w (sG A w g) (A 0 5)
def gb (A : Ab) (w : Nat) : Nat := bs (fun k => iS A w (k + 1)) 9
theorem iS_le (A : Ab) (w g : Nat) : iS A w g ≤ 1 := iSx_le _
theorem gb_lt (A : Ab) (w : Nat) : gb A w < 512 := bs_lt (n := 9) (fun i _ => iS_le A w (i + 1))
theorem sG_le (A : Ab) (w g r : Nat) : sG A w g r ≤ 1 := st_le _ _ _ _
def yW (A : Ab) (w r n : Nat) : Nat := sm (fun k => if bt (gb A w) k = 1 then sG A w (k + 1) r else 0) n
def nW (A : Ab) (w r n : Nat) : Nat := sm (fun k => if bt (gb A w) k = 1 then 1 - sG A w (k + 1) r else 0) n
theorem yn (A : Ab) (w r : Nat) : ∀ n, yW A w r n + nW A w r n = sm (fun k => bt (gb A w) k) n
  | 0 => rfl
  | n + 1 => by
    have ih := yn A w r n
    have hb := bt_le (gb A w) n
    have hs := sG_le A w (n + 1) r
    show yW A w r n + (if bt (gb A w) n = 1 then sG A w (n + 1) r else 0) + (nW A w r n + (if bt (gb A w) n = 1 then 1 - sG A w (n + 1) r else 0)) = sm (fun k => bt (gb A w) k) n + bt (gb A w) n
    split <;> omega
theorem po9 (n : Nat) : po n ≤ 9 := by
  have : po n ≤ 1 * 9 := sm_le (fun i _ => bt_le n i)
  omega
def lf (A : Ab) (w r : Nat) : Nat := if yW A w r 9 < nW A w r 9 then nW A w r 9 else yW A w r 9
theorem lf_le (A : Ab) (w r : Nat) : lf A w r ≤ 9 := by
  have := yn A w r 9
  have h2 : sm (fun k => bt (gb A w) k) 9 ≤ 9 := po9 (gb A w)
  unfold lf
  split <;> omega
def brW (A : Ab) (w : Nat) : Nat → Nat
  | 0 => 1
  | n + 1 => if lf A w (n + 2) < lf A w (brW A w n) then n + 2 else brW A w n
theorem brW_le (A : Ab) (w : Nat) : ∀ n, 1 ≤ brW A w n ∧ brW A w n ≤ n + 1
  | 0 => ⟨Nat.le_refl _, Nat.le_refl _⟩
  | n + 1 => by
    have := brW_le A w n
    show 1 ≤ (if lf A w (n + 2) < lf A w (brW A w n) then n + 2 else brW A w n) ∧ (if lf A w (n + 2) < lf A w (brW A w n) then n + 2 else brW A w n) ≤ n + 1 + 1
    split <;> omega
def lk (A : Ab) (w : Nat) : Int32 := if gb A w = 0 then -1 else nI (brW A w 5)
section GV
variable {E : EE} {σ : Mm} {A : Ab}
theorem HC.sg {w g : Nat} (h : HC 34 σ A) : HC 34 (up σ 40 w (nI g)) (sg A w g) := by
  obtain ⟨h1, h2, h3, h4⟩ := h
  refine ⟨fun j hj => ?_, fun p hp => ?_, fun v hv => ?_, fun s hs => ?_⟩
  · rw [up_ne (by decide)]; exact h1 j hj
  · rw [up_ne (by decide), up_ne (by decide), up_ne (by decide)]; exact h2 p hp
  · rw [up_ne (a := 34 + 4) (by decide), up_ne (a := 34 + 5) (by decide)]
    obtain ⟨a, b, c⟩ := h3 v hv
    refine ⟨a, b, ?_⟩
    show up σ 40 w (nI g) 40 v = nI (if 6 = 6 ∧ v = w then g else A 6 v)
    rw [up_eq]
    by_cases e : v = w
    · subst e; rw [upd_eq, if_pos ⟨rfl, rfl⟩]
    · rw [upd_ne e, if_neg (fun z => e z.2)]; exact c
  · rw [up_ne (by decide), up_ne (by decide), up_ne (by decide)]; exact h4 s hs
theorem HM.sg {w g : Nat} (h : HM σ A) : HM (up σ 70 w (nI g)) (sg A w g) := by
  obtain ⟨h1, h2, h3, h4⟩ := h
  refine ⟨?_, fun p hp => ?_, fun v hv => ?_, fun s hs => ?_⟩
  · rw [up_ne (by decide)]; exact h1
  · rw [up_ne (by decide), up_ne (by decide), up_ne (by decide)]; exact h2 p hp
  · rw [up_ne (a := 68) (by decide), up_ne (a := 69) (by decide)]
    obtain ⟨a, b, c⟩ := h3 v hv
    refine ⟨a, b, ?_⟩
    show up σ 70 w (nI g) 70 v = nI (if 6 = 6 ∧ v = w then g else A 6 v)
    rw [up_eq]
    by_cases e : v = w
    · subst e; rw [upd_eq, if_pos ⟨rfl, rfl⟩]
    · rw [upd_ne e, if_neg (fun z => e z.2)]; exact c
  · rw [up_ne (by decide)]; exact h4 s hs
theorem p_isAsSeen {w q : Nat} {f : Nat → Nat} {Q : Int32 → Mm → Prop} (ok : OK A) (hA : HC 34 σ A) (hw : w < 2 ^ 31) (hq : q ≤ 6) (hf : ∀ r, r ≤ 6 → f r ≤ 1 ∧ (f r = 1 ↔ q < r)) (hQ : Q (nI (iSx A w f (A 0 5))) σ) : r_X3_isAsSeen_0 E (nI w) (nI q) σ Q := by
  have o6 := ok.2.2.2.2.2.1
  have key : ∀ i, i ≤ A 0 5 → iSx A w f i = 1 → r_X3_isAsSeen_2 E (nI w) (nI q) (nI i) σ Q := by
    refine up_to (P := fun i => iSx A w f i = 1 → r_X3_isAsSeen_2 E (nI w) (nI q) (nI i) σ Q) (A 0 5) ?_ ?_
    · intro h1
      rw [h1] at hQ
      exact s_X3_isAsSeen_2 _ _ _ _ _ _ (fe (hA.1 5 (by decide)) (Nat.le_refl _) (by omega) hQ)
    · intro i hi ih h1
      have v6 : vp_in (nI i) 6 := vp_in_nI (by omega) (by omega)
      obtain ⟨d1, d2, d3⟩ := hA.2.2.2 i hi
      obtain ⟨b1, b2, b3, b4⟩ := ok.2.2.2.2.2.2.2.2 i hi
      have o2 := ok.2.1
      obtain ⟨f1, f2⟩ := hf (A 8 i) b3
      have e : iSx A w f (i + 1) = if A 7 i = w ∧ f (A 8 i) ≠ A 9 i then 0 else 1 := by
        show (if iSx A w f i = 0 then 0 else if A 7 i = w ∧ f (A 8 i) ≠ A 9 i then 0 else 1) = _
        rw [if_neg (by omega)]
      have bad : (A 7 i = w ∧ f (A 8 i) ≠ A 9 i) → Q 0 σ := fun hb => by
        rw [if_pos hb] at e
        rw [iSx_0 e (A 0 5) hi] at hQ
        exact hQ
      have good : ¬ (A 7 i = w ∧ f (A 8 i) ≠ A 9 i) → r_X3_isAsSeen_2 E (nI w) (nI q) (nI (i + 1)) σ Q := fun hb => ih (by rw [e, if_neg hb])
      refine s_X3_isAsSeen_2 _ _ _ _ _ _ (fs (hA.1 5 (by decide)) hi (by omega) ⟨v6, ?_⟩)
      rw [nI_clamp (by omega), show σ 41 i = nI (A 7 i) from d1, show σ 42 i = nI (A 8 i) from d2, show σ 43 i = nI (A 9 i) from d3, nI_1]
      refine tne (by omega) hw (fun c => good (fun z => c z.1)) (fun c => ⟨v6, tle (by omega) (by omega) (fun c2 => ⟨v6, teq (a := 0) (by omega) (by omega) (fun c3 => good (fun z => z.2 ?_)) (fun c3 => bad ⟨c, fun z => ?_⟩)⟩) (fun c2 => ⟨v6, teq (a := 1) (by omega) (by omega) (fun c3 => good (fun z => z.2 ?_)) (fun c3 => bad ⟨c, fun z => ?_⟩)⟩)⟩)
      · have : ¬ f (A 8 i) = 1 := fun y => by have := f2.mp y; omega
        omega
      · have : ¬ f (A 8 i) = 1 := fun y => by have := f2.mp y; omega
        omega
      · have := f2.mpr c2
        omega
      · have := f2.mpr c2
        omega
  exact s_X3_isAsSeen_0 _ _ _ _ _ (key 0 (Nat.zero_le _) rfl)
def Gv (σ : Mm) (A : Ab) (w : Nat) : Prop := σ 60 1 = nI (gb A w) ∧ ∀ g, 1 ≤ g → g ≤ 9 → ∃ q, σ 61 g = nI q ∧ q ≤ 6 ∧ ∀ r, r ≤ 6 → (sG A w g r = 1 ↔ q < r)
theorem p_gvfill {w : Nat} {Q : Mm → Prop} (ok : OK A) (hA : HC 14 σ A) (hw : w < A 0 2) (hQ : ∀ τ, Fr [34, 35, 36, 37, 38, 39, 40, 41, 42, 43, 44, 45, 46, 60, 61] σ τ → Gv τ A w → Q τ) : r_X3_fill_0 E (nI w) σ Q := by
  have o1 := ok.1
  have o2 := ok.2.1
  have hF := p256 ok ok.2.2.2.1
  have v8 : vp_in (nI w) 8 := vp_in_nI (by omega) (by omega)
  have hd := (ok.2.2.2.2.2.2.2.1 w hw).1
  have key : ∀ i, i ≤ 9 → ∀ τ, Fr [34, 35, 36, 37, 38, 39, 40, 41, 42, 43, 44, 45, 46, 60, 61] σ τ → (∃ B : Ab, HC 34 τ B ∧ ∀ g, sg B w g = sg A w g) → τ 60 1 = nI (bs (fun k => iS A w (k + 1)) i) → (∀ g, 1 ≤ g → g < i + 1 → ∃ q, τ 61 g = nI q ∧ q ≤ 6 ∧ ∀ r, r ≤ 6 → (sG A w g r = 1 ↔ q < r)) → r_X3_fill_13 E (nI w) (nI (i + 1)) τ Q := by
    refine up_to (P := fun i => ∀ τ, Fr [34, 35, 36, 37, 38, 39, 40, 41, 42, 43, 44, 45, 46, 60, 61] σ τ → (∃ B : Ab, HC 34 τ B ∧ ∀ g, sg B w g = sg A w g) → τ 60 1 = nI (bs (fun k => iS A w (k + 1)) i) → (∀ g, 1 ≤ g → g < i + 1 → ∃ q, τ 61 g = nI q ∧ q ≤ 6 ∧ ∀ r, r ≤ 6 → (sG A w g r = 1 ↔ q < r)) → r_X3_fill_13 E (nI w) (nI (i + 1)) τ Q) 9 ?_ ?_
    · intro τ hf hB h1 h2
      refine s_X3_fill_13 _ _ _ _ _ (tlt (a := 9) (by omega) (by omega) (fun _ => hQ τ hf ⟨h1, fun g g1 g2 => h2 g g1 (by omega)⟩) (fun c => by omega))
    · intro i hi ih τ hf hB h1 h2
      obtain ⟨B, hB, eB⟩ := hB
      refine s_X3_fill_13 _ _ _ _ _ (tlt (a := 9) (by omega) (by omega) (fun c => by omega) (fun _ => ⟨v8, ?_⟩))
      have okg : OK (sg A w (i + 1)) := sg_OK ok (by omega) (by omega)
      have hG : HC 34 (up τ 40 w (nI (i + 1))) (sg A w (i + 1)) := by rw [← eB]; exact hB.sg
      have e3 : τ 34 3 = nI (A 0 3) := by
        have := hG.1 3 (by decide)
        rw [up_ne (by decide)] at this
        exact this
      rw [nI_clamp (by omega), e3]
      refine p_fill34 okg hG (by omega) (fun ρ g1 g2 g3 => ⟨v8, ?_⟩)
      have hG2 := hG.fr g1 (by decide)
      rw [show ρ 38 w = nI (A 4 w) from (hG2.2.2.1 w hw).1]
      refine p_placeOf (A := sg A w (i + 1)) okg ⟨g2, g3⟩ hd ?_
      have hpl := pl_le (A := sg A w (i + 1)) (F := A 0 3) (p := A 4 w) okg
      have v10 : vp_in (nI (i + 1)) 10 := vp_in_nI (by omega) (by omega)
      refine ⟨v10, v10, ?_⟩
      rw [nI_clamp (by omega)]
      have hG3 : HC 34 (up ρ 61 (i + 1) (nI (pl (sg A w (i + 1)) (A 0 3) (A 4 w)))) (sg A w (i + 1)) := hG2.fr (L := [61]) (Fr.up (by decide)) (by decide)
      have sgx : ∀ n, iSx (sg A w (i + 1)) w (sG A w (i + 1)) n = iSx A w (sG A w (i + 1)) n := fun n => by
        induction n with
        | zero => rfl
        | succ n ihn =>
          show (if iSx (sg A w (i + 1)) w (sG A w (i + 1)) n = 0 then 0 else if A 7 n = w ∧ sG A w (i + 1) (A 8 n) ≠ A 9 n then 0 else 1) = _
          rw [ihn]; rfl
      refine p_isAsSeen (f := sG A w (i + 1)) okg hG3 (by omega) hpl (fun r hr => ⟨sG_le _ _ _ _, (pl_lt hr).1.symm⟩) ?_
      rw [sgx, nI_1]
      have hS : iSx A w (sG A w (i + 1)) (A 0 5) = iS A w (i + 1) := rfl
      rw [show iSx A w (sG A w (i + 1)) (sg A w (i + 1) 0 5) = iS A w (i + 1) from rfl]
      have il := iS_le A w (i + 1)
      have fr1 : Fr [34, 35, 36, 37, 38, 39, 40, 41, 42, 43, 44, 45, 46, 60, 61] σ (up ρ 61 (i + 1) (nI (pl (sg A w (i + 1)) (A 0 3) (A 4 w)))) := ((hf.tr (Fr.up (by decide))).tr (g1.wk (by decide))).tr (Fr.up (by decide))
      have pls : ∀ g, 1 ≤ g → g < i + 1 + 1 → ∃ q, (up ρ 61 (i + 1) (nI (pl (sg A w (i + 1)) (A 0 3) (A 4 w)))) 61 g = nI q ∧ q ≤ 6 ∧ ∀ r, r ≤ 6 → (sG A w g r = 1 ↔ q < r) := by
        intro g a1 a2
        rw [up_eq]
        by_cases e : g = i + 1
        · subst e
          rw [upd_eq]
          exact ⟨_, rfl, hpl, fun r hr => (pl_lt hr).1.symm⟩
        · rw [upd_ne e, g1 61 (by decide), up_ne (by decide)]
          exact h2 g a1 (by omega)
      have e60 : (up ρ 61 (i + 1) (nI (pl (sg A w (i + 1)) (A 0 3) (A 4 w)))) 60 1 = nI (bs (fun k => iS A w (k + 1)) i) := by
        rw [up_ne (by decide), g1 60 (by decide), up_ne (by decide)]; exact h1
      rw [nI_pred, e60]
      refine teq (b := 0) (by omega) (by omega) (fun c => ?_) (fun c => ?_)
      · refine ih _ fr1 ⟨_, hG3, fun g => sg_sg A w g (i + 1)⟩ ?_ pls
        rw [e60, orNo (d := fun k => iS A w (k + 1)) c]
      · refine ih _ (fr1.tr (Fr.up (by decide))) ⟨_, hG3.fr (L := [60]) (Fr.up (by decide)) (by decide), fun g => sg_sg A w g (i + 1)⟩ ?_ (fun g a1 a2 => by rw [up_ne (by decide)]; exact pls g a1 a2)
        rw [up_eq, upd_eq, orBit (d := fun k => iS A w (k + 1)) (by omega) (fun k _ => iS_le A w (k + 1)) (show iS A w (i + 1) = 1 by omega)]
  refine s_X3_fill_0 _ _ _ _ (p_copyFrom_34_14 ok hA (fun τ1 a1 a2 => ?_))
  refine key 0 (Nat.zero_le _) _ ((a1.wk (by decide)).tr (Fr.up (by decide))) ⟨A, a2.fr (L := [60]) (Fr.up (by decide)) (by decide), fun g => rfl⟩ ?_ (fun g a b => by omega)
  rw [up_eq, upd_eq]; rfl
theorem p_leftAtWorst {w r : Nat} {Q : Int32 → Mm → Prop} (hG : Gv σ A w) (hr : r ≤ 6) (hQ : Q (nI (lf A w r)) σ) : r_X3_leftAtWorst_0 E (nI r) σ Q := by
  have gl := gb_lt A w
  have key : ∀ i, i ≤ 9 → r_X3_leftAtWorst_4 E (nI r) (nI (yW A w r i)) (nI (i + 1)) σ Q := by
    refine up_to 9 ?_ ?_
    · refine s_X3_leftAtWorst_4 _ _ _ _ _ _ (tlt (a := 9) (by omega) (by omega) (fun _ => ?_) (fun c => by omega))
      rw [hG.1]
      refine p_bc9 gl ?_
      have e := yn A w r 9
      have e2 : sm (fun k => bt (gb A w) k) 9 = po (gb A w) := rfl
      have p9 := po9 (gb A w)
      rw [pk_sub (by omega), show po (gb A w) - yW A w r 9 = nW A w r 9 by omega]
      unfold lf at hQ
      by_cases c : yW A w r 9 < nW A w r 9
      · rw [if_pos c] at hQ; rw [if_pos (nI_lt c (by omega))]; exact hQ
      · rw [if_neg c] at hQ; rw [if_neg (nI_nlt (by omega) (by omega))]; exact hQ
    · intro i hi ih
      have hb := bt_le (gb A w) i
      refine s_X3_leftAtWorst_4 _ _ _ _ _ _ (tlt (a := 9) (by omega) (by omega) (fun c => by omega) (fun _ => ?_))
      rw [hG.1, nI_pred]
      refine p_hasBit (by omega) (by omega) ?_
      obtain ⟨q, q1, q2, q3⟩ := hG.2 (i + 1) (by omega) (by omega)
      rw [nI_clamp (by omega), q1, nI_1, nI_1]
      have e : yW A w r (i + 1) = yW A w r i + if bt (gb A w) i = 1 then sG A w (i + 1) r else 0 := rfl
      rw [e] at ih
      have sl := sG_le A w (i + 1) r
      have q4 := q3 r hr
      refine teq (b := 0) (by omega) (by omega) (fun c => ?_) (fun c => ⟨vp_in_nI (by omega) (by omega), tle (by omega) (by omega) (fun c2 => ?_) (fun c2 => ?_)⟩)
      · rw [if_neg (by omega)] at ih; exact ih
      · rw [if_pos (by omega), show sG A w (i + 1) r = 0 by
          have : ¬ sG A w (i + 1) r = 1 := fun y => by have := q4.mp y; omega
          omega] at ih
        exact ih
      · rw [if_pos (by omega), q4.mpr c2] at ih; exact ih
  exact s_X3_leftAtWorst_0 _ _ _ _ (key 0 (Nat.zero_le _))
theorem p_bestRoom {w : Nat} {Q : Int32 → Mm → Prop} (hG : Gv σ A w) (hQ : Q (lk A w) σ) : r_X3_bestRoom_0 E σ Q := by
  have gl := gb_lt A w
  unfold lk at hQ
  refine s_X3_bestRoom_0 _ _ _ ?_
  rw [hG.1]
  refine tne (b := 0) (by omega) (by omega) (fun c => ?_) (fun c => ?_)
  · rw [if_neg c] at hQ
    have key : ∀ i, i ≤ 5 → r_X3_bestRoom_13 E (nI (brW A w i)) (nI (i + 2)) σ Q := by
      refine up_to 5 ?_ ?_
      · exact s_X3_bestRoom_13 _ _ _ _ _ (tlt (a := 6) (by omega) (by omega) (fun _ => hQ) (fun c => by omega))
      · intro i hi ih
        have b := brW_le A w i
        have l1 := lf_le A w (i + 2)
        have l2 := lf_le A w (brW A w i)
        refine s_X3_bestRoom_13 _ _ _ _ _ (tlt (a := 6) (by omega) (by omega) (fun c => by omega) (fun _ => p_leftAtWorst hG (by omega) (p_leftAtWorst hG (by omega) ?_)))
        rw [nI_1]
        have e : brW A w (i + 1) = if lf A w (i + 2) < lf A w (brW A w i) then i + 2 else brW A w i := rfl
        rw [e] at ih
        refine tle (by omega) (by omega) (fun c2 => ?_) (fun c2 => ?_)
        · rw [if_neg (by omega)] at ih; exact ih
        · rw [if_pos c2] at ih; exact ih
    exact key 0 (Nat.zero_le _)
  · rw [if_pos c] at hQ; exact hQ
/-- the reference's side -/
theorem p_sitsIf {w g r : Nat} {Q : Int32 → Mm → Prop} (ok : OK A) (hM : HM σ A) (hw : w < A 0 2) (h1 : 1 ≤ g) (h9 : g ≤ 9) (hr : r ≤ 6) (hQ : ∀ τ, Fr [71] σ τ → Q (nI (sG A w g r)) τ) : r_X10_sitsIf_0 E (nI w) (nI g) (nI r) σ Q := by
  have o1 := ok.1
  have o2 := ok.2.1
  have hF := p256 ok ok.2.2.2.1
  have v8 : vp_in (nI w) 8 := vp_in_nI (by omega) (by omega)
  have hd := (ok.2.2.2.2.2.2.2.1 w hw).1
  have okg : OK (sg A w g) := sg_OK ok h1 h9
  refine s_X10_sitsIf_0 _ _ _ _ _ _ ⟨v8, v8, ?_⟩
  rw [nI_clamp (by omega), hM.1.2.2.2.1]
  have hMg : HM (up σ 70 w (nI g)) (sg A w g) := hM.sg
  refine p_sitsBy okg hMg hr (by omega) (fun ρ a1 => ⟨v8, v8, ?_⟩)
  have sl := sB_lt okg (A 0 3) r
  rw [a1 68 (by decide), up_ne (by decide), (hM.2.2.1 w hw).1, bitI (by omega) (by omega), bt_sB (A := sg A w g) hd]
  refine hQ _ (fun k hk => ?_)
  by_cases e : k = 70
  · subst e
    rw [up_eq, a1 70 (by decide), up_eq]
    funext j
    by_cases ej : j = w
    · subst ej; rw [upd_eq]
    · rw [upd_ne ej, upd_ne ej]
  · rw [up_ne e, a1 k hk, up_ne e]
theorem p_gravesOf {w : Nat} {Q : Int32 → Mm → Prop} (ok : OK A) (hM : HM σ A) (hw : w < A 0 2) (hQ : ∀ τ, Fr [71] σ τ → Q (nI (gb A w)) τ) : r_X10_gravesOf_0 E (nI w) σ Q := by
  have o2 := ok.2.1
  have o6 := ok.2.2.2.2.2.1
  have hL : ∀ k ∈ [71], k < 63 ∨ k = 64 ∨ k = 71 ∨ k = 72 ∨ 73 < k := by decide
  have key : ∀ i, i ≤ 9 → ∀ τ, Fr [71] σ τ → r_X10_gravesOf_4 E (nI w) (nI (bs (fun k => iS A w (k + 1)) i)) (nI (i + 1)) τ Q := by
    refine up_to (P := fun i => ∀ τ, Fr [71] σ τ → r_X10_gravesOf_4 E (nI w) (nI (bs (fun k => iS A w (k + 1)) i)) (nI (i + 1)) τ Q) 9 ?_ ?_
    · intro τ hf
      exact s_X10_gravesOf_4 _ _ _ _ _ _ (fe (n := 10) rfl (by omega) (by omega) (hQ τ hf))
    · intro i hi ih τ hf
      refine s_X10_gravesOf_4 _ _ _ _ _ _ (fs (n := 10) rfl (by omega) (by omega) ?_)
      have in1 : ∀ n, n ≤ A 0 5 → ∀ ρ, Fr [71] σ ρ → r_X10_gravesOf_16 E (nI w) (nI (bs (fun k => iS A w (k + 1)) i)) (nI (i + 1)) (nI (iSx A w (sG A w (i + 1)) n)) (nI (3 * n)) ρ Q := by
        refine up_to (P := fun n => ∀ ρ, Fr [71] σ ρ → r_X10_gravesOf_16 E (nI w) (nI (bs (fun k => iS A w (k + 1)) i)) (nI (i + 1)) (nI (iSx A w (sG A w (i + 1)) n)) (nI (3 * n)) ρ Q) (A 0 5) ?_ ?_
        · intro ρ hf2
          have hM' := hM.fr hf2 hL
          have il := iS_le A w (i + 1)
          refine s_X10_gravesOf_16 _ _ _ _ _ _ _ _ (fe (n := 3 * A 0 5) (by rw [hM'.1.2.2.2.2.2, show (3 : Int32) = nI 3 from rfl, pk_mul]) (Nat.le_refl _) (by omega) ?_)
          rw [show iSx A w (sG A w (i + 1)) (A 0 5) = iS A w (i + 1) from rfl, or0, nI_pred, nI_1]
          refine teq (b := 0) (by omega) (by omega) (fun c => ?_) (fun c => ?_)
          · rw [orNo (d := fun k => iS A w (k + 1)) c]; exact ih ρ hf2
          · rw [orBit (d := fun k => iS A w (k + 1)) (by omega) (fun k _ => iS_le A w (k + 1)) (show iS A w (i + 1) = 1 by omega)]; exact ih ρ hf2
        · intro n hn ihn ρ hf2
          have hM' := hM.fr hf2 hL
          obtain ⟨d1, d2, d3⟩ := hM'.2.2.2 n hn
          obtain ⟨b1, b2, b3, b4⟩ := ok.2.2.2.2.2.2.2.2 n hn
          have il := iSx_le (A := A) (w := w) (f := sG A w (i + 1)) n
          have e : iSx A w (sG A w (i + 1)) (n + 1) = if iSx A w (sG A w (i + 1)) n = 0 then 0 else if A 7 n = w ∧ sG A w (i + 1) (A 8 n) ≠ A 9 n then 0 else 1 := rfl
          rw [e] at ihn
          have e3 : nI (3 * n) + 3 = nI (3 * (n + 1)) := by rw [show (3 : Int32) = nI 3 from rfl, nI_add, Nat.mul_succ]
          have e1 : nI (3 * n) + 1 = nI (3 * n + 1) := nI_1 _
          have e2 : nI (3 * n) + 2 = nI (3 * n + 2) := by rw [show (2 : Int32) = nI 2 from rfl, nI_add]
          refine s_X10_gravesOf_16 _ _ _ _ _ _ _ _ (fs (n := 3 * A 0 5) (by rw [hM'.1.2.2.2.2.2, show (3 : Int32) = nI 3 from rfl, pk_mul]) (by omega) (by omega) ?_)
          rw [e3, e1, e2, nI_clamp (by omega), nI_clamp (by omega), nI_clamp (by omega), d1, d2]
          have sl := sG_le A w (i + 1) (A 8 n)
          refine teq (b := 0) (by omega) (by omega) (fun c => ?_) (fun c => ⟨vp_in_nI (by omega) (by omega), tne (by omega) (by omega) (fun c2 => ?_) (fun c2 => ⟨vp_in_nI (by omega) (by omega), p_sitsIf ok hM' hw (by omega) (by omega) b3 (fun ζ z1 => ⟨vp_in_nI (by omega) (by omega), ?_⟩)⟩)⟩)
          · have := ihn ρ hf2
            rw [if_pos c] at this
            exact this
          · have := ihn ρ hf2
            rw [if_neg c, if_neg (fun z => c2 z.1)] at this
            exact this
          · have h3 := ihn ζ (hf2.tr z1)
            rw [if_neg c] at h3
            rw [z1 73 (by decide), d3]
            refine tne (by omega) (by omega) (fun c3 => ?_) (fun c3 => ?_)
            · rw [if_pos ⟨c2, c3⟩] at h3; exact h3
            · rw [if_neg (fun z => z.2 c3)] at h3; exact h3
      exact in1 0 (Nat.zero_le _) τ hf
  exact s_X10_gravesOf_0 _ _ _ _ (key 0 (Nat.zero_le _) σ Fr.rf)
theorem p_lookOf {w : Nat} {Q : Int32 → Mm → Prop} (ok : OK A) (hM : HM σ A) (hw : w < A 0 2) (hQ : ∀ τ, Fr [71] σ τ → Q (lk A w) τ) : r_X10_lookOf_0 E (nI w) σ Q := by
  have gl := gb_lt A w
  have hL : ∀ k ∈ [71], k < 63 ∨ k = 64 ∨ k = 71 ∨ k = 72 ∨ 73 < k := by decide
  refine s_X10_lookOf_0 _ _ _ _ (p_gravesOf ok hM hw (fun τ1 a1 => ?_))
  by_cases hz : gb A w = 0
  · refine s_X10_lookOf_15 _ _ _ _ _ _ _ _ ?_
    rw [hz]
    have hq := hQ τ1 a1
    unfold lk at hq
    rw [if_pos hz] at hq
    exact ⟨fun z => absurd z (by decide), fun _ => ⟨fun _ => hq, fun z => absurd rfl z⟩⟩
  · have hne : ¬ nI (gb A w) = 0 := fun z => hz ((nI_eq (b := 0) (by omega) (by omega)).mp z)
    -- one room: r, then on
    have room : ∀ r x3 x4 τ, 1 ≤ r → r ≤ 6 → Fr [71] σ τ → (∀ ρ, Fr [71] σ ρ → ((x4 ≤ nI (lf A w r) → r_X10_lookOf_15 E (nI w) (nI (gb A w)) x3 x4 (nI (r + 1)) ρ Q) ∧ (¬ x4 ≤ nI (lf A w r) → r_X10_lookOf_15 E (nI w) (nI (gb A w)) (nI r) (nI (lf A w r)) (nI (r + 1)) ρ Q))) → r_X10_lookOf_15 E (nI w) (nI (gb A w)) x3 x4 (nI r) τ Q := by
      intro r x3 x4 τ r1 r6 hf hk
      refine s_X10_lookOf_15 _ _ _ _ _ _ _ _ (fs (n := 7) rfl (by omega) (by omega) ⟨fun z => absurd z hne, fun _ => ?_⟩)
      have in1 : ∀ i, i ≤ 9 → ∀ ρ, Fr [71] σ ρ → r_X10_lookOf_35 E (nI w) (nI (gb A w)) x3 x4 (nI r) (nI (yW A w r i)) (nI (nW A w r i)) (nI (i + 1)) ρ Q := by
        refine up_to (P := fun i => ∀ ρ, Fr [71] σ ρ → r_X10_lookOf_35 E (nI w) (nI (gb A w)) x3 x4 (nI r) (nI (yW A w r i)) (nI (nW A w r i)) (nI (i + 1)) ρ Q) 9 ?_ ?_
        · intro ρ hf2
          have e := yn A w r 9
          have p9 : sm (fun k => bt (gb A w) k) 9 ≤ 9 := po9 (gb A w)
          have h3 := hk ρ hf2
          unfold lf at h3
          refine s_X10_lookOf_35 _ _ _ _ _ _ _ _ _ _ _ (fe (n := 10) rfl (by omega) (by omega) ?_)
          rw [nI_1]
          refine tle (by omega) (by omega) (fun c => ?_) (fun c => ?_)
          · by_cases q : yW A w r 9 < nW A w r 9
            · rw [if_pos q] at h3
              exact ⟨fun z => ⟨fun _ => h3.1 z, fun y => absurd z y⟩, fun z => ⟨fun y => absurd y z, fun _ => h3.2 z⟩⟩
            · rw [if_neg q, show yW A w r 9 = nW A w r 9 by omega] at h3
              exact ⟨fun z => ⟨fun _ => h3.1 z, fun y => absurd z y⟩, fun z => ⟨fun y => absurd y z, fun _ => h3.2 z⟩⟩
          · rw [if_neg (by omega)] at h3
            exact ⟨fun z => ⟨fun _ => h3.1 z, fun y => absurd z y⟩, fun z => ⟨fun y => absurd y z, fun _ => h3.2 z⟩⟩
        · intro i hi ih ρ hf2
          have hb := bt_le (gb A w) i
          have sl := sG_le A w (i + 1) r
          have e1 : yW A w r (i + 1) = yW A w r i + if bt (gb A w) i = 1 then sG A w (i + 1) r else 0 := rfl
          have e2 : nW A w r (i + 1) = nW A w r i + if bt (gb A w) i = 1 then 1 - sG A w (i + 1) r else 0 := rfl
          rw [e1, e2] at ih
          refine s_X10_lookOf_35 _ _ _ _ _ _ _ _ _ _ _ (fs (n := 10) rfl (by omega) (by omega) ?_)
          rw [nI_pred, bitI (by omega) (by omega), nI_1]
          refine tne (b := 1) (by omega) (by omega) (fun c => ?_) (fun c => p_sitsIf ok (hM.fr hf2 hL) hw (by omega) (by omega) r6 (fun ζ z1 => ?_))
          · rw [if_neg c, if_neg c] at ih
            rw [show bt (gb A w) i = 0 by omega, show (0 : Int32) = nI 0 from rfl, pk_sub (Nat.le_refl 0), nI_add, nI_add]
            exact ih ρ hf2
          · rw [if_pos c, if_pos c] at ih
            rw [c, nI_add, pk_sub sl, nI_add]
            exact ih ζ (hf2.tr z1)
      exact in1 0 (Nat.zero_le _) τ hf
    have rest : ∀ i, i ≤ 5 → ∀ τ, Fr [71] σ τ → r_X10_lookOf_15 E (nI w) (nI (gb A w)) (nI (brW A w i)) (nI (lf A w (brW A w i))) (nI (i + 2)) τ Q := by
      refine up_to (P := fun i => ∀ τ, Fr [71] σ τ → r_X10_lookOf_15 E (nI w) (nI (gb A w)) (nI (brW A w i)) (nI (lf A w (brW A w i))) (nI (i + 2)) τ Q) 5 ?_ ?_
      · intro τ hf
        have hq := hQ τ hf
        unfold lk at hq
        rw [if_neg hz] at hq
        exact s_X10_lookOf_15 _ _ _ _ _ _ _ _ (fe (n := 7) rfl (by omega) (by omega) hq)
      · intro i hi ih τ hf
        have l1 := lf_le A w (i + 2)
        have l2 := lf_le A w (brW A w i)
        refine room (i + 2) _ _ τ (by omega) (by omega) hf (fun ρ hf2 => ?_)
        have h3 := ih ρ hf2
        have e : brW A w (i + 1) = if lf A w (i + 2) < lf A w (brW A w i) then i + 2 else brW A w i := rfl
        rw [e] at h3
        refine tle (by omega) (by omega) (fun c => ?_) (fun c => ?_)
        · rw [if_neg (by omega)] at h3; exact h3
        · rw [if_pos c] at h3; exact h3
    refine room 1 (-1) 10 τ1 (by omega) (by omega) a1 (fun ρ hf2 => ?_)
    have l1 := lf_le A w 1
    exact tle (a := 10) (by omega) (by omega) (fun c => by omega) (fun c => rest 0 (Nat.zero_le _) ρ hf2)
end GV
