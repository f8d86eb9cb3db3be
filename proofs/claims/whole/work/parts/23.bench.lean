/-! the bench -/
section BE
variable {E : EE} {σ : Mm} {A : Ab}
theorem p_guiltAs {k s c : Nat} {Q : Int32 → Mm → Prop} (hk : k < 100) (hs : s < 1000) (hc : c < 1000) (h : Q (nI (gk k s c)) σ) : r_X0_guiltAs_0 E (nI k) (nI s) (nI c) σ Q := by
  apply s_X0_guiltAs_0
  unfold gk at h
  have e : ∀ n : Nat, n < 100 → (nI k = nI n ↔ k = n) := fun n hn => nI_eq (by omega) (by omega)
  refine ⟨fun q => ?_, fun q => ?_, fun q => ?_, fun q => ?_, fun q1 q2 q3 q4 => ?_⟩
  · rw [if_pos ((e 1 (by omega)).mp q)] at h
    rw [show (2 : Int32) = nI 2 from rfl, pk_div (by omega) (by omega) (by omega)]
    exact h
  · have := (e 2 (by omega)).mp q
    rw [if_neg (by omega), if_pos this] at h
    rw [nI_add]
    exact h
  · have := (e 3 (by omega)).mp q
    rw [if_neg (by omega), if_neg (by omega), if_pos this] at h
    by_cases h1 : 1 < s
    · rw [if_pos h1] at h
      rw [if_pos (show (1 : Int32) < nI s from nI_lt (a := 1) h1 (by omega))]
      exact h
    · rw [if_neg h1] at h
      rw [if_neg (show ¬ (1 : Int32) < nI s from nI_nlt (a := 1) (by omega) (by omega))]
      exact h
  · have := (e 4 (by omega)).mp q
    rw [if_neg (by omega), if_neg (by omega), if_neg (by omega), if_pos this] at h
    exact h
  · have n1 : k ≠ 1 := fun z => q1 (by rw [z]; rfl)
    have n2 : k ≠ 2 := fun z => q2 (by rw [z]; rfl)
    have n3 : k ≠ 3 := fun z => q3 (by rw [z]; rfl)
    have n4 : k ≠ 4 := fun z => q4 (by rw [z]; rfl)
    rw [if_neg n1, if_neg n2, if_neg n3, if_neg n4] at h
    exact h
theorem p_fill14 {F : Nat} {Q : Mm → Prop} (ok : OK A) (hA : HC 14 σ A) (hF : F < 2 ^ 31) (hQ : ∀ τ, Fr [44, 45, 46] σ τ → τ 44 2 = nI (A 0 1) → (∀ p, p < A 0 1 → τ 45 p = nI (gu A F p)) → Q τ) : r_X0_fill_14_0 E (nI F) σ Q := by
  have o1 := ok.1
  have o2 := ok.2.1
  have hL : ∀ k ∈ [44, 45, 46], k < 14 ∨ 14 + 9 < k := by decide
  -- the last loop
  have l3 : ∀ i, i ≤ A 0 1 → ∀ τ, Fr [44, 45, 46] σ τ → τ 44 2 = nI (A 0 1) → (∀ p, p < i → τ 45 p = nI (gu A F p)) → (∀ p, i ≤ p → p < A 0 1 → τ 45 p = nI (sgW A F p (A 0 2)) ∧ τ 46 p = nI (scW A F p (A 0 2))) → r_X0_fill_14_102 E (nI F) (nI i) τ Q := by
    refine up_to (P := fun i => ∀ τ, Fr [44, 45, 46] σ τ → τ 44 2 = nI (A 0 1) → (∀ p, p < i → τ 45 p = nI (gu A F p)) → (∀ p, i ≤ p → p < A 0 1 → τ 45 p = nI (sgW A F p (A 0 2)) ∧ τ 46 p = nI (scW A F p (A 0 2))) → r_X0_fill_14_102 E (nI F) (nI i) τ Q) (A 0 1) ?_ ?_
    · intro τ hf h1 h2 h3
      exact s_X0_fill_14_102 _ _ _ _ _ (fe h1 (Nat.le_refl _) (by omega) (hQ τ hf h1 h2))
    · intro i hi ih τ hf h1 h2 h3
      have hA' := hA.fr hf hL
      refine s_X0_fill_14_102 _ _ _ _ _ (fs h1 hi (by omega) ⟨vp_in_nI (by omega) (by omega), vp_in_nI (by omega) (by omega), vp_in_nI (by omega) (by omega), ?_⟩)
      rw [nI_clamp (by omega), (h3 i (Nat.le_refl _) hi).1, (h3 i (Nat.le_refl _) hi).2, show τ 15 i = nI (A 1 i) from (hA'.2.1 i hi).1]
      have a1 := (ok.2.2.2.2.2.2.1 i hi).1
      have a2 := sgW_le ok F i (Nat.le_refl _)
      have a3 := scW_le ok F i (Nat.le_refl _)
      refine p_guiltAs (by omega) (by omega) (by omega) ⟨vp_in_nI (by omega) (by omega), ?_⟩
      rw [nI_1]
      refine ih _ (hf.tr (Fr.up (by decide))) ?_ (fun p hp => ?_) (fun p hp hp2 => ?_)
      · rw [up_ne (by decide)]; exact h1
      · rw [up_eq]
        by_cases e : p = i
        · subst e; rw [upd_eq]; rfl
        · rw [upd_ne e]; exact h2 p (by omega)
      · rw [up_eq, upd_ne (by omega), up_ne (by decide)]
        exact h3 p (by omega) hp2
  have l2 : ∀ i, i ≤ A 0 2 → ∀ τ, Fr [44, 45, 46] σ τ → τ 44 2 = nI (A 0 1) → (∀ p, p < A 0 1 → τ 45 p = nI (sgW A F p i) ∧ τ 46 p = nI (scW A F p i)) → r_X0_fill_14_40 E (nI F) (nI i) τ Q := by
    refine up_to (P := fun i => ∀ τ, Fr [44, 45, 46] σ τ → τ 44 2 = nI (A 0 1) → (∀ p, p < A 0 1 → τ 45 p = nI (sgW A F p i) ∧ τ 46 p = nI (scW A F p i)) → r_X0_fill_14_40 E (nI F) (nI i) τ Q) (A 0 2) ?_ ?_
    · intro τ hf h1 h2
      have hA' := hA.fr hf hL
      exact s_X0_fill_14_40 _ _ _ _ _ (fe (hA'.1 2 (by decide)) (Nat.le_refl _) (by omega) (l3 0 (Nat.zero_le _) τ hf h1 (fun p hp => by omega) (fun p _ hp => h2 p hp)))
    · intro i hi ih τ hf h1 h2
      have hA' := hA.fr hf hL
      have d1 : τ 18 i = nI (A 4 i) := (hA'.2.2.1 i hi).1
      have d2 : τ 20 i = nI (A 6 i) := (hA'.2.2.1 i hi).2.2
      obtain ⟨w1, -, w3, w4⟩ := ok.2.2.2.2.2.2.2.1 i hi
      refine s_X0_fill_14_40 _ _ _ _ _ (fs (hA'.1 2 (by decide)) hi (by omega) ⟨vp_in_nI (by omega) (by omega), p_hasBit hF (by omega) ?_⟩)
      rw [nI_clamp (by omega), d1, d2, nI_clamp (by omega), (h2 _ w1).1, (h2 _ w1).2, nI_1]
      have hb := bt_le F i
      have v1 : vp_in (nI (A 4 i)) 6 := vp_in_nI (by omega) (by omega)
      refine ⟨fun q => ⟨v1, vp_in_nI (by omega) (by omega), v1, ?_⟩, fun q => ⟨v1, v1, ?_⟩⟩
      · have e0 : bt F i = 0 := (nI_eq (b := 0) (by omega) (by omega)).mp q
        rw [nI_add]
        refine ih _ (hf.tr (Fr.up (by decide))) ?_ (fun p hp => ?_)
        · rw [up_ne (by decide)]; exact h1
        · rw [up_eq, up_ne (by decide)]
          have s1 : sgW A F p (i + 1) = sgW A F p i + if A 4 i = p ∧ bt F i = 0 then A 6 i else 0 := rfl
          have s2 : scW A F p (i + 1) = scW A F p i + if A 4 i = p ∧ bt F i = 1 then 1 else 0 := rfl
          rw [s1, s2, if_neg (show ¬ (A 4 i = p ∧ bt F i = 1) by omega), Nat.add_zero]
          by_cases e : p = A 4 i
          · subst e; rw [upd_eq, if_pos ⟨rfl, e0⟩]; exact ⟨rfl, (h2 _ hp).2⟩
          · rw [upd_ne e, if_neg (fun z => e z.1.symm), Nat.add_zero]; exact h2 p hp
      · have e1 : bt F i = 1 := by
          rcases (show bt F i = 0 ∨ bt F i = 1 by omega) with z | z
          · exact absurd (by rw [z]; rfl) q
          · exact z
        rw [nI_1]
        refine ih _ (hf.tr (Fr.up (by decide))) ?_ (fun p hp => ?_)
        · rw [up_ne (by decide)]; exact h1
        · rw [up_eq, up_ne (by decide)]
          have s1 : sgW A F p (i + 1) = sgW A F p i + if A 4 i = p ∧ bt F i = 0 then A 6 i else 0 := rfl
          have s2 : scW A F p (i + 1) = scW A F p i + if A 4 i = p ∧ bt F i = 1 then 1 else 0 := rfl
          rw [s1, s2, if_neg (show ¬ (A 4 i = p ∧ bt F i = 0) by omega), Nat.add_zero]
          by_cases e : p = A 4 i
          · subst e; rw [upd_eq, if_pos ⟨rfl, e1⟩]; exact ⟨(h2 _ hp).1, rfl⟩
          · rw [upd_ne e, if_neg (fun z => e z.1.symm), Nat.add_zero]; exact h2 p hp
  have l1 : ∀ i, i ≤ A 0 1 → ∀ τ, Fr [44, 45, 46] σ τ → τ 44 2 = nI (A 0 1) → (∀ p, p < i → τ 45 p = 0 ∧ τ 46 p = 0) → r_X0_fill_14_10 E (nI F) (nI i) τ Q := by
    refine up_to (P := fun i => ∀ τ, Fr [44, 45, 46] σ τ → τ 44 2 = nI (A 0 1) → (∀ p, p < i → τ 45 p = 0 ∧ τ 46 p = 0) → r_X0_fill_14_10 E (nI F) (nI i) τ Q) (A 0 1) ?_ ?_
    · intro τ hf h1 h2
      exact s_X0_fill_14_10 _ _ _ _ _ (fe h1 (Nat.le_refl _) (by omega) (l2 0 (Nat.zero_le _) τ hf h1 (fun p hp => h2 p hp)))
    · intro i hi ih τ hf h1 h2
      refine s_X0_fill_14_10 _ _ _ _ _ (fs h1 hi (by omega) ⟨vp_in_nI (by omega) (by omega), vp_in_nI (by omega) (by omega), ?_⟩)
      rw [nI_clamp (by omega), nI_1]
      refine ih _ ((hf.tr (Fr.up (by decide))).tr (Fr.up (by decide))) ?_ (fun p hp => ?_)
      · rw [up_ne (by decide), up_ne (by decide)]; exact h1
      · rw [up_eq, up_ne (a := 45) (by decide), up_eq, up_ne (a := 46) (by decide)]
        by_cases e : p = i
        · subst e; rw [upd_eq, upd_eq]; exact ⟨rfl, rfl⟩
        · rw [upd_ne e, upd_ne e]; exact h2 p (by omega)
  refine s_X0_fill_14_0 _ _ _ _ (l1 0 (Nat.zero_le _) _ (Fr.up (by decide)) ?_ (fun p hp => by omega))
  rw [up_eq, upd_eq]
  exact hA.1 1 (by decide)
theorem p_fill34 {F : Nat} {Q : Mm → Prop} (ok : OK A) (hA : HC 34 σ A) (hF : F < 2 ^ 31) (hQ : ∀ τ, Fr [44, 45, 46] σ τ → τ 44 2 = nI (A 0 1) → (∀ p, p < A 0 1 → τ 45 p = nI (gu A F p)) → Q τ) : r_X0_fill_34_0 E (nI F) σ Q := by
  have o1 := ok.1
  have o2 := ok.2.1
  have hL : ∀ k ∈ [44, 45, 46], k < 34 ∨ 34 + 9 < k := by decide
  -- the last loop
  have l3 : ∀ i, i ≤ A 0 1 → ∀ τ, Fr [44, 45, 46] σ τ → τ 44 2 = nI (A 0 1) → (∀ p, p < i → τ 45 p = nI (gu A F p)) → (∀ p, i ≤ p → p < A 0 1 → τ 45 p = nI (sgW A F p (A 0 2)) ∧ τ 46 p = nI (scW A F p (A 0 2))) → r_X0_fill_34_102 E (nI F) (nI i) τ Q := by
    refine up_to (P := fun i => ∀ τ, Fr [44, 45, 46] σ τ → τ 44 2 = nI (A 0 1) → (∀ p, p < i → τ 45 p = nI (gu A F p)) → (∀ p, i ≤ p → p < A 0 1 → τ 45 p = nI (sgW A F p (A 0 2)) ∧ τ 46 p = nI (scW A F p (A 0 2))) → r_X0_fill_34_102 E (nI F) (nI i) τ Q) (A 0 1) ?_ ?_
    · intro τ hf h1 h2 h3
      exact s_X0_fill_34_102 _ _ _ _ _ (fe h1 (Nat.le_refl _) (by omega) (hQ τ hf h1 h2))
    · intro i hi ih τ hf h1 h2 h3
      have hA' := hA.fr hf hL
      refine s_X0_fill_34_102 _ _ _ _ _ (fs h1 hi (by omega) ⟨vp_in_nI (by omega) (by omega), vp_in_nI (by omega) (by omega), vp_in_nI (by omega) (by omega), ?_⟩)
      rw [nI_clamp (by omega), (h3 i (Nat.le_refl _) hi).1, (h3 i (Nat.le_refl _) hi).2, show τ 35 i = nI (A 1 i) from (hA'.2.1 i hi).1]
      have a1 := (ok.2.2.2.2.2.2.1 i hi).1
      have a2 := sgW_le ok F i (Nat.le_refl _)
      have a3 := scW_le ok F i (Nat.le_refl _)
      refine p_guiltAs (by omega) (by omega) (by omega) ⟨vp_in_nI (by omega) (by omega), ?_⟩
      rw [nI_1]
      refine ih _ (hf.tr (Fr.up (by decide))) ?_ (fun p hp => ?_) (fun p hp hp2 => ?_)
      · rw [up_ne (by decide)]; exact h1
      · rw [up_eq]
        by_cases e : p = i
        · subst e; rw [upd_eq]; rfl
        · rw [upd_ne e]; exact h2 p (by omega)
      · rw [up_eq, upd_ne (by omega), up_ne (by decide)]
        exact h3 p (by omega) hp2
  have l2 : ∀ i, i ≤ A 0 2 → ∀ τ, Fr [44, 45, 46] σ τ → τ 44 2 = nI (A 0 1) → (∀ p, p < A 0 1 → τ 45 p = nI (sgW A F p i) ∧ τ 46 p = nI (scW A F p i)) → r_X0_fill_34_40 E (nI F) (nI i) τ Q := by
    refine up_to (P := fun i => ∀ τ, Fr [44, 45, 46] σ τ → τ 44 2 = nI (A 0 1) → (∀ p, p < A 0 1 → τ 45 p = nI (sgW A F p i) ∧ τ 46 p = nI (scW A F p i)) → r_X0_fill_34_40 E (nI F) (nI i) τ Q) (A 0 2) ?_ ?_
    · intro τ hf h1 h2
      have hA' := hA.fr hf hL
      exact s_X0_fill_34_40 _ _ _ _ _ (fe (hA'.1 2 (by decide)) (Nat.le_refl _) (by omega) (l3 0 (Nat.zero_le _) τ hf h1 (fun p hp => by omega) (fun p _ hp => h2 p hp)))
    · intro i hi ih τ hf h1 h2
      have hA' := hA.fr hf hL
      have d1 : τ 38 i = nI (A 4 i) := (hA'.2.2.1 i hi).1
      have d2 : τ 40 i = nI (A 6 i) := (hA'.2.2.1 i hi).2.2
      obtain ⟨w1, -, w3, w4⟩ := ok.2.2.2.2.2.2.2.1 i hi
      refine s_X0_fill_34_40 _ _ _ _ _ (fs (hA'.1 2 (by decide)) hi (by omega) ⟨vp_in_nI (by omega) (by omega), p_hasBit hF (by omega) ?_⟩)
      rw [nI_clamp (by omega), d1, d2, nI_clamp (by omega), (h2 _ w1).1, (h2 _ w1).2, nI_1]
      have hb := bt_le F i
      have v1 : vp_in (nI (A 4 i)) 6 := vp_in_nI (by omega) (by omega)
      refine ⟨fun q => ⟨v1, vp_in_nI (by omega) (by omega), v1, ?_⟩, fun q => ⟨v1, v1, ?_⟩⟩
      · have e0 : bt F i = 0 := (nI_eq (b := 0) (by omega) (by omega)).mp q
        rw [nI_add]
        refine ih _ (hf.tr (Fr.up (by decide))) ?_ (fun p hp => ?_)
        · rw [up_ne (by decide)]; exact h1
        · rw [up_eq, up_ne (by decide)]
          have s1 : sgW A F p (i + 1) = sgW A F p i + if A 4 i = p ∧ bt F i = 0 then A 6 i else 0 := rfl
          have s2 : scW A F p (i + 1) = scW A F p i + if A 4 i = p ∧ bt F i = 1 then 1 else 0 := rfl
          rw [s1, s2, if_neg (show ¬ (A 4 i = p ∧ bt F i = 1) by omega), Nat.add_zero]
          by_cases e : p = A 4 i
          · subst e; rw [upd_eq, if_pos ⟨rfl, e0⟩]; exact ⟨rfl, (h2 _ hp).2⟩
          · rw [upd_ne e, if_neg (fun z => e z.1.symm), Nat.add_zero]; exact h2 p hp
      · have e1 : bt F i = 1 := by
          rcases (show bt F i = 0 ∨ bt F i = 1 by omega) with z | z
          · exact absurd (by rw [z]; rfl) q
          · exact z
        rw [nI_1]
        refine ih _ (hf.tr (Fr.up (by decide))) ?_ (fun p hp => ?_)
        · rw [up_ne (by decide)]; exact h1
        · rw [up_eq, up_ne (by decide)]
          have s1 : sgW A F p (i + 1) = sgW A F p i + if A 4 i = p ∧ bt F i = 0 then A 6 i else 0 := rfl
          have s2 : scW A F p (i + 1) = scW A F p i + if A 4 i = p ∧ bt F i = 1 then 1 else 0 := rfl
          rw [s1, s2, if_neg (show ¬ (A 4 i = p ∧ bt F i = 0) by omega), Nat.add_zero]
          by_cases e : p = A 4 i
          · subst e; rw [upd_eq, if_pos ⟨rfl, e1⟩]; exact ⟨(h2 _ hp).1, rfl⟩
          · rw [upd_ne e, if_neg (fun z => e z.1.symm), Nat.add_zero]; exact h2 p hp
  have l1 : ∀ i, i ≤ A 0 1 → ∀ τ, Fr [44, 45, 46] σ τ → τ 44 2 = nI (A 0 1) → (∀ p, p < i → τ 45 p = 0 ∧ τ 46 p = 0) → r_X0_fill_34_10 E (nI F) (nI i) τ Q := by
    refine up_to (P := fun i => ∀ τ, Fr [44, 45, 46] σ τ → τ 44 2 = nI (A 0 1) → (∀ p, p < i → τ 45 p = 0 ∧ τ 46 p = 0) → r_X0_fill_34_10 E (nI F) (nI i) τ Q) (A 0 1) ?_ ?_
    · intro τ hf h1 h2
      exact s_X0_fill_34_10 _ _ _ _ _ (fe h1 (Nat.le_refl _) (by omega) (l2 0 (Nat.zero_le _) τ hf h1 (fun p hp => h2 p hp)))
    · intro i hi ih τ hf h1 h2
      refine s_X0_fill_34_10 _ _ _ _ _ (fs h1 hi (by omega) ⟨vp_in_nI (by omega) (by omega), vp_in_nI (by omega) (by omega), ?_⟩)
      rw [nI_clamp (by omega), nI_1]
      refine ih _ ((hf.tr (Fr.up (by decide))).tr (Fr.up (by decide))) ?_ (fun p hp => ?_)
      · rw [up_ne (by decide), up_ne (by decide)]; exact h1
      · rw [up_eq, up_ne (a := 45) (by decide), up_eq, up_ne (a := 46) (by decide)]
        by_cases e : p = i
        · subst e; rw [upd_eq, upd_eq]; exact ⟨rfl, rfl⟩
        · rw [upd_ne e, upd_ne e]; exact h2 p (by omega)
  refine s_X0_fill_34_0 _ _ _ _ (l1 0 (Nat.zero_le _) _ (Fr.up (by decide)) ?_ (fun p hp => by omega))
  rw [up_eq, upd_eq]
  exact hA.1 1 (by decide)
/-- the bench as it stands filled -/
def Bf (σ : Mm) (A : Ab) (F : Nat) : Prop := σ 44 2 = nI (A 0 1) ∧ ∀ p, p < A 0 1 → σ 45 p = nI (gu A F p)
theorem p_placeOf {F p : Nat} {Q : Int32 → Mm → Prop} (ok : OK A) (hB : Bf σ A F) (hp : p < A 0 1) (hQ : Q (nI (pl A F p)) σ) : r_X0_placeOf_0 E (nI p) σ Q := by
  have o1 := ok.1
  obtain ⟨h1, h2⟩ := hB
  have g := gu_le ok F p
  apply s_X0_placeOf_0
  rw [nI_clamp (by omega), h2 p hp]
  refine ⟨vp_in_nI (by omega) (by omega), tle (a := 1) (by omega) (by omega) (fun q => ?_) (fun q => ?_)⟩
  · unfold pl at hQ
    rw [if_pos q] at hQ
    have key : ∀ i, i ≤ A 0 1 → r_X0_placeOf_20 E (nI p) (nI (gu A F p)) (nI (ahW A F p i)) (nI i) σ Q := by
      refine up_to (A 0 1) ?_ ?_
      · exact s_X0_placeOf_20 _ _ _ _ _ _ _ (fe h1 (Nat.le_refl _) (by omega) hQ)
      · intro i hi ih
        have gi := gu_le ok F i
        refine s_X0_placeOf_20 _ _ _ _ _ _ _ (fs h1 hi (by omega) ⟨vp_in_nI (by omega) (by omega), ?_⟩)
        rw [nI_clamp (by omega), h2 i hi, nI_1, nI_1]
        have e : ahW A F p (i + 1) = ahW A F p i + if gu A F p < gu A F i ∨ (gu A F i = gu A F p ∧ i < p) then 1 else 0 := rfl
        rw [e] at ih
        refine tlt (by omega) (by omega) (fun c => ?_) (fun c => ⟨vp_in_nI (by omega) (by omega), tne (by omega) (by omega) (fun c2 => ?_) (fun c2 => tle (by omega) (by omega) (fun c3 => ?_) (fun c3 => ?_))⟩)
        · rw [if_pos (Or.inl c)] at ih; exact ih
        · rw [if_neg (by omega)] at ih; exact ih
        · rw [if_neg (by omega)] at ih; exact ih
        · rw [if_pos (Or.inr ⟨c2, c3⟩)] at ih; exact ih
    exact key 0 (Nat.zero_le _)
  · unfold pl at hQ
    rw [if_neg (by omega)] at hQ
    exact hQ
theorem pl_lt {F r p : Nat} (hr : r ≤ 6) : (pl A F p < r ↔ st A F r p = 1) ∧ (r ≤ pl A F p ↔ st A F r p = 0) := by
  unfold pl st
  by_cases h : 1 ≤ gu A F p
  · rw [if_pos h]
    by_cases h2 : ah A F p < r
    · rw [if_pos ⟨h, h2⟩]; omega
    · rw [if_neg (fun z => h2 z.2)]; omega
  · rw [if_neg h, if_neg (fun z => h z.1)]; omega
theorem pl_le {F p : Nat} (ok : OK A) : pl A F p ≤ 6 := by
  have := ahW_le (A := A) F p (A 0 1)
  have := ok.1
  unfold pl ah
  split <;> omega
theorem p_sitters {F r : Nat} {Q : Int32 → Mm → Prop} (ok : OK A) (hB : Bf σ A F) (hr : r ≤ 6) (hQ : Q (nI (sB A F r)) σ) : r_X0_sitters_0 E (nI r) σ Q := by
  have o1 := ok.1
  have key : ∀ i, i ≤ A 0 1 → r_X0_sitters_4 E (nI r) (nI (bs (st A F r) i)) (nI i) σ Q := by
    refine up_to (A 0 1) ?_ ?_
    · exact s_X0_sitters_4 _ _ _ _ _ _ (fe hB.1 (Nat.le_refl _) (by omega) hQ)
    · intro i hi ih
      have := pl_le (F := F) (p := i) ok
      refine s_X0_sitters_4 _ _ _ _ _ _ (fs hB.1 hi (by omega) (p_placeOf ok hB hi ?_))
      rw [nI_1]
      refine tle (by omega) (by omega) (fun c => ?_) (fun c => ?_)
      · rw [orNo ((pl_lt hr).2.mp c)]; exact ih
      · rw [orBit (by omega) (fun i _ => st_le A F r i) ((pl_lt hr).1.mp c)]; exact ih
  exact s_X0_sitters_0 _ _ _ _ (key 0 (Nat.zero_le _))
end BE
