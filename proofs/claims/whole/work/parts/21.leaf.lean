/-! leaves -/
section LF
variable {E : EE} {σ : Mm}
theorem p_isRoom {x : Int32} {Q : Int32 → Mm → Prop} (h1 : InR x 1 6 → Q 1 σ) (h0 : ¬ InR x 1 6 → Q 0 σ) : r_X9_isRoom_0 E x σ Q := by
  apply s_X9_isRoom_0
  simp only [Int32.lt_iff_toInt_lt, Int32.reduceToInt, InR] at *
  refine ⟨fun h => h0 (by omega), fun h => ⟨fun h2 => h0 (by omega), fun h2 => h1 (by omega)⟩⟩
theorem p_isKind {x : Int32} {Q : Int32 → Mm → Prop} (h1 : InR x 0 4 → Q 1 σ) (h0 : ¬ InR x 0 4 → Q 0 σ) : r_X9_isKind_0 E x σ Q := by
  apply s_X9_isKind_0
  simp only [Int32.lt_iff_toInt_lt, Int32.reduceToInt, InR] at *
  refine ⟨fun h => h0 (by omega), fun h => ⟨fun h2 => h0 (by omega), fun h2 => h1 (by omega)⟩⟩
theorem p_hasBit {F i : Nat} {Q : Int32 → Mm → Prop} (hF : F < 2 ^ 31) (hi : i < 32) (h : Q (nI (bt F i)) σ) : r_X9_hasBit_0 E (nI F) (nI i) σ Q := by
  apply s_X9_hasBit_0
  rw [bitI hF hi]
  have := bt_le F i
  rcases (show bt F i = 0 ∨ bt F i = 1 by omega) with e | e <;> rw [e] at h ⊢
  · exact ⟨fun _ => h, fun q => absurd rfl q⟩
  · exact ⟨fun q => absurd q (by decide), fun _ => h⟩
theorem p_in {x y z : Int64} {Q : Int32 → Mm → Prop} (h1 : y.toInt ≤ x.toInt → x.toInt ≤ z.toInt → Q 1 σ) (h0 : ¬ (y.toInt ≤ x.toInt ∧ x.toInt ≤ z.toInt) → Q 0 σ) : r_X10_in_0 E x y z σ Q := by
  apply s_X10_in_0
  simp only [lgc_lt, lgc_gt]
  refine ⟨fun h => h0 (by omega), fun h => ⟨fun h2 => h0 (by omega), fun h2 => h1 (by omega) (by omega)⟩⟩
theorem p_hasPerson14 {P : Nat} {x : Int32} {Q : Int32 → Mm → Prop} (hP : σ 14 1 = nI P) (hb : P ≤ 6) (h1 : InR x 0 (P - 1) → Q 1 σ) (h0 : ¬ InR x 0 (P - 1) → Q 0 σ) : r_X2_hasPerson_14_0 E x σ Q := by
  apply s_X2_hasPerson_14_0
  rw [hP]
  have e := toInt_nI (n := P) (by omega)
  simp only [Int32.lt_iff_toInt_lt, Int32.le_iff_toInt_le, Int32.reduceToInt, InR, e] at *
  refine ⟨fun h => h0 (by omega), fun h => ⟨fun h2 => h0 (by omega), fun h2 => h1 (by omega)⟩⟩
theorem l_ones {F : Nat} {Q : Int32 → Mm → Prop} (hF : F < 2 ^ 31) {f : Nat → Nat} (hf : ∀ i, f (i + 1) = f i + bt F i) (hQ : Q (nI (f 9)) σ) : ∀ i, i ≤ 9 → r_X10_ones_4 E (nI F) (nI (f i)) (nI i) σ Q := by
  refine up_to 9 ?_ ?_
  · exact s_X10_ones_4 _ _ _ _ _ _ ⟨fun _ => hQ, fun q => absurd (by decide) q⟩
  · intro i hi ih
    refine s_X10_ones_4 _ _ _ _ _ _ ⟨fun q => absurd q (nI_ge hi (by decide)), fun _ => ?_⟩
    rw [bitI hF (by omega), nI_add, ← hf, nI_1]
    exact ih
theorem copy_gen {r : Int32 → Mm → (Mm → Prop) → Prop} {a b n : Nat} (hn : n < 100) (hab : a ≠ b) (hs : ∀ x σ Q, (nI n ≤ x → Q σ) ∧ (¬ nI n ≤ x → vp_in x n ∧ vp_in x n ∧ r (x + 1) (up σ b x.toNatClampNeg (σ a x.toNatClampNeg)) Q) → r x σ Q) {Q : Mm → Prop}
    (hQ : ∀ τ, Fr [b] σ τ → (∀ i, i < n → τ b i = σ a i) → Q τ) : r 0 σ Q := by
  have key : ∀ i, i ≤ n → ∀ τ, Fr [b] σ τ → (∀ j, j < i → τ b j = σ a j) → r (nI i) τ Q := by
    refine up_to (P := fun i => ∀ τ, Fr [b] σ τ → (∀ j, j < i → τ b j = σ a j) → r (nI i) τ Q) n ?_ ?_
    · intro τ hf hv
      exact hs _ _ _ ⟨fun _ => hQ τ hf hv, fun q => absurd (nI_le (Nat.le_refl n) (by omega)) q⟩
    · intro i hi ih τ hf hv
      refine hs _ _ _ ⟨fun q => absurd q (nI_ge hi (by omega)), fun _ => ⟨vp_in_nI hi (by omega), vp_in_nI hi (by omega), ?_⟩⟩
      rw [nI_clamp (by omega), nI_1]
      refine ih _ (hf.tr (Fr.up (by simp))) (fun j hj => ?_)
      rw [up_eq]
      by_cases e : j = i
      · subst e; rw [upd_eq, hf a (by simpa using hab)]
      · rw [upd_ne e, hv j (by omega)]
  exact key 0 (Nat.zero_le n) σ Fr.rf (fun j hj => by omega)
theorem p_copy_66_72 {Q : Mm → Prop} (hQ : ∀ τ, Fr [72] σ τ → (∀ i, i < 6 → τ 72 i = σ 66 i) → Q τ) : r_X10_copy_66_72_0 E σ Q :=
  s_X10_copy_66_72_0 _ _ _ (copy_gen (r := r_X10_copy_66_72_2 E) (by decide) (by decide) (fun x σ Q h => s_X10_copy_66_72_2 E x σ Q h) hQ)
end LF
