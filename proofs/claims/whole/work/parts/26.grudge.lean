/-! grudges: both sides reckon the same rows, steps, rings, and what to forgive -/
def ldW (A : Ab) (F p : Nat) : Nat → Nat
  | 0 => 0
  | n + 1 => if A 5 n = p ∧ bt F n = 0 then ldW A F p n ||| 2 ^ A 4 n else ldW A F p n
def ld (A : Ab) (F p : Nat) : Nat := ldW A F p (A 0 2)
theorem ldW_lt {A : Ab} (ok : OK A) (F p : Nat) : ∀ n, n ≤ A 0 2 → ldW A F p n < 2 ^ (A 0 1)
  | 0, _ => Nat.two_pow_pos _
  | n + 1, h => by
    have ih := ldW_lt ok F p n (by omega)
    have := (ok.2.2.2.2.2.2.2.1 n (by omega)).1
    show (if A 5 n = p ∧ bt F n = 0 then ldW A F p n ||| 2 ^ A 4 n else ldW A F p n) < _
    split
    · exact Nat.or_lt_two_pow ih (Nat.pow_lt_pow_right (by decide) this)
    · exact ih
theorem ld_lt {A : Ab} (ok : OK A) (F p : Nat) : ld A F p < 2 ^ (A 0 1) := ldW_lt ok F p _ (Nat.le_refl _)
theorem p64 {A : Ab} (ok : OK A) {x : Nat} (h : x < 2 ^ (A 0 1)) : x < 64 := Nat.lt_of_lt_of_le h (Nat.pow_le_pow_right (by decide) ok.1)
theorem p256 {A : Ab} (ok : OK A) {x : Nat} (h : x < 2 ^ (A 0 2)) : x < 256 := Nat.lt_of_lt_of_le h (Nat.pow_le_pow_right (by decide) ok.2.1)
theorem andI {a b : Nat} : nI a &&& nI b = nI (a &&& b) := by
  apply Int32.toBitVec_inj.mp
  show BitVec.ofNat 32 a &&& BitVec.ofNat 32 b = BitVec.ofNat 32 (a &&& b)
  rw [BitVec.ofNat_and]
def nO (k : Nat) : Int32 := if k = 0 then -1 else nI k
theorem nO_0 : nO 0 = -1 := rfl
theorem nO_s {k : Nat} (h : k ≠ 0) : nO k = nI k := if_neg h
theorem nI_m1 {k : Nat} (h : k < 2 ^ 31) : ¬ nI k = (-1 : Int32) := fun q => by
  have := congrArg Int32.toInt q
  rw [toInt_nI h] at this
  have e : (-1 : Int32).toInt = -1 := by decide
  omega
theorem nO_m1 {k : Nat} (h : k < 2 ^ 31) : nO k = (-1 : Int32) ↔ k = 0 := by
  unfold nO
  split
  · rename_i e; simp [e]
  · rename_i e
    exact ⟨fun q => absurd q (nI_m1 h), fun q => absurd q e⟩
def po (n : Nat) : Nat := sm (fun k => bt n k) 9
theorem po_le {n : Nat} (h : n < 256) : po n ≤ 8 := by
  have h8 : bt n 8 = 0 := bt_lt (n := 8) h (Nat.le_refl _)
  have : sm (fun k => bt n k) 8 ≤ 1 * 8 := sm_le (fun i _ => bt_le n i)
  show sm (fun k => bt n k) 8 + bt n 8 ≤ 8
  omega
def bcE (x0 : Int32) : Int32 := ((((((((x0 - ((ush x0 1) &&& 1431655765)) &&& 858993459) + ((ush (x0 - ((ush x0 1) &&& 1431655765)) 2) &&& 858993459)) + (ush (((x0 - ((ush x0 1) &&& 1431655765)) &&& 858993459) + ((ush (x0 - ((ush x0 1) &&& 1431655765)) 2) &&& 858993459)) 4)) &&& 252645135) + (ush (((((x0 - ((ush x0 1) &&& 1431655765)) &&& 858993459) + ((ush (x0 - ((ush x0 1) &&& 1431655765)) 2) &&& 858993459)) + (ush (((x0 - ((ush x0 1) &&& 1431655765)) &&& 858993459) + ((ush (x0 - ((ush x0 1) &&& 1431655765)) 2) &&& 858993459)) 4)) &&& 252645135) 8)) + (ush ((((((x0 - ((ush x0 1) &&& 1431655765)) &&& 858993459) + ((ush (x0 - ((ush x0 1) &&& 1431655765)) 2) &&& 858993459)) + (ush (((x0 - ((ush x0 1) &&& 1431655765)) &&& 858993459) + ((ush (x0 - ((ush x0 1) &&& 1431655765)) 2) &&& 858993459)) 4)) &&& 252645135) + (ush (((((x0 - ((ush x0 1) &&& 1431655765)) &&& 858993459) + ((ush (x0 - ((ush x0 1) &&& 1431655765)) 2) &&& 858993459)) + (ush (((x0 - ((ush x0 1) &&& 1431655765)) &&& 858993459) + ((ush (x0 - ((ush x0 1) &&& 1431655765)) 2) &&& 858993459)) 4)) &&& 252645135) 8)) 16)) &&& 63)
theorem bcE_all : ∀ n : Fin 512, bcE (nI n.1) = nI (po n.1) := by decide +kernel
theorem clrI_all : ∀ l : Fin 256, ∀ n : Fin 8, nI l.1 &&& (nI (2 ^ n.1) ^^^ (-1)) = nI (clr l.1 n.1) := by decide +kernel
section GR
variable {E : EE} {σ : Mm} {A : Ab}
theorem p_bc9 {n : Nat} {Q : Int32 → Mm → Prop} (hn : n < 512) (h : Q (nI (po n)) σ) : r_J6_bitCount_0f7a4_0 E (nI n) σ Q := by
  apply s_J6_bitCount_0f7a4_0
  show Q (bcE (nI n)) σ
  rw [bcE_all ⟨n, hn⟩]
  exact h
theorem p_bc {n : Nat} {Q : Int32 → Mm → Prop} (hn : n < 256) (h : Q (nI (po n)) σ) : r_J6_bitCount_0f7a4_0 E (nI n) σ Q := p_bc9 (by omega) h
theorem p_ones {n : Nat} {Q : Int32 → Mm → Prop} (hn : n < 2 ^ 31) (h : Q (nI (po n)) σ) : r_X10_ones_0 E (nI n) σ Q :=
  s_X10_ones_0 _ _ _ _ (l_ones (f := fun i => sm (fun k => bt n k) i) hn (fun i => rfl) h 0 (by decide))
theorem p_isThere {Q : Int32 → Mm → Prop} (ok : OK A) (hA : HC 14 σ A) (h1 : 0 < A 0 1 → Q 1 σ) (h0 : A 0 1 = 0 → Q 0 σ) : r_X2_isThere_0 E σ Q := by
  apply s_X2_isThere_0
  have := ok.1
  rw [hA.1 1 (by decide)]
  exact tle (b := 0) (by omega) (by omega) (fun c => h0 (by omega)) (fun c => h1 c)
theorem p_lacks {Q : Int32 → Mm → Prop} (ok : OK A) (hM : HM σ A) (h1 : 0 < A 0 1 → Q 0 σ) (h0 : A 0 1 = 0 → Q 1 σ) : r_X10_lacks_0 E σ Q := by
  apply s_X10_lacks_0
  have := ok.1
  rw [hM.1.2.1]
  exact tne (b := 0) (by omega) (by omega) (fun c => h1 (by omega)) (fun c => h0 c)
def Gf (σ : Mm) (A : Ab) (F : Nat) : Prop := σ 47 1 = nI (A 0 1) ∧ ∀ p, p < A 0 1 → σ 48 p = nI (ld A F p)
theorem p_gfill {F : Nat} {Q : Mm → Prop} (ok : OK A) (hA : HC 14 σ A) (hF : F < 2 ^ 31) (hQ : ∀ τ, Fr [47, 48] σ τ → Gf τ A F → Q τ) : r_X4_fill_0 E (nI F) σ Q := by
  have o1 := ok.1
  have o2 := ok.2.1
  have hL : ∀ k ∈ [47, 48], k < 14 ∨ 14 + 9 < k := by decide
  have l2 : ∀ i, i ≤ A 0 2 → ∀ τ, Fr [47, 48] σ τ → τ 47 1 = nI (A 0 1) → (∀ p, p < A 0 1 → τ 48 p = nI (ldW A F p i)) → r_X4_fill_33 E (nI F) (nI i) τ Q := by
    refine up_to (P := fun i => ∀ τ, Fr [47, 48] σ τ → τ 47 1 = nI (A 0 1) → (∀ p, p < A 0 1 → τ 48 p = nI (ldW A F p i)) → r_X4_fill_33 E (nI F) (nI i) τ Q) (A 0 2) ?_ ?_
    · intro τ hf h1 h2
      exact s_X4_fill_33 _ _ _ _ _ (fe ((hA.fr hf hL).1 2 (by decide)) (Nat.le_refl _) (by omega) (hQ τ hf ⟨h1, h2⟩))
    · intro i hi ih τ hf h1 h2
      have hA' := hA.fr hf hL
      have d1 : τ 18 i = nI (A 4 i) := (hA'.2.2.1 i hi).1
      have d2 : τ 19 i = nI (A 5 i) := (hA'.2.2.1 i hi).2.1
      obtain ⟨w1, w2, w3, w4⟩ := ok.2.2.2.2.2.2.2.1 i hi
      refine s_X4_fill_33 _ _ _ _ _ (fs (hA'.1 2 (by decide)) hi (by omega) (p_hasBit hF (by omega) ?_))
      have hb := bt_le F i
      rw [nI_clamp (by omega), d1, d2, nI_clamp (by omega), h2 _ w2, nI_1, shlI (by omega), orI]
      refine tne (b := 0) (by omega) (by omega) (fun c => ?_) (fun c => ⟨vp_in_nI (by omega) (by omega), vp_in_nI (by omega) (by omega), vp_in_nI (by omega) (by omega), vp_in_nI (by omega) (by omega), ?_⟩)
      · refine ih τ hf h1 (fun p hp => ?_)
        show τ 48 p = nI (if A 5 i = p ∧ bt F i = 0 then ldW A F p i ||| 2 ^ A 4 i else ldW A F p i)
        rw [if_neg (fun z => c z.2)]; exact h2 p hp
      · refine ih _ (hf.tr (Fr.up (by decide))) (by rw [up_ne (by decide)]; exact h1) (fun p hp => ?_)
        show _ = nI (if A 5 i = p ∧ bt F i = 0 then ldW A F p i ||| 2 ^ A 4 i else ldW A F p i)
        rw [up_eq]
        by_cases e : p = A 5 i
        · subst e; rw [upd_eq, if_pos ⟨rfl, c⟩]
        · rw [upd_ne e, if_neg (fun z => e z.1.symm)]; exact h2 p hp
  have l1 : ∀ i, i ≤ A 0 1 → ∀ τ, Fr [47, 48] σ τ → τ 47 1 = nI (A 0 1) → (∀ p, p < i → τ 48 p = 0) → r_X4_fill_10 E (nI F) (nI i) τ Q := by
    refine up_to (P := fun i => ∀ τ, Fr [47, 48] σ τ → τ 47 1 = nI (A 0 1) → (∀ p, p < i → τ 48 p = 0) → r_X4_fill_10 E (nI F) (nI i) τ Q) (A 0 1) ?_ ?_
    · intro τ hf h1 h2
      exact s_X4_fill_10 _ _ _ _ _ (fe h1 (Nat.le_refl _) (by omega) (l2 0 (Nat.zero_le _) τ hf h1 h2))
    · intro i hi ih τ hf h1 h2
      refine s_X4_fill_10 _ _ _ _ _ (fs h1 hi (by omega) ⟨vp_in_nI (by omega) (by omega), ?_⟩)
      rw [nI_clamp (by omega), nI_1]
      refine ih _ (hf.tr (Fr.up (by decide))) (by rw [up_ne (by decide)]; exact h1) (fun p hp => ?_)
      rw [up_eq]
      by_cases e : p = i
      · subst e; rw [upd_eq]
      · rw [upd_ne e]; exact h2 p (by omega)
  refine s_X4_fill_0 _ _ _ _ (l1 0 (Nat.zero_le _) _ (Fr.up (by decide)) ?_ (fun p hp => by omega))
  rw [up_eq, upd_eq]
  exact hA.1 1 (by decide)
theorem ofW_lt {L : Nat → Nat} {P R : Nat} (hL : ∀ p, p < P → L p < 2 ^ P) (hR : R < 2 ^ P) : ∀ n, n ≤ P → ofW L R n < 2 ^ P
  | 0, _ => hR
  | n + 1, h => by
    have ih := ofW_lt hL hR n (by omega)
    show (if bt R n = 1 then ofW L R n ||| L n else ofW L R n) < _
    split
    · exact Nat.or_lt_two_pow ih (hL n (by omega))
    · exact ih
theorem sfW_lt {L : Nat → Nat} {P S : Nat} (hL : ∀ p, p < P → L p < 2 ^ P) : ∀ n, n ≤ P → sfW L S n < 2 ^ P
  | 0, _ => Nat.two_pow_pos _
  | n + 1, h => by
    have ih := sfW_lt (S := S) hL n (by omega)
    show (if bt S n = 1 then sfW L S n ||| L n else sfW L S n) < _
    split
    · exact Nat.or_lt_two_pow ih (hL n (by omega))
    · exact ih
theorem p_oneFurther {F R : Nat} {Q : Int32 → Mm → Prop} (ok : OK A) (hG : Gf σ A F) (hR : R < 2 ^ (A 0 1)) (hQ : Q (nI (ofW (ld A F) R (A 0 1))) σ) : r_X4_oneFurther_0 E (nI R) σ Q := by
  have o1 := ok.1
  have hR2 := p64 ok hR
  have key : ∀ i, i ≤ A 0 1 → r_X4_oneFurther_4 E (nI R) (nI (ofW (ld A F) R i)) (nI i) σ Q := by
    refine up_to (A 0 1) ?_ ?_
    · exact s_X4_oneFurther_4 _ _ _ _ _ _ (fe hG.1 (Nat.le_refl _) (by omega) hQ)
    · intro i hi ih
      have hb := bt_le R i
      refine s_X4_oneFurther_4 _ _ _ _ _ _ (fs hG.1 hi (by omega) (p_hasBit (by omega) (by omega) ?_))
      rw [nI_clamp (by omega), hG.2 i hi, nI_1, orI]
      have e : ofW (ld A F) R (i + 1) = if bt R i = 1 then ofW (ld A F) R i ||| ld A F i else ofW (ld A F) R i := rfl
      rw [e] at ih
      refine teq (b := 0) (by omega) (by omega) (fun c => ?_) (fun c => ⟨vp_in_nI (by omega) (by omega), ?_⟩)
      · rw [if_neg (by omega)] at ih; exact ih
      · rw [if_pos (by omega)] at ih; exact ih
  exact s_X4_oneFurther_0 _ _ _ _ (key 0 (Nat.zero_le _))
theorem p_fewest {F a g : Nat} {Q : Int32 → Mm → Prop} (ok : OK A) (hG : Gf σ A F) (ha : a < A 0 1) (hg : g < A 0 1) (hQ : Q (nO (far (ld A F) (A 0 1) a g)) σ) : r_X4_fewest_0 E (nI a) (nI g) σ Q := by
  have o1 := ok.1
  have hL : ∀ p, p < A 0 1 → ld A F p < 2 ^ (A 0 1) := fun p _ => ld_lt ok F p
  rw [← far_eq hL ha o1] at hQ
  have key : ∀ d R s, R < 2 ^ (A 0 1) → 1 ≤ s → s + d = A 0 1 + 1 → Q (nO (fcW (ld A F) (A 0 1) g d R s)) σ → r_X4_fewest_10 E (nI a) (nI g) (nI R) (nI s) σ Q := by
    intro d
    induction d with
    | zero =>
      intro R s hR h1 h2 hq
      refine s_X4_fewest_10 _ _ _ _ _ _ _ ?_
      rw [hG.1]
      exact tlt (by omega) (by omega) (fun _ => hq) (fun c => by omega)
    | succ d ih =>
      intro R s hR h1 h2 hq
      have hR2 := p64 ok hR
      have hb := bt_le R g
      refine s_X4_fewest_10 _ _ _ _ _ _ _ ?_
      rw [hG.1]
      refine tlt (by omega) (by omega) (fun c => by omega) (fun c => p_hasBit (by omega) (by omega) ?_)
      have e : fcW (ld A F) (A 0 1) g (d + 1) R s = if bt R g = 1 then s else fcW (ld A F) (A 0 1) g d (ofW (ld A F) R (A 0 1)) (s + 1) := rfl
      rw [e] at hq
      refine teq (b := 0) (by omega) (by omega) (fun c => ?_) (fun c => ?_)
      · rw [if_neg (by omega)] at hq
        refine p_oneFurther ok hG hR ?_
        rw [nI_1]
        exact ih _ _ (ofW_lt hL hR _ (Nat.le_refl _)) (by omega) (by omega) hq
      · rw [if_pos (by omega), nO_s (by omega)] at hq
        exact hq
  refine s_X4_fewest_0 _ _ _ _ _ ⟨vp_in_nI (by omega) (by omega), ?_⟩
  rw [nI_clamp (by omega), hG.2 a ha]
  exact key (A 0 1) _ 1 (ld_lt ok F a) (Nat.le_refl _) (by omega) hQ
theorem p_shortestRing {F : Nat} {Q : Int32 → Mm → Prop} (ok : OK A) (hG : Gf σ A F) (hQ : Q (nO (rg (ld A F) (A 0 1))) σ) : r_X4_shortestRing_0 E σ Q := by
  have o1 := ok.1
  have key : ∀ i, i ≤ A 0 1 → r_X4_shortestRing_4 E (nO (rgW (ld A F) (A 0 1) i)) (nI i) σ Q := by
    refine up_to (A 0 1) ?_ ?_
    · exact s_X4_shortestRing_4 _ _ _ _ _ (fe hG.1 (Nat.le_refl _) (by omega) hQ)
    · intro i hi ih
      refine s_X4_shortestRing_4 _ _ _ _ _ (fs hG.1 hi (by omega) (p_fewest ok hG hi hi ?_))
      rw [nI_1]
      have f6 := far_le (L := ld A F) (P := A 0 1) (a := i) (g := i)
      have r6 := rgW_le (L := ld A F) (P := A 0 1) i
      have e : rgW (ld A F) (A 0 1) (i + 1) = if far (ld A F) (A 0 1) i i = 0 then rgW (ld A F) (A 0 1) i else if rgW (ld A F) (A 0 1) i = 0 then far (ld A F) (A 0 1) i i else if rgW (ld A F) (A 0 1) i ≤ far (ld A F) (A 0 1) i i then rgW (ld A F) (A 0 1) i else far (ld A F) (A 0 1) i i := rfl
      rw [e] at ih
      generalize far (ld A F) (A 0 1) i i = f at ih f6 ⊢
      generalize rgW (ld A F) (A 0 1) i = r at ih r6 ⊢
      rw [nO_m1 (by omega), nO_m1 (by omega)]
      refine ⟨fun c => ?_, fun c => ⟨fun c2 => ?_, fun c2 => ?_⟩⟩
      · rw [if_pos c] at ih; exact ih
      · rw [if_neg c, if_pos c2] at ih; exact ih
      · rw [if_neg c, if_neg c2] at ih
        rw [nO_s c, nO_s c2]
        refine tle (by omega) (by omega) (fun c3 => ?_) (fun c3 => ?_)
        · rw [if_pos c3, nO_s c2] at ih; exact ih
        · rw [if_neg (by omega), nO_s c] at ih; exact ih
  exact s_X4_shortestRing_0 _ _ _ (key 0 (Nat.zero_le _))
theorem p_hasRing {F : Nat} {Q : Int32 → Mm → Prop} (ok : OK A) (hG : Gf σ A F) (h1 : rg (ld A F) (A 0 1) ≠ 0 → Q 1 σ) (h0 : rg (ld A F) (A 0 1) = 0 → Q 0 σ) : r_X4_hasRing_0 E σ Q := by
  have o1 := ok.1
  have hL : ∀ p, p < A 0 1 → ld A F p < 2 ^ (A 0 1) := fun p _ => ld_lt ok F p
  have hlt : 2 ^ (A 0 1) - 1 < 2 ^ (A 0 1) := Nat.sub_lt (Nat.two_pow_pos _) (by decide)
  have hr := el_ring hL o1
  have key : ∀ k, k ≤ A 0 1 → r_X4_hasRing_11 E (nI (elR (ld A F) (A 0 1) (2 ^ (A 0 1) - 1) k)) (nI k) σ Q := by
    refine up_to (A 0 1) ?_ ?_
    · refine s_X4_hasRing_11 _ _ _ _ _ (fe hG.1 (Nat.le_refl _) (by omega) ?_)
      have := p64 ok (elR_lt (L := ld A F) hlt (A 0 1))
      refine teq (b := 0) (by omega) (by omega) (fun c => h0 ?_) (fun c => h1 (hr.mp c))
      apply Classical.byContradiction
      exact fun q => hr.mpr q c
    · intro k hk ih
      refine s_X4_hasRing_11 _ _ _ _ _ (fs hG.1 hk (by omega) ?_)
      have hS := elR_lt (L := ld A F) hlt k
      have e : elR (ld A F) (A 0 1) (2 ^ (A 0 1) - 1) (k + 1) = elW (ld A F) (elR (ld A F) (A 0 1) (2 ^ (A 0 1) - 1) k) (A 0 1) := rfl
      rw [e] at ih
      generalize elR (ld A F) (A 0 1) (2 ^ (A 0 1) - 1) k = S at ih hS ⊢
      have in1 : ∀ i, i ≤ A 0 1 → r_X4_hasRing_21 E (nI (elW (ld A F) S i)) (nI k) (nI i) σ Q := by
        refine up_to (A 0 1) ?_ ?_
        · refine s_X4_hasRing_21 _ _ _ _ _ _ (fe hG.1 (Nat.le_refl _) (by omega) ?_)
          rw [nI_1]; exact ih
        · intro i hi ih2
          have hl := p64 ok (el_lt (L := ld A F) hS i)
          have hd := p64 ok (ld_lt ok F i)
          refine s_X4_hasRing_21 _ _ _ _ _ _ (fs hG.1 hi (by omega) ⟨vp_in_nI (by omega) (by omega), ?_⟩)
          rw [nI_clamp (by omega), hG.2 i hi, andI, nI_1, shlI (by omega), clrI_all ⟨_, show elW (ld A F) S i < 256 by omega⟩ ⟨i, show i < 8 by omega⟩]
          have e2 : elW (ld A F) S (i + 1) = if ld A F i &&& elW (ld A F) S i = 0 then clr (elW (ld A F) S i) i else elW (ld A F) S i := rfl
          rw [e2] at ih2
          have hlt2 : ld A F i &&& elW (ld A F) S i < 2 ^ 31 := Nat.lt_of_le_of_lt Nat.and_le_left (by omega)
          refine tne (b := 0) hlt2 (by omega) (fun c => ?_) (fun c => ?_)
          · rw [if_neg c] at ih2; exact ih2
          · rw [if_pos c] at ih2; exact ih2
      exact in1 0 (Nat.zero_le _)
  refine s_X4_hasRing_0 _ _ _ ?_
  rw [hG.1, shlI (by omega), show (1 : Int32) = nI 1 from rfl, pk_sub (Nat.two_pow_pos _)]
  exact key 0 (Nat.zero_le _)
/-- the reference's side -/
theorem p_grudgesOf {F p : Nat} {Q : Int32 → Mm → Prop} (ok : OK A) (hM : HM σ A) (hp : p < A 0 1) (hF : F < 2 ^ 31) (hQ : Q (nI (ld A F p)) σ) : r_X10_grudgesOf_0 E (nI p) (nI F) σ Q := by
  have o1 := ok.1
  have o2 := ok.2.1
  have key : ∀ i, i ≤ A 0 2 → r_X10_grudgesOf_5 E (nI p) (nI F) (nI (ldW A F p i)) (nI i) σ Q := by
    refine up_to (A 0 2) ?_ ?_
    · exact s_X10_grudgesOf_5 _ _ _ _ _ _ _ (fe hM.1.2.2.1 (Nat.le_refl _) (by omega) hQ)
    · intro i hi ih
      obtain ⟨w1, w2, w3, w4⟩ := ok.2.2.2.2.2.2.2.1 i hi
      have hb := bt_le F i
      refine s_X10_grudgesOf_5 _ _ _ _ _ _ _ (fs hM.1.2.2.1 hi (by omega) ⟨vp_in_nI (by omega) (by omega), ?_⟩)
      rw [nI_clamp (by omega), (hM.2.2.1 i hi).1, (hM.2.2.1 i hi).2.1, bitI hF (by omega), nI_1, or0, shlI (by omega), orI]
      have e : ldW A F p (i + 1) = if A 5 i = p ∧ bt F i = 0 then ldW A F p i ||| 2 ^ A 4 i else ldW A F p i := rfl
      rw [e] at ih
      refine tne (by omega) (by omega) (fun c => ?_) (fun c => tne (b := 0) (by omega) (by omega) (fun c2 => ?_) (fun c2 => ⟨vp_in_nI (by omega) (by omega), ?_⟩))
      · rw [if_neg (fun z => c z.1)] at ih; exact ih
      · rw [if_neg (fun z => c2 z.2)] at ih; exact ih
      · rw [if_pos ⟨c, c2⟩] at ih; exact ih
  exact s_X10_grudgesOf_0 _ _ _ _ _ (key 0 (Nat.zero_le _))
theorem p_stepFrom {F S : Nat} {Q : Int32 → Mm → Prop} (ok : OK A) (hM : HM σ A) (hS : S < 2 ^ 31) (hF : F < 2 ^ 31) (hQ : Q (nI (sfW (ld A F) S (A 0 1))) σ) : r_X10_stepFrom_0 E (nI S) (nI F) σ Q := by
  have o1 := ok.1
  have key : ∀ i, i ≤ A 0 1 → r_X10_stepFrom_5 E (nI S) (nI F) (nI (sfW (ld A F) S i)) (nI i) σ Q := by
    refine up_to (A 0 1) ?_ ?_
    · exact s_X10_stepFrom_5 _ _ _ _ _ _ _ (fe hM.1.2.1 (Nat.le_refl _) (by omega) hQ)
    · intro i hi ih
      have hb := bt_le S i
      refine s_X10_stepFrom_5 _ _ _ _ _ _ _ (fs hM.1.2.1 hi (by omega) ?_)
      rw [bitI hS (by omega), nI_1, or0]
      have e : sfW (ld A F) S (i + 1) = if bt S i = 1 then sfW (ld A F) S i ||| ld A F i else sfW (ld A F) S i := rfl
      rw [e] at ih
      refine tne (b := 1) (by omega) (by omega) (fun c => ?_) (fun c => p_grudgesOf ok hM hi hF ?_)
      · rw [if_neg c] at ih; exact ih
      · rw [if_pos c] at ih; rw [orI]; exact ih
  exact s_X10_stepFrom_0 _ _ _ _ _ (key 0 (Nat.zero_le _))
theorem p_farBy {F a g : Nat} {Q : Int32 → Mm → Prop} (ok : OK A) (hM : HM σ A) (ha : a < A 0 1) (hg : g < A 0 1) (hF : F < 2 ^ 31) (hQ : Q (nO (far (ld A F) (A 0 1) a g)) σ) : r_X10_farBy_0 E (nI a) (nI g) (nI F) σ Q := by
  have o1 := ok.1
  have hL : ∀ p, p < A 0 1 → ld A F p < 2 ^ (A 0 1) := fun p _ => ld_lt ok F p
  have key : ∀ d S s, S < 2 ^ 31 → 1 ≤ s → s + d = 7 → Q (nO (fmW (ld A F) (A 0 1) g d S s)) σ → r_X10_farBy_8 E (nI a) (nI g) (nI F) (nI S) (nI s) σ Q := by
    intro d
    induction d with
    | zero =>
      intro S s hS h1 h2 hq
      exact s_X10_farBy_8 _ _ _ _ _ _ _ _ (fe (n := 7) rfl (by omega) (by omega) hq)
    | succ d ih =>
      intro S s hS h1 h2 hq
      refine s_X10_farBy_8 _ _ _ _ _ _ _ _ (fs (n := 7) rfl (by omega) (by omega) (p_stepFrom ok hM hS hF ?_))
      have hl := p64 ok (sfW_lt (S := S) hL _ (Nat.le_refl _))
      have e : fmW (ld A F) (A 0 1) g (d + 1) S s = if bt (sfW (ld A F) S (A 0 1)) g = 1 then s else fmW (ld A F) (A 0 1) g d (sfW (ld A F) S (A 0 1)) (s + 1) := rfl
      rw [e] at hq
      have hb := bt_le (sfW (ld A F) S (A 0 1)) g
      rw [bitI (by omega) (by omega), nI_1]
      refine tne (b := 1) (by omega) (by omega) (fun c => ?_) (fun c => ?_)
      · rw [if_neg c] at hq; exact ih _ _ (by omega) (by omega) (by omega) hq
      · rw [if_pos c, nO_s (by omega)] at hq; exact hq
  refine s_X10_farBy_0 _ _ _ _ _ _ ?_
  rw [shlI (by omega)]
  exact key 6 _ 1 (Nat.pow_lt_pow_right (by decide) (by omega)) (Nat.le_refl _) rfl hQ
theorem p_ringBy {F : Nat} {Q : Int32 → Mm → Prop} (ok : OK A) (hM : HM σ A) (hF : F < 2 ^ 31) (hQ : Q (nO (rg (ld A F) (A 0 1))) σ) : r_X10_ringBy_0 E (nI F) σ Q := by
  have o1 := ok.1
  have key : ∀ i, i ≤ A 0 1 → r_X10_ringBy_4 E (nI F) (nO (rgW (ld A F) (A 0 1) i)) (nI i) σ Q := by
    refine up_to (A 0 1) ?_ ?_
    · exact s_X10_ringBy_4 _ _ _ _ _ _ (fe hM.1.2.1 (Nat.le_refl _) (by omega) hQ)
    · intro i hi ih
      refine s_X10_ringBy_4 _ _ _ _ _ _ (fs hM.1.2.1 hi (by omega) (p_farBy ok hM hi hi hF ?_))
      rw [nI_1]
      have f6 := far_le (L := ld A F) (P := A 0 1) (a := i) (g := i)
      have r6 := rgW_le (L := ld A F) (P := A 0 1) i
      have e : rgW (ld A F) (A 0 1) (i + 1) = if far (ld A F) (A 0 1) i i = 0 then rgW (ld A F) (A 0 1) i else if rgW (ld A F) (A 0 1) i = 0 then far (ld A F) (A 0 1) i i else if rgW (ld A F) (A 0 1) i ≤ far (ld A F) (A 0 1) i i then rgW (ld A F) (A 0 1) i else far (ld A F) (A 0 1) i i := rfl
      rw [e] at ih
      generalize far (ld A F) (A 0 1) i i = f at ih f6 ⊢
      generalize rgW (ld A F) (A 0 1) i = r at ih r6 ⊢
      rw [nO_m1 (by omega), nO_m1 (by omega)]
      refine ⟨fun c => ?_, fun c => ⟨fun c2 => ?_, fun c2 => ?_⟩⟩
      · rw [if_pos c] at ih; exact ih
      · rw [if_neg c, if_pos c2] at ih; exact ih
      · rw [if_neg c, if_neg c2] at ih
        rw [nO_s c, nO_s c2]
        refine tle (by omega) (by omega) (fun c3 => ?_) (fun c3 => ?_)
        · rw [if_pos c3, nO_s c2] at ih; exact ih
        · rw [if_neg (by omega), nO_s c] at ih; exact ih
  exact s_X10_ringBy_0 _ _ _ _ (key 0 (Nat.zero_le _))
end GR
