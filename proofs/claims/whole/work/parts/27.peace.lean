/-! PEACE -/
/-- the best set so far, and 1; 0: none yet -/
def pbW (A : Ab) : Nat → Nat
  | 0 => 0
  | n + 1 => if n &&& A 0 3 = 0 ∧ (pbW A n = 0 ∨ po n < po (pbW A n - 1)) ∧ rg (ld A (A 0 3 ||| n)) (A 0 1) = 0 then n + 1 else pbW A n
def pb (A : Ab) : Nat := pbW A (2 ^ A 0 2) - 1
theorem pbW_le {A : Ab} : ∀ n, pbW A n ≤ n
  | 0 => Nat.le_refl _
  | n + 1 => by
    have := pbW_le (A := A) n
    show (if n &&& A 0 3 = 0 ∧ (pbW A n = 0 ∨ po n < po (pbW A n - 1)) ∧ rg (ld A (A 0 3 ||| n)) (A 0 1) = 0 then n + 1 else pbW A n) ≤ n + 1
    split <;> omega
theorem pbW_up {A : Ab} {n : Nat} (h : pbW A n ≠ 0) : ∀ m, n ≤ m → pbW A m ≠ 0 := by
  intro m
  induction m with
  | zero => intro hm; rw [show n = 0 by omega] at h; exact h
  | succ m ih =>
    intro hm
    by_cases e : n = m + 1
    · rw [← e]; exact h
    · have := ih (by omega)
      show (if m &&& A 0 3 = 0 ∧ (pbW A m = 0 ∨ po m < po (pbW A m - 1)) ∧ rg (ld A (A 0 3 ||| m)) (A 0 1) = 0 then m + 1 else pbW A m) ≠ 0
      split <;> omega
theorem rg_0 {L : Nat → Nat} {P : Nat} (h : ∀ p, p < P → L p = 0) (hP : P ≤ 6) : rg L P = 0 := by
  apply Classical.byContradiction
  intro hne
  obtain ⟨p, hp, h2⟩ := (rgW_ne P).mp hne
  have hL : ∀ p, p < P → L p < 2 ^ P := fun p hp => by rw [h p hp]; exact Nat.two_pow_pos _
  obtain ⟨n, n1, n2⟩ := (far_ne hL hp hP).mp h2
  cases n with
  | zero => omega
  | succ n =>
    obtain ⟨c, hc, -, h3⟩ := n2
    rw [h c hc] at h3
    exact mb_0 h3
theorem pb_ne {A : Ab} (ok : OK A) : pbW A (2 ^ A 0 2) ≠ 0 := by
  have hF := ok.2.2.2.1
  have hc : ∀ i, mb (A 0 3 ^^^ (2 ^ A 0 2 - 1)) i ↔ i < A 0 2 ∧ ¬ mb (A 0 3) i := fun i => by
    rw [mb_tb, mb_tb, Nat.testBit_xor, Nat.testBit_two_pow_sub_one]
    by_cases q : i < A 0 2
    · simp [q]
    · have : ¬ mb (A 0 3) i := fun z => q (mb_lt hF z)
      rw [mb_tb] at this
      simp [q, this]
  generalize hcc : A 0 3 ^^^ (2 ^ A 0 2 - 1) = c at hc
  have hlt : c < 2 ^ A 0 2 := by
    apply Nat.lt_pow_two_of_testBit
    intro i hi
    have : ¬ mb c i := fun q => by have := ((hc i).mp q).1; omega
    rw [mb_tb] at this
    simpa using this
  refine pbW_up (n := c + 1) ?_ _ hlt
  show (if c &&& A 0 3 = 0 ∧ (pbW A c = 0 ∨ po c < po (pbW A c - 1)) ∧ rg (ld A (A 0 3 ||| c)) (A 0 1) = 0 then c + 1 else pbW A c) ≠ 0
  by_cases h0 : pbW A c = 0
  · rw [if_pos]
    · omega
    · refine ⟨eq0 (fun i hi => ?_), Or.inl h0, rg_0 (fun p hp => ?_) ok.1⟩
      · obtain ⟨h1, h2⟩ := mb_and.mp hi
        exact ((hc i).mp h1).2 h2
      · have key : ∀ n, n ≤ A 0 2 → ldW A (A 0 3 ||| c) p n = 0 := by
          intro n
          induction n with
          | zero => intro _; rfl
          | succ n ih =>
            intro hn
            show (if A 5 n = p ∧ bt (A 0 3 ||| c) n = 0 then ldW A (A 0 3 ||| c) p n ||| 2 ^ A 4 n else ldW A (A 0 3 ||| c) p n) = 0
            rw [if_neg]
            · exact ih (by omega)
            · rintro ⟨-, q⟩
              rw [bt0, mb_or] at q
              apply q
              by_cases z : mb (A 0 3) n
              · exact Or.inl z
              · exact Or.inr ((hc n).mpr ⟨by omega, z⟩)
        exact key _ (Nat.le_refl _)
  · split <;> omega
theorem pb_lt {A : Ab} (ok : OK A) : pb A < 256 := by
  have h1 := pbW_le (A := A) (2 ^ A 0 2)
  have h2 := pb_ne ok
  have h3 : 2 ^ A 0 2 ≤ 2 ^ 8 := Nat.pow_le_pow_right (by decide) ok.2.1
  unfold pb
  omega
section PE
variable {E : EE} {σ : Mm} {A : Ab}
theorem p_fewestToForgive {Q : Int32 → Mm → Prop} (ok : OK A) (hA : HC 14 σ A) (hQ : ∀ τ, Fr [47, 48] σ τ → Q (nI (pb A)) τ) : r_X4_fewestToForgive_0 E σ Q := by
  have o2 := ok.2.1
  have hL : ∀ k ∈ [47, 48], k < 14 ∨ 14 + 9 < k := by decide
  have hpow : 2 ^ A 0 2 ≤ 2 ^ 8 := Nat.pow_le_pow_right (by decide) o2
  have hp0 := Nat.two_pow_pos (A 0 2)
  have hF := p256 ok ok.2.2.2.1
  have key : ∀ i, i ≤ 2 ^ A 0 2 → ∀ τ, Fr [47, 48] σ τ → r_X4_fewestToForgive_18 E (nI (2 ^ A 0 2 - 1)) (if pbW A i = 0 then nI (2 ^ A 0 2 - 1) else nI (pbW A i - 1)) (if pbW A i = 0 then nI 9 else nI (po (pbW A i - 1))) (nI i) τ Q := by
    refine up_to (P := fun i => ∀ τ, Fr [47, 48] σ τ → r_X4_fewestToForgive_18 E (nI (2 ^ A 0 2 - 1)) (if pbW A i = 0 then nI (2 ^ A 0 2 - 1) else nI (pbW A i - 1)) (if pbW A i = 0 then nI 9 else nI (po (pbW A i - 1))) (nI i) τ Q) (2 ^ A 0 2) ?_ ?_
    · intro τ hf
      refine s_X4_fewestToForgive_18 _ _ _ _ _ _ _ (tlt (by omega) (by omega) (fun _ => ?_) (fun c => by omega))
      rw [if_neg (pb_ne ok)]
      exact hQ τ hf
    · intro i hi ih τ hf
      have hA' := hA.fr hf hL
      have pl := pbW_le (A := A) i
      have pi := po_le (n := i) (by omega)
      refine s_X4_fewestToForgive_18 _ _ _ _ _ _ _ (tlt (by omega) (by omega) (fun c => by omega) (fun _ => ?_))
      have e : pbW A (i + 1) = if i &&& A 0 3 = 0 ∧ (pbW A i = 0 ∨ po i < po (pbW A i - 1)) ∧ rg (ld A (A 0 3 ||| i)) (A 0 1) = 0 then i + 1 else pbW A i := rfl
      rw [show τ 14 3 = nI (A 0 3) from hA'.1 3 (by decide), andI, nI_1]
      have hand : i &&& A 0 3 < 2 ^ 31 := Nat.lt_of_le_of_lt Nat.and_le_left (by omega)
      have stay : (¬ (i &&& A 0 3 = 0 ∧ (pbW A i = 0 ∨ po i < po (pbW A i - 1)) ∧ rg (ld A (A 0 3 ||| i)) (A 0 1) = 0)) → ∀ τ, Fr [47, 48] σ τ → r_X4_fewestToForgive_18 E (nI (2 ^ A 0 2 - 1)) (if pbW A i = 0 then nI (2 ^ A 0 2 - 1) else nI (pbW A i - 1)) (if pbW A i = 0 then nI 9 else nI (po (pbW A i - 1))) (nI (i + 1)) τ Q := by
        intro hn τ hf
        have := ih τ hf
        rw [e, if_neg hn] at this
        exact this
      refine tne (b := 0) hand (by omega) (fun c => stay (fun z => c z.1) τ hf) (fun c => p_bc (by omega) ?_)
      have few : (if pbW A i = 0 then nI 9 else nI (po (pbW A i - 1))) = nI (if pbW A i = 0 then 9 else po (pbW A i - 1)) := by split <;> rfl
      have fewl : (if pbW A i = 0 then 9 else po (pbW A i - 1)) ≤ 9 := by
        split
        · omega
        · have := po_le (n := pbW A i - 1) (by omega); omega
      rw [few] at stay ⊢
      refine tle (by omega) (by omega) (fun c2 => stay (fun z => ?_) τ hf) (fun c2 => ?_)
      · rcases z.2.1 with z | z
        · rw [if_pos z] at c2; omega
        · by_cases q : pbW A i = 0
          · rw [if_pos q] at c2; omega
          · rw [if_neg q] at c2; omega
      · have cond : pbW A i = 0 ∨ po i < po (pbW A i - 1) := by
          by_cases q : pbW A i = 0
          · exact Or.inl q
          · rw [if_neg q] at c2; exact Or.inr c2
        rw [show τ 14 3 = nI (A 0 3) from hA'.1 3 (by decide), orI]
        have hor : A 0 3 ||| i < 2 ^ 8 := Nat.or_lt_two_pow (by omega) (by omega)
        refine p_gfill ok hA' (by omega) (fun ρ hf2 hG => ?_)
        have hf3 := hf.tr hf2
        refine p_hasRing ok hG (fun hr => ?_) (fun hr => ?_)
        · exact ⟨fun _ => stay (fun z => hr z.2.2) ρ hf3, fun q => absurd q (by decide)⟩
        · refine ⟨fun q => absurd rfl q, fun _ => p_bc (by omega) ?_⟩
          have e1 : pbW A (i + 1) = i + 1 := by rw [e, if_pos ⟨c, cond, hr⟩]
          have := ih ρ hf3
          rw [e1, if_neg (by omega), if_neg (by omega), Nat.add_sub_cancel] at this
          exact this
  refine s_X4_fewestToForgive_0 _ _ _ ?_
  rw [show σ 14 2 = nI (A 0 2) from hA.1 2 (by decide), shlI (by omega), show (1 : Int32) = nI 1 from rfl, pk_sub hp0]
  exact key 0 (Nat.zero_le _) σ Fr.rf
theorem p_peaceOf {w : Nat} {Q : Int32 → Mm → Prop} (ok : OK A) (hM : HM σ A) (hw : w ≤ 1) (hQ : Q (if w = 0 then nI (po (pb A)) else nI (pb A)) σ) : r_X10_peaceOf_0 E (nI w) σ Q := by
  have o2 := ok.2.1
  have hpow : 2 ^ A 0 2 ≤ 2 ^ 8 := Nat.pow_le_pow_right (by decide) o2
  have hp0 := Nat.two_pow_pos (A 0 2)
  have hF := p256 ok ok.2.2.2.1
  have hsh : (1 : Int32) <<< ((σ 63 4) &&& 31) = nI (2 ^ A 0 2) := by rw [hM.1.2.2.1, shlI (by omega)]
  have key : ∀ i, i ≤ 2 ^ A 0 2 → r_X10_peaceOf_4 E (nI w) (if pbW A i = 0 then -1 else nI (pbW A i - 1)) (nI i) σ Q := by
    refine up_to (2 ^ A 0 2) ?_ ?_
    · refine s_X10_peaceOf_4 _ _ _ _ _ _ (fe hsh (Nat.le_refl _) (by omega) ?_)
      rw [if_neg (pb_ne ok)]
      have hb := pb_lt ok
      refine tne (b := 0) (by omega) (by omega) (fun c => ?_) (fun c => p_ones (by unfold pb at hb; omega) ?_)
      · rw [if_neg c] at hQ; exact hQ
      · rw [if_pos c] at hQ; exact hQ
    · intro i hi ih
      have pl := pbW_le (A := A) i
      refine s_X10_peaceOf_4 _ _ _ _ _ _ (fs hsh hi (by omega) ?_)
      have e : pbW A (i + 1) = if i &&& A 0 3 = 0 ∧ (pbW A i = 0 ∨ po i < po (pbW A i - 1)) ∧ rg (ld A (A 0 3 ||| i)) (A 0 1) = 0 then i + 1 else pbW A i := rfl
      rw [hM.1.2.2.2.1, andI, nI_1, orI]
      have hand : i &&& A 0 3 < 2 ^ 31 := Nat.lt_of_le_of_lt Nat.and_le_left (by omega)
      have hor : A 0 3 ||| i < 2 ^ 8 := Nat.or_lt_two_pow (by omega) (by omega)
      have r6 := rgW_le (L := ld A (A 0 3 ||| i)) (P := A 0 1) (A 0 1)
      have r7 : rg (ld A (A 0 3 ||| i)) (A 0 1) ≤ 6 := r6
      have stay : (¬ (i &&& A 0 3 = 0 ∧ (pbW A i = 0 ∨ po i < po (pbW A i - 1)) ∧ rg (ld A (A 0 3 ||| i)) (A 0 1) = 0)) → r_X10_peaceOf_4 E (nI w) (if pbW A i = 0 then -1 else nI (pbW A i - 1)) (nI (i + 1)) σ Q := by
        intro hn
        rw [e, if_neg hn] at ih
        exact ih
      have take : i &&& A 0 3 = 0 → (pbW A i = 0 ∨ po i < po (pbW A i - 1)) → rg (ld A (A 0 3 ||| i)) (A 0 1) = 0 → r_X10_peaceOf_4 E (nI w) (nI i) (nI (i + 1)) σ Q := by
        intro h1 h2 h3
        have e1 : pbW A (i + 1) = i + 1 := by rw [e, if_pos ⟨h1, h2, h3⟩]
        rw [e1, if_neg (by omega), Nat.add_sub_cancel] at ih
        exact ih
      refine tne (b := 0) hand (by omega) (fun c => stay (fun z => c z.1)) (fun c => ?_)
      by_cases q : pbW A i = 0
      · rw [if_pos q] at stay ⊢
        refine ⟨fun _ => p_ringBy ok hM (by omega) ?_, fun z => absurd rfl z⟩
        rw [nO_m1 (by omega)]
        exact ⟨fun z => stay (fun y => z y.2.2), fun z => take c (Or.inl q) z⟩
      · rw [if_neg q] at stay ⊢
        refine ⟨fun z => absurd z (nI_m1 (by omega)), fun _ => p_ones (by omega) (p_ones (by omega) ?_)⟩
        have p1 := po_le (n := i) (by omega)
        have p2 := po_le (n := pbW A i - 1) (by omega)
        refine tle (by omega) (by omega) (fun c2 => stay (fun z => by rcases z.2.1 with z | z <;> omega)) (fun c2 => ?_)
        rw [hM.1.2.2.2.1, orI]
        refine p_ringBy ok hM (by omega) ?_
        rw [nO_m1 (by omega)]
        exact ⟨fun z => stay (fun y => z y.2.2), fun z => take c (Or.inr c2) z⟩
  exact s_X10_peaceOf_0 _ _ _ _ (key 0 (Nat.zero_le _))
end PE
