/-! WINTERS -/
def sd (s : Nat) : Nat := (1103515245 * s + 12345) % 2147483648
theorem sd_lt (s : Nat) : sd s < 2 ^ 31 := Nat.mod_lt _ (by decide)
def tg (A : Ab) (F : Nat) : Ab := fun r j => if r = 0 ∧ j = 3 then F else A r j
theorem tg_OK {A : Ab} {F : Nat} (ok : OK A) (h : F < 2 ^ A 0 2) : OK (tg A F) := by
  obtain ⟨a1, a2, a3, a4, a5, a6, a7, a8, a9⟩ := ok
  exact ⟨a1, a2, a3, h, a5, a6, a7, a8, a9⟩
def wsd (s : Nat) : Nat → Nat
  | 0 => s
  | k + 1 => sd (wsd s k)
def wF (A : Ab) (s : Nat) : Nat → Nat
  | 0 => A 0 3
  | k + 1 => wF A s k ^^^ 2 ^ (wsd s (k + 1) / 65536 % A 0 2)
def wS (A : Ab) (s k : Nat) : Nat := sB A (wF A s (k + 1)) (A 0 0)
def wW (A : Ab) (s : Nat) : Nat → Nat → Nat
  | 0, p => A 2 p
  | k + 1, p => nw (wW A s k p) (bt (wS A s k) p)
def wZ (A : Ab) (s : Nat) : Nat → Nat
  | 0 => 0
  | k + 1 => wZ A s k + sm (fun p => fz (wW A s k p) (bt (wS A s k) p)) (A 0 1)
def wB (A : Ab) (s : Nat) : Nat → Ab
  | 0 => A
  | k + 1 => sun (tg (wB A s k) (wF A s (k + 1))) (wS A s k)
theorem wF_lt {A : Ab} (ok : OK A) (hW : 0 < A 0 2) (s : Nat) : ∀ k, wF A s k < 2 ^ A 0 2
  | 0 => ok.2.2.2.1
  | k + 1 => Nat.xor_lt_two_pow (wF_lt ok hW s k) (Nat.pow_lt_pow_right (by decide) (Nat.mod_lt _ hW))
theorem wB_facts (A : Ab) (s : Nat) : ∀ k, wB A s k 0 3 = wF A s k ∧ (∀ r, r ≠ 0 → r ≠ 2 → r ≠ 3 → wB A s k r = A r) ∧ (∀ j, j ≠ 3 → j ≠ 4 → wB A s k 0 j = A 0 j) ∧ (∀ p, wB A s k 2 p = wW A s k p) ∧ wB A s k 0 4 = A 0 4 + k
  | 0 => ⟨rfl, fun _ _ _ _ => rfl, fun _ _ _ => rfl, fun _ => rfl, rfl⟩
  | k + 1 => by
    obtain ⟨h1, h2, h3, h4, h5⟩ := wB_facts A s k
    refine ⟨rfl, fun r a b c => ?_, fun j a b => ?_, fun p => ?_, ?_⟩
    · rw [← h2 r a b c]
      funext j
      show sun (tg (wB A s k) (wF A s (k + 1))) (wS A s k) r j = _
      unfold sun tg
      rw [if_neg (fun z => a z.1), if_neg b, if_neg c, if_neg (fun z => a z.1)]
    · rw [← h3 j a b]
      show sun (tg (wB A s k) (wF A s (k + 1))) (wS A s k) 0 j = _
      unfold sun tg
      rw [if_neg (fun z => b z.2), if_neg (by decide), if_neg (by decide), if_neg (fun z => a z.2)]
    · show nw (tg (wB A s k) (wF A s (k + 1)) 2 p) (bt (wS A s k) p) = nw (wW A s k p) (bt (wS A s k) p)
      rw [show tg (wB A s k) (wF A s (k + 1)) 2 p = wB A s k 2 p from rfl, h4]
    · show tg (wB A s k) (wF A s (k + 1)) 0 4 + 1 = A 0 4 + (k + 1)
      rw [show tg (wB A s k) (wF A s (k + 1)) 0 4 = wB A s k 0 4 from rfl, h5]
      omega
theorem wB_OK {A : Ab} (ok : OK A) (hW : 0 < A 0 2) (s : Nat) : ∀ k, A 0 4 + k ≤ 2000 → OK (wB A s k)
  | 0, _ => ok
  | k + 1, h => by
    obtain ⟨h1, h2, h3, h4, h5⟩ := wB_facts A s k
    have e2 : wB A s k 0 2 = A 0 2 := h3 2 (by decide) (by decide)
    refine sun_OK (tg_OK (wB_OK ok hW s k (by omega)) ?_) ?_
    · rw [e2]; exact wF_lt ok hW s (k + 1)
    · show wB A s k 0 4 < 2000
      omega
theorem gu_congr {A B : Ab} (h1 : B 1 = A 1) (h4 : B 4 = A 4) (h6 : B 6 = A 6) (h2 : B 0 2 = A 0 2) (F p : Nat) : gu B F p = gu A F p := by
  unfold gu sgW scW
  rw [h1, h4, h6, h2]
theorem sB_congr {A B : Ab} (h1 : B 1 = A 1) (h4 : B 4 = A 4) (h6 : B 6 = A 6) (h2 : B 0 2 = A 0 2) (h0 : B 0 1 = A 0 1) (F r : Nat) : sB B F r = sB A F r := by
  unfold sB
  rw [h0]
  have e : st B F r = st A F r := by
    funext p
    unfold st ah ahW
    rw [h0]
    simp only [gu_congr h1 h4 h6 h2]
  rw [e]
theorem andL {a b : Nat} : lN a &&& lN b = lN (a &&& b) := by
  apply Int64.toBitVec_inj.mp
  show BitVec.ofNat 64 a &&& BitVec.ofNat 64 b = BitVec.ofNat 64 (a &&& b)
  rw [BitVec.ofNat_and]
theorem seedC {s : Nat} (h : s < 2 ^ 31) : ((1103515245 * (nI s).toInt64 + 12345) - ((1103515245 * (nI s).toInt64 + 12345) / 2147483648) * 2147483648 : Int64).toInt32 = nI (sd s) := by
  rw [nI_l h, show (1103515245 : Int64) = lN 1103515245 from rfl, lN_mul, show (12345 : Int64) = lN 12345 from rfl, lN_add, show (2147483648 : Int64) = lN 2147483648 from rfl, pk_lRem (by omega) (by omega) (by omega), lN_i]
  rfl
theorem seedM {s : Nat} (h : s < 2 ^ 31) : ((1103515245 * (nI s).toInt64 + 12345) &&& 2147483647 : Int64).toInt32 = nI (sd s) := by
  rw [nI_l h, show (1103515245 : Int64) = lN 1103515245 from rfl, lN_mul, show (12345 : Int64) = lN 12345 from rfl, lN_add, show (2147483647 : Int64) = lN (2 ^ 31 - 1) from rfl, andL, Nat.and_two_pow_sub_one_eq_mod, lN_i]
  rfl
section WI
variable {E : EE} {σ : Mm} {A : Ab}
theorem p_draw8 {s W : Nat} {Q : Int32 → Mm → Prop} (hs : s < 2 ^ 31) (hσ : σ 62 1 = nI s) (hW : 0 < W) (hW2 : W ≤ 8) (hQ : Q (nI (sd s / 65536 % W)) (up σ 62 1 (nI (sd s)))) : r_X8_draw_0 E (nI W) σ Q := by
  have h1 := sd_lt s
  refine s_X8_draw_0 _ _ _ _ ?_
  rw [hσ, seedC hs, show (65536 : Int32) = nI 65536 from rfl, pk_div h1 (by omega) (by omega), pk_rem (by omega) hW (by omega)]
  refine tle (b := 0) (by omega) (by omega) (fun c => by omega) (fun c => ⟨fun q => ?_, hQ⟩)
  have := (nI_eq (b := 0) (by omega) (by omega)).mp q
  omega
theorem p_draw10 {s W : Nat} {Q : Int32 → Mm → Prop} (hs : s < 2 ^ 31) (hσ : σ 63 22 = nI s) (hW : 0 < W) (hW2 : W ≤ 8) (hQ : Q (nI (sd s / 65536 % W)) (up σ 63 22 (nI (sd s)))) : r_X10_draw_0 E (nI W) σ Q := by
  have h1 := sd_lt s
  refine s_X10_draw_0 _ _ _ _ ?_
  rw [hσ, seedM hs, show (65536 : Int32) = nI 65536 from rfl, pk_div h1 (by omega) (by omega), pk_rem (by omega) hW (by omega)]
  refine ⟨fun q => ?_, hQ⟩
  have := (nI_eq (b := 0) (by omega) (by omega)).mp q
  omega
theorem HC.tg {F : Nat} (h : HC 34 σ A) : HC 34 (up σ 34 3 (nI F)) (tg A F) := by
  obtain ⟨h1, h2, h3, h4⟩ := h
  refine ⟨fun j hj => ?_, fun p hp => ?_, fun v hv => ?_, fun s hs => ?_⟩
  · rw [up_eq]
    show _ = nI (if 0 = 0 ∧ j = 3 then F else A 0 j)
    by_cases e : j = 3
    · subst e; rw [upd_eq, if_pos ⟨rfl, rfl⟩]
    · rw [upd_ne e, if_neg (fun z => e z.2)]; exact h1 j hj
  · rw [up_ne (by decide), up_ne (by decide), up_ne (by decide)]; exact h2 p hp
  · rw [up_ne (by decide), up_ne (by decide), up_ne (by decide)]; exact h3 v hv
  · rw [up_ne (by decide), up_ne (by decide), up_ne (by decide)]; exact h4 s hs
theorem p_pass {N s : Nat} {Q : Mm → Prop} (ok : OK A) (h4 : A 0 4 ≤ 999) (hW : 0 < A 0 2) (hA : HC 34 σ A) (hN : N ≤ 60) (hs : s < 2 ^ 31)
    (hQ : ∀ τ, Fr [34, 36, 37, 44, 45, 46, 62] σ τ → HC 34 τ (wB A s N) → τ 62 0 = nI (wZ A s N) → τ 62 1 = nI (wsd s N) → Q τ) : r_X8_pass_0 E (nI N) (nI s) σ Q := by
  have o1 := ok.1
  have o2 := ok.2.1
  have o3 := ok.2.2.1
  have wl : ∀ k, wsd s k < 2 ^ 31 := fun k => by
    cases k with
    | zero => exact hs
    | succ k => exact sd_lt _
  have key : ∀ k, k ≤ N → ∀ τ, Fr [34, 36, 37, 44, 45, 46, 62] σ τ → HC 34 τ (wB A s k) → τ 62 0 = nI (wZ A s k) → τ 62 1 = nI (wsd s k) → r_X8_pass_13 E (nI N) (nI s) (nI k) τ Q := by
    refine up_to (P := fun k => ∀ τ, Fr [34, 36, 37, 44, 45, 46, 62] σ τ → HC 34 τ (wB A s k) → τ 62 0 = nI (wZ A s k) → τ 62 1 = nI (wsd s k) → r_X8_pass_13 E (nI N) (nI s) (nI k) τ Q) N ?_ ?_
    · intro τ hf h1 h2 h3
      exact s_X8_pass_13 _ _ _ _ _ _ (fe rfl (Nat.le_refl _) (by omega) (hQ τ hf h1 h2 h3))
    · intro k hk ih τ hf h1 h2 h3
      obtain ⟨f1, f2, f3, f4, f5⟩ := wB_facts A s k
      have okB := wB_OK ok hW s k (by omega)
      have e2 : wB A s k 0 2 = A 0 2 := f3 2 (by decide) (by decide)
      have wfl := wF_lt ok hW s (k + 1)
      have wf256 := p256 ok wfl
      have wf0 := p256 ok (wF_lt ok hW s k)
      refine s_X8_pass_13 _ _ _ _ _ _ (fs rfl hk (by omega) ?_)
      rw [show τ 34 2 = nI (A 0 2) by rw [← e2]; exact h1.1 2 (by decide), show τ 34 3 = nI (wF A s k) by rw [← f1]; exact h1.1 3 (by decide)]
      refine p_draw8 (wl k) h3 hW o2 ?_
      have hm : sd (wsd s k) / 65536 % A 0 2 < A 0 2 := Nat.mod_lt _ hW
      rw [shlI (by omega), xorI]
      have ef : wF A s k ^^^ 2 ^ (sd (wsd s k) / 65536 % A 0 2) = wF A s (k + 1) := rfl
      rw [ef]
      have okT : OK (tg (wB A s k) (wF A s (k + 1))) := tg_OK okB (by rw [e2]; exact wfl)
      have hT : HC 34 (up (up τ 62 1 (nI (sd (wsd s k)))) 34 3 (nI (wF A s (k + 1)))) (tg (wB A s k) (wF A s (k + 1))) := HC.tg (h1.fr (L := [62]) (Fr.up (by decide)) (by decide))
      refine p_fill34 okT hT (by omega) (fun ρ g1 g2 g3 => ?_)
      have hT2 := hT.fr g1 (by decide)
      rw [show ρ 34 0 = nI (A 0 0) by rw [← f3 0 (by decide) (by decide)]; exact hT2.1 0 (by decide)]
      refine p_sitters okT ⟨g2, g3⟩ o3 ?_
      have eS : sB (tg (wB A s k) (wF A s (k + 1))) (wF A s (k + 1)) (A 0 0) = wS A s k := by
        refine sB_congr ?_ ?_ ?_ ?_ ?_ _ _
        · show wB A s k 1 = A 1; exact f2 1 (by decide) (by decide) (by decide)
        · show wB A s k 4 = A 4; exact f2 4 (by decide) (by decide) (by decide)
        · show wB A s k 6 = A 6; exact f2 6 (by decide) (by decide) (by decide)
        · exact e2
        · exact f3 1 (by decide) (by decide)
      rw [eS]
      have sl : wS A s k < 64 := sB_lt ok _ _
      refine p_passSunday34 okT hT2 (by omega) (fun ζ z1 z2 => ?_)
      rw [g1 62 (by decide), up_ne (by decide), up_eq, upd_ne (by decide), h2, nI_add, nI_1]
      have eZ : wZ A s k + sm (fun p => fz (tg (wB A s k) (wF A s (k + 1)) 2 p) (bt (wS A s k) p)) (tg (wB A s k) (wF A s (k + 1)) 0 1) = wZ A s (k + 1) := by
        show wZ A s k + sm (fun p => fz (wB A s k 2 p) (bt (wS A s k) p)) (wB A s k 0 1) = wZ A s k + sm (fun p => fz (wW A s k p) (bt (wS A s k) p)) (A 0 1)
        rw [f3 1 (by decide) (by decide)]
        congr 1
        exact sm_congr (fun p _ => by rw [f4])
      rw [eZ]
      refine ih _ ?_ (z2.fr (L := [62]) (Fr.up (by decide)) (by decide)) (by rw [up_eq, upd_eq]) ?_
      · exact ((((hf.tr (Fr.up (by decide))).tr (Fr.up (by decide))).tr (g1.wk (by decide))).tr (z1.wk (by decide))).tr (Fr.up (by decide))
      · rw [up_eq, upd_ne (by decide), z1 62 (by decide), g1 62 (by decide), up_ne (by decide), up_eq, upd_eq]; rfl
  refine s_X8_pass_0 _ _ _ _ _ (key 0 (Nat.zero_le _) _ ((Fr.up (by decide)).tr (Fr.up (by decide))) ?_ ?_ ?_)
  · exact (hA.fr (L := [62]) (Fr.up (by decide)) (by decide)).fr (L := [62]) (Fr.up (by decide)) (by decide)
  · rw [up_eq, upd_ne (by decide), up_eq, upd_eq]; rfl
  · rw [up_eq, upd_eq]; rfl
/-- sums of a row -/
theorem sum_gen {r : Int32 → Int32 → Mm → (Int32 → Mm → Prop) → Prop} {c k n : Nat} {u : Nat → Nat} {Q : Int32 → Mm → Prop} (hn : n ≤ 6) {x : Mm → Int32} (hx : x σ = nI n) (hu : ∀ p, p < n → σ c p = nI (u p))
    (hs : ∀ a i σ Q, (x σ ≤ i → Q a σ) ∧ (¬ x σ ≤ i → vp_in i 6 ∧ r (a + σ c i.toNatClampNeg) (i + 1) σ Q) → r a i σ Q) (hQ : Q (nI (sm u n)) σ) : r 0 0 σ Q := by
  have key : ∀ i, i ≤ n → r (nI (sm u i)) (nI i) σ Q := by
    refine up_to n ?_ ?_
    · exact hs _ _ _ _ (fe hx (Nat.le_refl _) (by omega) hQ)
    · intro i hi ih
      refine hs _ _ _ _ (fs hx hi (by omega) ⟨vp_in_nI (by omega) (by omega), ?_⟩)
      rw [nI_clamp (by omega), hu i hi, nI_add, nI_1]
      exact ih
  exact key 0 (Nat.zero_le _)
theorem p_allWarm14 {Q : Int32 → Mm → Prop} (ok : OK A) (hA : HC 14 σ A) (hQ : Q (nI (sm (fun p => A 2 p) (A 0 1))) σ) : r_X2_allWarm_14_0 E σ Q :=
  s_X2_allWarm_14_0 _ _ _ (sum_gen (r := r_X2_allWarm_14_4 E) (c := 16) (k := 0) (x := fun σ => σ 14 1) ok.1 (hA.1 1 (by decide)) (fun p hp => (hA.2.1 p hp).2.1) (fun a i σ Q h => s_X2_allWarm_14_4 E a i σ Q h) hQ)
theorem p_allWarm34 {Q : Int32 → Mm → Prop} (ok : OK A) (hA : HC 34 σ A) (hQ : Q (nI (sm (fun p => A 2 p) (A 0 1))) σ) : r_X2_allWarm_34_0 E σ Q :=
  s_X2_allWarm_34_0 _ _ _ (sum_gen (r := r_X2_allWarm_34_4 E) (c := 36) (k := 0) (x := fun σ => σ 34 1) ok.1 (hA.1 1 (by decide)) (fun p hp => (hA.2.1 p hp).2.1) (fun a i σ Q h => s_X2_allWarm_34_4 E a i σ Q h) hQ)
theorem p_allFroze {Q : Int32 → Mm → Prop} (ok : OK A) (hA : HC 14 σ A) (hQ : Q (nI (sm (fun p => A 3 p) (A 0 1))) σ) : r_X2_allFroze_0 E σ Q :=
  s_X2_allFroze_0 _ _ _ (sum_gen (r := r_X2_allFroze_4 E) (c := 17) (k := 0) (x := fun σ => σ 14 1) ok.1 (hA.1 1 (by decide)) (fun p hp => (hA.2.1 p hp).2.2) (fun a i σ Q h => s_X2_allFroze_4 E a i σ Q h) hQ)
theorem p_allGuilt {F : Nat} {Q : Int32 → Mm → Prop} (ok : OK A) (hB : Bf σ A F) (hQ : Q (nI (sm (fun p => gu A F p) (A 0 1))) σ) : r_X0_allGuilt_0 E σ Q :=
  s_X0_allGuilt_0 _ _ _ (sum_gen (r := r_X0_allGuilt_4 E) (c := 45) (k := 0) (x := fun σ => σ 44 2) ok.1 hB.1 (fun p hp => hB.2 p hp) (fun a i σ Q h => s_X0_allGuilt_4 E a i σ Q h) hQ)
theorem p_warmAll_66 {u : Nat → Nat} {Q : Int32 → Mm → Prop} (ok : OK A) (hM : HM σ A) (hu : ∀ p, p < A 0 1 → σ 66 p = nI (u p)) (hQ : Q (nI (sm u (A 0 1))) σ) : r_X10_warmAll_66_0 E σ Q :=
  s_X10_warmAll_66_0 _ _ _ (sum_gen (r := r_X10_warmAll_66_4 E) (c := 66) (k := 0) (x := fun σ => σ 63 3) ok.1 hM.1.2.1 hu (fun a i σ Q h => s_X10_warmAll_66_4 E a i σ Q h) hQ)
theorem p_warmAll_67 {u : Nat → Nat} {Q : Int32 → Mm → Prop} (ok : OK A) (hM : HM σ A) (hu : ∀ p, p < A 0 1 → σ 67 p = nI (u p)) (hQ : Q (nI (sm u (A 0 1))) σ) : r_X10_warmAll_67_0 E σ Q :=
  s_X10_warmAll_67_0 _ _ _ (sum_gen (r := r_X10_warmAll_67_4 E) (c := 67) (k := 0) (x := fun σ => σ 63 3) ok.1 hM.1.2.1 hu (fun a i σ Q h => s_X10_warmAll_67_4 E a i σ Q h) hQ)
theorem p_warmAll_72 {u : Nat → Nat} {Q : Int32 → Mm → Prop} (ok : OK A) (hM : HM σ A) (hu : ∀ p, p < A 0 1 → σ 72 p = nI (u p)) (hQ : Q (nI (sm u (A 0 1))) σ) : r_X10_warmAll_72_0 E σ Q :=
  s_X10_warmAll_72_0 _ _ _ (sum_gen (r := r_X10_warmAll_72_4 E) (c := 72) (k := 0) (x := fun σ => σ 63 3) ok.1 hM.1.2.1 hu (fun a i σ Q h => s_X10_warmAll_72_4 E a i σ Q h) hQ)
theorem p_guiltAll {Q : Int32 → Mm → Prop} (ok : OK A) (hM : HM σ A) (hQ : Q (nI (sm (fun p => gu A (A 0 3) p) (A 0 1))) σ) : r_X10_guiltAll_0 E σ Q := by
  have o1 := ok.1
  have hF := p256 ok ok.2.2.2.1
  have key : ∀ i, i ≤ A 0 1 → r_X10_guiltAll_4 E (nI (sm (fun p => gu A (A 0 3) p) i)) (nI i) σ Q := by
    refine up_to (A 0 1) ?_ ?_
    · exact s_X10_guiltAll_4 _ _ _ _ _ (fe hM.1.2.1 (Nat.le_refl _) (by omega) hQ)
    · intro i hi ih
      refine s_X10_guiltAll_4 _ _ _ _ _ (fs hM.1.2.1 hi (by omega) ?_)
      rw [hM.1.2.2.2.1]
      refine p_guiltBy ok hM hi (by omega) ?_
      rw [nI_add, nI_1]
      exact ih
  exact s_X10_guiltAll_0 _ _ _ (key 0 (Nat.zero_le _))
def wa (A : Ab) (N s w : Nat) : Nat := if w = 0 then wZ A s N else if w = 1 then sm (fun p => wW A s N p) (A 0 1) else wsd s N
theorem wW_le {A : Ab} (ok : OK A) {s p : Nat} (hp : p < A 0 1) : ∀ k, wW A s k p ≤ 20
  | 0 => (ok.2.2.2.2.2.2.1 p hp).2.1
  | k + 1 => nw_le (wW_le ok hp k)
theorem p_winters69 {N s w : Nat} {Q : Int32 → Mm → Prop} (ok : OK A) (hM : HM σ A) (hW : 0 < A 0 2) (hN : N ≤ 60) (hs : s < 2 ^ 31) (hw : w ≤ 2) (h22 : σ 63 22 = nI s) (h72 : ∀ p, p < A 0 1 → σ 72 p = nI (A 2 p)) (hQ : ∀ τ, FM σ τ → Q (nI (wa A N s w)) τ) : r_X10_winters_69 E (nI N) (nI s) (nI w) (nI (A 0 3)) 0 0 σ Q := by
  have o1 := ok.1
  have o2 := ok.2.1
  have o3 := ok.2.2.1
  have wl : ∀ k, wsd s k < 2 ^ 31 := fun k => by
    cases k with
    | zero => exact hs
    | succ k => exact sd_lt _
  have key : ∀ k, k ≤ N → ∀ τ, FM σ τ → (∀ p, p < A 0 1 → τ 72 p = nI (wW A s k p)) → τ 63 22 = nI (wsd s k) → r_X10_winters_69 E (nI N) (nI s) (nI w) (nI (wF A s k)) (nI (wZ A s k)) (nI k) τ Q := by
    refine up_to (P := fun k => ∀ τ, FM σ τ → (∀ p, p < A 0 1 → τ 72 p = nI (wW A s k p)) → τ 63 22 = nI (wsd s k) → r_X10_winters_69 E (nI N) (nI s) (nI w) (nI (wF A s k)) (nI (wZ A s k)) (nI k) τ Q) N ?_ ?_
    · intro τ hf h1 h2
      have hq := hQ τ hf
      unfold wa at hq
      refine s_X10_winters_69 _ _ _ _ _ _ _ _ _ (fe rfl (Nat.le_refl _) (by omega) ?_)
      refine tne (b := 0) (by omega) (by omega) (fun c => tne (b := 1) (by omega) (by omega) (fun c2 => ?_) (fun c2 => ?_)) (fun c => ?_)
      · rw [if_neg c, if_neg c2] at hq; rw [h2]; exact hq
      · rw [if_neg c, if_pos c2] at hq; exact p_warmAll_72 ok (hM.fm hf) h1 hq
      · rw [if_pos c] at hq; exact hq
    · intro k hk ih τ hf h1 h2
      have hM' := hM.fm hf
      have wf256 := p256 ok (wF_lt ok hW s (k + 1))
      refine s_X10_winters_69 _ _ _ _ _ _ _ _ _ (fs rfl hk (by omega) ?_)
      rw [hM'.1.2.2.1]
      refine p_draw10 (wl k) h2 hW o2 ?_
      have hm : sd (wsd s k) / 65536 % A 0 2 < A 0 2 := Nat.mod_lt _ hW
      have hf2 : FM σ (up τ 63 22 (nI (sd (wsd s k)))) := hf.tr (FM.up (by omega))
      rw [shlI (by omega), xorI, show wF A s k ^^^ 2 ^ (sd (wsd s k) / 65536 % A 0 2) = wF A s (k + 1) from rfl, (hM.fm hf2).1.1]
      refine p_sitsBy ok (hM.fm hf2) o3 (by omega) (fun ρ g1 => ?_)
      have hf3 := hf2.tr (FM.fr g1 (by decide))
      have sl : sB A (wF A s (k + 1)) (A 0 0) < 64 := sB_lt ok _ _
      refine p_sundayThen (u := fun p => wW A s k p) ok (hM.fm hf3) (by omega) (fun p hp => ⟨by rw [g1 72 (by decide), up_ne (by decide)]; exact h1 p hp, wW_le ok hp k⟩) (fun ζ z1 z2 => ?_)
      have bl : bs (fun p => fz (wW A s k p) (bt (sB A (wF A s (k + 1)) (A 0 0)) p)) (A 0 1) < 64 := p64 ok (bs_lt (fun i _ => fz_le _ _))
      refine p_ones (by omega) ?_
      rw [po_bs (by omega) (fun i _ => fz_le _ _), nI_add, nI_1]
      refine ih ζ (hf3.tr (FM.fr z1 (by decide))) z2 ?_
      rw [z1 63 (by decide), g1 63 (by decide), up_eq, upd_eq]; rfl
  exact key 0 (Nat.zero_le _) σ FM.rf h72 h22
end WI
