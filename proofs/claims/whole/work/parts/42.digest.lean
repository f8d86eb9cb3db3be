/-! the digest -/
def dk (f : Nat → Int32) (h : Int64) : Nat → Int64
  | 0 => h
  | n + 1 => 31 * dk f h n + (f n).toInt64
def dp (A : Ab) (h : Int64) : Nat → Int64
  | 0 => h
  | p + 1 => 31 * (31 * dk (pv A p) (dp A h p) 6 + (nI (oa A 4 p 0)).toInt64) + (nI (oa A 4 p 1)).toInt64
def dw (A : Ab) (h : Int64) : Nat → Int64
  | 0 => h
  | w + 1 => dk (wv A w) (dw A h w) 6
def dg (A : Ab) (h : Int64) : Int64 := 31 * (31 * (31 * (31 * (31 * h + (nO (far (ld A (A 0 3)) (A 0 1) 0 1)).toInt64) + (nO (far (ld A (A 0 3)) (A 0 1) 1 0)).toInt64) + (nO (rg (ld A (A 0 3)) (A 0 1))).toInt64) + (nI (po (pb A))).toInt64) + (nI (pb A)).toInt64
def dd (A : Ab) (pg : Nat → Nat) (L c v : Nat) : Int64 :=
  dk (cv A L c v) (dk (fun i => nI (pg i)) (if A 0 1 = 0 then dw A (dp A 1289 (A 0 1)) (A 0 2) else dg A (dw A (dp A 1289 (A 0 1)) (A 0 2))) L) 13
section DG
variable {E : EE} {σ : Mm} {A : Ab} {pg : Nat → Nat} {L c v : Nat} {Ak : Ab} {im : Nat}
theorem c_dPeople {y : Int64} {Q : Int64 → Mm → Prop} (ok : OK A) (hA : HC 14 σ A) (hQ : ∀ τ, KC σ τ → Q (dp A y (A 0 1)) τ) : r_X9_digestPeople_0 E y σ Q := by
  have o1 := ok.1
  refine s_X9_digestPeople_0 _ _ _ _ (p_cfill (t := 4) ok hA (by decide) (fun τ0 f0 f1 => ?_))
  have hA0 : HC 14 τ0 A := hA.fr f0 (by decide)
  have key : ∀ i, i ≤ A 0 1 → ∀ τ, Fr [44, 45, 46, 47, 48] τ0 τ → r_X9_digestPeople_21 E y (dp A y i) (nI i) τ Q := by
    refine up_to (P := fun i => ∀ τ, Fr [44, 45, 46, 47, 48] τ0 τ → r_X9_digestPeople_21 E y (dp A y i) (nI i) τ Q) (A 0 1) ?_ ?_
    · intro τ g
      exact s_X9_digestPeople_21 _ _ _ _ _ _ (fe ((hA0.fr g (by decide)).1 1 (by decide)) (Nat.le_refl _) (by omega) (hQ τ ((KC.fr f0 (by decide)).tr (KC.fr g (by decide)))))
    · intro i hi IH τ g
      refine s_X9_digestPeople_21 _ _ _ _ _ _ (fs ((hA0.fr g (by decide)).1 1 (by decide)) hi (by omega) ?_)
      have inn : ∀ w, w ≤ 6 → ∀ ρ, Fr [44, 45, 46, 47, 48] τ0 ρ → r_X9_digestPeople_36 E y (dk (pv A i) (dp A y i) w) (nI i) (nI w) ρ Q := by
        refine up_to (P := fun w => ∀ ρ, Fr [44, 45, 46, 47, 48] τ0 ρ → r_X9_digestPeople_36 E y (dk (pv A i) (dp A y i) w) (nI i) (nI w) ρ Q) 6 ?_ ?_
        · intro ρ g2
          have cf : Cf ρ A 4 := ⟨by rw [g2 56 (by decide)]; exact f1.1, fun p hp => by rw [g2 57 (by decide)]; exact f1.2 p hp⟩
          refine s_X9_digestPeople_36 _ _ _ _ _ _ _ ⟨fun _ => p_above ok (by decide) cf hi (p_below ok (by decide) cf hi ?_), fun z => absurd (show (5 : Int32) < nI 6 by decide) z⟩
          rw [show nI i + 1 = nI (i + 1) from nI_add i 1]
          exact IH ρ g2
        · intro w hw IW ρ g2
          refine s_X9_digestPeople_36 _ _ _ _ _ _ _ (tlt (a := 5) (by decide) (by omega) (fun z => by omega) (fun _ => c_person ok (hA0.fr g2 (by decide)) hi (by omega) (fun ρ2 g3 => ?_)))
          rw [show nI w + 1 = nI (w + 1) from nI_add w 1]
          exact IW ρ2 (g2.tr g3)
      exact inn 0 (by decide) τ g
  exact key 0 (Nat.zero_le _) τ0 Fr.rf
theorem c_dWrongs {y : Int64} {Q : Int64 → Mm → Prop} (ok : OK A) (hA : HC 14 σ A) (hQ : ∀ τ, KC σ τ → Q (dw A y (A 0 2)) τ) : r_X9_digestWrongs_0 E y σ Q := by
  have o2 := ok.2.1
  have hc : ∀ {τ : Mm}, KC σ τ → HC 14 τ A := fun k => hA.of (fun r hr => k _ (by omega))
  refine s_X9_digestWrongs_0 _ _ _ _ ?_
  have key : ∀ i, i ≤ A 0 2 → ∀ τ, KC σ τ → r_X9_digestWrongs_5 E y (dw A y i) (nI i) τ Q := by
    refine up_to (P := fun i => ∀ τ, KC σ τ → r_X9_digestWrongs_5 E y (dw A y i) (nI i) τ Q) (A 0 2) ?_ ?_
    · intro τ g
      exact s_X9_digestWrongs_5 _ _ _ _ _ _ (fe ((hc g).1 2 (by decide)) (Nat.le_refl _) (by omega) (hQ τ g))
    · intro i hi IH τ g
      refine s_X9_digestWrongs_5 _ _ _ _ _ _ (fs ((hc g).1 2 (by decide)) hi (by omega) ?_)
      have inn : ∀ w, w ≤ 6 → ∀ ρ, KC σ ρ → r_X9_digestWrongs_20 E y (dk (wv A i) (dw A y i) w) (nI i) (nI w) ρ Q := by
        refine up_to (P := fun w => ∀ ρ, KC σ ρ → r_X9_digestWrongs_20 E y (dk (wv A i) (dw A y i) w) (nI i) (nI w) ρ Q) 6 ?_ ?_
        · intro ρ g2
          refine s_X9_digestWrongs_20 _ _ _ _ _ _ _ ⟨fun _ => ?_, fun z => absurd (show (5 : Int32) < nI 6 by decide) z⟩
          rw [show nI i + 1 = nI (i + 1) from nI_add i 1]
          exact IH ρ g2
        · intro w hw IW ρ g2
          refine s_X9_digestWrongs_20 _ _ _ _ _ _ _ (tlt (a := 5) (by decide) (by omega) (fun z => by omega) (fun _ => c_wrong ok (hc g2) hi (by omega) (fun ρ2 g3 => ?_)))
          rw [show nI w + 1 = nI (w + 1) from nI_add w 1]
          exact IW ρ2 (g2.tr g3)
      exact inn 0 (by decide) τ g
  exact key 0 (Nat.zero_le _) σ KC.rf
theorem c_to {p g : Nat} {Q : Int32 → Mm → Prop} (ok : OK A) (hA : HC 14 σ A) (hp : p < A 0 1) (hg : g < A 0 1) (hn : p ≠ g) (hQ : ∀ τ, KC σ τ → Q (nO (far (ld A (A 0 3)) (A 0 1) p g)) τ) : r_X9_to_0 E (nI p) (nI g) σ Q := by
  have o1 := ok.1
  have hF := p256 ok ok.2.2.2.1
  refine s_X9_to_0 _ _ _ _ _ (p_hasPerson14 (hA.1 1 (by decide)) ok.1 (fun _ => b1' (p_hasPerson14 (hA.1 1 (by decide)) ok.1 (fun _ => b1' ⟨fun _ => ?_, fun z => absurd ((nI_eq (by omega) (by omega)).mp z) hn⟩) (fun z => absurd ((InR_nI (by omega)).mpr (by omega)) z))) (fun z => absurd ((InR_nI (by omega)).mpr (by omega)) z))
  rw [show σ 14 3 = nI (A 0 3) from hA.1 3 (by decide)]
  exact p_gfill ok hA (by omega) (fun τ g1 g2 => p_fewest ok g2 hp hg (hQ τ (KC.fr g1 (by decide))))
theorem c_ring {Q : Int32 → Mm → Prop} (ok : OK A) (hA : HC 14 σ A) (h0 : A 0 1 ≠ 0) (hQ : ∀ τ, KC σ τ → Q (nO (rg (ld A (A 0 3)) (A 0 1))) τ) : r_X9_ring_0 E σ Q := by
  have hF := p256 ok ok.2.2.2.1
  refine s_X9_ring_0 _ _ _ (p_isThere ok hA (fun _ => b1 ?_) (fun z => absurd z h0))
  rw [show σ 14 3 = nI (A 0 3) from hA.1 3 (by decide)]
  exact p_gfill ok hA (by omega) (fun τ g1 g2 => p_shortestRing ok g2 (hQ τ (KC.fr g1 (by decide))))
theorem c_dGrudges {y : Int64} {Q : Int64 → Mm → Prop} (ok : OK A) (hA : HC 14 σ A) (h2 : 2 ≤ A 0 1) (hQ : ∀ τ, KC σ τ → Q (dg A y) τ) : r_X9_digestGrudges_0 E y σ Q := by
  have hc : ∀ {τ : Mm}, KC σ τ → HC 14 τ A := fun k => hA.of (fun r hr => k _ (by omega))
  refine s_X9_digestGrudges_0 _ _ _ _ (c_to (p := 0) (g := 1) ok hA (by omega) (by omega) (by decide) (fun τ1 k1 => c_to (p := 1) (g := 0) ok (hc k1) (by omega) (by omega) (by decide) (fun τ2 k2 => c_ring ok (hc (k1.tr k2)) (by omega) (fun τ3 k3 => p_fewestToForgive ok (hc ((k1.tr k2).tr k3)) (fun τ4 f4 => p_bc (pb_lt ok) (hQ τ4 (((k1.tr k2).tr k3).tr (KC.fr f4 (by decide)))))))))
theorem c_digest {Q : Int64 → Mm → Prop} (ok : OK A) (hP : 0 < A 0 1 → 2 ≤ A 0 1) (hL : L ≤ 54) (hC : CS σ A pg L c v Ak im) (hQ : ∀ τ, KC σ τ → Q (dd A pg L c v) τ) : r_X9_digest_0 E σ Q := by
  have cnt : ∀ h, (∀ τ, KC σ τ → Q (dk (cv A L c v) h 13) τ) → ∀ τ, KC σ τ → r_X9_digest_66 E h 0 τ Q := by
    intro h hq τ k
    have key : ∀ i, i ≤ 13 → ∀ ρ, KC σ ρ → r_X9_digest_66 E (dk (cv A L c v) h i) (nI i) ρ Q := by
      refine up_to (P := fun i => ∀ ρ, KC σ ρ → r_X9_digest_66 E (dk (cv A L c v) h i) (nI i) ρ Q) 13 ?_ ?_
      · intro ρ g
        exact s_X9_digest_66 _ _ _ _ _ ⟨fun _ => hq ρ g, fun z => absurd (show (12 : Int32) < nI 13 by decide) z⟩
      · intro i hi IH ρ g
        refine s_X9_digest_66 _ _ _ _ _ (tlt (a := 12) (by decide) (by omega) (fun z => by omega) (fun _ => c_count ok (hC.kc g) (by omega) (fun ρ2 g2 => ?_)))
        rw [show nI i + 1 = nI (i + 1) from nI_add i 1]
        exact IH ρ2 (g.tr g2)
    exact key 0 (by decide) τ k
  have pge : ∀ h, (∀ τ, KC σ τ → Q (dk (cv A L c v) (dk (fun i => nI (pg i)) h L) 13) τ) → ∀ τ, KC σ τ → r_X9_digest_30 E h 0 τ Q := by
    intro h hq τ k
    have key : ∀ i, i ≤ L → r_X9_digest_30 E (dk (fun i => nI (pg i)) h i) (nI i) τ Q := by
      refine up_to L ?_ ?_
      · exact s_X9_digest_30 _ _ _ _ _ (fe (hC.kc k).2.1.1 (Nat.le_refl _) (by omega) (cnt _ hq τ k))
      · intro i hi IH
        refine s_X9_digest_30 _ _ _ _ _ (fs (hC.kc k).2.1.1 hi (by omega) ⟨vp_in_nI (by omega) (by omega), ?_⟩)
        rw [nI_clamp (by omega), (hC.kc k).2.1.2 i hi, show nI i + 1 = nI (i + 1) from nI_add i 1]
        exact IH
    exact key 0 (Nat.zero_le _)
  refine s_X9_digest_0 _ _ _ (c_dPeople ok hC.1 (fun τ1 k1 => c_dWrongs ok (hC.kc k1).1 (fun τ2 k2 => p_isThere ok (hC.kc (k1.tr k2)).1 (fun q => b1' ?_) (fun q => b0' ?_))))
  · refine c_dGrudges ok (hC.kc (k1.tr k2)).1 (hP q) (fun τ3 k3 => pge _ (fun τ k => ?_) τ3 ((k1.tr k2).tr k3))
    have h := hQ τ k
    unfold dd at h
    rw [if_neg (by omega)] at h
    exact h
  · refine pge _ (fun τ k => ?_) τ2 (k1.tr k2)
    have h := hQ τ k
    unfold dd at h
    rw [if_pos q] at h
    exact h
/-- the model's -/
def hh (σ : Mm) : Int64 := jn (σ 63 33) (σ 63 1033)
theorem hh_fr {l : List Nat} {σ τ : Mm} (h : Fr l σ τ) (hl : 63 ∉ l) : hh τ = hh σ := by unfold hh; rw [h 63 hl]
theorem p_say {y : Int64} {Q : Mm → Prop} (hQ : ∀ τ, FM σ τ → hh τ = 31 * hh σ + y → Q τ) : r_X10_say_0 E y σ Q := by
  refine s_X10_say_0 _ _ _ _ (hQ _ ((FM.up (by decide)).tr (FM.up (by decide))) ?_)
  unfold hh
  exact jn_eq _
theorem m_dChapel {Q : Mm → Prop} (ok : OK A) (hM : HM σ A) (h2 : 2 ≤ A 0 1) (hQ : ∀ τ, FM σ τ → hh τ = dg A (hh σ) → Q τ) : r_X10_sayChapel_0 E σ Q := by
  have hF := p256 ok ok.2.2.2.1
  have e : ∀ {τ : Mm}, FM σ τ → τ 63 6 = nI (A 0 3) := fun f => (hM.fm f).1.2.2.2.1
  apply s_X10_sayChapel_0
  rw [e FM.rf]
  refine p_farBy (a := 0) (g := 1) ok hM (by omega) (by omega) (by omega) (p_say (fun τ1 f1 h1 => ?_))
  rw [e f1]
  refine p_farBy (a := 1) (g := 0) ok (hM.fm f1) (by omega) (by omega) (by omega) (p_say (fun τ2 f2 h2 => ?_))
  rw [e (f1.tr f2)]
  refine p_ringBy ok (hM.fm (f1.tr f2)) (by omega) (p_say (fun τ3 f3 h3 => ?_))
  refine p_peaceOf (w := 0) ok (hM.fm ((f1.tr f2).tr f3)) (by decide) (p_say (fun τ4 f4 h4 => ?_))
  refine p_peaceOf (w := 1) ok (hM.fm (((f1.tr f2).tr f3).tr f4)) (by decide) (p_say (fun τ5 f5 h5 => ?_))
  refine hQ τ5 ((((f1.tr f2).tr f3).tr f4).tr f5) ?_
  rw [h5, h4, h3, h2, h1]
  rfl
theorem m_digest {Q : Int64 → Mm → Prop} (ok : OK A) (hP : 0 < A 0 1 → 2 ≤ A 0 1) (hL : L ≤ 54) (hM : MS σ A pg L c v Ak im) (hQ : ∀ τ, FM σ τ → Q (dd A pg L c v) τ) : r_X10_digest_0 E σ Q := by
  have o1 := ok.1
  have o2 := ok.2.1
  have cnt : ∀ h, (∀ τ, FM σ τ → Q (dk (cv A L c v) h 13) τ) → ∀ τ, FM σ τ → hh τ = h → r_X10_digest_153 E 0 τ Q := by
    intro h hq τ k eh
    have key : ∀ i, i ≤ 13 → ∀ ρ, FM σ ρ → hh ρ = dk (cv A L c v) h i → r_X10_digest_153 E (nI i) ρ Q := by
      refine up_to (P := fun i => ∀ ρ, FM σ ρ → hh ρ = dk (cv A L c v) h i → r_X10_digest_153 E (nI i) ρ Q) 13 ?_ ?_
      · intro ρ g e
        refine s_X10_digest_153 _ _ _ _ ⟨fun _ => ?_, fun z => absurd (show (13 : Int32) ≤ nI 13 by decide) z⟩
        have := hq ρ g
        rw [← e] at this
        exact this
      · intro i hi IH ρ g e
        refine s_X10_digest_153 _ _ _ _ (tle (a := 13) (by decide) (by omega) (fun z => by omega) (fun _ => m_countOf ok (hM.fm g) (by omega) (fun ρ2 g2 => p_say (fun ρ3 g3 e3 => ?_))))
        rw [show nI i + 1 = nI (i + 1) from nI_add i 1]
        refine IH ρ3 ((g.tr (FM.fr g2 (by decide))).tr g3) ?_
        rw [e3, hh_fr g2 (by decide), e]
        rfl
    exact key 0 (by decide) τ k eh
  have pge : ∀ h, (∀ τ, FM σ τ → Q (dk (cv A L c v) (dk (fun i => nI (pg i)) h L) 13) τ) → ∀ τ, FM σ τ → hh τ = h → r_X10_digest_126 E 0 τ Q := by
    intro h hq τ k eh
    have key : ∀ i, i ≤ L → ∀ ρ, FM σ ρ → hh ρ = dk (fun i => nI (pg i)) h i → r_X10_digest_126 E (nI i) ρ Q := by
      refine up_to (P := fun i => ∀ ρ, FM σ ρ → hh ρ = dk (fun i => nI (pg i)) h i → r_X10_digest_126 E (nI i) ρ Q) L ?_ ?_
      · intro ρ g e
        exact s_X10_digest_126 _ _ _ _ (fe (hM.fm g).2.1.1 (Nat.le_refl _) (by omega) (cnt _ hq ρ g e))
      · intro i hi IH ρ g e
        refine s_X10_digest_126 _ _ _ _ (fs (hM.fm g).2.1.1 hi (by omega) ⟨vp_in_nI (by omega) (by omega), p_say (fun ρ3 g3 e3 => ?_)⟩)
        rw [show nI i + 1 = nI (i + 1) from nI_add i 1]
        refine IH ρ3 (g.tr g3) ?_
        rw [e3, nI_clamp (by omega), (hM.fm g).2.1.2 i hi, e]
        rfl
    exact key 0 (Nat.zero_le _) τ k eh
  have wrs : ∀ h, (∀ τ, FM σ τ → Q (dk (cv A L c v) (dk (fun i => nI (pg i)) (if A 0 1 = 0 then dw A h (A 0 2) else dg A (dw A h (A 0 2))) L) 13) τ) → ∀ τ, FM σ τ → hh τ = h → r_X10_digest_74 E 0 τ Q := by
    intro h hq τ k eh
    have key : ∀ i, i ≤ A 0 2 → ∀ ρ, FM σ ρ → hh ρ = dw A h i → r_X10_digest_74 E (nI i) ρ Q := by
      refine up_to (P := fun i => ∀ ρ, FM σ ρ → hh ρ = dw A h i → r_X10_digest_74 E (nI i) ρ Q) (A 0 2) ?_ ?_
      · intro ρ g e
        refine s_X10_digest_74 _ _ _ _ (fe (hM.fm g).1.1.2.2.1 (Nat.le_refl _) (by omega) (p_lacks ok (hM.fm g).1 (fun q => b0 ?_) (fun q => b1 ?_)))
        · rw [if_neg (by omega)] at hq
          refine m_dChapel ok (hM.fm g).1 (hP q) (fun ρ2 g2 e2 => pge _ hq ρ2 (g.tr g2) ?_)
          rw [e2, e]
        · rw [if_pos q] at hq
          exact pge _ hq ρ g e
      · intro i hi IH ρ g e
        refine s_X10_digest_74 _ _ _ _ (fs (hM.fm g).1.1.2.2.1 hi (by omega) ?_)
        have inn : ∀ w, w ≤ 6 → ∀ ρ, FM σ ρ → hh ρ = dk (wv A i) (dw A h i) w → r_X10_digest_84 E (nI i) (nI w) ρ Q := by
          refine up_to (P := fun w => ∀ ρ, FM σ ρ → hh ρ = dk (wv A i) (dw A h i) w → r_X10_digest_84 E (nI i) (nI w) ρ Q) 6 ?_ ?_
          · intro ρ g e
            refine s_X10_digest_84 _ _ _ _ _ ⟨fun _ => ?_, fun z => absurd (show (6 : Int32) ≤ nI 6 by decide) z⟩
            rw [show nI i + 1 = nI (i + 1) from nI_add i 1]
            exact IH ρ g e
          · intro w hw IW ρ g e
            refine s_X10_digest_84 _ _ _ _ _ (tle (a := 6) (by decide) (by omega) (fun z => by omega) (fun _ => m_tellWrong ok (hM.fm g).1 hi (by omega) (fun ρ2 g2 => p_say (fun ρ3 g3 e3 => ?_))))
            rw [show nI w + 1 = nI (w + 1) from nI_add w 1]
            refine IW ρ3 ((g.tr (FM.fr g2 (by decide))).tr g3) ?_
            rw [e3, hh_fr g2 (by decide), e]
            rfl
        exact inn 0 (by decide) ρ g e
    exact key 0 (Nat.zero_le _) τ k eh
  refine s_X10_digest_0 _ _ _ ?_
  have key : ∀ i, i ≤ A 0 1 → ∀ ρ, FM σ ρ → hh ρ = dp A 1289 i → r_X10_digest_9 E (nI i) ρ Q := by
    refine up_to (P := fun i => ∀ ρ, FM σ ρ → hh ρ = dp A 1289 i → r_X10_digest_9 E (nI i) ρ Q) (A 0 1) ?_ ?_
    · intro ρ g e
      exact s_X10_digest_9 _ _ _ _ (fe (hM.fm g).1.1.2.1 (Nat.le_refl _) (by omega) (wrs _ hQ ρ g e))
    · intro i hi IH ρ g e
      refine s_X10_digest_9 _ _ _ _ (fs (hM.fm g).1.1.2.1 hi (by omega) ?_)
      have inn : ∀ w, w ≤ 6 → ∀ ρ, FM σ ρ → hh ρ = dk (pv A i) (dp A 1289 i) w → r_X10_digest_19 E (nI i) (nI w) ρ Q := by
        refine up_to (P := fun w => ∀ ρ, FM σ ρ → hh ρ = dk (pv A i) (dp A 1289 i) w → r_X10_digest_19 E (nI i) (nI w) ρ Q) 6 ?_ ?_
        · intro ρ g e
          refine s_X10_digest_19 _ _ _ _ _ ⟨fun _ => ?_, fun z => absurd (show (6 : Int32) ≤ nI 6 by decide) z⟩
          refine p_oddsOf (t := 4) (w := 0) ok (hM.fm g).1 (by decide) hi (by decide) (fun ρ2 g2 => p_say (fun ρ3 g3 e3 => ?_))
          have f3 : FM σ ρ3 := (g.tr (FM.fr g2 (by decide))).tr g3
          refine p_oddsOf (t := 4) (w := 1) ok (hM.fm f3).1 (by decide) hi (by decide) (fun ρ4 g4 => p_say (fun ρ5 g5 e5 => ?_))
          rw [show nI i + 1 = nI (i + 1) from nI_add i 1]
          refine IH ρ5 ((f3.tr (FM.fr g4 (by decide))).tr g5) ?_
          rw [e5, hh_fr g4 (by decide), e3, hh_fr g2 (by decide), e]
          rfl
        · intro w hw IW ρ g e
          refine s_X10_digest_19 _ _ _ _ _ (tle (a := 6) (by decide) (by omega) (fun z => by omega) (fun _ => m_tellPerson ok (hM.fm g).1 hi (by omega) (fun ρ2 g2 => p_say (fun ρ3 g3 e3 => ?_))))
          rw [show nI w + 1 = nI (w + 1) from nI_add w 1]
          refine IW ρ3 ((g.tr (FM.fr g2 (by decide))).tr g3) ?_
          rw [e3, hh_fr g2 (by decide), e]
          rfl
      exact inn 0 (by decide) ρ g e
  refine key 0 (Nat.zero_le _) _ ((FM.up (by decide)).tr (FM.up (by decide))) ?_
  unfold hh
  exact jn_eq _
theorem op_digest {n : Nat} {K : Int64 → Int64 → Mm → Prop} (hI : Iv σ n) (hn : n < 100000) (hK : ∀ r τ, Iv τ (n + 1) → K r r τ) : r_X9_digest_0 E σ (fun r τ => r_X10_digest_0 E τ (fun r' τ' => K r r' τ')) := by
  obtain ⟨A, pg, L, c, v, Ak, im, hS, hC, hM⟩ := hI
  refine c_digest hS.1 (fun z => (hS.2.2.1 z).1) hS.2.2.2.1.1 hC (fun τ k => m_digest hS.1 (fun z => (hS.2.2.1 z).1) hS.2.2.2.1.1 (hM.kc k) (fun τ' f => hK _ τ' ⟨A, pg, L, c, v, Ak, im, hS.up hn, (hC.kc k).fm f, (hM.kc k).fm f⟩))
end DG
