/-! the first fault, on both sides; the reference's chapel -/
section FA
variable {E : EE} {σ : Mm} {pg : Nat → Nat}
/-- a page, as the class and as the reference hold it -/
def PgC (σ : Mm) (pg : Nat → Nat) (L : Nat) : Prop := σ 1 1 = nI L ∧ ∀ i, i < L → σ 2 i = nI (pg i)
def PgM (σ : Mm) (pg : Nat → Nat) (L : Nat) : Prop := σ 63 1 = nI L ∧ ∀ i, i < L → σ 64 i = nI (pg i)
def Pok (pg : Nat → Nat) (L : Nat) : Prop := L ≤ 54 ∧ ∀ i, i < L → 1 ≤ pg i ∧ pg i ≤ 126
theorem prev_ok {i : Nat} (h : ∀ j, j < i → gA pg j) : ∀ j, j < i → gd pg (if j ≤ es pg i ∨ es pg i = 0 then 0 else es pg i) j := by
  intro j hj
  have hg := h j hj
  unfold gA at hg
  by_cases he : es pg i = 0
  · rw [if_pos (Or.inr he)]
    have : es pg j = 0 := by
      apply Classical.byContradiction
      intro hne
      have := es_keep hne i (by omega)
      omega
    rw [this] at hg
    exact hg
  · obtain ⟨b1, b2⟩ := es_back i he
    by_cases q : j ≤ es pg i
    · rw [if_pos (Or.inl q)]; rw [b1 j q] at hg; exact hg
    · rw [if_neg (by omega)]; rw [b2 j (by omega) (by omega)] at hg; exact hg
theorem p_firstFault {L : Nat} {Q : Int32 → Mm → Prop} (hk : Pok pg L) (hp : PgC σ pg L) (hQ : ∀ n τ, Ft pg L n → Fr [3, 4, 5, 6, 7, 8, 9, 10] σ τ → (n = L → Dr τ pg (es pg L) L) → Q (nI n) τ) : r_X7_firstFault_0 E σ Q := by
  obtain ⟨k1, k2⟩ := hk
  have key : ∀ i, i ≤ L → (∀ j, j < i → gA pg j) → ∀ τ, Fr [3, 4, 5, 6, 7, 8, 9, 10] σ τ → Dr τ pg (es pg i) i → r_X7_firstFault_14 E (nI i) τ Q := by
    refine up_to (P := fun i => (∀ j, j < i → gA pg j) → ∀ τ, Fr [3, 4, 5, 6, 7, 8, 9, 10] σ τ → Dr τ pg (es pg i) i → r_X7_firstFault_14 E (nI i) τ Q) L ?_ ?_
    · intro hg τ hf hD
      have e1 : τ 1 1 = nI L := by rw [hf 1 (by decide)]; exact hp.1
      refine s_X7_firstFault_14 _ _ _ _ (fe e1 (Nat.le_refl _) (by omega) ?_)
      rw [e1]
      exact hQ L τ ⟨Nat.le_refl _, hg, Or.inl rfl⟩ hf (fun _ => hD)
    · intro i hi ih hg τ hf hD
      have e1 : τ 1 1 = nI L := by rw [hf 1 (by decide)]; exact hp.1
      refine s_X7_firstFault_14 _ _ _ _ (fs e1 hi (by omega) ⟨vp_in_nI (by omega) (by omega), ?_⟩)
      rw [nI_clamp (by omega), hf 2 (by decide), hp.2 i hi]
      refine p_takes (k2 i hi).1 (k2 i hi).2 (prev_ok hg) (es_F i hg) hD (fun g ρ r1 r2 => ⟨fun _ => ?_, fun q => absurd q (by decide)⟩) (fun g ρ r1 => ⟨fun q => absurd rfl q, fun _ => ?_⟩)
      · rw [nI_1]
        exact ih (fun j hj => by
          by_cases e : j = i
          · rw [e]; exact g
          · exact hg j (by omega)) ρ (hf.tr r1) r2
      · exact hQ i ρ ⟨by omega, hg, Or.inr g⟩ (hf.tr r1) (fun z => by omega)
  refine s_X7_firstFault_0 _ _ _ (s_X2_clear_0 _ _ _ (key 0 (Nat.zero_le _) (fun j hj => by omega) _ ?_ ?_))
  · exact ((((((Fr.up (by decide)).tr (Fr.up (by decide))).tr (Fr.up (by decide))).tr (Fr.up (by decide))).tr (Fr.up (by decide))).tr (Fr.up (by decide))).tr (Fr.up (by decide))
  · refine ⟨rfl, rfl, rfl, fun z => by omega, ⟨rfl, rfl, rfl⟩, fun p hp => by omega, fun p hp => by omega, fun w z => absurd rfl z, fun w z => absurd rfl z, fun w z => absurd rfl z⟩
theorem p_inN {c : Nat} {y z : Int64} {lo hi : Int} {Q : Int32 → Mm → Prop} (hc : c < 2 ^ 31) (hy : y.toInt = lo) (hz : z.toInt = hi) (h1 : lo ≤ c → (c : Int) ≤ hi → Q 1 σ) (h0 : ¬ (lo ≤ c ∧ (c : Int) ≤ hi) → Q 0 σ) : r_X10_in_0 E (nI c).toInt64 y z σ Q := by
  have e : (nI c).toInt64.toInt = (c : Int) := by rw [Int32.toInt_toInt64, toInt_nI hc]
  refine p_in (fun a b => h1 ?_ ?_) (fun a => h0 ?_)
  · rw [hy, e] at a; exact a
  · rw [hz, e] at b; exact b
  · rw [hy, hz, e] at a; exact a
theorem p_isGood {L e i : Nat} {Q : Int32 → Mm → Prop} (hL : L ≤ 54) (hi : i < L) (hp : PgM σ pg L) (hk : Pok pg L) (hF : eF e i) (he : σ 63 2 = nI e)
    (hok : gd pg e i → ∀ τ, FM σ τ → τ 63 2 = nI (if e = 0 ∧ 2 ≤ i ∧ (i - 2) % 3 = 2 ∧ pg i = 59 then i else e) → Q 1 τ) (hno : ¬ gd pg e i → Q 0 σ) : r_X10_isGood_0 E (nI i) σ Q := by
  have hpi := hp.2 i hi
  have hki := hk.2 i hi
  have v54 : vp_in (nI i) 54 := vp_in_nI (by omega) (by omega)
  refine s_X10_isGood_0 _ _ _ _ (tle (a := 2) (by omega) (by omega) (fun c2 => ?_) (fun c2 => ?_))
  · rw [he]
    refine tne (b := 0) (by unfold eF at hF; omega) (by omega) (fun ce => ?_) (fun ce => ?_)
    · -- the wrongs
      have hF2 : 7 ≤ e ∧ e ≤ 19 ∧ e % 3 = 1 ∧ e < i ∧ i ≤ e + 32 := by unfold eF at hF; omega
      obtain ⟨f1, f2, f3, f4, f5⟩ := hF2
      have hne : ¬ (e = 0 ∧ 2 ≤ i ∧ (i - 2) % 3 = 2 ∧ pg i = 59) := fun z => ce z.1
      rw [if_neg hne] at hok
      have g0 : gd pg e i ↔ (if (i - e - 1) % 4 = 0 then 48 ≤ pg i ∧ pg i < 48 + (e - 1) / 3 else if (i - e - 1) % 4 = 1 then (48 ≤ pg i ∧ pg i < 48 + (e - 1) / 3) ∧ pg i ≠ pg (i - 1) else if (i - e - 1) % 4 = 2 then 49 ≤ pg i ∧ pg i ≤ 57 else pg i = 44 ∧ i - e - 1 < 31) := by unfold gd; rw [if_neg (by omega), if_neg (by omega), if_neg ce]
      have digit : ∀ {Q' : Int32 → Mm → Prop}, (48 ≤ pg i ∧ pg i < 48 + (e - 1) / 3 → Q' 1 σ) → (¬ (48 ≤ pg i ∧ pg i < 48 + (e - 1) / 3) → Q' 0 σ) → r_X10_isPersonDigit_0 E (nI (pg i)) σ Q' := by
        intro Q' a1 a0
        refine s_X10_isPersonDigit_0 _ _ _ _ ?_
        rw [he, show (1 : Int32) = nI 1 from rfl, pk_sub (by omega), show (3 : Int32) = nI 3 from rfl, pk_div (by omega) (by omega) (by omega), show (48 : Int32) = nI 48 from rfl, nI_add, pk_sub (by omega)]
        refine p_inN (lo := 48) (hi := ((48 + (e - 1) / 3 - 1 : Nat) : Int)) (by omega) (by decide) (by rw [Int32.toInt_toInt64, toInt_nI (by omega)]) (fun a b => ⟨Or.inr rfl, a1 (by omega)⟩) (fun a => ⟨Or.inl rfl, a0 (by omega)⟩)
      refine s_X10_isWrongLetter_0 _ _ _ _ ⟨v54, ?_⟩
      rw [he, pk_sub (by omega), show (1 : Int32) = nI 1 from rfl, pk_sub (by omega), show (4 : Int32) = nI 4 from rfl, pk_rem (by omega) (by omega) (by omega), nI_clamp (by omega), hpi, pk_sub (by omega)]
      have eq4 : ∀ n : Nat, n < 10 → (nI ((i - e - 1) % 4) = nI n ↔ (i - e - 1) % 4 = n) := fun n hn => nI_eq (by omega) (by omega)
      refine ⟨fun q => ?_, fun q => ?_, fun q => ?_, fun q1 q2 q3 => ?_⟩
      · have c := (eq4 0 (by decide)).mp q
        rw [if_pos c] at g0
        exact digit (fun a => ⟨Or.inr rfl, Or.inr rfl, hok (g0.mpr a) σ FM.rf he⟩) (fun a => ⟨Or.inl rfl, Or.inl rfl, hno (fun z => a (g0.mp z))⟩)
      · have c := (eq4 1 (by decide)).mp q
        rw [if_neg (by omega), if_pos c] at g0
        refine digit (fun a => ⟨fun z => absurd z (by decide), fun _ => ⟨vp_in_nI (by omega) (by omega), ?_⟩⟩) (fun a => ⟨fun _ => ⟨Or.inl rfl, hno (fun z => a (g0.mp z).1)⟩, fun z => absurd rfl z⟩)
        rw [nI_clamp (by omega), hp.2 (i - 1) (by omega)]
        have hk1 := hk.2 (i - 1) (by omega)
        exact teq (by omega) (by omega) (fun z => ⟨Or.inl rfl, hno (fun y => (g0.mp y).2 z)⟩) (fun z => ⟨Or.inr rfl, hok (g0.mpr ⟨a, z⟩) σ FM.rf he⟩)
      · have c := (eq4 2 (by decide)).mp q
        rw [if_neg (by omega), if_neg (by omega), if_pos c] at g0
        exact p_inN (lo := 49) (hi := 57) (by omega) (by decide) (by decide) (fun a b => ⟨Or.inr rfl, Or.inr rfl, hok (g0.mpr (by omega)) σ FM.rf he⟩) (fun a => ⟨Or.inl rfl, Or.inl rfl, hno (fun z => a (by have := g0.mp z; omega))⟩)
      · have n0 : (i - e - 1) % 4 ≠ 0 := fun z => q1 (by rw [z]; rfl)
        have n1 : (i - e - 1) % 4 ≠ 1 := fun z => q2 (by rw [z])
        have n2 : (i - e - 1) % 4 ≠ 2 := fun z => q3 (by rw [z]; rfl)
        rw [if_neg n0, if_neg n1, if_neg n2] at g0
        exact tne (b := 44) (by omega) (by omega) (fun a => ⟨Or.inl rfl, hno (fun z => a (g0.mp z).1)⟩) (fun a => tle (a := 31) (by omega) (by omega) (fun b => ⟨Or.inl rfl, hno (fun z => by have := g0.mp z; omega)⟩) (fun b => ⟨Or.inr rfl, hok (g0.mpr ⟨a, b⟩) σ FM.rf he⟩))
    · -- the people
      subst ce
      have hi19 : i ≤ 19 := by unfold eF at hF; omega
      have g0 : gd pg 0 i ↔ (if (i - 2) % 3 = 0 then kb (pg i) ≤ 4 else if (i - 2) % 3 = 1 then 48 ≤ pg i ∧ pg i ≤ 57 else (pg i = 59 ∧ 2 < i - 2) ∨ (pg i = 44 ∧ i - 2 < 17)) := by unfold gd; rw [if_neg (by omega), if_neg (by omega), if_pos rfl]
      refine s_X10_isPersonLetter_0 _ _ _ _ ⟨v54, ?_⟩
      rw [show (2 : Int32) = nI 2 from rfl, pk_sub c2, show (3 : Int32) = nI 3 from rfl, pk_rem (by omega) (by omega) (by omega), nI_clamp (by omega), hpi]
      have eq3 : ∀ n : Nat, n < 10 → (nI ((i - 2) % 3) = nI n ↔ (i - 2) % 3 = n) := fun n hn => nI_eq (by omega) (by omega)
      refine ⟨fun q => ?_, fun q => ?_, fun q1 q2 => ?_⟩
      · have c := (eq3 0 (by decide)).mp q
        rw [if_pos c] at g0
        rw [if_neg (by omega)] at hok
        refine p_kindBy (by omega) ?_
        rcases kb_cases (pg i) with k | k
        · rw [show kI (pg i) = nI (kb (pg i)) by unfold kI; rw [if_neg (by omega)]]
          exact ⟨fun z => absurd z (nI_m1 (by omega)), fun _ => ⟨Or.inr rfl, hok (g0.mpr k) σ FM.rf he⟩⟩
        · rw [show kI (pg i) = -1 by unfold kI; rw [if_pos k]]
          exact ⟨fun _ => ⟨Or.inl rfl, hno (fun z => by have := g0.mp z; omega)⟩, fun z => absurd rfl z⟩
      · have c := (eq3 1 (by decide)).mp q
        rw [if_neg (by omega), if_pos c] at g0
        rw [if_neg (by omega)] at hok
        exact p_inN (lo := 48) (hi := 57) (by omega) (by decide) (by decide) (fun a b => ⟨Or.inr rfl, Or.inr rfl, hok (g0.mpr (by omega)) σ FM.rf he⟩) (fun a => ⟨Or.inl rfl, Or.inl rfl, hno (fun z => a (by have := g0.mp z; omega))⟩)
      · have n0 : (i - 2) % 3 ≠ 0 := fun z => q1 (by rw [z]; rfl)
        have n1 : (i - 2) % 3 ≠ 1 := fun z => q2 (by rw [z]; rfl)
        rw [if_neg n0, if_neg n1] at g0
        have comma : pg i ≠ 59 ∨ i - 2 ≤ 2 → (¬ nI (pg i) = 44 → ((0 : Int32) = 0 ∨ (0 : Int32) = 1) ∧ Q 0 σ) ∧ (nI (pg i) = 44 → (17 ≤ nI (i - 2) → ((0 : Int32) = 0 ∨ (0 : Int32) = 1) ∧ Q 0 σ) ∧ (¬ 17 ≤ nI (i - 2) → ((1 : Int32) = 0 ∨ (1 : Int32) = 1) ∧ Q 1 σ)) := by
          intro hh
          refine tne (b := 44) (by omega) (by omega) (fun a => ⟨Or.inl rfl, hno (fun z => by have := g0.mp z; omega)⟩) (fun a => tle (a := 17) (by omega) (by omega) (fun b => ⟨Or.inl rfl, hno (fun z => by have := g0.mp z; omega)⟩) (fun b => ⟨Or.inr rfl, ?_⟩))
          rw [if_neg (by omega)] at hok
          exact hok (g0.mpr (by omega)) σ FM.rf he
        refine tne (b := 59) (by omega) (by omega) (fun a => comma (Or.inl a)) (fun a => tle (b := 2) (by omega) (by omega) (fun b => comma (Or.inr b)) (fun b => ⟨Or.inr rfl, ?_⟩))
        rw [if_pos ⟨rfl, c2, by omega, a⟩] at hok
        exact hok (g0.mpr (by omega)) _ (FM.up (by omega)) (by rw [up_eq, upd_eq])
  · -- the first two letters
    rw [if_neg (by omega)] at hok
    refine tne (b := 0) (by omega) (by omega) (fun c => ?_) (fun c => ?_)
    · have i1 : i = 1 := by omega
      subst i1
      have g0 : gd pg e 1 ↔ pg 1 = 59 := by unfold gd; rw [if_neg (by decide), if_pos rfl]
      rw [hpi]
      exact tne (b := 59) (by omega) (by omega) (fun a => hno (fun z => a (g0.mp z))) (fun a => hok (g0.mpr a) σ FM.rf he)
    · subst c
      have g0 : gd pg e 0 ↔ 49 ≤ pg 0 ∧ pg 0 ≤ 54 := by unfold gd; rw [if_pos rfl]
      rw [hpi]
      exact p_inN (lo := 49) (hi := 54) (by omega) (by decide) (by decide) (fun a b => ⟨Or.inr rfl, hok (g0.mpr (by omega)) σ FM.rf he⟩) (fun a => ⟨Or.inl rfl, hno (fun z => a (by have := g0.mp z; omega))⟩)
theorem PgM.fm {σ τ : Mm} {L : Nat} (h : PgM σ pg L) (hf : FM σ τ) : PgM τ pg L :=
  ⟨by rw [hf.2 1 (by decide) (by decide) (by decide) (by decide) (by decide) (by decide)]; exact h.1, fun i hi => by rw [hf.1 64 (by decide) (by decide) (by decide)]; exact h.2 i hi⟩
theorem p_faultOf {L : Nat} {Q : Int32 → Mm → Prop} (hk : Pok pg L) (hp : PgM σ pg L) (hQ : ∀ n τ, Ft pg L n → FM σ τ → (n = L → τ 63 2 = nI (es pg L)) → Q (nI n) τ) : r_X10_faultOf_0 E σ Q := by
  have k1 := hk.1
  have key : ∀ i, i ≤ L → (∀ j, j < i → gA pg j) → ∀ τ, FM σ τ → τ 63 2 = nI (es pg i) → r_X10_faultOf_7 E (nI i) τ Q := by
    refine up_to (P := fun i => (∀ j, j < i → gA pg j) → ∀ τ, FM σ τ → τ 63 2 = nI (es pg i) → r_X10_faultOf_7 E (nI i) τ Q) L ?_ ?_
    · intro hg τ hf h2
      exact s_X10_faultOf_7 _ _ _ _ (fe (hp.fm hf).1 (Nat.le_refl _) (by omega) (hQ L τ ⟨Nat.le_refl _, hg, Or.inl rfl⟩ hf (fun _ => h2)))
    · intro i hi ih hg τ hf h2
      refine s_X10_faultOf_7 _ _ _ _ (fs (hp.fm hf).1 hi (by omega) (p_isGood k1 hi (hp.fm hf) hk (es_F i hg) h2 (fun g ρ r1 r2 => ⟨fun q => absurd q (by decide), fun _ => ?_⟩) (fun g => ⟨fun _ => ?_, fun q => absurd rfl q⟩)))
      · rw [nI_1]
        exact ih (fun j hj => by
          by_cases e : j = i
          · rw [e]; exact g
          · exact hg j (by omega)) ρ (hf.tr r1) r2
      · exact hQ i τ ⟨by omega, hg, Or.inr g⟩ hf (fun z => by omega)
  exact s_X10_faultOf_0 _ _ _ (key 0 (Nat.zero_le _) (fun j hj => by omega) _ (FM.up (by omega)) (by rw [up_eq, upd_eq]; rfl))
/-- is the page a chapel? -/
def Wh (pg : Nat → Nat) (L : Nat) : Prop := (∀ i, i < L → gA pg i) ∧ es pg L ≠ 0 ∧ (L - es pg L) % 4 = 0
theorem p_mchapel {L : Nat} {Q : Int32 → Mm → Prop} (hk : Pok pg L) (hp : PgM σ pg L) (h0 : ¬ Wh pg L → ∀ τ, FM σ τ → Q (-103) τ)
    (h1 : Wh pg L → ∀ τ, (∀ k, k ∉ [63, 65, 66, 67, 68, 69, 70, 71, 72] → τ k = σ k) → (∀ j, j ∉ [1, 2, 3, 4, 5, 6, 7, 8, 18, 19, 20, 22, 33, 1033] → τ 63 j = σ 63 j) → HM τ (Ap pg L) → τ 63 8 = σ 63 8 + 1 → τ 63 1 = 0 → Q (nI (Ap pg L 0 1)) τ) : r_X10_chapel_0 E σ Q := by
  have k1 := hk.1
  refine s_X10_chapel_0 _ _ _ (p_faultOf hk hp (fun n τ1 f1 f2 f3 => ?_))
  have hp1 := hp.fm f2
  rw [hp1.1]
  have hn := f1.1
  refine tlt (by omega) (by omega) (fun c => h0 (fun z => ?_) τ1 f2) (fun c => ?_)
  · have := f1.uniq (m := L) ⟨Nat.le_refl _, z.1, Or.inl rfl⟩
    omega
  · have hnL : n = L := by omega
    have hg : ∀ i, i < L → gA pg i := by rw [← hnL]; exact f1.2.1
    have hF := es_F L hg
    have e2 := f3 hnL
    rw [e2]
    refine teq (b := 0) (by unfold eF at hF; omega) (by omega) (fun c2 => h0 (fun z => z.2.1 c2) τ1 f2) (fun c2 => ?_)
    have hF2 : 7 ≤ es pg L ∧ es pg L ≤ 19 ∧ es pg L % 3 = 1 ∧ es pg L < L ∧ L ≤ es pg L + 32 := by unfold eF at hF; omega
    obtain ⟨q1, q2, q3, q4, q5⟩ := hF2
    rw [pk_sub (by omega), show (4 : Int32) = nI 4 from rfl, pk_rem (by omega) (by omega) (by omega)]
    refine teq (b := 0) (by omega) (by omega) (fun c3 => ?_) (fun c3 => h0 (fun z => c3 z.2.2) τ1 f2)
    have hW : Wh pg L := ⟨hg, c2, c3⟩
    obtain ⟨okA, a1, a2, a0⟩ := Ap_OK hg c2 c3
    rw [pk_div (by omega) (by omega) (by omega), show (1 : Int32) = nI 1 from rfl, pk_sub (by omega), show (3 : Int32) = nI 3 from rfl, pk_div (by omega) (by omega) (by omega), hp1.2 0 (by omega), show (48 : Int32) = nI 48 from rfl]
    have g0 := hg 0 (by omega)
    unfold gA gd at g0
    rw [if_pos rfl] at g0
    rw [pk_sub (by omega)]
    obtain ⟨b1, b2⟩ := es_back L c2
    generalize hee : es pg L = e at *
    have eA1 : Ap pg L 0 1 = (e - 1) / 3 := by rw [← hee]; rfl
    have eA2 : Ap pg L 0 2 = (L - e) / 4 := by rw [← hee]; rfl
    have h63 : ∀ j, j ∉ [1, 2, 3, 4, 5, 6, 7, 8, 18, 19, 20, 22, 33, 1033] → τ1 63 j = σ 63 j := fun j hj => by
      simp only [List.mem_cons, List.not_mem_nil, or_false, not_or] at hj
      exact f2.2 j (by omega) (by omega) (by omega) (by omega) (by omega) (by omega)
    -- the wrongs
    have l2 : ∀ w, w ≤ (L - e) / 4 → ∀ τ, (∀ k, k ∉ [63, 65, 66, 67, 68, 69, 70, 71, 72] → τ k = σ k) → (∀ j, j ∉ [1, 2, 3, 4, 5, 6, 7, 8, 18, 19, 20, 22, 33, 1033] → τ 63 j = σ 63 j) → (τ 63 2 = nI e ∧ τ 63 3 = nI ((e - 1) / 3) ∧ τ 63 4 = nI ((L - e) / 4) ∧ τ 63 5 = nI (pg 0 - 48) ∧ τ 63 8 = σ 63 8) → (∀ i, i < L → τ 64 i = nI (pg i)) → (∀ p, p < (e - 1) / 3 → τ 65 p = nI (kb (pg (2 + 3 * p))) ∧ τ 66 p = nI (pg (3 + 3 * p) - 48) ∧ τ 67 p = 0) → (∀ v, v < w → τ 68 v = nI (pg (e + 1 + 4 * v) - 48) ∧ τ 69 v = nI (pg (e + 2 + 4 * v) - 48) ∧ τ 70 v = nI (pg (e + 3 + 4 * v) - 48)) → r_X10_chapel_138 E (nI w) τ Q := by
      refine up_to (P := fun w => ∀ τ, (∀ k, k ∉ [63, 65, 66, 67, 68, 69, 70, 71, 72] → τ k = σ k) → (∀ j, j ∉ [1, 2, 3, 4, 5, 6, 7, 8, 18, 19, 20, 22, 33, 1033] → τ 63 j = σ 63 j) → (τ 63 2 = nI e ∧ τ 63 3 = nI ((e - 1) / 3) ∧ τ 63 4 = nI ((L - e) / 4) ∧ τ 63 5 = nI (pg 0 - 48) ∧ τ 63 8 = σ 63 8) → (∀ i, i < L → τ 64 i = nI (pg i)) → (∀ p, p < (e - 1) / 3 → τ 65 p = nI (kb (pg (2 + 3 * p))) ∧ τ 66 p = nI (pg (3 + 3 * p) - 48) ∧ τ 67 p = 0) → (∀ v, v < w → τ 68 v = nI (pg (e + 1 + 4 * v) - 48) ∧ τ 69 v = nI (pg (e + 2 + 4 * v) - 48) ∧ τ 70 v = nI (pg (e + 3 + 4 * v) - 48)) → r_X10_chapel_138 E (nI w) τ Q) ((L - e) / 4) ?_ ?_
      · intro τ t1 t2 ⟨t3, t4, t5, t6, t7⟩ t8 t9 t10
        refine s_X10_chapel_138 _ _ _ _ (fe t5 (Nat.le_refl _) (by omega) ?_)
        rw [t4, ← eA1, t7]
        refine h1 hW _ (fun k hk => ?_) (fun j hj => ?_) ⟨⟨?_, ?_, ?_, ?_, ?_, ?_⟩, fun p hp => ?_, fun v hv => ?_, fun s hs => ?_⟩ ?_ ?_
        · have hk63 : k ≠ 63 := fun z => hk (by rw [z]; decide)
          rw [up_ne hk63, up_ne hk63, up_ne hk63, up_ne hk63, up_ne hk63]
          exact t1 k hk
        · have hj2 := hj
          simp only [List.mem_cons, List.not_mem_nil, or_false, not_or] at hj
          simp only [up_eq]
          rw [upd_ne (by omega), upd_ne (by omega), upd_ne (by omega), upd_ne (by omega), upd_ne (by omega)]
          exact t2 j hj2
        · exact t6
        · show τ 63 3 = nI (Ap pg L 0 1); rw [eA1]; exact t4
        · show τ 63 4 = nI (Ap pg L 0 2); rw [eA2]; exact t5
        · rfl
        · rfl
        · rfl
        · exact t9 p (by rw [← eA1]; exact hp)
        · rw [eA2] at hv
          show τ 68 v = nI (Ap pg L 4 v) ∧ τ 69 v = nI (Ap pg L 5 v) ∧ τ 70 v = nI (Ap pg L 6 v)
          have r4 : Ap pg L 4 v = pg (e + 1 + 4 * v) - 48 := by rw [← hee]; rfl
          have r5 : Ap pg L 5 v = pg (e + 2 + 4 * v) - 48 := by rw [← hee]; rfl
          have r6 : Ap pg L 6 v = pg (e + 3 + 4 * v) - 48 := by rw [← hee]; rfl
          rw [r4, r5, r6]
          exact t10 v hv
        · have : Ap pg L 0 5 = 0 := rfl
          omega
        · rfl
        · rfl
      · intro w hw ih τ t1 t2 ⟨t3, t4, t5, t6, t7⟩ t8 t9 t10
        have v8 : vp_in (nI w) 8 := vp_in_nI (by omega) (by omega)
        have k1' := hg (e + 1 + 4 * w) (by omega)
        have k2' := hg (e + 2 + 4 * w) (by omega)
        have k3' := hg (e + 3 + 4 * w) (by omega)
        unfold gA at k1' k2' k3'
        rw [b2 _ (by omega) (by omega)] at k1' k2' k3'
        unfold gd at k1' k2' k3'
        rw [if_neg (by omega), if_neg (by omega), if_neg (by omega), if_pos (by omega)] at k1'
        rw [if_neg (by omega), if_neg (by omega), if_neg (by omega), if_neg (by omega), if_pos (by omega)] at k2'
        rw [if_neg (by omega), if_neg (by omega), if_neg (by omega), if_neg (by omega), if_neg (by omega), if_pos (by omega)] at k3'
        refine s_X10_chapel_138 _ _ _ _ (fs t5 hw (by omega) ?_)
        rw [t3, nI_1, show (4 : Int32) = nI 4 from rfl, pk_mul, nI_add, nI_1, show (2 : Int32) = nI 2 from rfl, nI_add]
        rw [show e + 1 + 4 * w + 1 = e + 2 + 4 * w by omega, show e + 1 + 4 * w + 2 = e + 3 + 4 * w by omega]
        refine ⟨vp_in_nI (by omega) (by omega), v8, vp_in_nI (by omega) (by omega), v8, vp_in_nI (by omega) (by omega), v8, ?_⟩
        rw [nI_clamp (by omega), nI_clamp (by omega), nI_clamp (by omega), nI_clamp (by omega), t8 _ (by omega), t8 _ (by omega), t8 _ (by omega), show (48 : Int32) = nI 48 from rfl, pk_sub (by omega), pk_sub (by omega), pk_sub (by omega), nI_1]
        refine ih _ (fun k hk => ?_) t2 ⟨t3, t4, t5, t6, t7⟩ t8 t9 (fun v hv => ?_)
        · rw [up_ne (fun z => hk (by rw [z]; decide)), up_ne (fun z => hk (by rw [z]; decide)), up_ne (fun z => hk (by rw [z]; decide))]
          exact t1 k hk
        · show (if v = w then nI (pg (e + 1 + 4 * w) - 48) else τ 68 v) = _ ∧ (if v = w then nI (pg (e + 2 + 4 * w) - 48) else τ 69 v) = _ ∧ (if v = w then nI (pg (e + 3 + 4 * w) - 48) else τ 70 v) = _
          by_cases q : v = w
          · rw [if_pos q, if_pos q, if_pos q, q]; exact ⟨rfl, rfl, rfl⟩
          · rw [if_neg q, if_neg q, if_neg q]; exact t10 v (by omega)
    have l1 : ∀ p, p ≤ (e - 1) / 3 → ∀ τ, (∀ k, k ∉ [63, 65, 66, 67, 68, 69, 70, 71, 72] → τ k = σ k) → (∀ j, j ∉ [1, 2, 3, 4, 5, 6, 7, 8, 18, 19, 20, 22, 33, 1033] → τ 63 j = σ 63 j) → (τ 63 2 = nI e ∧ τ 63 3 = nI ((e - 1) / 3) ∧ τ 63 4 = nI ((L - e) / 4) ∧ τ 63 5 = nI (pg 0 - 48) ∧ τ 63 8 = σ 63 8) → (∀ i, i < L → τ 64 i = nI (pg i)) → (∀ q, q < p → τ 65 q = nI (kb (pg (2 + 3 * q))) ∧ τ 66 q = nI (pg (3 + 3 * q) - 48) ∧ τ 67 q = 0) → r_X10_chapel_77 E (nI p) τ Q := by
      refine up_to (P := fun p => ∀ τ, (∀ k, k ∉ [63, 65, 66, 67, 68, 69, 70, 71, 72] → τ k = σ k) → (∀ j, j ∉ [1, 2, 3, 4, 5, 6, 7, 8, 18, 19, 20, 22, 33, 1033] → τ 63 j = σ 63 j) → (τ 63 2 = nI e ∧ τ 63 3 = nI ((e - 1) / 3) ∧ τ 63 4 = nI ((L - e) / 4) ∧ τ 63 5 = nI (pg 0 - 48) ∧ τ 63 8 = σ 63 8) → (∀ i, i < L → τ 64 i = nI (pg i)) → (∀ q, q < p → τ 65 q = nI (kb (pg (2 + 3 * q))) ∧ τ 66 q = nI (pg (3 + 3 * q) - 48) ∧ τ 67 q = 0) → r_X10_chapel_77 E (nI p) τ Q) ((e - 1) / 3) ?_ ?_
      · intro τ t1 t2 ⟨t3, t4, t5, t6, t7⟩ t8 t9
        exact s_X10_chapel_77 _ _ _ _ (fe t4 (Nat.le_refl _) (by omega) (l2 0 (Nat.zero_le _) τ t1 t2 ⟨t3, t4, t5, t6, t7⟩ t8 t9 (fun v hv => by omega)))
      · intro p hpp ih τ t1 t2 ⟨t3, t4, t5, t6, t7⟩ t8 t9
        have v6 : vp_in (nI p) 6 := vp_in_nI (by omega) (by omega)
        have k1' := hg (2 + 3 * p) (by omega)
        have k2' := hg (3 + 3 * p) (by omega)
        unfold gA at k1' k2'
        rw [b1 _ (by omega)] at k1' k2'
        unfold gd at k1' k2'
        rw [if_neg (by omega), if_neg (by omega), if_pos rfl, if_pos (by omega)] at k1'
        rw [if_neg (by omega), if_neg (by omega), if_pos rfl, if_neg (by omega), if_pos (by omega)] at k2'
        refine s_X10_chapel_77 _ _ _ _ (fs t4 hpp (by omega) ?_)
        rw [show (3 : Int32) = nI 3 from rfl, pk_mul, show (2 : Int32) = nI 2 from rfl, nI_add, nI_add]
        refine ⟨vp_in_nI (by omega) (by omega), ?_⟩
        rw [nI_clamp (by omega), nI_clamp (by omega), nI_clamp (by omega), t8 _ (by omega)]
        have hk2 := hk.2 (2 + 3 * p) (by omega)
        refine p_kindBy (by omega) ⟨v6, vp_in_nI (by omega) (by omega), v6, v6, ?_⟩
        rw [t8 _ (by omega), show kI (pg (2 + 3 * p)) = nI (kb (pg (2 + 3 * p))) by unfold kI; rw [if_neg (by omega)], show (48 : Int32) = nI 48 from rfl, pk_sub (by omega), nI_1]
        refine ih _ (fun k hk => ?_) t2 ⟨t3, t4, t5, t6, t7⟩ t8 (fun q hq => ?_)
        · rw [up_ne (fun z => hk (by rw [z]; decide)), up_ne (fun z => hk (by rw [z]; decide)), up_ne (fun z => hk (by rw [z]; decide))]
          exact t1 k hk
        · show (if q = p then nI (kb (pg (2 + 3 * p))) else τ 65 q) = _ ∧ (if q = p then nI (pg (3 + 3 * p) - 48) else τ 66 q) = _ ∧ (if q = p then 0 else τ 67 q) = _
          by_cases z : q = p
          · rw [if_pos z, if_pos z, if_pos z, z]; exact ⟨rfl, rfl, rfl⟩
          · rw [if_neg z, if_neg z, if_neg z]; exact t9 q (by omega)
    refine l1 0 (Nat.zero_le _) _ (fun k hk => ?_) (fun j hj => ?_) ⟨?_, rfl, rfl, rfl, ?_⟩ (fun i hi => hp1.2 i hi) (fun q hq => by omega)
    · have hk63 : k ≠ 63 := fun z => hk (by rw [z]; decide)
      rw [up_ne hk63, up_ne hk63, up_ne hk63]
      simp only [List.mem_cons, List.not_mem_nil, or_false, not_or] at hk
      exact f2.1 k (by omega) (by omega) (by omega)
    · have hj2 := hj
      simp only [List.mem_cons, List.not_mem_nil, or_false, not_or] at hj
      simp only [up_eq]
      rw [upd_ne (by omega), upd_ne (by omega), upd_ne (by omega)]
      exact h63 j hj2
    · exact e2
    · show τ1 63 8 = σ 63 8
      exact f2.2 8 (by decide) (by decide) (by decide) (by decide) (by decide) (by decide)
theorem Dr_HC {L : Nat} {τ : Mm} (hW : Wh pg L) (hD : Dr τ pg (es pg L) L) : HC 4 τ (Ap pg L) ∧ τ 3 1 = 8 := by
  obtain ⟨hg, c2, c3⟩ := hW
  have hF := es_F L hg
  obtain ⟨d1, d2, d3, d4, ⟨d50, d51, d52⟩, d6, d7, d8, d9, d10⟩ := hD
  generalize hee : es pg L = e at *
  have hF2 : 7 ≤ e ∧ e ≤ 19 ∧ e % 3 = 1 ∧ e < L ∧ L ≤ e + 32 := by unfold eF at hF; omega
  obtain ⟨q1, q2, q3, q4, q5⟩ := hF2
  have eA1 : Ap pg L 0 1 = (e - 1) / 3 := by rw [← hee]; rfl
  have eA2 : Ap pg L 0 2 = (L - e) / 4 := by rw [← hee]; rfl
  have n8 : nxt e L = 8 := by unfold nxt; rw [if_neg c2, if_neg (by omega), if_neg (by omega), if_neg (by omega)]
  refine ⟨⟨fun j hj => ?_, fun p hp => ?_, fun w hw => ?_, fun s hs => ?_⟩, by rw [d1, n8]; rfl⟩
  · rcases (show j = 0 ∨ j = 1 ∨ j = 2 ∨ j = 3 ∨ j = 4 ∨ j = 5 by omega) with z | z | z | z | z | z <;> subst z
    · exact d4 (by omega)
    · rw [eA1, d2]; unfold pcn; rw [if_neg c2]
    · rw [eA2, d3]; unfold wcn; rw [if_neg c2]
    · exact d50
    · exact d51
    · exact d52
  · rw [eA1] at hp
    exact ⟨d6 p (by omega) (Or.inr (by omega)), d7 p (by omega) (Or.inr (by omega))⟩
  · rw [eA2] at hw
    have r4 : Ap pg L 4 w = pg (e + 1 + 4 * w) - 48 := by rw [← hee]; rfl
    have r5 : Ap pg L 5 w = pg (e + 2 + 4 * w) - 48 := by rw [← hee]; rfl
    have r6 : Ap pg L 6 w = pg (e + 3 + 4 * w) - 48 := by rw [← hee]; rfl
    rw [r4, r5, r6]
    exact ⟨d8 w c2 (by omega), d9 w c2 (by omega), d10 w c2 (by omega)⟩
  · have : Ap pg L 0 5 = 0 := rfl
    omega
theorem Dr_no {L : Nat} {τ : Mm} (hg : ∀ i, i < L → gA pg i) (hW : ¬ Wh pg L) (hD : Dr τ pg (es pg L) L) : ¬ τ 3 1 = 8 := by
  have hF := es_F L hg
  rw [hD.1]
  intro z
  have hle : nxt (es pg L) L ≤ 8 := by unfold nxt; (repeat' split) <;> omega
  have h8 : nxt (es pg L) L = 8 := (nI_eq (b := 8) (by omega) (by omega)).mp z
  apply hW
  unfold nxt at h8
  by_cases c : es pg L = 0
  · rw [if_pos c] at h8
    (repeat' split at h8) <;> omega
  · rw [if_neg c] at h8
    refine ⟨hg, c, ?_⟩
    unfold eF at hF
    by_cases c1 : (L - es pg L - 1) % 4 = 0
    · rw [if_pos c1] at h8; omega
    · rw [if_neg c1] at h8
      by_cases c2 : (L - es pg L - 1) % 4 = 1
      · rw [if_pos c2] at h8; omega
      · rw [if_neg c2] at h8
        by_cases c3 : (L - es pg L - 1) % 4 = 2
        · rw [if_pos c3] at h8; omega
        · omega
end FA
