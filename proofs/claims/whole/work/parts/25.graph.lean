/-! rows of bits as a graph: L p tells to whom one goes from p -/
def mb (R i : Nat) : Prop := bt R i = 1
theorem mb_tb {R i : Nat} : mb R i ↔ R.testBit i = true := by
  unfold mb bt
  rw [Nat.testBit_eq_decide_div_mod_eq]
  simp
theorem mb_or {a b i : Nat} : mb (a ||| b) i ↔ mb a i ∨ mb b i := by
  simp only [mb_tb, Nat.testBit_or, Bool.or_eq_true]
theorem mb_and {a b i : Nat} : mb (a &&& b) i ↔ mb a i ∧ mb b i := by
  simp only [mb_tb, Nat.testBit_and, Bool.and_eq_true]
theorem mb_0 {i : Nat} : ¬ mb 0 i := by unfold mb bt; simp
theorem mb_pow {a i : Nat} : mb (2 ^ a) i ↔ a = i := by
  simp only [mb_tb, Nat.testBit_two_pow, decide_eq_true_eq]
theorem mb_lt {R i n : Nat} (h : R < 2 ^ n) (m : mb R i) : i < n := by
  rcases Nat.lt_or_ge i n with q | q
  · exact q
  · unfold mb at m; rw [bt_lt h q] at m; cases m
theorem bt0 {R i : Nat} : bt R i = 0 ↔ ¬ mb R i := by
  have := bt_le R i
  unfold mb
  omega
theorem eq0 {R : Nat} (h : ∀ i, ¬ mb R i) : R = 0 := by
  apply Nat.eq_of_testBit_eq
  intro i
  rw [Nat.zero_testBit]
  have := h i
  rw [mb_tb] at this
  simpa using this
theorem eq_mb {R S : Nat} (h : ∀ i, mb R i ↔ mb S i) : R = S := by
  apply Nat.eq_of_testBit_eq
  intro i
  have := h i
  rw [mb_tb, mb_tb] at this
  exact Bool.eq_iff_iff.mpr this
def ofW (L : Nat → Nat) (R : Nat) : Nat → Nat
  | 0 => R
  | n + 1 => if bt R n = 1 then ofW L R n ||| L n else ofW L R n
def sfW (L : Nat → Nat) (S : Nat) : Nat → Nat
  | 0 => 0
  | n + 1 => if bt S n = 1 then sfW L S n ||| L n else sfW L S n
theorem mb_of {L : Nat → Nat} {R b : Nat} : ∀ n, mb (ofW L R n) b ↔ mb R b ∨ ∃ c, c < n ∧ mb R c ∧ mb (L c) b
  | 0 => by
    show mb R b ↔ _
    constructor
    · exact Or.inl
    · rintro (h | ⟨c, hc, -⟩)
      · exact h
      · omega
  | n + 1 => by
    have ih := mb_of (L := L) (R := R) (b := b) n
    show mb (if bt R n = 1 then ofW L R n ||| L n else ofW L R n) b ↔ _
    by_cases e : bt R n = 1
    · rw [if_pos e, mb_or, ih]
      constructor
      · rintro ((h | ⟨c, hc, h⟩) | h)
        · exact Or.inl h
        · exact Or.inr ⟨c, by omega, h⟩
        · exact Or.inr ⟨n, by omega, e, h⟩
      · rintro (h | ⟨c, hc, h1, h2⟩)
        · exact Or.inl (Or.inl h)
        · by_cases hcn : c = n
          · subst hcn; exact Or.inr h2
          · exact Or.inl (Or.inr ⟨c, by omega, h1, h2⟩)
    · rw [if_neg e, ih]
      constructor
      · rintro (h | ⟨c, hc, h⟩)
        · exact Or.inl h
        · exact Or.inr ⟨c, by omega, h⟩
      · rintro (h | ⟨c, hc, h1, h2⟩)
        · exact Or.inl h
        · by_cases hcn : c = n
          · subst hcn; exact absurd h1 e
          · exact Or.inr ⟨c, by omega, h1, h2⟩
theorem mb_sf {L : Nat → Nat} {S b : Nat} : ∀ n, mb (sfW L S n) b ↔ ∃ c, c < n ∧ mb S c ∧ mb (L c) b
  | 0 => by
    show mb 0 b ↔ _
    exact ⟨fun h => absurd h mb_0, fun ⟨c, hc, _⟩ => by omega⟩
  | n + 1 => by
    have ih := mb_sf (L := L) (S := S) (b := b) n
    show mb (if bt S n = 1 then sfW L S n ||| L n else sfW L S n) b ↔ _
    by_cases e : bt S n = 1
    · rw [if_pos e, mb_or, ih]
      constructor
      · rintro (⟨c, hc, h⟩ | h)
        · exact ⟨c, by omega, h⟩
        · exact ⟨n, by omega, e, h⟩
      · rintro ⟨c, hc, h1, h2⟩
        by_cases hcn : c = n
        · subst hcn; exact Or.inr h2
        · exact Or.inl ⟨c, by omega, h1, h2⟩
    · rw [if_neg e, ih]
      constructor
      · rintro ⟨c, hc, h⟩; exact ⟨c, by omega, h⟩
      · rintro ⟨c, hc, h1, h2⟩
        by_cases hcn : c = n
        · subst hcn; exact absurd h1 e
        · exact ⟨c, by omega, h1, h2⟩
/-- a walk of n steps -/
def Wk (L : Nat → Nat) (P a : Nat) : Nat → Nat → Prop
  | 0, b => a = b
  | n + 1, b => ∃ c, c < P ∧ Wk L P a n c ∧ mb (L c) b
theorem Wk.cat {L : Nat → Nat} {P a b : Nat} {n : Nat} (h : Wk L P a n b) : ∀ {m c : Nat}, Wk L P b m c → Wk L P a (n + m) c
  | 0, c, h2 => by cases h2; exact h
  | m + 1, c, ⟨d, hd, h2, h3⟩ => ⟨d, hd, Wk.cat h h2, h3⟩
theorem Wk.one {L : Nat → Nat} {P a b : Nat} (ha : a < P) (h : mb (L a) b) : Wk L P a 1 b := ⟨a, ha, rfl, h⟩
/-- all that are reached by 1 to k + 1 steps -/
def rs (L : Nat → Nat) (P a : Nat) : Nat → Nat
  | 0 => L a
  | k + 1 => ofW L (rs L P a k) P
theorem mb_rs {L : Nat → Nat} {P a b : Nat} (ha : a < P) : ∀ k, mb (rs L P a k) b ↔ ∃ j, 1 ≤ j ∧ j ≤ k + 1 ∧ Wk L P a j b
  | 0 => by
    show mb (L a) b ↔ _
    constructor
    · exact fun h => ⟨1, by omega, by omega, Wk.one ha h⟩
    · rintro ⟨j, h1, h2, h3⟩
      have : j = 1 := by omega
      subst this
      obtain ⟨c, -, e, h⟩ := h3
      cases e
      exact h
  | k + 1 => by
    show mb (ofW L (rs L P a k) P) b ↔ _
    rw [mb_of]
    constructor
    · rintro (h | ⟨c, hc, h, h2⟩)
      · obtain ⟨j, j1, j2, j3⟩ := (mb_rs ha k).mp h
        exact ⟨j, j1, by omega, j3⟩
      · obtain ⟨j, j1, j2, j3⟩ := (mb_rs ha k).mp h
        exact ⟨j + 1, by omega, by omega, c, hc, j3, h2⟩
    · rintro ⟨j, j1, j2, j3⟩
      by_cases e : j ≤ k + 1
      · exact Or.inl ((mb_rs ha k).mpr ⟨j, j1, e, j3⟩)
      · have : j = k + 1 + 1 := by omega
        subst this
        obtain ⟨c, hc, h, h2⟩ := j3
        exact Or.inr ⟨c, hc, (mb_rs ha k).mpr ⟨k + 1, by omega, by omega, h⟩, h2⟩
def ct (R P : Nat) : Nat := sm (fun i => bt R i) P
theorem ct_le (R P : Nat) : ct R P ≤ P := by
  have : ct R P ≤ 1 * P := sm_le (fun i _ => bt_le R i)
  omega
theorem sm_mono {f g : Nat → Nat} : ∀ {n : Nat}, (∀ i, i < n → f i ≤ g i) → sm f n ≤ sm g n
  | 0, _ => Nat.le_refl _
  | n + 1, h => by
    have := sm_mono (n := n) (fun i hi => h i (by omega))
    have := h n (by omega)
    show sm f n + f n ≤ sm g n + g n
    omega
theorem sm_lt {f g : Nat → Nat} : ∀ {n : Nat}, (∀ i, i < n → f i ≤ g i) → (∃ i, i < n ∧ f i < g i) → sm f n < sm g n
  | 0, _, ⟨i, hi, _⟩ => by omega
  | n + 1, h, ⟨i, hi, hl⟩ => by
    have hn := h n (by omega)
    show sm f n + f n < sm g n + g n
    by_cases e : i = n
    · subst e
      have := sm_mono (f := f) (g := g) (n := i) (fun j hj => h j (by omega))
      omega
    · have := sm_lt (f := f) (g := g) (n := n) (fun j hj => h j (by omega)) ⟨i, by omega, hl⟩
      omega
theorem bt_mono {R S i : Nat} (h : mb R i → mb S i) : bt R i ≤ bt S i := by
  have h1 := bt_le R i
  have h2 := bt_le S i
  unfold mb at h
  omega
theorem ct_lt {R S P : Nat} (h : ∀ i, i < P → mb R i → mb S i) (hx : ∃ i, i < P ∧ mb S i ∧ ¬ mb R i) : ct R P < ct S P := by
  obtain ⟨i, hi, h1, h2⟩ := hx
  refine sm_lt (fun j hj => bt_mono (h j hj)) ⟨i, hi, ?_⟩
  have := bt0.mpr h2
  unfold mb at h1
  show bt R i < bt S i
  omega
theorem ct_pos {R P i : Nat} (hi : i < P) (h : mb R i) : 1 ≤ ct R P := by
  have : ct 0 P < ct R P := ct_lt (fun j _ q => absurd q mb_0) ⟨i, hi, h, mb_0⟩
  omega
/-- no walk need be longer than there are places -/
theorem Wk.short {L : Nat → Nat} {P a b n : Nat} (hL : ∀ p, p < P → L p < 2 ^ P) (ha : a < P) (hn : 1 ≤ n) (h : Wk L P a n b) : ∃ j, 1 ≤ j ∧ j ≤ P ∧ Wk L P a j b := by
  have stable : ∀ k, (∀ c, c < P → mb (rs L P a (k + 1)) c → mb (rs L P a k) c) → ∀ m c, 1 ≤ m → Wk L P a m c → c < P → mb (rs L P a k) c := by
    intro k hk m
    induction m with
    | zero => intro c h1; omega
    | succ m ih =>
      intro c _ hw hc
      by_cases hm : m = 0
      · subst hm
        exact (mb_rs ha k).mpr ⟨1, by omega, by omega, hw⟩
      · obtain ⟨d, hd, h2, h3⟩ := hw
        have := ih d (by omega) h2 hd
        obtain ⟨j, j1, j2, j3⟩ := (mb_rs ha k).mp this
        exact hk c hc ((mb_rs ha (k + 1)).mpr ⟨j + 1, by omega, by omega, d, hd, j3, h3⟩)
  have grow : ∀ k, (∃ k', k' ≤ k ∧ ∀ c, c < P → mb (rs L P a (k' + 1)) c → mb (rs L P a k') c) ∨ k + 2 ≤ ct (rs L P a (k + 1)) P := by
    have up1 : ∀ k c, mb (rs L P a k) c → mb (rs L P a (k + 1)) c := fun k c hc => by
      obtain ⟨j, j1, j2, j3⟩ := (mb_rs ha k).mp hc
      exact (mb_rs ha (k + 1)).mpr ⟨j, j1, by omega, j3⟩
    have step : ∀ k, (∀ c, c < P → mb (rs L P a (k + 1)) c → mb (rs L P a k) c) ∨ ct (rs L P a k) P < ct (rs L P a (k + 1)) P := by
      intro k
      by_cases hs : ∀ c, c < P → mb (rs L P a (k + 1)) c → mb (rs L P a k) c
      · exact Or.inl hs
      · refine Or.inr (ct_lt (fun i _ => up1 k i) ?_)
        apply Classical.byContradiction
        intro hno
        apply hs
        intro c hc h1
        apply Classical.byContradiction
        intro h2
        exact hno ⟨c, hc, h1, h2⟩
    intro k
    induction k with
    | zero =>
      rcases step 0 with h | h
      · exact Or.inl ⟨0, Nat.le_refl _, h⟩
      · by_cases h0 : ct (rs L P a 0) P = 0
        · refine Or.inl ⟨0, Nat.le_refl _, fun c hc hm => ?_⟩
          obtain ⟨j, j1, j2, j3⟩ := (mb_rs ha 1).mp hm
          have no1 : ∀ d, d < P → ¬ mb (rs L P a 0) d := fun d hd q => by have := ct_pos hd q; omega
          rcases (show j = 1 ∨ j = 2 by omega) with e | e
          · subst e; exact (mb_rs ha 0).mpr ⟨1, by omega, by omega, j3⟩
          · subst e
            obtain ⟨d, hd, h2, -⟩ := j3
            exact absurd ((mb_rs ha 0).mpr ⟨1, by omega, by omega, h2⟩) (no1 d hd)
        · exact Or.inr (by omega)
    | succ k ih =>
      rcases ih with ⟨k', h1, h2⟩ | h
      · exact Or.inl ⟨k', by omega, h2⟩
      · rcases step (k + 1) with h2 | h2
        · exact Or.inl ⟨k + 1, Nat.le_refl _, h2⟩
        · exact Or.inr (by omega)
  have hb : b < P := by
    cases n with
    | zero => omega
    | succ n =>
      obtain ⟨c, hc, -, h3⟩ := h
      exact mb_lt (hL c hc) h3
  obtain ⟨Pm, rfl⟩ : ∃ q, P = q + 1 := ⟨P - 1, by omega⟩
  rcases grow Pm with ⟨k', h1, h2⟩ | h2
  · obtain ⟨j, j1, j2, j3⟩ := (mb_rs ha k').mp (stable k' h2 n b hn h hb)
    exact ⟨j, j1, by omega, j3⟩
  · have := ct_le (rs L (Pm + 1) a (Pm + 1)) (Pm + 1)
    omega
/-- the fewest steps, as the class reckons them, and as the reference does; 0: none -/
def fcW (L : Nat → Nat) (P g : Nat) : Nat → Nat → Nat → Nat
  | 0, _, _ => 0
  | d + 1, R, s => if bt R g = 1 then s else fcW L P g d (ofW L R P) (s + 1)
def fmW (L : Nat → Nat) (P g : Nat) : Nat → Nat → Nat → Nat
  | 0, _, _ => 0
  | d + 1, S, s => if bt (sfW L S P) g = 1 then s else fmW L P g d (sfW L S P) (s + 1)
def Least (L : Nat → Nat) (P a g s e r : Nat) : Prop := (r = 0 ∧ ∀ n, s ≤ n → n < e → ¬ Wk L P a n g) ∨ (s ≤ r ∧ r < e ∧ Wk L P a r g ∧ ∀ n, s ≤ n → n < r → ¬ Wk L P a n g)
theorem fc_least {L : Nat → Nat} {P a g : Nat} (ha : a < P) : ∀ d s, (∀ n, 1 ≤ n → n < s + 1 → ¬ Wk L P a n g) → Least L P a g (s + 1) (s + 1 + d) (fcW L P g d (rs L P a s) (s + 1))
  | 0, s, _ => Or.inl ⟨rfl, fun n h1 h2 => by omega⟩
  | d + 1, s, h => by
    show Least L P a g (s + 1) (s + 1 + (d + 1)) (if bt (rs L P a s) g = 1 then s + 1 else fcW L P g d (rs L P a (s + 1)) (s + 1 + 1))
    by_cases e : bt (rs L P a s) g = 1
    · rw [if_pos e]
      obtain ⟨j, j1, j2, j3⟩ := (mb_rs ha s).mp e
      have : j = s + 1 := by
        rcases Nat.lt_or_ge j (s + 1) with q | q
        · exact absurd j3 (h j j1 q)
        · omega
      subst this
      exact Or.inr ⟨Nat.le_refl _, by omega, j3, fun n h1 h2 => by omega⟩
    · rw [if_neg e]
      have hs : ¬ Wk L P a (s + 1) g := fun q => e ((mb_rs ha s).mpr ⟨s + 1, by omega, by omega, q⟩)
      have ih := fc_least (L := L) (P := P) (a := a) (g := g) ha d (s + 1) (fun n h1 h2 => by
        by_cases q : n = s + 1
        · rw [q]; exact hs
        · exact h n h1 (by omega))
      rcases ih with ⟨i1, i2⟩ | ⟨i1, i2, i3, i4⟩
      · refine Or.inl ⟨i1, fun n h1 h2 => ?_⟩
        by_cases q : n = s + 1
        · rw [q]; exact hs
        · exact i2 n (by omega) (by omega)
      · refine Or.inr ⟨by omega, by omega, i3, fun n h1 h2 => ?_⟩
        by_cases q : n = s + 1
        · rw [q]; exact hs
        · exact i4 n (by omega) (by omega)
theorem fm_least {L : Nat → Nat} {P a g : Nat} : ∀ d s S, (∀ b, b < P → (mb S b ↔ Wk L P a s b)) → Least L P a g (s + 1) (s + 1 + d) (fmW L P g d S (s + 1))
  | 0, s, S, _ => Or.inl ⟨rfl, fun n h1 h2 => by omega⟩
  | d + 1, s, S, h => by
    have hS : ∀ b, mb (sfW L S P) b ↔ Wk L P a (s + 1) b := fun b => by
      rw [mb_sf]
      constructor
      · rintro ⟨c, hc, h1, h2⟩; exact ⟨c, hc, (h c hc).mp h1, h2⟩
      · rintro ⟨c, hc, h1, h2⟩; exact ⟨c, hc, (h c hc).mpr h1, h2⟩
    show Least L P a g (s + 1) (s + 1 + (d + 1)) (if bt (sfW L S P) g = 1 then s + 1 else fmW L P g d (sfW L S P) (s + 1 + 1))
    by_cases e : bt (sfW L S P) g = 1
    · rw [if_pos e]
      exact Or.inr ⟨Nat.le_refl _, by omega, (hS g).mp e, fun n h1 h2 => by omega⟩
    · rw [if_neg e]
      have hs : ¬ Wk L P a (s + 1) g := fun q => e ((hS g).mpr q)
      rcases fm_least (L := L) (P := P) (a := a) (g := g) d (s + 1) (sfW L S P) (fun b _ => hS b) with ⟨i1, i2⟩ | ⟨i1, i2, i3, i4⟩
      · refine Or.inl ⟨i1, fun n h1 h2 => ?_⟩
        by_cases q : n = s + 1
        · rw [q]; exact hs
        · exact i2 n (by omega) (by omega)
      · refine Or.inr ⟨by omega, by omega, i3, fun n h1 h2 => ?_⟩
        by_cases q : n = s + 1
        · rw [q]; exact hs
        · exact i4 n (by omega) (by omega)
/-- the fewest steps from a to g -/
def far (L : Nat → Nat) (P a g : Nat) : Nat := fmW L P g 6 (2 ^ a) 1
theorem far_least {L : Nat → Nat} {P a g : Nat} : Least L P a g 1 7 (far L P a g) :=
  fm_least 6 0 (2 ^ a) (fun b _ => by rw [mb_pow]; exact Iff.rfl)
theorem far_eq {L : Nat → Nat} {P a g : Nat} (hL : ∀ p, p < P → L p < 2 ^ P) (ha : a < P) (hP : P ≤ 6) : fcW L P g P (L a) 1 = far L P a g := by
  have h1 : Least L P a g 1 (1 + P) (fcW L P g P (L a) 1) := fc_least (L := L) (P := P) (a := a) (g := g) ha P 0 (fun n h1 h2 => by omega)
  have h2 := far_least (L := L) (P := P) (a := a) (g := g)
  generalize fcW L P g P (L a) 1 = x at h1 ⊢
  generalize far L P a g = y at h2 ⊢
  rcases h1 with ⟨a1, a2⟩ | ⟨a1, a2, a3, a4⟩
  · rcases h2 with ⟨b1, b2⟩ | ⟨b1, b2, b3, b4⟩
    · rw [a1, b1]
    · obtain ⟨j, j1, j2, j3⟩ := Wk.short hL ha b1 b3
      exact absurd j3 (a2 j j1 (by omega))
  · rcases h2 with ⟨b1, b2⟩ | ⟨b1, b2, b3, b4⟩
    · exact absurd a3 (b2 x a1 (by omega))
    · rcases Nat.lt_trichotomy x y with q | q | q
      · exact absurd a3 (b4 x a1 q)
      · exact q
      · exact absurd b3 (a4 y b1 q)
theorem far_ne {L : Nat → Nat} {P a g : Nat} (hL : ∀ p, p < P → L p < 2 ^ P) (ha : a < P) (hP : P ≤ 6) : far L P a g ≠ 0 ↔ ∃ n, 1 ≤ n ∧ Wk L P a n g := by
  have h2 := far_least (L := L) (P := P) (a := a) (g := g)
  generalize far L P a g = y at h2 ⊢
  rcases h2 with ⟨b1, b2⟩ | ⟨b1, b2, b3, b4⟩
  · constructor
    · intro h; exact absurd b1 h
    · rintro ⟨n, n1, n2⟩
      obtain ⟨j, j1, j2, j3⟩ := Wk.short hL ha n1 n2
      exact absurd j3 (b2 j j1 (by omega))
  · exact ⟨fun _ => ⟨y, b1, b3⟩, fun _ => by omega⟩
theorem far_le {L : Nat → Nat} {P a g : Nat} : far L P a g ≤ 6 := by
  rcases far_least (L := L) (P := P) (a := a) (g := g) with ⟨b1, b2⟩ | ⟨b1, b2, b3, b4⟩ <;> omega
/-- the shortest ring: 0: none -/
def rgW (L : Nat → Nat) (P : Nat) : Nat → Nat
  | 0 => 0
  | n + 1 => if far L P n n = 0 then rgW L P n else if rgW L P n = 0 then far L P n n else if rgW L P n ≤ far L P n n then rgW L P n else far L P n n
def rg (L : Nat → Nat) (P : Nat) : Nat := rgW L P P
theorem rgW_le {L : Nat → Nat} {P : Nat} : ∀ n, rgW L P n ≤ 6
  | 0 => Nat.zero_le _
  | n + 1 => by
    have := rgW_le (L := L) (P := P) n
    have := far_le (L := L) (P := P) (a := n) (g := n)
    show (if far L P n n = 0 then rgW L P n else if rgW L P n = 0 then far L P n n else if rgW L P n ≤ far L P n n then rgW L P n else far L P n n) ≤ 6
    (repeat' split) <;> omega
theorem rgW_ne {L : Nat → Nat} {P : Nat} : ∀ n, rgW L P n ≠ 0 ↔ ∃ p, p < n ∧ far L P p p ≠ 0
  | 0 => by
    show (0 : Nat) ≠ 0 ↔ _
    exact ⟨fun h => absurd rfl h, fun ⟨p, hp, _⟩ => by omega⟩
  | n + 1 => by
    have ih := rgW_ne (L := L) (P := P) n
    show (if far L P n n = 0 then rgW L P n else if rgW L P n = 0 then far L P n n else if rgW L P n ≤ far L P n n then rgW L P n else far L P n n) ≠ 0 ↔ _
    by_cases e : far L P n n = 0
    · rw [if_pos e, ih]
      constructor
      · rintro ⟨p, hp, h⟩; exact ⟨p, by omega, h⟩
      · rintro ⟨p, hp, h⟩
        by_cases q : p = n
        · subst q; exact absurd e h
        · exact ⟨p, by omega, h⟩
    · rw [if_neg e]
      constructor
      · intro _; exact ⟨n, by omega, e⟩
      · intro _; (repeat' split) <;> omega
/-- who bears no grudge against those left drops out -/
def clr (l n : Nat) : Nat := l - 2 ^ n * bt l n
theorem mb_clr {l n i : Nat} : mb (clr l n) i ↔ mb l i ∧ i ≠ n := by
  unfold clr
  have hb := bt_le l n
  rcases (show bt l n = 0 ∨ bt l n = 1 by omega) with e | e
  · rw [e, Nat.mul_zero, Nat.sub_zero]
    constructor
    · intro h
      refine ⟨h, fun q => ?_⟩
      subst q
      unfold mb at h
      omega
    · exact fun h => h.1
  · rw [e, Nat.mul_one]
    unfold bt at e
    have hp := Nat.two_pow_pos n
    generalize hr : l % 2 ^ n = r
    generalize hq : l / 2 ^ n / 2 = q
    have e1 : l / 2 ^ n = 2 * q + 1 := by omega
    have e2 : l = 2 ^ n * (2 * q + 1) + r := by rw [← e1, ← hr]; exact (Nat.div_add_mod l (2 ^ n)).symm
    have hrl : r < 2 ^ n := by rw [← hr]; exact Nat.mod_lt _ hp
    have e3 : l - 2 ^ n = 2 ^ n * (2 * q) + r := by
      rw [Nat.mul_add, Nat.mul_one] at e2
      omega
    rw [e3]
    generalize hy : 2 ^ n * (2 * q) + r = y
    have y1 : y % 2 ^ n = r := by rw [← hy, Nat.mul_add_mod, Nat.mod_eq_of_lt hrl]
    have y2 : y / 2 ^ n = 2 * q := by rw [← hy, Nat.mul_add_div hp, Nat.div_eq_of_lt hrl, Nat.add_zero]
    rcases Nat.lt_trichotomy i n with c | c | c
    · have t1 : y.testBit i = l.testBit i := by
        have a1 := Nat.testBit_mod_two_pow y n i
        have a2 := Nat.testBit_mod_two_pow l n i
        rw [y1] at a1
        rw [hr] at a2
        simp only [c, decide_true, Bool.true_and] at a1 a2
        rw [← a1, ← a2]
      rw [mb_tb, mb_tb, t1]
      exact ⟨fun h => ⟨h, by omega⟩, fun h => h.1⟩
    · subst c
      constructor
      · intro h
        unfold mb bt at h
        rw [y2] at h
        omega
      · exact fun h => absurd rfl h.2
    · have t1 : y.testBit i = l.testBit i := by
        have a1 := (Nat.testBit_div_two_pow .. : (y / 2 ^ (n + 1)).testBit (i - (n + 1)) = y.testBit (i - (n + 1) + (n + 1)))
        have a2 := (Nat.testBit_div_two_pow .. : (l / 2 ^ (n + 1)).testBit (i - (n + 1)) = l.testBit (i - (n + 1) + (n + 1)))
        rw [Nat.pow_succ, ← Nat.div_div_eq_div_mul] at a1 a2
        rw [y2] at a1
        rw [hq] at a2
        rw [show 2 * q / 2 = q by omega] at a1
        rw [a1] at a2
        have ei : n + 1 + (i - (n + 1)) = i := by omega
        have ei2 : i - (n + 1) + (n + 1) = i := by omega
        first | (rw [ei] at a2; exact a2) | (rw [ei2] at a2; exact a2)
      rw [mb_tb, mb_tb, t1]
      exact ⟨fun h => ⟨h, by omega⟩, fun h => h.1⟩
def elW (L : Nat → Nat) (l : Nat) : Nat → Nat
  | 0 => l
  | n + 1 => if L n &&& elW L l n = 0 then clr (elW L l n) n else elW L l n
def elR (L : Nat → Nat) (P l : Nat) : Nat → Nat
  | 0 => l
  | k + 1 => elW L (elR L P l k) P
theorem el_sub {L : Nat → Nat} {l i : Nat} : ∀ n, mb (elW L l n) i → mb l i
  | 0, h => h
  | n + 1, h => by
    change mb (if L n &&& elW L l n = 0 then clr (elW L l n) n else elW L l n) i at h
    split at h
    · exact el_sub n (mb_clr.mp h).1
    · exact el_sub n h
theorem el_keep {L : Nat → Nat} {l : Nat} {K : Nat → Prop} (hK : ∀ q, K q → ∃ b, mb (L q) b ∧ K b) (h : ∀ q, K q → mb l q) : ∀ n q, K q → mb (elW L l n) q
  | 0, q, hq => h q hq
  | n + 1, q, hq => by
    have ih := el_keep hK h n
    show mb (if L n &&& elW L l n = 0 then clr (elW L l n) n else elW L l n) q
    split
    · rename_i e
      refine mb_clr.mpr ⟨ih q hq, fun z => ?_⟩
      subst z
      obtain ⟨b, h1, h2⟩ := hK q hq
      have : mb (L q &&& elW L l q) b := mb_and.mpr ⟨h1, ih b h2⟩
      rw [e] at this
      exact mb_0 this
    · exact ih q hq
theorem el_drop {L : Nat → Nat} {l p : Nat} (h : ∀ b, mb (L p) b → ¬ mb l b) : ∀ n, p < n → ¬ mb (elW L l n) p
  | 0, hn => by omega
  | n + 1, hn => by
    show ¬ mb (if L n &&& elW L l n = 0 then clr (elW L l n) n else elW L l n) p
    by_cases e : p = n
    · subst e
      have : L p &&& elW L l p = 0 := eq0 (fun i hi => by
        obtain ⟨h1, h2⟩ := mb_and.mp hi
        exact h i h1 (el_sub p h2))
      rw [if_pos this]
      exact fun q => (mb_clr.mp q).2 rfl
    · have ih := el_drop h n (by omega)
      split
      · exact fun q => ih (mb_clr.mp q).1
      · exact ih
theorem el_lt {L : Nat → Nat} {l P : Nat} (h : l < 2 ^ P) (n : Nat) : elW L l n < 2 ^ P := by
  apply Nat.lt_pow_two_of_testBit
  intro i hi
  have : ¬ mb (elW L l n) i := fun q => by have := mb_lt h (el_sub n q); omega
  rw [mb_tb] at this
  simpa using this
theorem elR_lt {L : Nat → Nat} {l P : Nat} (h : l < 2 ^ P) : ∀ k, elR L P l k < 2 ^ P
  | 0 => h
  | k + 1 => el_lt (elR_lt h k) P
/-- the ring is what is left -/
theorem el_ring {L : Nat → Nat} {P : Nat} (hL : ∀ p, p < P → L p < 2 ^ P) (hP : P ≤ 6) : elR L P (2 ^ P - 1) P ≠ 0 ↔ rg L P ≠ 0 := by
  have hall : ∀ i, i < P → mb (2 ^ P - 1) i := fun i hi => by
    rw [mb_tb, Nat.testBit_two_pow_sub_one]
    simpa using hi
  have hlt : 2 ^ P - 1 < 2 ^ P := Nat.sub_lt (Nat.two_pow_pos P) (by decide)
  unfold rg
  rw [rgW_ne]
  constructor
  · intro hne
    have key : ∀ k, (∀ p, mb (elR L P (2 ^ P - 1) k) p → ∃ b, mb (L p) b ∧ mb (elR L P (2 ^ P - 1) k) b) ∨ ct (elR L P (2 ^ P - 1) k) P + k ≤ P := by
      intro k
      induction k with
      | zero => exact Or.inr (ct_le _ _)
      | succ k ih =>
        have hk := elR_lt (L := L) hlt k
        generalize hS : elR L P (2 ^ P - 1) k = S at ih hk
        have e : elR L P (2 ^ P - 1) (k + 1) = elW L S P := by rw [← hS]; rfl
        rw [e]
        by_cases st : ∀ p, mb S p → ∃ b, mb (L p) b ∧ mb S b
        · refine Or.inl ?_
          have same : ∀ q, mb (elW L S P) q ↔ mb S q := fun q => ⟨el_sub P, el_keep (K := mb S) st (fun _ h => h) P q⟩
          intro p hp
          obtain ⟨b, h1, h2⟩ := st p ((same p).mp hp)
          exact ⟨b, h1, (same b).mpr h2⟩
        · refine Or.inr ?_
          have : ∃ p, mb S p ∧ ∀ b, mb (L p) b → ¬ mb S b := by
            apply Classical.byContradiction
            intro hno
            apply st
            intro p hp
            apply Classical.byContradiction
            intro h2
            exact hno ⟨p, hp, fun b h3 h4 => h2 ⟨b, h3, h4⟩⟩
          obtain ⟨p, h1, h2⟩ := this
          have hp : p < P := mb_lt hk h1
          have := ct_lt (R := elW L S P) (S := S) (P := P) (fun i _ => el_sub P) ⟨p, hp, h1, el_drop h2 P hp⟩
          rcases ih with ih | ih
          · exact absurd ih st
          · omega
    have hT := elR_lt (L := L) hlt P
    rcases key P with st | h0
    · generalize hS : elR L P (2 ^ P - 1) P = S at st hne hT
      obtain ⟨v, hv⟩ : ∃ v, mb S v := by
        apply Classical.byContradiction
        intro hno
        exact hne (eq0 (fun i hi => hno ⟨i, hi⟩))
      have walk : ∀ k v, mb S v → ct (rs L P v P) P ≤ k → ∃ p, p < P ∧ far L P p p ≠ 0 := by
        intro k
        induction k with
        | zero =>
          intro v hv hc
          obtain ⟨w, h1, h2⟩ := st v hv
          have hvP := mb_lt hT hv
          have hwP := mb_lt hT h2
          have := ct_pos hwP ((mb_rs hvP P).mpr ⟨1, by omega, by omega, Wk.one hvP h1⟩)
          omega
        | succ k ih =>
          intro v hv hc
          obtain ⟨w, h1, h2⟩ := st v hv
          have hvP := mb_lt hT hv
          have hwP := mb_lt hT h2
          by_cases hw : mb (rs L P w P) w
          · obtain ⟨j, j1, j2, j3⟩ := (mb_rs hwP P).mp hw
            exact ⟨w, hwP, (far_ne hL hwP hP).mpr ⟨j, j1, j3⟩⟩
          · refine ih w h2 ?_
            have := ct_lt (R := rs L P w P) (S := rs L P v P) (P := P) (fun i hi hm => by
              obtain ⟨j, j1, j2, j3⟩ := (mb_rs hwP P).mp hm
              obtain ⟨j', q1, q2, q3⟩ := Wk.short hL hvP (n := 1 + j) (by omega) (Wk.cat (Wk.one hvP h1) j3)
              exact (mb_rs hvP P).mpr ⟨j', q1, by omega, q3⟩) ⟨w, hwP, (mb_rs hvP P).mpr ⟨1, by omega, by omega, Wk.one hvP h1⟩, hw⟩
            omega
      exact walk _ v hv (Nat.le_refl _)
    · exfalso
      apply hne
      apply eq0
      intro i hi
      have hiP := mb_lt hT hi
      have := ct_pos hiP hi
      omega
  · rintro ⟨p, hp, hne⟩
    obtain ⟨n, n1, n2⟩ := (far_ne hL hp hP).mp hne
    -- those from whom p is reached, by walks that begin anywhere
    have first : ∀ n a b, Wk L P a (n + 1) b → ∃ c, mb (L a) c ∧ Wk L P c n b := by
      intro n
      induction n with
      | zero =>
        rintro a b ⟨c, hc, h1, h2⟩
        cases h1
        exact ⟨b, h2, rfl⟩
      | succ n ih =>
        rintro a b ⟨c, hc, h1, h2⟩
        obtain ⟨d, h3, h4⟩ := ih a c h1
        exact ⟨d, h3, c, hc, h4, h2⟩
    have hK : ∀ q, (q < P ∧ ∃ j, Wk L P q (j + 1) p) → ∃ b, mb (L q) b ∧ (b < P ∧ ∃ j, Wk L P b (j + 1) p) := by
      rintro q ⟨hq, j, hj⟩
      obtain ⟨c, h1, h2⟩ := first j q p hj
      refine ⟨c, h1, mb_lt (hL q hq) h1, ?_⟩
      cases j with
      | zero =>
        cases h2
        exact ⟨n - 1, by rw [show n - 1 + 1 = n by omega]; exact n2⟩
      | succ j => exact ⟨j, h2⟩
    have keep : ∀ k q, (q < P ∧ ∃ j, Wk L P q (j + 1) p) → mb (elR L P (2 ^ P - 1) k) q := by
      intro k
      induction k with
      | zero => exact fun q hq => hall q hq.1
      | succ k ih => exact fun q hq => el_keep hK ih P q hq
    intro h0
    have := keep P p ⟨hp, n - 1, by rw [show n - 1 + 1 = n by omega]; exact n2⟩
    rw [h0] at this
    exact mb_0 this
