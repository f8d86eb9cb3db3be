/-! ODDS: pure -/
theorem sm_add (f : Nat → Nat) (a : Nat) : ∀ b, sm f (a + b) = sm f a + sm (fun i => f (a + i)) b
  | 0 => rfl
  | b + 1 => by
    show sm f (a + b) + f (a + b) = sm f a + (sm (fun i => f (a + i)) b + f (a + b))
    rw [sm_add f a b, Nat.add_assoc]
theorem sm_mul (f : Nat → Nat) (k : Nat) : ∀ n, sm (fun i => f i * k) n = sm f n * k
  | 0 => by simp [sm]
  | n + 1 => by
    show sm (fun i => f i * k) n + f n * k = (sm f n + f n) * k
    rw [sm_mul f k n, Nat.add_mul]
theorem sm_up {f : Nat → Nat} {a b : Nat} (h : a ≤ b) : sm f a ≤ sm f b := by
  obtain ⟨d, rfl⟩ : ∃ d, b = a + d := ⟨b - a, by omega⟩
  rw [sm_add]
  omega
theorem bt_hi {i n w : Nat} (h : i < 2 ^ n) : bt (2 ^ n + i) w = if w = n then 1 else if w < n then bt i w else 0 := by
  have := bt_add (F := i) (d := 1) (n := n) (i := w) h (Nat.le_refl _)
  rw [Nat.mul_one, Nat.add_comm] at this
  exact this
/-- a wrong's part: forgiven already (f = 1) or not; chosen (c = 1) or not -/
def fac (t f c : Nat) : Nat := if f = 1 then (if c = 1 then 0 else 1) else (if c = 1 then t else 10 - t)
def prW (t F s : Nat) : Nat → Nat
  | 0 => 1
  | n + 1 => prW t F s n * fac t (bt F n) (bt s n)
def kO (F n : Nat) : Nat := sm (fun w => 1 - bt F w) n
theorem prW_congr {t F s s' : Nat} : ∀ n, (∀ w, w < n → bt s w = bt s' w) → prW t F s n = prW t F s' n
  | 0, _ => rfl
  | n + 1, h => by
    show prW t F s n * fac t (bt F n) (bt s n) = prW t F s' n * fac t (bt F n) (bt s' n)
    rw [prW_congr n (fun w hw => h w (by omega)), h n (by omega)]
theorem pr_sum {t F : Nat} (ht : t ≤ 10) : ∀ n, sm (fun s => prW t F s n) (2 ^ n) = 10 ^ kO F n
  | 0 => rfl
  | n + 1 => by
    have ih := pr_sum (F := F) ht n
    have hb := bt_le F n
    rw [Nat.pow_succ, Nat.mul_two, sm_add]
    have e1 : sm (fun s => prW t F s (n + 1)) (2 ^ n) = sm (fun s => prW t F s n) (2 ^ n) * fac t (bt F n) 0 := by
      rw [← sm_mul]
      refine sm_congr (fun s hs => ?_)
      show prW t F s n * fac t (bt F n) (bt s n) = _
      rw [bt_lt hs (Nat.le_refl _)]
    have e2 : sm (fun i => prW t F (2 ^ n + i) (n + 1)) (2 ^ n) = sm (fun s => prW t F s n) (2 ^ n) * fac t (bt F n) 1 := by
      rw [← sm_mul]
      refine sm_congr (fun s hs => ?_)
      show prW t F (2 ^ n + s) n * fac t (bt F n) (bt (2 ^ n + s) n) = _
      rw [bt_hi hs, if_pos rfl, prW_congr (s' := s) n (fun w hw => by rw [bt_hi hs, if_neg (by omega), if_pos hw])]
    rw [e1, e2, ih, ← Nat.mul_add]
    show _ = 10 ^ (kO F n + (1 - bt F n))
    rw [Nat.pow_add]
    congr 1
    unfold fac
    rcases (show bt F n = 0 ∨ bt F n = 1 by omega) with e | e <;> rw [e] <;> simp
    omega
/-- the ways, as the reference multiplies them -/
def wyW (t F s : Nat) : Nat → Nat
  | 0 => if s &&& F = 0 then 1 else 0
  | n + 1 => if bt F n = 0 then wyW t F s n * (if bt s n = 1 then t else 10 - t) else wyW t F s n
theorem wy0 {t F s : Nat} (h : s &&& F ≠ 0) : ∀ n, wyW t F s n = 0
  | 0 => if_neg h
  | n + 1 => by
    show (if bt F n = 0 then wyW t F s n * (if bt s n = 1 then t else 10 - t) else wyW t F s n) = 0
    rw [wy0 h n, Nat.zero_mul]
    split <;> rfl
theorem wy_pr {t F s : Nat} (h : s &&& F = 0) : ∀ n, wyW t F s n = prW t F s n
  | 0 => if_pos h
  | n + 1 => by
    have ih := wy_pr (t := t) h n
    have hb := bt_le F n
    show (if bt F n = 0 then wyW t F s n * (if bt s n = 1 then t else 10 - t) else wyW t F s n) = prW t F s n * fac t (bt F n) (bt s n)
    unfold fac
    by_cases e : bt F n = 0
    · rw [if_pos e, if_neg (show ¬ bt F n = 1 by omega), ih]
    · rw [if_neg e, if_pos (show bt F n = 1 by omega), ih]
      have : ¬ bt s n = 1 := fun q => by
        have h1 : mb (s &&& F) n := mb_and.mpr ⟨q, show bt F n = 1 by omega⟩
        rw [h] at h1
        exact mb_0 h1
      rw [if_neg this, Nat.mul_one]
theorem pr_0 {t F s : Nat} : ∀ n, (∃ w, w < n ∧ mb s w ∧ mb F w) → prW t F s n = 0
  | 0, ⟨w, hw, _⟩ => by omega
  | n + 1, ⟨w, hw, h1, h2⟩ => by
    show prW t F s n * fac t (bt F n) (bt s n) = 0
    by_cases e : w = n
    · subst e
      unfold mb at h1 h2
      unfold fac
      rw [if_pos h2, if_pos h1, Nat.mul_zero]
    · rw [pr_0 n ⟨w, by omega, h1, h2⟩, Nat.zero_mul]
theorem wy_eq {t F s W : Nat} (hs : s < 2 ^ W) : wyW t F s W = prW t F s W := by
  by_cases h : s &&& F = 0
  · exact wy_pr h W
  · rw [wy0 h, pr_0]
    have : ∃ w, mb (s &&& F) w := by
      apply Classical.byContradiction
      intro hno
      exact h (eq0 (fun i hi => hno ⟨i, hi⟩))
    obtain ⟨w, hw⟩ := this
    obtain ⟨h1, h2⟩ := mb_and.mp hw
    exact ⟨w, mb_lt hs h1, h1, h2⟩
theorem wy_sum {t F W : Nat} (ht : t ≤ 10) : sm (fun s => wyW t F s W) (2 ^ W) = 10 ^ kO F W := by
  rw [← pr_sum (F := F) ht W]
  exact sm_congr (fun s hs => wy_eq hs)
theorem pr_le {t F s : Nat} (ht : t ≤ 10) : ∀ n, prW t F s n ≤ 10 ^ kO F n
  | 0 => Nat.le_refl _
  | n + 1 => by
    have ih := pr_le (F := F) (s := s) ht n
    have hb := bt_le F n
    show prW t F s n * fac t (bt F n) (bt s n) ≤ 10 ^ (kO F n + (1 - bt F n))
    rw [Nat.pow_add]
    refine Nat.mul_le_mul ih ?_
    unfold fac
    rcases (show bt F n = 0 ∨ bt F n = 1 by omega) with e | e <;> rw [e] <;> simp <;> split <;> omega
/-- the ways, as the class multiplies them -/
theorem pr_pow {t F s : Nat} (h : s &&& F = 0) : ∀ n, sm (fun w => bt s w) n ≤ kO F n ∧ prW t F s n = t ^ sm (fun w => bt s w) n * (10 - t) ^ (kO F n - sm (fun w => bt s w) n)
  | 0 => ⟨Nat.le_refl _, rfl⟩
  | n + 1 => by
    obtain ⟨i1, i2⟩ := pr_pow (t := t) h n
    have hb := bt_le F n
    have hc := bt_le s n
    have hd : ¬ (bt F n = 1 ∧ bt s n = 1) := fun ⟨q1, q2⟩ => by
      have h1 : mb (s &&& F) n := mb_and.mpr ⟨q2, q1⟩
      rw [h] at h1
      exact mb_0 h1
    show sm (fun w => bt s w) n + bt s n ≤ kO F n + (1 - bt F n) ∧ prW t F s n * fac t (bt F n) (bt s n) = t ^ (sm (fun w => bt s w) n + bt s n) * (10 - t) ^ (kO F n + (1 - bt F n) - (sm (fun w => bt s w) n + bt s n))
    refine ⟨by omega, ?_⟩
    rw [i2]
    generalize sm (fun w => bt s w) n = a at i1 ⊢
    generalize kO F n = b at i1 ⊢
    unfold fac
    rcases (show bt F n = 0 ∨ bt F n = 1 by omega) with e | e
    · rw [e, if_neg (by decide)]
      rcases (show bt s n = 0 ∨ bt s n = 1 by omega) with e2 | e2
      · rw [e2, if_neg (by decide), Nat.add_zero, show b + (1 - 0) - a = b - a + 1 by omega, Nat.pow_succ, Nat.mul_assoc]
      · rw [e2, if_pos rfl, show b + (1 - 0) - (a + 1) = b - a by omega, Nat.pow_succ]
        rw [Nat.mul_assoc, Nat.mul_comm ((10 - t) ^ (b - a)) t, ← Nat.mul_assoc]
    · have e2 : bt s n = 0 := by omega
      rw [e, e2, if_pos rfl, if_neg (by decide), Nat.mul_one, Nat.add_zero, show b + (1 - 1) - a = b - a by omega]
theorem sm_tail {f : Nat → Nat} {a b : Nat} (h : a ≤ b) (h0 : ∀ i, a ≤ i → i < b → f i = 0) : sm f b = sm f a := by
  obtain ⟨d, rfl⟩ : ∃ d, b = a + d := ⟨b - a, by omega⟩
  rw [sm_add, sm_congr (g := fun _ => 0) (fun i hi => h0 (a + i) (by omega) (by omega))]
  have : ∀ n, sm (fun _ => 0) n = 0 := fun n => by induction n with
    | zero => rfl
    | succ n ih => exact ih
  rw [this, Nat.add_zero]
theorem po_W {s W : Nat} (hs : s < 2 ^ W) (hW : W ≤ 8) : po s = sm (fun w => bt s w) W := sm_tail (by omega) (fun i h1 _ => bt_lt hs h1)
theorem kO_le (F n : Nat) : kO F n ≤ n := by
  have : kO F n ≤ 1 * n := sm_le (fun i _ => by omega)
  omega
def nt (F : Nat) : Nat := F ^^^ 4294967295
theorem xorI {a b : Nat} : nI a ^^^ nI b = nI (a ^^^ b) := by
  apply Int32.toBitVec_inj.mp
  show BitVec.ofNat 32 a ^^^ BitVec.ofNat 32 b = BitVec.ofNat 32 (a ^^^ b)
  rw [BitVec.ofNat_xor]
theorem notI {a : Nat} : nI a ^^^ (-1) = nI (nt a) := by
  rw [show (-1 : Int32) = nI 4294967295 by decide, xorI]
  rfl
theorem mb_nt {F i : Nat} (hi : i < 32) : mb (nt F) i ↔ ¬ mb F i := by
  unfold nt
  rw [mb_tb, mb_tb, Nat.testBit_xor, show (4294967295 : Nat) = 2 ^ 32 - 1 from rfl, Nat.testBit_two_pow_sub_one]
  simp [hi]
/-- the open ones -/
def opn (F W : Nat) : Nat := (2 ^ W - 1) &&& nt F
theorem mb_opn {F W i : Nat} (hW : W ≤ 8) : mb (opn F W) i ↔ i < W ∧ ¬ mb F i := by
  unfold opn
  rw [mb_and]
  have h1 : mb (2 ^ W - 1) i ↔ i < W := by rw [mb_tb, Nat.testBit_two_pow_sub_one]; simp
  rw [h1]
  constructor
  · rintro ⟨a, b⟩; exact ⟨a, (mb_nt (by omega)).mp b⟩
  · rintro ⟨a, b⟩; exact ⟨a, (mb_nt (by omega)).mpr b⟩
theorem opn_lt {F W : Nat} : opn F W < 2 ^ W := Nat.lt_of_le_of_lt Nat.and_le_left (Nat.sub_lt (Nat.two_pow_pos W) (by decide))
theorem po_opn {F W : Nat} (hW : W ≤ 8) : po (opn F W) = kO F W := by
  rw [po_W opn_lt hW]
  refine sm_congr (fun w hw => ?_)
  have hb := bt_le F w
  have hc := bt_le (opn F W) w
  by_cases q : mb F w
  · have h1 : bt (opn F W) w = 0 := bt0.mpr (fun z => ((mb_opn hW).mp z).2 q)
    unfold mb at q
    omega
  · have h1 : mb (opn F W) w := (mb_opn hW).mpr ⟨hw, q⟩
    have h2 := bt0.mpr q
    unfold mb at h1
    omega
theorem opn_sub {F W s : Nat} (hW : W ≤ 8) (hs : s < 2 ^ W) : s &&& nt (opn F W) = 0 ↔ s &&& F = 0 := by
  constructor
  · intro h
    refine eq0 (fun i hi => ?_)
    obtain ⟨h1, h2⟩ := mb_and.mp hi
    have hiW := mb_lt hs h1
    have : mb (s &&& nt (opn F W)) i := mb_and.mpr ⟨h1, (mb_nt (by omega)).mpr (fun z => ((mb_opn hW).mp z).2 h2)⟩
    rw [h] at this
    exact mb_0 this
  · intro h
    refine eq0 (fun i hi => ?_)
    obtain ⟨h1, h2⟩ := mb_and.mp hi
    have hiW := mb_lt hs h1
    refine (mb_nt (by omega)).mp h2 ((mb_opn hW).mpr ⟨hiW, fun z => ?_⟩)
    have : mb (s &&& F) i := mb_and.mpr ⟨h1, z⟩
    rw [h] at this
    exact mb_0 this
/-- above and below -/
def odW (A : Ab) (t p n : Nat) : Nat := sm (fun s => if st A (A 0 3 ||| s) (A 0 0) p = 1 then wyW t (A 0 3) s (A 0 2) else 0) n
def od (A : Ab) (t p : Nat) : Nat := odW A t p (2 ^ A 0 2)
def ow (A : Ab) : Nat := 10 ^ kO (A 0 3) (A 0 2)
theorem ow_le {A : Ab} (ok : OK A) : ow A ≤ 100000000 := by
  have h : ow A ≤ 10 ^ 8 := Nat.pow_le_pow_right (by decide) (Nat.le_trans (kO_le _ _) ok.2.1)
  exact h
theorem ow_pos (A : Ab) : 1 ≤ ow A := Nat.pos_of_ne_zero (fun h => by
  have : 0 < 10 ^ kO (A 0 3) (A 0 2) := Nat.pow_pos (by decide)
  unfold ow at h
  omega)
theorem odW_le {A : Ab} {t : Nat} (ht : t ≤ 10) (p : Nat) {n : Nat} (hn : n ≤ 2 ^ A 0 2) : odW A t p n ≤ ow A := by
  unfold ow
  rw [← wy_sum (F := A 0 3) (W := A 0 2) ht]
  exact Nat.le_trans (sm_mono (fun s _ => by split <;> omega)) (sm_up hn)
theorem od_le {A : Ab} {t : Nat} (ht : t ≤ 10) (p : Nat) : od A t p ≤ ow A := odW_le ht p (Nat.le_refl _)
def oa (A : Ab) (t p w : Nat) : Nat := if w = 0 then od A t p / Nat.gcd (ow A) (od A t p) else ow A / Nat.gcd (ow A) (od A t p)
theorem halve {y r : Nat} (hr : 0 < r) (h : r < y) : 2 * (y % r) < y := by
  have h1 := Nat.mod_lt y hr
  have h2 : y % r + r ≤ y := by
    have := Nat.div_add_mod y r
    have h3 : 1 ≤ y / r := Nat.div_pos (by omega) hr
    have h4 : r * 1 ≤ r * (y / r) := Nat.mul_le_mul_left r h3
    omega
  omega
