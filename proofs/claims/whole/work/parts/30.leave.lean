/-! LEAVE: pure, then both sides -/
def wn (w s : Nat) : Nat → Nat
  | 0 => w
  | n + 1 => nw (wn w s n) s
def cn (w s n : Nat) : Nat := sm (fun k => fz (wn w s k) s) n
theorem wn_le {w s : Nat} (h : w ≤ 20) : ∀ n, wn w s n ≤ 20
  | 0 => h
  | n + 1 => nw_le (wn_le h n)
theorem cn_le (w s n : Nat) : cn w s n ≤ n := by
  have : cn w s n ≤ 1 * n := sm_le (fun i _ => fz_le _ _)
  omega
def mn (f : Nat → Nat) (a : Nat) : Nat → Nat
  | 0 => a
  | n + 1 => if f n < mn f a n then f n else mn f a n
theorem mn_le {f : Nat → Nat} {a : Nat} : ∀ n, mn f a n ≤ a
  | 0 => Nat.le_refl _
  | n + 1 => by
    have := mn_le (f := f) (a := a) n
    show (if f n < mn f a n then f n else mn f a n) ≤ a
    split <;> omega
theorem mn_eq {f : Nat → Nat} : ∀ n, (∀ i, i < n + 1 → f i ≤ 20) → mn f 99 (n + 1) = mn f 20 (n + 1)
  | 0, h => by
    have := h 0 (by omega)
    show (if f 0 < 99 then f 0 else 99) = if f 0 < 20 then f 0 else 20
    (repeat' split) <;> omega
  | n + 1, h => by
    show (if f (n + 1) < mn f 99 (n + 1) then f (n + 1) else mn f 99 (n + 1)) = if f (n + 1) < mn f 20 (n + 1) then f (n + 1) else mn f 20 (n + 1)
    rw [mn_eq n (fun i hi => h i (by omega))]
theorem sm_fadd (f g : Nat → Nat) : ∀ n, sm (fun i => f i + g i) n = sm f n + sm g n
  | 0 => rfl
  | n + 1 => by
    show sm (fun i => f i + g i) n + (f n + g n) = sm f n + f n + (sm g n + g n)
    rw [sm_fadd f g n]
    omega
theorem po_bs {d : Nat → Nat} {n : Nat} (hn : n ≤ 9) (h : ∀ i, i < n → d i ≤ 1) : po (bs d n) = sm d n := by
  unfold po
  rw [sm_tail (a := n) hn (fun i h1 _ => by rw [bt_bs h, if_neg (by omega)])]
  exact sm_congr (fun i hi => by rw [bt_bs h, if_pos hi])
/-- those left unforgiven: c; all others forgiven -/
def cF (A : Ab) (c : Nat) : Nat := 2 ^ A 0 2 - 1 - c
def ss (A : Ab) (c p : Nat) : Nat := st A (cF A c) (A 0 0) p
def lf1 (A : Ab) (N c : Nat) : Nat := sm (fun p => cn (A 2 p) (ss A c p) N) (A 0 1)
def lf2 (A : Ab) (N c : Nat) : Nat := mn (fun p => wn (A 2 p) (ss A c p) N) 20 (A 0 1)
def lwt (A : Ab) (N c : Nat) : Nat := 10000 * (50 - lf1 A N c) + 100 * lf2 A N c + (10 - po c)
def lbW (A : Ab) (N : Nat) : Nat → Nat
  | 0 => 0
  | n + 1 => if n = 0 then 0 else if lwt A N (lbW A N n) < lwt A N n then n else lbW A N n
def lb (A : Ab) (N : Nat) : Nat := lbW A N (2 ^ A 0 2)
theorem lbW_le {A : Ab} {N : Nat} : ∀ n, lbW A N n ≤ n - 1
  | 0 => Nat.le_refl _
  | n + 1 => by
    have := lbW_le (A := A) (N := N) n
    show (if n = 0 then 0 else if lwt A N (lbW A N n) < lwt A N n then n else lbW A N n) ≤ n + 1 - 1
    (repeat' split) <;> omega
theorem lf1_le {A : Ab} (ok : OK A) {N : Nat} (hN : N ≤ 6) (c : Nat) : lf1 A N c ≤ 36 := by
  have h : lf1 A N c ≤ 6 * A 0 1 := sm_le (fun p _ => Nat.le_trans (cn_le _ _ _) hN)
  have := ok.1
  omega
theorem lf2_le {A : Ab} {N : Nat} (c : Nat) : lf2 A N c ≤ 20 := mn_le _
theorem cF_all : ∀ W : Fin 9, ∀ c : Fin 256, c.1 < 2 ^ W.1 → (2 ^ W.1 - 1) &&& nt c.1 = 2 ^ W.1 - 1 - c.1 := by decide +kernel
section LE
variable {E : EE} {σ : Mm} {A : Ab}
/-- the rows of one way: h = 0 stands, h = 1 sits -/
def La (σ : Mm) (A : Ab) (N h : Nat) : Prop := ∀ p, p < A 0 1 → σ (51 + h) p = nI (cn (A 2 p) h N) ∧ σ (54 + h) p = nI (wn (A 2 p) h N)
theorem p_lookAhead0 {N : Nat} {Q : Mm → Prop} (ok : OK A) (hA : HC 14 σ A) (hN : N ≤ 6) (hQ : ∀ τ, Fr [51, 54] σ τ → La τ A N 0 → Q τ) : r_X5_lookAhead_0 E (nI N) 0 σ Q := by
  have o1 := ok.1
  have hL : ∀ k ∈ [51, 54], k < 14 ∨ 14 + 9 < k := by decide
  have l1 : ∀ i, i ≤ A 0 1 → ∀ τ, Fr [51, 54] σ τ → (∀ p, p < i → τ 51 p = nI (cn (A 2 p) 0 N) ∧ τ 54 p = nI (wn (A 2 p) 0 N)) → r_X5_lookAhead_3 E (nI N) 0 (nI i) τ Q := by
    refine up_to (P := fun i => ∀ τ, Fr [51, 54] σ τ → (∀ p, p < i → τ 51 p = nI (cn (A 2 p) 0 N) ∧ τ 54 p = nI (wn (A 2 p) 0 N)) → r_X5_lookAhead_3 E (nI N) 0 (nI i) τ Q) (A 0 1) ?_ ?_
    · intro τ hf h1
      exact s_X5_lookAhead_3 _ _ _ _ _ _ (fe ((hA.fr hf hL).1 1 (by decide)) (Nat.le_refl _) (by omega) (hQ τ hf h1))
    · intro i hi ih τ hf h1
      have hA' := hA.fr hf hL
      have v6 : vp_in (nI i) 6 := vp_in_nI (by omega) (by omega)
      have b2 := (ok.2.2.2.2.2.2.1 i hi).2.1
      have l2 : ∀ d, d ≤ N → r_X5_lookAhead_27 E (nI N) 0 (nI i) (nI (wn (A 2 i) 0 d)) (nI (cn (A 2 i) 0 d)) (nI d) τ Q := by
        refine up_to N ?_ ?_
        · refine s_X5_lookAhead_27 _ _ _ _ _ _ _ _ _ (fe rfl (Nat.le_refl _) (by omega) ?_)
          have fin : r_X5_lookAhead_3 E (nI N) 0 (nI i + 1) (up (up τ 51 (nI i).toNatClampNeg (nI (cn (A 2 i) 0 N))) 54 (nI i).toNatClampNeg (nI (wn (A 2 i) 0 N))) Q := by
            rw [nI_1, nI_clamp (by omega)]
            refine ih _ ((hf.tr (Fr.up (by decide))).tr (Fr.up (by decide))) (fun p hp => ?_)
            rw [up_ne (a := 51) (by decide), up_eq, up_eq, up_ne (a := 54) (by decide)]
            by_cases e : p = i
            · subst e; rw [upd_eq, upd_eq]; exact ⟨rfl, rfl⟩
            · rw [upd_ne e, upd_ne e]; exact h1 p (by omega)
          refine ⟨fun q => ?_, fun q => ?_, by decide⟩
          · first
              | exact absurd q (by decide)
              | exact ⟨v6, fun _ => ⟨v6, fin⟩, fun z => absurd z (by decide), by decide⟩
          · first
              | exact absurd q (by decide)
              | exact ⟨v6, fun z => absurd z (by decide), fun _ => ⟨v6, fin⟩, by decide⟩
        · intro d hd ihd
          have wl := wn_le (s := 0) b2 d
          have e1 : wn (A 2 i) 0 (d + 1) = nw (wn (A 2 i) 0 d) 0 := rfl
          have e2 : cn (A 2 i) 0 (d + 1) = cn (A 2 i) 0 d + fz (wn (A 2 i) 0 d) 0 := rfl
          rw [e1, e2] at ihd
          have nl := nw_le (s := 0) wl
          have fin : (¬ nI (nw (wn (A 2 i) 0 d) 0) = 0 → r_X5_lookAhead_27 E (nI N) 0 (nI i) (nI (nw (wn (A 2 i) 0 d) 0)) (nI (cn (A 2 i) 0 d)) (nI d + 1) τ Q) ∧ (nI (nw (wn (A 2 i) 0 d) 0) = 0 → r_X5_lookAhead_27 E (nI N) 0 (nI i) (nI (nw (wn (A 2 i) 0 d) 0)) (nI (cn (A 2 i) 0 d) + 1) (nI d + 1) τ Q) := by
            rw [nI_1, nI_1]
            refine tne (b := 0) (by omega) (by omega) (fun c => ?_) (fun c => ?_)
            · rw [show fz (wn (A 2 i) 0 d) 0 = 0 by unfold fz; rw [if_neg c]] at ihd; exact ihd
            · rw [show fz (wn (A 2 i) 0 d) 0 = 1 by unfold fz; rw [if_pos c]] at ihd; exact ihd
          refine s_X5_lookAhead_27 _ _ _ _ _ _ _ _ _ (fs rfl hd (by omega) ⟨fun q => ?_, fun q => ?_⟩)
          · first
              | exact absurd (by decide) q
              | exact p_nextWarm (s := 0) wl (by decide) fin
          · first
              | exact absurd q (by decide)
              | exact p_nextWarm (s := 0) wl (by decide) fin
      refine s_X5_lookAhead_3 _ _ _ _ _ _ (fs (hA'.1 1 (by decide)) hi (by omega) ⟨v6, ?_⟩)
      rw [nI_clamp (by omega), show τ 16 i = nI (A 2 i) from (hA'.2.1 i hi).2.1]
      exact l2 0 (Nat.zero_le _)
  exact s_X5_lookAhead_0 _ _ _ _ _ (l1 0 (Nat.zero_le _) σ Fr.rf (fun p hp => by omega))
theorem p_lookAhead1 {N : Nat} {Q : Mm → Prop} (ok : OK A) (hA : HC 14 σ A) (hN : N ≤ 6) (hQ : ∀ τ, Fr [52, 55] σ τ → La τ A N 1 → Q τ) : r_X5_lookAhead_0 E (nI N) 1 σ Q := by
  have o1 := ok.1
  have hL : ∀ k ∈ [52, 55], k < 14 ∨ 14 + 9 < k := by decide
  have l1 : ∀ i, i ≤ A 0 1 → ∀ τ, Fr [52, 55] σ τ → (∀ p, p < i → τ 52 p = nI (cn (A 2 p) 1 N) ∧ τ 55 p = nI (wn (A 2 p) 1 N)) → r_X5_lookAhead_3 E (nI N) 1 (nI i) τ Q := by
    refine up_to (P := fun i => ∀ τ, Fr [52, 55] σ τ → (∀ p, p < i → τ 52 p = nI (cn (A 2 p) 1 N) ∧ τ 55 p = nI (wn (A 2 p) 1 N)) → r_X5_lookAhead_3 E (nI N) 1 (nI i) τ Q) (A 0 1) ?_ ?_
    · intro τ hf h1
      exact s_X5_lookAhead_3 _ _ _ _ _ _ (fe ((hA.fr hf hL).1 1 (by decide)) (Nat.le_refl _) (by omega) (hQ τ hf h1))
    · intro i hi ih τ hf h1
      have hA' := hA.fr hf hL
      have v6 : vp_in (nI i) 6 := vp_in_nI (by omega) (by omega)
      have b2 := (ok.2.2.2.2.2.2.1 i hi).2.1
      have l2 : ∀ d, d ≤ N → r_X5_lookAhead_27 E (nI N) 1 (nI i) (nI (wn (A 2 i) 1 d)) (nI (cn (A 2 i) 1 d)) (nI d) τ Q := by
        refine up_to N ?_ ?_
        · refine s_X5_lookAhead_27 _ _ _ _ _ _ _ _ _ (fe rfl (Nat.le_refl _) (by omega) ?_)
          have fin : r_X5_lookAhead_3 E (nI N) 1 (nI i + 1) (up (up τ 52 (nI i).toNatClampNeg (nI (cn (A 2 i) 1 N))) 55 (nI i).toNatClampNeg (nI (wn (A 2 i) 1 N))) Q := by
            rw [nI_1, nI_clamp (by omega)]
            refine ih _ ((hf.tr (Fr.up (by decide))).tr (Fr.up (by decide))) (fun p hp => ?_)
            rw [up_ne (a := 52) (by decide), up_eq, up_eq, up_ne (a := 55) (by decide)]
            by_cases e : p = i
            · subst e; rw [upd_eq, upd_eq]; exact ⟨rfl, rfl⟩
            · rw [upd_ne e, upd_ne e]; exact h1 p (by omega)
          refine ⟨fun q => ?_, fun q => ?_, by decide⟩
          · first
              | exact absurd q (by decide)
              | exact ⟨v6, fun _ => ⟨v6, fin⟩, fun z => absurd z (by decide), by decide⟩
          · first
              | exact absurd q (by decide)
              | exact ⟨v6, fun z => absurd z (by decide), fun _ => ⟨v6, fin⟩, by decide⟩
        · intro d hd ihd
          have wl := wn_le (s := 1) b2 d
          have e1 : wn (A 2 i) 1 (d + 1) = nw (wn (A 2 i) 1 d) 1 := rfl
          have e2 : cn (A 2 i) 1 (d + 1) = cn (A 2 i) 1 d + fz (wn (A 2 i) 1 d) 1 := rfl
          rw [e1, e2] at ihd
          have nl := nw_le (s := 1) wl
          have fin : (¬ nI (nw (wn (A 2 i) 1 d) 1) = 0 → r_X5_lookAhead_27 E (nI N) 1 (nI i) (nI (nw (wn (A 2 i) 1 d) 1)) (nI (cn (A 2 i) 1 d)) (nI d + 1) τ Q) ∧ (nI (nw (wn (A 2 i) 1 d) 1) = 0 → r_X5_lookAhead_27 E (nI N) 1 (nI i) (nI (nw (wn (A 2 i) 1 d) 1)) (nI (cn (A 2 i) 1 d) + 1) (nI d + 1) τ Q) := by
            rw [nI_1, nI_1]
            refine tne (b := 0) (by omega) (by omega) (fun c => ?_) (fun c => ?_)
            · rw [show fz (wn (A 2 i) 1 d) 1 = 0 by unfold fz; rw [if_neg c]] at ihd; exact ihd
            · rw [show fz (wn (A 2 i) 1 d) 1 = 1 by unfold fz; rw [if_pos c]] at ihd; exact ihd
          refine s_X5_lookAhead_27 _ _ _ _ _ _ _ _ _ (fs rfl hd (by omega) ⟨fun q => ?_, fun q => ?_⟩)
          · first
              | exact absurd (by decide) q
              | exact p_nextWarm (s := 1) wl (by decide) fin
          · first
              | exact absurd q (by decide)
              | exact p_nextWarm (s := 1) wl (by decide) fin
      refine s_X5_lookAhead_3 _ _ _ _ _ _ (fs (hA'.1 1 (by decide)) hi (by omega) ⟨v6, ?_⟩)
      rw [nI_clamp (by omega), show τ 16 i = nI (A 2 i) from (hA'.2.1 i hi).2.1]
      exact l2 0 (Nat.zero_le _)
  exact s_X5_lookAhead_0 _ _ _ _ _ (l1 0 (Nat.zero_le _) σ Fr.rf (fun p hp => by omega))
/-- the best so far, as the class keeps it -/
def Lv (σ : Mm) (A : Ab) (N c : Nat) : Prop := σ 49 2 = nI (lf1 A N c) ∧ σ 49 3 = nI (lf2 A N c) ∧ σ 49 4 = nI c
theorem p_weigh {N c : Nat} {b : Nat} {Q : Mm → Prop} (ok : OK A) (hN : N ≤ 6) (hc : c < 256) (hb : b < 256) (h0 : La σ A N 0) (h1 : La σ A N 1) (hv : c = 0 ∨ Lv σ A N b) (hbc : c = 0 → b = 0)
    (hQ : ∀ τ, Fr [49] σ τ → Lv τ A N (if c = 0 then 0 else if lwt A N b < lwt A N c then c else b) → Q τ) : r_X5_weigh_0 E (nI (A 0 1)) (nI (sB A (cF A c) (A 0 0))) (nI c) σ Q := by
  have o1 := ok.1
  have sl := sB_lt ok (cF A c) (A 0 0)
  have key : ∀ i, i ≤ A 0 1 → r_X5_weigh_10 E (nI (A 0 1)) (nI (sB A (cF A c) (A 0 0))) (nI c) (nI (sm (fun p => cn (A 2 p) (ss A c p) N) i)) (nI (mn (fun p => wn (A 2 p) (ss A c p) N) 20 i)) (nI i) σ Q := by
    refine up_to (A 0 1) ?_ ?_
    · refine s_X5_weigh_10 _ _ _ _ _ _ _ _ _ (fe rfl (Nat.le_refl _) (by omega) ?_)
      rw [show sm (fun p => cn (A 2 p) (ss A c p) N) (A 0 1) = lf1 A N c from rfl, show mn (fun p => wn (A 2 p) (ss A c p) N) 20 (A 0 1) = lf2 A N c from rfl]
      have put : ∀ τ, Fr [49] σ τ → Lv (up (up (up τ 49 2 (nI (lf1 A N c))) 49 3 (nI (lf2 A N c))) 49 4 (nI c)) A N c ∧ Fr [49] σ (up (up (up τ 49 2 (nI (lf1 A N c))) 49 3 (nI (lf2 A N c))) 49 4 (nI c)) := by
        intro τ hf
        refine ⟨⟨?_, ?_, ?_⟩, ((hf.tr (Fr.up (by decide))).tr (Fr.up (by decide))).tr (Fr.up (by decide))⟩
        · rw [up_eq, up_eq, up_eq, upd_ne (by decide), upd_ne (by decide), upd_eq]
        · rw [up_eq, up_eq, upd_ne (by decide), upd_eq]
        · rw [up_eq, upd_eq]
      refine teq (b := 0) (by omega) (by omega) (fun q => ?_) (fun q => ?_)
      · obtain ⟨z1, z2⟩ := put σ Fr.rf
        refine hQ _ z2 ?_
        rw [if_pos q]
        rw [q] at z1 ⊢
        exact z1
      · rcases hv with hv | hv
        · exact absurd hv q
        · have f1 := lf1_le ok hN c
          have f2 := lf1_le ok hN b
          have m1 := lf2_le (A := A) (N := N) c
          have m2 := lf2_le (A := A) (N := N) b
          have p1 := po_le hc
          have p2 := po_le hb
          have yes : lwt A N b < lwt A N c → (∀ τ, Fr [49] σ τ → ((1 : Int32) = 0 → Q τ) ∧ (¬ (1 : Int32) = 0 → Q (up (up (up τ 49 2 (nI (lf1 A N c))) 49 3 (nI (lf2 A N c))) 49 4 (nI c)))) := by
            intro hl τ hf
            refine ⟨fun z => absurd z (by decide), fun _ => ?_⟩
            obtain ⟨z1, z2⟩ := put τ hf
            refine hQ _ z2 ?_
            rw [if_neg q, if_pos hl]
            exact z1
          have no : ¬ lwt A N b < lwt A N c → (((0 : Int32) = 0 → Q σ) ∧ (¬ (0 : Int32) = 0 → Q (up (up (up σ 49 2 (nI (lf1 A N c))) 49 3 (nI (lf2 A N c))) 49 4 (nI c)))) := by
            intro hl
            refine ⟨fun _ => hQ σ Fr.rf ?_, fun z => absurd rfl z⟩
            rw [if_neg q, if_neg hl]
            exact hv
          refine s_X5_isBetter_0 _ _ _ _ _ _ ?_
          rw [hv.1, hv.2.1]
          unfold lwt at yes no
          refine teq (by omega) (by omega) (fun c1 => teq (by omega) (by omega) (fun c2 => p_bc hc ?_) (fun c2 => tle (by omega) (by omega) (fun c3 => no (by omega)) (fun c3 => yes (by omega) σ Fr.rf))) (fun c1 => tle (by omega) (by omega) (fun c3 => no (by omega)) (fun c3 => yes (by omega) σ Fr.rf))
          rw [hv.2.2]
          exact p_bc hb (tle (by omega) (by omega) (fun c3 => no (by omega)) (fun c3 => yes (by omega) σ Fr.rf))
    · intro i hi ih
      have v6 : vp_in (nI i) 6 := vp_in_nI (by omega) (by omega)
      refine s_X5_weigh_10 _ _ _ _ _ _ _ _ _ (fs rfl hi (by omega) (p_hasBit (by omega) (by omega) ?_))
      rw [bt_sB hi, nI_clamp (by omega), show σ 51 i = nI (cn (A 2 i) 0 N) from (h0 i hi).1, show σ 54 i = nI (wn (A 2 i) 0 N) from (h0 i hi).2, show σ 52 i = nI (cn (A 2 i) 1 N) from (h1 i hi).1, show σ 55 i = nI (wn (A 2 i) 1 N) from (h1 i hi).2, nI_1, nI_add, nI_add]
      have e1 : sm (fun p => cn (A 2 p) (ss A c p) N) (i + 1) = sm (fun p => cn (A 2 p) (ss A c p) N) i + cn (A 2 i) (ss A c i) N := rfl
      have e2 : mn (fun p => wn (A 2 p) (ss A c p) N) 20 (i + 1) = if wn (A 2 i) (ss A c i) N < mn (fun p => wn (A 2 p) (ss A c p) N) 20 i then wn (A 2 i) (ss A c i) N else mn (fun p => wn (A 2 p) (ss A c p) N) 20 i := rfl
      have ml := mn_le (f := fun p => wn (A 2 p) (ss A c p) N) (a := 20) i
      have b2 := (ok.2.2.2.2.2.2.1 i hi).2.1
      have mI : ∀ x : Nat, x ≤ 20 → (if nI x < nI (mn (fun p => wn (A 2 p) (ss A c p) N) 20 i) then nI x else nI (mn (fun p => wn (A 2 p) (ss A c p) N) 20 i)) = nI (if x < mn (fun p => wn (A 2 p) (ss A c p) N) 20 i then x else mn (fun p => wn (A 2 p) (ss A c p) N) 20 i) := by
        intro x hx
        by_cases q : x < mn (fun p => wn (A 2 p) (ss A c p) N) 20 i
        · rw [if_pos q, if_pos (nI_lt q (by omega))]
        · rw [if_neg q, if_neg (nI_nlt (by omega) (by omega))]
      rw [e1, e2] at ih
      have sle := st_le A (cF A c) (A 0 0) i
      refine teq (b := 0) (by omega) (by omega) (fun q => ⟨v6, v6, ?_⟩) (fun q => ⟨v6, v6, ?_⟩)
      · rw [show ss A c i = 0 from q] at ih
        rw [mI _ (wn_le b2 N)]
        exact ih
      · rw [show ss A c i = 1 from by unfold ss; omega] at ih
        rw [mI _ (wn_le b2 N)]
        exact ih
  exact s_X5_weigh_0 _ _ _ _ _ _ (key 0 (Nat.zero_le _))
theorem p_choose {N : Nat} {Q : Mm → Prop} (ok : OK A) (hA : HC 14 σ A) (hN : N ≤ 6) (hQ : ∀ τ, Fr [44, 45, 46, 49, 51, 52, 54, 55] σ τ → Lv τ A N (lb A N) → Q τ) : r_X5_choose_0 E (nI N) σ Q := by
  have o2 := ok.2.1
  have o3 := ok.2.2.1
  have hL : ∀ k ∈ [44, 45, 46, 49, 51, 52, 54, 55], k < 14 ∨ 14 + 9 < k := by decide
  have hpow : 2 ^ A 0 2 ≤ 2 ^ 8 := Nat.pow_le_pow_right (by decide) o2
  have hp0 := Nat.two_pow_pos (A 0 2)
  have key : ∀ i, i ≤ 2 ^ A 0 2 → ∀ τ, Fr [44, 45, 46, 49, 51, 52, 54, 55] σ τ → La τ A N 0 → La τ A N 1 → (i = 0 ∨ Lv τ A N (lbW A N i)) → r_X5_choose_27 E (nI N) (nI (2 ^ A 0 2 - 1)) (nI i) τ Q := by
    refine up_to (P := fun i => ∀ τ, Fr [44, 45, 46, 49, 51, 52, 54, 55] σ τ → La τ A N 0 → La τ A N 1 → (i = 0 ∨ Lv τ A N (lbW A N i)) → r_X5_choose_27 E (nI N) (nI (2 ^ A 0 2 - 1)) (nI i) τ Q) (2 ^ A 0 2) ?_ ?_
    · intro τ hf h0 h1 h2
      refine s_X5_choose_27 _ _ _ _ _ _ (tlt (by omega) (by omega) (fun _ => hQ τ hf ?_) (fun c => by omega))
      rcases h2 with h2 | h2
      · omega
      · exact h2
    · intro i hi ih τ hf h0 h1 h2
      have hA' := hA.fr hf hL
      refine s_X5_choose_27 _ _ _ _ _ _ (tlt (by omega) (by omega) (fun c => by omega) (fun _ => ?_))
      rw [notI, andI, cF_all ⟨A 0 2, by omega⟩ ⟨i, by omega⟩ hi]
      refine p_fill14 (F := cF A i) ok hA' (by unfold cF; omega) (fun ρ g1 g2 g3 => ?_)
      have hA2 := hA'.fr g1 (by decide)
      rw [show ρ 14 0 = nI (A 0 0) from hA2.1 0 (by decide), show ρ 14 1 = nI (A 0 1) from hA2.1 1 (by decide)]
      refine p_sitters ok ⟨g2, g3⟩ o3 ?_
      have hb : lbW A N i < 256 := by have := lbW_le (A := A) (N := N) i; omega
      have la : ∀ h, La τ A N h → h ≤ 1 → La ρ A N h := fun h hh hl p hp => by
        rw [g1 (51 + h) (fun z => by simp only [List.mem_cons, List.not_mem_nil, or_false] at z; omega), g1 (54 + h) (fun z => by simp only [List.mem_cons, List.not_mem_nil, or_false] at z; omega)]
        exact hh p hp
      refine p_weigh (b := lbW A N i) ok hN (by omega) hb (la 0 h0 (by omega)) (la 1 h1 (by omega)) ?_ (fun z => by rw [z]; rfl) (fun ζ z1 z2 => ?_)
      · rcases h2 with h2 | h2
        · exact Or.inl h2
        · refine Or.inr ?_
          unfold Lv
          rw [g1 49 (by decide)]
          exact h2
      · rw [nI_1]
        have lz : ∀ h, La ρ A N h → h ≤ 1 → La ζ A N h := fun h hh hl p hp => by
          rw [z1 (51 + h) (fun z => by simp only [List.mem_cons, List.not_mem_nil, or_false] at z; omega), z1 (54 + h) (fun z => by simp only [List.mem_cons, List.not_mem_nil, or_false] at z; omega)]
          exact hh p hp
        exact ih ζ ((hf.tr (g1.wk (by decide))).tr (z1.wk (by decide))) (lz 0 (la 0 h0 (by omega)) (by omega)) (lz 1 (la 1 h1 (by omega)) (by omega)) (Or.inr z2)
  refine s_X5_choose_0 _ _ _ _ (p_lookAhead0 ok hA hN (fun τ1 a1 a2 => ?_))
  have hA1 := hA.fr a1 (by decide)
  refine p_lookAhead1 ok hA1 hN (fun τ2 b1 b2 => ?_)
  have hA2 := hA1.fr b1 (by decide)
  rw [show τ2 14 2 = nI (A 0 2) from hA2.1 2 (by decide), shlI (by omega), show (1 : Int32) = nI 1 from rfl, pk_sub hp0]
  refine key 0 (Nat.zero_le _) τ2 ((a1.wk (by decide)).tr (b1.wk (by decide))) (fun p hp => ?_) b2 (Or.inl rfl)
  rw [b1 (51 + 0) (by decide), b1 (54 + 0) (by decide)]
  exact a2 p hp
end LE
