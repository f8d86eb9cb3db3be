/-! the start: what the tables give, the first memory, the law from its entry -/
def s79 : Mm := fun k j => if k = 63 ∧ j = 23 then -1 else if k = 56 ∧ j = 3 then 1 else 0
def wf (E : EE) (B : Nat) (ω : OW) : OW := w_X10_63 E B (wo (w_X9_0 E B (wo ω 0 (.inr (9, fs_X9)))) 63 (.inr (10, fs_X10)))
set_option maxRecDepth 100000 in
set_option maxHeartbeats 4000000 in
theorem wf_ce (E : EE) (B : Nat) (ω : OW) (hA : Ad E = fun k => B + k) : ∀ k, k < 79 → ce E k (s79 k) = wf E B ω k := by
  obtain ⟨l, A, r⟩ := E
  have hA : A = fun k => B + k := hA
  subst hA
  intro k hk
  rcases (show k = 0 ∨ k = 1 ∨ k = 2 ∨ k = 3 ∨ k = 4 ∨ k = 5 ∨ k = 6 ∨ k = 7 ∨ k = 8 ∨ k = 9 ∨ k = 10 ∨ k = 11 ∨ k = 12 ∨ k = 13 ∨ k = 14 ∨ k = 15 ∨ k = 16 ∨ k = 17 ∨ k = 18 ∨ k = 19 ∨ k = 20 ∨ k = 21 ∨ k = 22 ∨ k = 23 ∨ k = 24 ∨ k = 25 ∨ k = 26 ∨ k = 27 ∨ k = 28 ∨ k = 29 ∨ k = 30 ∨ k = 31 ∨ k = 32 ∨ k = 33 ∨ k = 34 ∨ k = 35 ∨ k = 36 ∨ k = 37 ∨ k = 38 ∨ k = 39 ∨ k = 40 ∨ k = 41 ∨ k = 42 ∨ k = 43 ∨ k = 44 ∨ k = 45 ∨ k = 46 ∨ k = 47 ∨ k = 48 ∨ k = 49 ∨ k = 50 ∨ k = 51 ∨ k = 52 ∨ k = 53 ∨ k = 54 ∨ k = 55 ∨ k = 56 ∨ k = 57 ∨ k = 58 ∨ k = 59 ∨ k = 60 ∨ k = 61 ∨ k = 62 ∨ k = 63 ∨ k = 64 ∨ k = 65 ∨ k = 66 ∨ k = 67 ∨ k = 68 ∨ k = 69 ∨ k = 70 ∨ k = 71 ∨ k = 72 ∨ k = 73 ∨ k = 74 ∨ k = 75 ∨ k = 76 ∨ k = 77 ∨ k = 78 by omega) with rfl | rfl | rfl | rfl | rfl | rfl | rfl | rfl | rfl | rfl | rfl | rfl | rfl | rfl | rfl | rfl | rfl | rfl | rfl | rfl | rfl | rfl | rfl | rfl | rfl | rfl | rfl | rfl | rfl | rfl | rfl | rfl | rfl | rfl | rfl | rfl | rfl | rfl | rfl | rfl | rfl | rfl | rfl | rfl | rfl | rfl | rfl | rfl | rfl | rfl | rfl | rfl | rfl | rfl | rfl | rfl | rfl | rfl | rfl | rfl | rfl | rfl | rfl | rfl | rfl | rfl | rfl | rfl | rfl | rfl | rfl | rfl | rfl | rfl | rfl | rfl | rfl | rfl | rfl
  · rfl
  · rfl
  · rfl
  · rfl
  · rfl
  · rfl
  · rfl
  · rfl
  · rfl
  · rfl
  · rfl
  · rfl
  · rfl
  · rfl
  · rfl
  · rfl
  · rfl
  · rfl
  · rfl
  · rfl
  · rfl
  · rfl
  · rfl
  · rfl
  · rfl
  · rfl
  · rfl
  · rfl
  · rfl
  · rfl
  · rfl
  · rfl
  · rfl
  · rfl
  · rfl
  · rfl
  · rfl
  · rfl
  · rfl
  · rfl
  · rfl
  · rfl
  · rfl
  · rfl
  · rfl
  · rfl
  · rfl
  · rfl
  · rfl
  · rfl
  · have e : (fun i => if i < 2 then some (B + (rf 50 i)) else none) = (fun i => if i < 2 then some (B + 50 + 1 + i) else none) := by
      funext i
      by_cases h : i < 2
      · rw [if_pos h, if_pos h]
        rcases (show i = 0 ∨ i = 1 by omega) with rfl | rfl <;> rfl
      · rw [if_neg h, if_neg h]
    exact congrArg (fun z => (Sum.inl (cII (l, (fun k => B + k), r), 2, .inr (.inr (.inr (.inr z)))) : va_E)) e
  · rfl
  · rfl
  · have e : (fun i => if i < 2 then some (B + (rf 53 i)) else none) = (fun i => if i < 2 then some (B + 53 + 1 + i) else none) := by
      funext i
      by_cases h : i < 2
      · rw [if_pos h, if_pos h]
        rcases (show i = 0 ∨ i = 1 by omega) with rfl | rfl <;> rfl
      · rw [if_neg h, if_neg h]
    exact congrArg (fun z => (Sum.inl (cII (l, (fun k => B + k), r), 2, .inr (.inr (.inr (.inr z)))) : va_E)) e
  · rfl
  · rfl
  · rfl
  · rfl
  · rfl
  · rfl
  · rfl
  · rfl
  · rfl
  · rfl
  · rfl
  · rfl
  · rfl
  · rfl
  · rfl
  · rfl
  · rfl
  · rfl
  · rfl
  · rfl
  · rfl
  · rfl
  · rfl
  · rfl
  · rfl
theorem iv_start : Iv s79 0 := by
  refine ⟨fun _ _ => 0, fun _ => 0, 0, 0, 0, fun _ _ => 0, 0, ⟨⟨by decide, by decide, by decide, by decide, by decide, by decide, fun p hp => absurd hp (Nat.not_lt_zero _), fun p hp => absurd hp (Nat.not_lt_zero _), fun p hp => absurd hp (Nat.not_lt_zero _)⟩, by decide, fun z => absurd z (by decide), ⟨by decide, fun p hp => absurd hp (Nat.not_lt_zero _)⟩, by decide, by decide, by decide, fun z => absurd z (by decide), by decide⟩, ?_, ?_⟩
  · refine ⟨⟨fun j hj => ?_, fun p hp => absurd hp (Nat.not_lt_zero _), fun p hp => absurd hp (Nat.not_lt_zero _), fun p hp => absurd hp (Nat.not_lt_zero _)⟩, ⟨rfl, fun p hp => absurd hp (Nat.not_lt_zero _)⟩, rfl, rfl, rfl, fun z => absurd z (by decide)⟩
    rcases (show j = 0 ∨ j = 1 ∨ j = 2 ∨ j = 3 ∨ j = 4 ∨ j = 5 by omega) with rfl | rfl | rfl | rfl | rfl | rfl <;> rfl
  · exact ⟨⟨⟨rfl, rfl, rfl, rfl, rfl, rfl⟩, fun p hp => absurd hp (Nat.not_lt_zero _), fun p hp => absurd hp (Nat.not_lt_zero _), fun p hp => absurd hp (Nat.not_lt_zero _)⟩, ⟨rfl, fun p hp => absurd hp (Nat.not_lt_zero _)⟩, rfl, rfl, Or.inl ⟨rfl, Or.inl rfl⟩⟩
theorem ns_tbl : ∀ q ∈ NS, Cond.methodLinkNest q.1 q.2.1 q.2.2.1 q.2.2.2 ∈ lw_tbl := by
  exact List.forall_mem_cons.mpr ⟨List.mem_of_getElem? (i := 82) (by decide +kernel), List.forall_mem_cons.mpr ⟨List.mem_of_getElem? (i := 100) (by decide +kernel), List.forall_mem_cons.mpr ⟨List.mem_of_getElem? (i := 106) (by decide +kernel), List.forall_mem_cons.mpr ⟨List.mem_of_getElem? (i := 215) (by decide +kernel), List.forall_mem_cons.mpr ⟨List.mem_of_getElem? (i := 218) (by decide +kernel), List.forall_mem_cons.mpr ⟨List.mem_of_getElem? (i := 235) (by decide +kernel), List.forall_mem_cons.mpr ⟨List.mem_of_getElem? (i := 249) (by decide +kernel), List.forall_mem_cons.mpr ⟨List.mem_of_getElem? (i := 276) (by decide +kernel), List.forall_mem_cons.mpr ⟨List.mem_of_getElem? (i := 295) (by decide +kernel), List.forall_mem_cons.mpr ⟨List.mem_of_getElem? (i := 309) (by decide +kernel), List.forall_mem_cons.mpr ⟨List.mem_of_getElem? (i := 393) (by decide +kernel), List.forall_mem_cons.mpr ⟨List.mem_of_getElem? (i := 400) (by decide +kernel), List.forall_mem_cons.mpr ⟨List.mem_of_getElem? (i := 548) (by decide +kernel), List.forall_mem_cons.mpr ⟨List.mem_of_getElem? (i := 572) (by decide +kernel), List.forall_mem_cons.mpr ⟨List.mem_of_getElem? (i := 595) (by decide +kernel), List.forall_mem_cons.mpr ⟨List.mem_of_getElem? (i := 614) (by decide +kernel), List.forall_mem_cons.mpr ⟨List.mem_of_getElem? (i := 646) (by decide +kernel), List.forall_mem_cons.mpr ⟨List.mem_of_getElem? (i := 680) (by decide +kernel), List.forall_mem_cons.mpr ⟨List.mem_of_getElem? (i := 687) (by decide +kernel), List.forall_mem_cons.mpr ⟨List.mem_of_getElem? (i := 736) (by decide +kernel), fun _ h => absurd h List.not_mem_nil⟩⟩⟩⟩⟩⟩⟩⟩⟩⟩⟩⟩⟩⟩⟩⟩⟩⟩⟩⟩
theorem k_start {s : State} {b : Nat} (l : Launch) (hts0 : ∀ w ∈ lw_tbl, w.before #[Value.ref b] s = true) (hgv : (Jvm.Cond.and given_1 narrow_1).before #[Value.ref b] s = true) : ∃ E : EE, eL E = l ∧ Ad E = (fun k => s.heap.size + k) ∧ Fx E s s.heap ∧ Fk E s := by
  have hts : ∀ w ∈ TB, w.before #[Value.ref b] s = true := fun w hw => hts0 w (List.mem_filter.mp hw).1
  have hs := flat_of_before _ hgv
  obtain ⟨c0, i0, hKn0⟩ := u_known (C := RX0) (T := TX0) (N := 3) (n := 3) hts kW_X0 (hts _ kI_X0)
  obtain ⟨c1, i1, hKn1⟩ := u_known (C := RX1) (T := TX1) (N := 4) (n := 4) hts kW_X1 (hts _ kI_X1)
  obtain ⟨c2, i2, hKn2⟩ := u_known (C := RX2) (T := TX2) (N := 15) (n := 15) hts kW_X2 (hts _ kI_X2)
  obtain ⟨c3, i3, hKn3⟩ := u_known (C := RX3) (T := TX3) (N := 2) (n := 2) hts kW_X3 (hts _ kI_X3)
  obtain ⟨c4, i4, hKn4⟩ := u_known (C := RX4) (T := TX4) (N := 2) (n := 2) hts kW_X4 (hts _ kI_X4)
  obtain ⟨c5, i5, hKn5⟩ := u_known (C := RX5) (T := TX5) (N := 5) (n := 5) hts kW_X5 (hts _ kI_X5)
  obtain ⟨c6, i6, hKn6⟩ := u_known (C := RX6) (T := TX6) (N := 2) (n := 2) hts kW_X6 (hts _ kI_X6)
  obtain ⟨c7, i7, hKn7⟩ := u_known (C := RX7) (T := TX7) (N := 2) (n := 2) hts kW_X7 (hts _ kI_X7)
  obtain ⟨c8, i8, hKn8⟩ := u_known (C := RX8) (T := TX8) (N := 2) (n := 2) hts kW_X8 (hts _ kI_X8)
  obtain ⟨c9, i9, hKn9⟩ := u_known (C := RX9) (T := TX9) (N := 14) (n := 14) hts kW_X9 (hts _ kI_X9)
  obtain ⟨c10, i10, hKn10⟩ := u_known (C := RX10) (T := TX10) (N := 34) (n := 34) hts kW_X10 (hts _ kI_X10)
  obtain ⟨dC, dI, hKc⟩ : ∃ (dC : Nat → ClassId) (dI : Nat → Nat → Nat), ∀ (k : Nat) (q : vw_C), vwCl[k]? = some q → u_Kn s q.1 q.2.1 q.2.2 (dC k) (dI k) := by
    refine ⟨fun k => match k with | 0 => c0 | 1 => c1 | 2 => c2 | 3 => c3 | 4 => c4 | 5 => c5 | 6 => c6 | 7 => c7 | 8 => c8 | 9 => c9 | _ => c10, fun k => match k with | 0 => i0 | 1 => i1 | 2 => i2 | 3 => i3 | 4 => i4 | 5 => i5 | 6 => i6 | 7 => i7 | 8 => i8 | 9 => i9 | _ => i10, ?_⟩
    intro k q hq
    match k, hq with
    | 0, hq => cases hq; exact hKn0
    | 1, hq => cases hq; exact hKn1
    | 2, hq => cases hq; exact hKn2
    | 3, hq => cases hq; exact hKn3
    | 4, hq => cases hq; exact hKn4
    | 5, hq => cases hq; exact hKn5
    | 6, hq => cases hq; exact hKn6
    | 7, hq => cases hq; exact hKn7
    | 8, hq => cases hq; exact hKn8
    | 9, hq => cases hq; exact hKn9
    | 10, hq => cases hq; exact hKn10
    | k + 11, hq => simp [vwCl] at hq
  have har : ∀ ty : FieldType, (Cond.arrayClass ty).before #[Value.ref b] s = true → ∃ cA : ClassId, ArrOfT s cA ty ∧ s.vm.findClass ("[" ++ ty.toString) = some cA := by
    intro ty h
    obtain ⟨cA, k, comp, h1, h2, h3⟩ := Cond.arrayClass_spec h
    exact ⟨cA, fun N z => ⟨(fun q hq => by cases hq), k, h2, comp, h3⟩, h1⟩
  obtain ⟨ci, ai, ni⟩ := har .int (hts _ kA_int)
  obtain ⟨cz, az, nz⟩ := har .boolean (hts _ kA_bool)
  have hao : (Cond.arrayOver (.array .int)).before #[Value.ref b] s = true := hts0 _ (List.mem_of_getElem? (i := 254) (by decide +kernel))
  obtain ⟨comp, cii, k2, g1, g2, g3, g4, g5⟩ := Jvm.Stand.arrayOver_specB hao
  have aii : ArrOfT s cii (.array .int) := fun N z => ⟨(fun q hq => by cases hq), k2, g3, comp, g4⟩
  have hA : ∀ a : Nat, a < s.heap.size → ¬ (fun q => ∃ k, k < 79 ∧ q = s.heap.size + k) a := fun a ha ⟨k, h1, h2⟩ => by omega
  obtain ⟨adK, adV, hS, hT⟩ := vk_Sof (args := #[Value.ref b]) (s := s) (N := 1) (tm := fun _ => .string "LastBench$Reader" 49) (len := [5]) (byt := [[112, 103, 104, 98, 115]]) (A := fun q => ∃ k, k < 79 ∧ q = s.heap.size + k) (fun i hi => by rcases (show i = 0 by omega) with rfl; decide) (fun i hi => hs _ (by decide +kernel)) (fun i hi => hs _ (by decide +kernel)) (fun i hi => hs _ (by decide +kernel)) (fun i hi => by rcases (show i = 0 by omega) with rfl; exact hs _ (by decide +kernel)) (fun i hi j hj => by
      rcases (show i = 0 by omega) with rfl
      have hj : j < 5 := hj
      rcases (show j = 0 ∨ j = 1 ∨ j = 2 ∨ j = 3 ∨ j = 4 by omega) with rfl | rfl | rfl | rfl | rfl <;> exact hs _ (by decide +kernel)) (fun i j hi hj hij => by omega) hA
  have hR : vk_R RX7 49 "pghbs" (adK 0) s := vk_R.of (A := #[Value.ref b]) (hts0 _ (List.mem_of_getElem? (i := 407) (by decide +kernel))) (hT 0 (by decide))
  have hZ : va_Z "java/lang/String" "COMPACT_STRINGS" "Z" (.int 1) (fun q => ∃ k, k < 79 ∧ q = s.heap.size + k) s s.heap := va_Zof (args := #[Value.ref b]) (hts0 _ (List.mem_of_getElem? (i := 421) (by decide +kernel))) (hts0 _ (List.mem_of_getElem? (i := 65) (by decide +kernel))) (va_eqt (hs _ (by decide +kernel))) hA
  have hK : va_K (dC, dI) vwCl [(ci, .int), (cz, .boolean), (cii, .array .int)] s := ⟨hKc, fun k q h => by
    match k, h with
    | 0, h => cases h; exact ⟨ai, ni⟩
    | 1, h => cases h; exact ⟨az, nz⟩
    | 2, h => cases h; exact ⟨aii, g5⟩
    | k + 3, h => simp at h⟩
  have hN : ∀ q ∈ NS, va_Nw (.methodLinkNest q.1 q.2.1 q.2.2.1 q.2.2.2) s := fun q hq => va_Nw.of (A := #[Value.ref b]) rfl (hts0 _ (ns_tbl q hq))
  refine ⟨(l, (fun k => s.heap.size + k), (dC, dI), (ci, cz, cii), adK, adV), rfl, rfl, ⟨hK, hN, hR, hS, hZ, fun i j _ _ h => ?_⟩, ⟨hK, hN, fun a => Jvm.Stand.arrayOver_alikeB (Vm.Alike.refl s.vm) hao⟩⟩
  have h2 : s.heap.size + i = s.heap.size + j := h
  omega
set_option maxHeartbeats 4000000 in
set_option maxRecDepth 100000 in
theorem whole_start {p : Program} {e : Env} {s : State} {m : MethodId} {below : List Frame} {meth : Method} {c : Code} (l : Launch) (hflags : l.flags = flags0) {b L : Nat} {xs : Nat → Int32} (hL : L ≤ 2048) (C0 : lw_At p s m meth c b L xs) : W p l e room_1 s m #[Value.ref b] below meth c s.heap [] 0 0 (lw_Z below #[Value.ref b] s) (entryFrame m ([Value.ref b] : List Value).toArray 4) := by
  obtain ⟨hx, hb, hr, hml, hown, hts0, hX, hbl, hlocks, hgv⟩ := C0
  have hb : c.code = cL_law := hb
  have hown : s.vm.findClass RL = some m.cls := hown
  have hts : ∀ w ∈ TB, w.before #[Value.ref b] s = true := fun w hw => hts0 w (List.mem_filter.mp hw).1
  obtain ⟨E, rfl, hAd, hFx, hF⟩ := k_start l hts0 hgv
  obtain ⟨ω, hω⟩ : ∃ w : OW, w = (fun _ => .inr (0, [])) := ⟨_, rfl⟩
  have hH : Hk E s.heap.size 0 ω s s.heap [] := ⟨rfl, fun k q h => by simp [kl] at h, va_S.rf, Nat.le_refl _⟩
  have hl := lv_entry ([.ref b]) (n := 4) (Nat.le_of_ble_eq_true rfl)
  rw [lg_entry_eq]
  generalize (lg_sl ([.ref b]) ++ List.replicate (4 - (lg_sl ([.ref b])).length) Slot.unset).toArray = ls at hl ⊢
  have hl : lv_has ls 4 [(0, .ref b)] := hl
  refine k_new hx hb hts hown hF hH (ci := 9) (C := RX9) (T := TX9) (n := 14) rfl kC_L_7 kI_X9 kV_X9 df_X9 (Nat.le_of_ble_eq_true rfl) (Nat.le_of_ble_eq_true rfl) dL_law_0 (fun H hH => ?_)
  refine lv_dup hx hb dL_law_3 rfl ?_
  refine k_call (M2 := M_X9_init) (z_X9_0 E s.heap.size _ rfl) hx hb hml hl.1 hts hown hF hH kc_X9_init ki_X9_init rfl rfl (Or.inl kM_L_9) (Nat.le_of_ble_eq_true rfl) ⟨(Nat.le_of_ble_eq_true rfl), (Nat.le_of_ble_eq_true rfl)⟩ ⟨(Nat.le_of_ble_eq_true rfl), (Nat.le_of_ble_eq_true rfl)⟩ dL_law_4 (fun H locs hH => ?_)
  refine lv_astore_n (lv' := [(1, .ref (s.heap.size + 0)), (0, .ref b)]) hx hb dL_law_7 rfl hl (by decide) rfl (fun ls hl => ?_)
  refine k_new hx hb hts hown hF hH (ci := 10) (C := RX10) (T := TX10) (n := 34) rfl kC_L_10 kI_X10 kV_X10 df_X10 (Nat.le_of_ble_eq_true rfl) (Nat.le_of_ble_eq_true rfl) dL_law_8 (fun H hH => ?_)
  refine lv_dup hx hb dL_law_11 rfl ?_
  refine k_call (M2 := M_X10_init) (z_X10_63 E s.heap.size _ rfl) hx hb hml hl.1 hts hown hF hH kc_X10_init ki_X10_init rfl rfl (Or.inl kM_L_12) (Nat.le_of_ble_eq_true rfl) ⟨(Nat.le_of_ble_eq_true rfl), (Nat.le_of_ble_eq_true rfl)⟩ ⟨(Nat.le_of_ble_eq_true rfl), (Nat.le_of_ble_eq_true rfl)⟩ dL_law_12 (fun H locs hH => ?_)
  refine lv_astore_n (lv' := [(2, .ref (s.heap.size + 63)), (1, .ref (s.heap.size + 0)), (0, .ref b)]) hx hb dL_law_15 rfl hl (by decide) rfl (fun ls hl => ?_)
  refine lv_iconst (v := 0) hx hb dL_law_16 (by decide) ?_
  refine lv_istore_n (lv' := [(3, .int 0), (2, .ref (s.heap.size + 63)), (1, .ref (s.heap.size + 0)), (0, .ref b)]) hx hb dL_law_17 rfl hl (by decide) rfl (fun ls hl => ?_)
  refine va_forget (fun q hq => hH.2.2.1.2.2 q hq) ?_
  have hwl : wl E s79 = kl s.heap.size 79 (wf E s.heap.size ω) := by
    unfold wl kl
    apply List.map_congr_left
    intro k hk
    rw [wf_ce E s.heap.size ω hAd k (List.mem_range.mp hk), hAd]
  have hHd : Hd E s79 s H [] := by
    refine ⟨by rw [hwl]; exact hH.2.1, hH.2.2.1.1, fun q h1 _ => hH.2.2.1.2.1 q h1 (by show ¬ s.heap.size ≤ q; omega), fun q h => by cases h⟩
  have e0 : Ad E 0 = s.heap.size + 0 := by rw [hAd]
  have e63 : Ad E 63 = s.heap.size + 63 := by rw [hAd]
  have hl2 : lv_has ls 4 [(0, .ref b), (1, .ref (Ad E 0)), (2, .ref (Ad E 63)), (3, .int (nI (4 * 0)))] := by
    rw [e0, e63]
    exact lv_sub hl [3, 2, 1, 0] rfl
  exact law_loop hL (Nat.le_of_ble_eq_true rfl) (Nat.le_of_ble_eq_true rfl) hr hlocks ⟨hx, hb, hml, hown, hts, hFx, (Nat.le_of_ble_eq_true rfl), (Nat.le_of_ble_eq_true rfl), (Nat.le_of_ble_eq_true rfl), (Nat.le_of_ble_eq_true rfl)⟩ hX hbl (fun k _ => by rw [hAd]; exact Nat.le_add_right _ _) (L + 1) 0 (by omega) (by omega) s79 H [] ls iv_start hHd hl2
