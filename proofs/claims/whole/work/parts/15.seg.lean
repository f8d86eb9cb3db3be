def r_X10_isPersonLetter_0 (E : EE) (x1 : Int32) (σ : Mm) (Q : Int32 → Mm → Prop) : Prop := Rn E M_X10_isPersonLetter 0 [(0, .ref (Ad E 63)), (1, .int x1)] [] σ (qi Q)
set_option maxRecDepth 20000 in
set_option maxHeartbeats 4000000 in
theorem s_X10_isPersonLetter_0 (E : EE) (x1 : Int32) (σ : Mm) (Q : Int32 → Mm → Prop) (h : (vp_in x1 54 ∧ ((((x1 - 2) - ((x1 - 2) / 3) * 3) = 0 → r_X10_kindBy_0 E (σ 64 x1.toNatClampNeg) σ (fun r3 τ2 => ((r3 = (-1) → Q 0 τ2) ∧ (¬ r3 = (-1) → Q 1 τ2)))) ∧ (((x1 - 2) - ((x1 - 2) / 3) * 3) = 1 → r_X10_in_0 E ((σ 64 x1.toNatClampNeg).toInt64) 48 57 σ (fun r7 τ6 => ((r7 = 0 ∨ r7 = 1) ∧ Q r7 τ6))) ∧ (¬ ((x1 - 2) - ((x1 - 2) / 3) * 3) = 0 → ¬ ((x1 - 2) - ((x1 - 2) / 3) * 3) = 1 → ((¬ (σ 64 x1.toNatClampNeg) = 59 → ((¬ (σ 64 x1.toNatClampNeg) = 44 → Q 0 σ) ∧ ((σ 64 x1.toNatClampNeg) = 44 → ((17 ≤ (x1 - 2) → Q 0 σ) ∧ (¬ 17 ≤ (x1 - 2) → Q 1 σ))))) ∧ ((σ 64 x1.toNatClampNeg) = 59 → (((x1 - 2) ≤ 2 → ((¬ (σ 64 x1.toNatClampNeg) = 44 → Q 0 σ) ∧ ((σ 64 x1.toNatClampNeg) = 44 → ((17 ≤ (x1 - 2) → Q 0 σ) ∧ (¬ 17 ≤ (x1 - 2) → Q 1 σ))))) ∧ (¬ (x1 - 2) ≤ 2 → Q 1 (up σ 63 2 x1))))))))) : r_X10_isPersonLetter_0 E x1 σ Q := by
  intro p e R s m args below meth c Z cells slots H locs ls C0 hH hl hret
  have hx := C0.1
  have hb : c.code = cX10_isPersonLetter := C0.2.1
  have hl : lv_has ls 4 [(0, .ref (Ad E 63)), (1, .int x1)] := hl
  refine lv_aload_n hx hb dX10_isPersonLetter_0 rfl (lv_at hl 0 rfl) ?_
  refine m_getr C0 hH f_63_0 64 rfl kF_X10_7 dX10_isPersonLetter_1 ?_
  refine lv_iload_n hx hb dX10_isPersonLetter_4 rfl (lv_at hl 1 rfl) ?_
  refine m_iald (x := σ 64 x1.toNatClampNeg) C0 hH a_64 h.1 dX10_isPersonLetter_5 rfl ?_
  have h := h.2
  refine lv_istore_n (lv' := [(2, .int (σ 64 x1.toNatClampNeg)), (0, .ref (Ad E 63)), (1, .int x1)]) hx hb dX10_isPersonLetter_6 rfl hl (by decide) rfl (fun ls hl => ?_)
  refine lv_iload_n hx hb dX10_isPersonLetter_7 rfl (lv_at hl 2 rfl) ?_
  refine lv_iconst (v := 2) hx hb dX10_isPersonLetter_8 (by decide) ?_
  refine lv_isub hx hb dX10_isPersonLetter_9 ?_
  refine lv_istore_n (lv' := [(3, .int (x1 - 2)), (2, .int (σ 64 x1.toNatClampNeg)), (0, .ref (Ad E 63)), (1, .int x1)]) hx hb dX10_isPersonLetter_10 rfl hl (by decide) rfl (fun ls hl => ?_)
  refine lv_iload_n hx hb dX10_isPersonLetter_11 rfl (lv_at hl 0 rfl) ?_
  refine lv_iconst (v := 3) hx hb dX10_isPersonLetter_12 (by decide) ?_
  refine lv_irem hx hb dX10_isPersonLetter_13 (by decide) ?_
  by_cases hs1 : ((x1 - 2) - ((x1 - 2) / 3) * 3) = 0
  · have h := h.1 hs1
    refine lv_lookup (off := 26) (tgt := 40) hx hb dX10_isPersonLetter_14 (by decide) (by rw [hs1]; decide) (by decide) ?_
    refine lv_iload_n hx hb dX10_isPersonLetter_40 rfl (lv_at hl 1 rfl) ?_
    refine m_cS (M2 := M_X10_kindBy) (As := [.int (σ 64 x1.toNatClampNeg)]) (rest := []) h C0 hH hl kc_X10_kindBy ks_X10_kindBy kM_X10_68 rfl (Nat.le_of_ble_eq_true rfl) (Nat.le_of_ble_eq_true rfl) ⟨Nat.le_of_ble_eq_true rfl, Nat.le_of_ble_eq_true rfl⟩ dX10_isPersonLetter_41 rfl (fun r τ2 H locs hq hH => ?_)
    obtain ⟨r3, rfl, h⟩ := hq
    refine lv_iconst (v := (-1)) hx hb dX10_isPersonLetter_44 (by decide) ?_
    refine lv_icmp_eq (tgt := 52) hx hb dX10_isPersonLetter_45 (by decide) (fun hc4 => ?_) (fun hc4 => ?_)
    · have h := h.1 hc4
      refine lv_iconst (v := 0) hx hb dX10_isPersonLetter_52 (by decide) ?_
      exact hret (some (.int 0)) _ _ _ _ _ ⟨_, rfl, h⟩ hH ⟨dX10_isPersonLetter_53, .boolean, rfl, nb (Or.inl rfl)⟩
    · have h := h.2 hc4
      refine lv_iconst (v := 1) hx hb dX10_isPersonLetter_48 (by decide) ?_
      refine lv_goto (tgt := 53) hx hb dX10_isPersonLetter_49 (by decide) ?_
      exact hret (some (.int 1)) _ _ _ _ _ ⟨_, rfl, h⟩ hH ⟨dX10_isPersonLetter_53, .boolean, rfl, nb (Or.inr rfl)⟩
  have h := h.2
  by_cases hs5 : ((x1 - 2) - ((x1 - 2) / 3) * 3) = 1
  · have h := h.1 hs5
    refine lv_lookup (off := 40) (tgt := 54) hx hb dX10_isPersonLetter_14 (by decide) (by rw [hs5]; decide) (by decide) ?_
    refine lv_iload_n hx hb dX10_isPersonLetter_54 rfl (lv_at hl 1 rfl) ?_
    refine lv_i2l hx hb dX10_isPersonLetter_55 rfl ?_
    refine lv_ldc2 hx hb C0.2.2.2.1 (C0.2.2.2.2.1 _ kC_X10_72) dX10_isPersonLetter_56 ?_
    refine lv_ldc2 hx hb C0.2.2.2.1 (C0.2.2.2.2.1 _ kC_X10_74) dX10_isPersonLetter_59 ?_
    refine m_cS (M2 := M_X10_in) (As := [.long (σ 64 x1.toNatClampNeg).toInt64, .long 48, .long 57]) (rest := []) h C0 hH hl kc_X10_in ks_X10_in kM_X10_61 rfl (Nat.le_of_ble_eq_true rfl) (Nat.le_of_ble_eq_true rfl) ⟨Nat.le_of_ble_eq_true rfl, Nat.le_of_ble_eq_true rfl⟩ dX10_isPersonLetter_62 rfl (fun r τ6 H locs hq hH => ?_)
    obtain ⟨r7, rfl, h⟩ := hq
    exact hret (some (.int r7)) _ _ _ _ _ ⟨_, rfl, h.2⟩ hH ⟨dX10_isPersonLetter_65, .boolean, rfl, nb h.1⟩
  have h := h.2
  have h := h hs1
  have h := h hs5
  refine lv_lookup (off := 52) (tgt := 66) hx hb dX10_isPersonLetter_14 (by decide) (by show Op.lookupswitch.offset [(0, 26), (1, 40)] _ _ = _; rw [lv_osw (k := 0) hs1 (by decide), lv_osw (k := 1) hs5 (by decide)]; rfl) (by decide) ?_
  refine lv_iload_n hx hb dX10_isPersonLetter_66 rfl (lv_at hl 1 rfl) ?_
  refine lv_bipush (v := 59) hx hb dX10_isPersonLetter_67 (by decide) ?_
  refine lv_icmp_ne (tgt := 84) hx hb dX10_isPersonLetter_69 (by decide) (fun hc8 => ?_) (fun hc8 => ?_)
  · have h := h.1 hc8
    refine lv_iload_n hx hb dX10_isPersonLetter_84 rfl (lv_at hl 1 rfl) ?_
    refine lv_bipush (v := 44) hx hb dX10_isPersonLetter_85 (by decide) ?_
    refine lv_icmp_ne (tgt := 100) hx hb dX10_isPersonLetter_87 (by decide) (fun hc9 => ?_) (fun hc9 => ?_)
    · have h := h.1 hc9
      refine lv_iconst (v := 0) hx hb dX10_isPersonLetter_100 (by decide) ?_
      exact hret (some (.int 0)) _ _ _ _ _ ⟨_, rfl, h⟩ hH ⟨dX10_isPersonLetter_101, .boolean, rfl, nb (Or.inl rfl)⟩
    · have h := h.2 hc9
      refine lv_iload_n hx hb dX10_isPersonLetter_90 rfl (lv_at hl 0 rfl) ?_
      refine lv_bipush (v := 17) hx hb dX10_isPersonLetter_91 (by decide) ?_
      refine lv_icmp_ge (tgt := 100) hx hb dX10_isPersonLetter_93 (by decide) (fun hc10 => ?_) (fun hc10 => ?_)
      · have h := h.1 hc10
        refine lv_iconst (v := 0) hx hb dX10_isPersonLetter_100 (by decide) ?_
        exact hret (some (.int 0)) _ _ _ _ _ ⟨_, rfl, h⟩ hH ⟨dX10_isPersonLetter_101, .boolean, rfl, nb (Or.inl rfl)⟩
      · have h := h.2 hc10
        refine lv_iconst (v := 1) hx hb dX10_isPersonLetter_96 (by decide) ?_
        refine lv_goto (tgt := 101) hx hb dX10_isPersonLetter_97 (by decide) ?_
        exact hret (some (.int 1)) _ _ _ _ _ ⟨_, rfl, h⟩ hH ⟨dX10_isPersonLetter_101, .boolean, rfl, nb (Or.inr rfl)⟩
  · have h := h.2 hc8
    refine lv_iload_n hx hb dX10_isPersonLetter_72 rfl (lv_at hl 0 rfl) ?_
    refine lv_iconst (v := 2) hx hb dX10_isPersonLetter_73 (by decide) ?_
    refine lv_icmp_le (tgt := 84) hx hb dX10_isPersonLetter_74 (by decide) (fun hc11 => ?_) (fun hc11 => ?_)
    · have h := h.1 hc11
      refine lv_iload_n hx hb dX10_isPersonLetter_84 rfl (lv_at hl 1 rfl) ?_
      refine lv_bipush (v := 44) hx hb dX10_isPersonLetter_85 (by decide) ?_
      refine lv_icmp_ne (tgt := 100) hx hb dX10_isPersonLetter_87 (by decide) (fun hc12 => ?_) (fun hc12 => ?_)
      · have h := h.1 hc12
        refine lv_iconst (v := 0) hx hb dX10_isPersonLetter_100 (by decide) ?_
        exact hret (some (.int 0)) _ _ _ _ _ ⟨_, rfl, h⟩ hH ⟨dX10_isPersonLetter_101, .boolean, rfl, nb (Or.inl rfl)⟩
      · have h := h.2 hc12
        refine lv_iload_n hx hb dX10_isPersonLetter_90 rfl (lv_at hl 0 rfl) ?_
        refine lv_bipush (v := 17) hx hb dX10_isPersonLetter_91 (by decide) ?_
        refine lv_icmp_ge (tgt := 100) hx hb dX10_isPersonLetter_93 (by decide) (fun hc13 => ?_) (fun hc13 => ?_)
        · have h := h.1 hc13
          refine lv_iconst (v := 0) hx hb dX10_isPersonLetter_100 (by decide) ?_
          exact hret (some (.int 0)) _ _ _ _ _ ⟨_, rfl, h⟩ hH ⟨dX10_isPersonLetter_101, .boolean, rfl, nb (Or.inl rfl)⟩
        · have h := h.2 hc13
          refine lv_iconst (v := 1) hx hb dX10_isPersonLetter_96 (by decide) ?_
          refine lv_goto (tgt := 101) hx hb dX10_isPersonLetter_97 (by decide) ?_
          exact hret (some (.int 1)) _ _ _ _ _ ⟨_, rfl, h⟩ hH ⟨dX10_isPersonLetter_101, .boolean, rfl, nb (Or.inr rfl)⟩
    · have h := h.2 hc11
      refine lv_aload_n hx hb dX10_isPersonLetter_77 rfl (lv_at hl 2 rfl) ?_
      refine lv_iload_n hx hb dX10_isPersonLetter_78 rfl (lv_at hl 3 rfl) ?_
      refine m_puti C0 hH f_63_2 kF_X10_76 rfl dX10_isPersonLetter_79 rfl rfl (fun H locs hH => ?_)
      refine lv_iconst (v := 1) hx hb dX10_isPersonLetter_82 (by decide) ?_
      exact hret (some (.int 1)) _ _ _ _ _ ⟨_, rfl, h⟩ hH ⟨dX10_isPersonLetter_83, .boolean, rfl, nb (Or.inr rfl)⟩

def r_X10_isPersonDigit_0 (E : EE) (x1 : Int32) (σ : Mm) (Q : Int32 → Mm → Prop) : Prop := Rn E M_X10_isPersonDigit 0 [(0, .ref (Ad E 63)), (1, .int x1)] [] σ (qi Q)
set_option maxRecDepth 20000 in
set_option maxHeartbeats 4000000 in
theorem s_X10_isPersonDigit_0 (E : EE) (x1 : Int32) (σ : Mm) (Q : Int32 → Mm → Prop) (h : r_X10_in_0 E x1.toInt64 48 (((48 + (((σ 63 2) - 1) / 3)) - 1).toInt64) σ (fun r2 τ1 => ((r2 = 0 ∨ r2 = 1) ∧ Q r2 τ1))) : r_X10_isPersonDigit_0 E x1 σ Q := by
  intro p e R s m args below meth c Z cells slots H locs ls C0 hH hl hret
  have hx := C0.1
  have hb : c.code = cX10_isPersonDigit := C0.2.1
  have hl : lv_has ls 2 [(0, .ref (Ad E 63)), (1, .int x1)] := hl
  refine lv_iload_n hx hb dX10_isPersonDigit_0 rfl (lv_at hl 1 rfl) ?_
  refine lv_i2l hx hb dX10_isPersonDigit_1 rfl ?_
  refine lv_ldc2 hx hb C0.2.2.2.1 (C0.2.2.2.2.1 _ kC_X10_72) dX10_isPersonDigit_2 ?_
  refine lv_bipush (v := 48) hx hb dX10_isPersonDigit_5 (by decide) ?_
  refine lv_aload_n hx hb dX10_isPersonDigit_7 rfl (lv_at hl 0 rfl) ?_
  refine m_geti (x := σ 63 2) C0 hH f_63_2 kF_X10_76 dX10_isPersonDigit_8 rfl ?_
  refine lv_iconst (v := 1) hx hb dX10_isPersonDigit_11 (by decide) ?_
  refine lv_isub hx hb dX10_isPersonDigit_12 ?_
  refine lv_iconst (v := 3) hx hb dX10_isPersonDigit_13 (by decide) ?_
  refine lv_idiv hx hb dX10_isPersonDigit_14 (by decide) ?_
  refine lv_iadd hx hb dX10_isPersonDigit_15 ?_
  refine lv_iconst (v := 1) hx hb dX10_isPersonDigit_16 (by decide) ?_
  refine lv_isub hx hb dX10_isPersonDigit_17 ?_
  refine lv_i2l hx hb dX10_isPersonDigit_18 rfl ?_
  refine m_cS (M2 := M_X10_in) (As := [.long x1.toInt64, .long 48, .long ((48 + (((σ 63 2) - 1) / 3)) - 1).toInt64]) (rest := []) h C0 hH hl kc_X10_in ks_X10_in kM_X10_61 rfl (Nat.le_of_ble_eq_true rfl) (Nat.le_of_ble_eq_true rfl) ⟨Nat.le_of_ble_eq_true rfl, Nat.le_of_ble_eq_true rfl⟩ dX10_isPersonDigit_19 rfl (fun r τ1 H locs hq hH => ?_)
  obtain ⟨r2, rfl, h⟩ := hq
  exact hret (some (.int r2)) _ _ _ _ _ ⟨_, rfl, h.2⟩ hH ⟨dX10_isPersonDigit_22, .boolean, rfl, nb h.1⟩

def r_X10_isWrongLetter_0 (E : EE) (x1 : Int32) (σ : Mm) (Q : Int32 → Mm → Prop) : Prop := Rn E M_X10_isWrongLetter 0 [(0, .ref (Ad E 63)), (1, .int x1)] [] σ (qi Q)
set_option maxRecDepth 20000 in
set_option maxHeartbeats 4000000 in
theorem s_X10_isWrongLetter_0 (E : EE) (x1 : Int32) (σ : Mm) (Q : Int32 → Mm → Prop) (h : (vp_in x1 54 ∧ (((((x1 - (σ 63 2)) - 1) - (((x1 - (σ 63 2)) - 1) / 4) * 4) = 0 → r_X10_isPersonDigit_0 E (σ 64 x1.toNatClampNeg) σ (fun r3 τ2 => ((r3 = 0 ∨ r3 = 1) ∧ Q r3 τ2))) ∧ ((((x1 - (σ 63 2)) - 1) - (((x1 - (σ 63 2)) - 1) / 4) * 4) = 1 → r_X10_isPersonDigit_0 E (σ 64 x1.toNatClampNeg) σ (fun r6 τ5 => ((r6 = 0 → Q 0 τ5) ∧ (¬ r6 = 0 → (vp_in (x1 - 1) 54 ∧ (((σ 64 x1.toNatClampNeg) = (τ5 64 ((x1 - 1).toNatClampNeg)) → Q 0 τ5) ∧ (¬ (σ 64 x1.toNatClampNeg) = (τ5 64 ((x1 - 1).toNatClampNeg)) → Q 1 τ5))))))) ∧ ((((x1 - (σ 63 2)) - 1) - (((x1 - (σ 63 2)) - 1) / 4) * 4) = 2 → r_X10_in_0 E ((σ 64 x1.toNatClampNeg).toInt64) 49 57 σ (fun r11 τ10 => ((r11 = 0 ∨ r11 = 1) ∧ Q r11 τ10))) ∧ (¬ (((x1 - (σ 63 2)) - 1) - (((x1 - (σ 63 2)) - 1) / 4) * 4) = 0 → ¬ (((x1 - (σ 63 2)) - 1) - (((x1 - (σ 63 2)) - 1) / 4) * 4) = 1 → ¬ (((x1 - (σ 63 2)) - 1) - (((x1 - (σ 63 2)) - 1) / 4) * 4) = 2 → ((¬ (σ 64 x1.toNatClampNeg) = 44 → Q 0 σ) ∧ ((σ 64 x1.toNatClampNeg) = 44 → ((31 ≤ ((x1 - (σ 63 2)) - 1) → Q 0 σ) ∧ (¬ 31 ≤ ((x1 - (σ 63 2)) - 1) → Q 1 σ)))))))) : r_X10_isWrongLetter_0 E x1 σ Q := by
  intro p e R s m args below meth c Z cells slots H locs ls C0 hH hl hret
  have hx := C0.1
  have hb : c.code = cX10_isWrongLetter := C0.2.1
  have hl : lv_has ls 4 [(0, .ref (Ad E 63)), (1, .int x1)] := hl
  refine lv_aload_n hx hb dX10_isWrongLetter_0 rfl (lv_at hl 0 rfl) ?_
  refine m_getr C0 hH f_63_0 64 rfl kF_X10_7 dX10_isWrongLetter_1 ?_
  refine lv_iload_n hx hb dX10_isWrongLetter_4 rfl (lv_at hl 1 rfl) ?_
  refine m_iald (x := σ 64 x1.toNatClampNeg) C0 hH a_64 h.1 dX10_isWrongLetter_5 rfl ?_
  have h := h.2
  refine lv_istore_n (lv' := [(2, .int (σ 64 x1.toNatClampNeg)), (0, .ref (Ad E 63)), (1, .int x1)]) hx hb dX10_isWrongLetter_6 rfl hl (by decide) rfl (fun ls hl => ?_)
  refine lv_iload_n hx hb dX10_isWrongLetter_7 rfl (lv_at hl 2 rfl) ?_
  refine lv_aload_n hx hb dX10_isWrongLetter_8 rfl (lv_at hl 1 rfl) ?_
  refine m_geti (x := σ 63 2) C0 hH f_63_2 kF_X10_76 dX10_isWrongLetter_9 rfl ?_
  refine lv_isub hx hb dX10_isWrongLetter_12 ?_
  refine lv_iconst (v := 1) hx hb dX10_isWrongLetter_13 (by decide) ?_
  refine lv_isub hx hb dX10_isWrongLetter_14 ?_
  refine lv_istore_n (lv' := [(3, .int ((x1 - (σ 63 2)) - 1)), (2, .int (σ 64 x1.toNatClampNeg)), (0, .ref (Ad E 63)), (1, .int x1)]) hx hb dX10_isWrongLetter_15 rfl hl (by decide) rfl (fun ls hl => ?_)
  refine lv_iload_n hx hb dX10_isWrongLetter_16 rfl (lv_at hl 0 rfl) ?_
  refine lv_iconst (v := 4) hx hb dX10_isWrongLetter_17 (by decide) ?_
  refine lv_irem hx hb dX10_isWrongLetter_18 (by decide) ?_
  by_cases hs1 : (((x1 - (σ 63 2)) - 1) - (((x1 - (σ 63 2)) - 1) / 4) * 4) = 0
  · have h := h.1 hs1
    refine m_tin (v := 0) (tgt := 44) C0 dX10_isWrongLetter_19 hs1 (by decide) (by decide) rfl (by decide) ?_
    refine lv_aload_n hx hb dX10_isWrongLetter_44 rfl (lv_at hl 2 rfl) ?_
    refine lv_iload_n hx hb dX10_isWrongLetter_45 rfl (lv_at hl 1 rfl) ?_
    refine m_cV (M2 := M_X10_isPersonDigit) (As := [.int (σ 64 x1.toNatClampNeg)]) (rest := []) h C0 hH hl kc_X10_isPersonDigit ki_X10_isPersonDigit kx_X10_isPersonDigit ob_63 kM_X10_79 rfl (Nat.le_of_ble_eq_true rfl) (Nat.le_of_ble_eq_true rfl) ⟨Nat.le_of_ble_eq_true rfl, Nat.le_of_ble_eq_true rfl⟩ dX10_isWrongLetter_46 rfl (fun r τ2 H locs hq hH => ?_)
    obtain ⟨r3, rfl, h⟩ := hq
    exact hret (some (.int r3)) _ _ _ _ _ ⟨_, rfl, h.2⟩ hH ⟨dX10_isWrongLetter_49, .boolean, rfl, nb h.1⟩
  have h := h.2
  by_cases hs4 : (((x1 - (σ 63 2)) - 1) - (((x1 - (σ 63 2)) - 1) / 4) * 4) = 1
  · have h := h.1 hs4
    refine m_tin (v := 1) (tgt := 50) C0 dX10_isWrongLetter_19 hs4 (by decide) (by decide) rfl (by decide) ?_
    refine lv_aload_n hx hb dX10_isWrongLetter_50 rfl (lv_at hl 2 rfl) ?_
    refine lv_iload_n hx hb dX10_isWrongLetter_51 rfl (lv_at hl 1 rfl) ?_
    refine m_cV (M2 := M_X10_isPersonDigit) (As := [.int (σ 64 x1.toNatClampNeg)]) (rest := []) h C0 hH hl kc_X10_isPersonDigit ki_X10_isPersonDigit kx_X10_isPersonDigit ob_63 kM_X10_79 rfl (Nat.le_of_ble_eq_true rfl) (Nat.le_of_ble_eq_true rfl) ⟨Nat.le_of_ble_eq_true rfl, Nat.le_of_ble_eq_true rfl⟩ dX10_isWrongLetter_52 rfl (fun r τ5 H locs hq hH => ?_)
    obtain ⟨r6, rfl, h⟩ := hq
    refine lv_if_eq (tgt := 74) hx hb dX10_isWrongLetter_55 (by decide) (fun hc7 => ?_) (fun hc7 => ?_)
    · have h := h.1 hc7
      refine lv_iconst (v := 0) hx hb dX10_isWrongLetter_74 (by decide) ?_
      exact hret (some (.int 0)) _ _ _ _ _ ⟨_, rfl, h⟩ hH ⟨dX10_isWrongLetter_75, .boolean, rfl, nb (Or.inl rfl)⟩
    · have h := h.2 hc7
      refine lv_iload_n hx hb dX10_isWrongLetter_58 rfl (lv_at hl 1 rfl) ?_
      refine lv_aload_n hx hb dX10_isWrongLetter_59 rfl (lv_at hl 2 rfl) ?_
      refine m_getr C0 hH f_63_0 64 rfl kF_X10_7 dX10_isWrongLetter_60 ?_
      refine lv_iload_n hx hb dX10_isWrongLetter_63 rfl (lv_at hl 3 rfl) ?_
      refine lv_iconst (v := 1) hx hb dX10_isWrongLetter_64 (by decide) ?_
      refine lv_isub hx hb dX10_isWrongLetter_65 ?_
      refine m_iald (x := τ5 64 ((x1 - 1).toNatClampNeg)) C0 hH a_64 h.1 dX10_isWrongLetter_66 rfl ?_
      have h := h.2
      refine lv_icmp_eq (tgt := 74) hx hb dX10_isWrongLetter_67 (by decide) (fun hc8 => ?_) (fun hc8 => ?_)
      · have h := h.1 hc8
        refine lv_iconst (v := 0) hx hb dX10_isWrongLetter_74 (by decide) ?_
        exact hret (some (.int 0)) _ _ _ _ _ ⟨_, rfl, h⟩ hH ⟨dX10_isWrongLetter_75, .boolean, rfl, nb (Or.inl rfl)⟩
      · have h := h.2 hc8
        refine lv_iconst (v := 1) hx hb dX10_isWrongLetter_70 (by decide) ?_
        refine lv_goto (tgt := 75) hx hb dX10_isWrongLetter_71 (by decide) ?_
        exact hret (some (.int 1)) _ _ _ _ _ ⟨_, rfl, h⟩ hH ⟨dX10_isWrongLetter_75, .boolean, rfl, nb (Or.inr rfl)⟩
  have h := h.2
  by_cases hs9 : (((x1 - (σ 63 2)) - 1) - (((x1 - (σ 63 2)) - 1) / 4) * 4) = 2
  · have h := h.1 hs9
    refine m_tin (v := 2) (tgt := 76) C0 dX10_isWrongLetter_19 hs9 (by decide) (by decide) rfl (by decide) ?_
    refine lv_iload_n hx hb dX10_isWrongLetter_76 rfl (lv_at hl 1 rfl) ?_
    refine lv_i2l hx hb dX10_isWrongLetter_77 rfl ?_
    refine lv_ldc2 hx hb C0.2.2.2.1 (C0.2.2.2.2.1 _ kC_X10_83) dX10_isWrongLetter_78 ?_
    refine lv_ldc2 hx hb C0.2.2.2.1 (C0.2.2.2.2.1 _ kC_X10_74) dX10_isWrongLetter_81 ?_
    refine m_cS (M2 := M_X10_in) (As := [.long (σ 64 x1.toNatClampNeg).toInt64, .long 49, .long 57]) (rest := []) h C0 hH hl kc_X10_in ks_X10_in kM_X10_61 rfl (Nat.le_of_ble_eq_true rfl) (Nat.le_of_ble_eq_true rfl) ⟨Nat.le_of_ble_eq_true rfl, Nat.le_of_ble_eq_true rfl⟩ dX10_isWrongLetter_84 rfl (fun r τ10 H locs hq hH => ?_)
    obtain ⟨r11, rfl, h⟩ := hq
    exact hret (some (.int r11)) _ _ _ _ _ ⟨_, rfl, h.2⟩ hH ⟨dX10_isWrongLetter_87, .boolean, rfl, nb h.1⟩
  have h := h.2
  have h := h hs1
  have h := h hs4
  have h := h hs9
  refine m_tout (tgt := 88) C0 dX10_isWrongLetter_19 (fun v h1 h2 => ?_) (by decide) ?_
  · rcases (show v = 0 ∨ v = 1 ∨ v = 2 by omega) with rfl | rfl | rfl
    · exact fun q => hs1 (q.trans (by decide))
    · exact fun q => hs4 (q.trans (by decide))
    · exact fun q => hs9 (q.trans (by decide))
  refine lv_iload_n hx hb dX10_isWrongLetter_88 rfl (lv_at hl 1 rfl) ?_
  refine lv_bipush (v := 44) hx hb dX10_isWrongLetter_89 (by decide) ?_
  refine lv_icmp_ne (tgt := 104) hx hb dX10_isWrongLetter_91 (by decide) (fun hc12 => ?_) (fun hc12 => ?_)
  · have h := h.1 hc12
    refine lv_iconst (v := 0) hx hb dX10_isWrongLetter_104 (by decide) ?_
    exact hret (some (.int 0)) _ _ _ _ _ ⟨_, rfl, h⟩ hH ⟨dX10_isWrongLetter_105, .boolean, rfl, nb (Or.inl rfl)⟩
  · have h := h.2 hc12
    refine lv_iload_n hx hb dX10_isWrongLetter_94 rfl (lv_at hl 0 rfl) ?_
    refine lv_bipush (v := 31) hx hb dX10_isWrongLetter_95 (by decide) ?_
    refine lv_icmp_ge (tgt := 104) hx hb dX10_isWrongLetter_97 (by decide) (fun hc13 => ?_) (fun hc13 => ?_)
    · have h := h.1 hc13
      refine lv_iconst (v := 0) hx hb dX10_isWrongLetter_104 (by decide) ?_
      exact hret (some (.int 0)) _ _ _ _ _ ⟨_, rfl, h⟩ hH ⟨dX10_isWrongLetter_105, .boolean, rfl, nb (Or.inl rfl)⟩
    · have h := h.2 hc13
      refine lv_iconst (v := 1) hx hb dX10_isWrongLetter_100 (by decide) ?_
      refine lv_goto (tgt := 105) hx hb dX10_isWrongLetter_101 (by decide) ?_
      exact hret (some (.int 1)) _ _ _ _ _ ⟨_, rfl, h⟩ hH ⟨dX10_isWrongLetter_105, .boolean, rfl, nb (Or.inr rfl)⟩

def r_X10_isGood_0 (E : EE) (x1 : Int32) (σ : Mm) (Q : Int32 → Mm → Prop) : Prop := Rn E M_X10_isGood 0 [(0, .ref (Ad E 63)), (1, .int x1)] [] σ (qi Q)
set_option maxRecDepth 20000 in
set_option maxHeartbeats 4000000 in
theorem s_X10_isGood_0 (E : EE) (x1 : Int32) (σ : Mm) (Q : Int32 → Mm → Prop) (h : ((2 ≤ x1 → ((¬ (σ 63 2) = 0 → r_X10_isWrongLetter_0 E x1 σ (fun r4 τ3 => ((r4 = 0 ∨ r4 = 1) ∧ Q r4 τ3))) ∧ ((σ 63 2) = 0 → r_X10_isPersonLetter_0 E x1 σ (fun r6 τ5 => ((r6 = 0 ∨ r6 = 1) ∧ Q r6 τ5))))) ∧ (¬ 2 ≤ x1 → ((¬ x1 = 0 → ((¬ (σ 64 1) = 59 → Q 0 σ) ∧ ((σ 64 1) = 59 → Q 1 σ))) ∧ (x1 = 0 → r_X10_in_0 E ((σ 64 0).toInt64) 49 54 σ (fun r10 τ9 => ((r10 = 0 ∨ r10 = 1) ∧ Q r10 τ9))))))) : r_X10_isGood_0 E x1 σ Q := by
  intro p e R s m args below meth c Z cells slots H locs ls C0 hH hl hret
  have hx := C0.1
  have hb : c.code = cX10_isGood := C0.2.1
  have hl : lv_has ls 2 [(0, .ref (Ad E 63)), (1, .int x1)] := hl
  refine lv_iload_n hx hb dX10_isGood_0 rfl (lv_at hl 1 rfl) ?_
  refine lv_iconst (v := 2) hx hb dX10_isGood_1 (by decide) ?_
  refine lv_icmp_ge (tgt := 45) hx hb dX10_isGood_2 (by decide) (fun hc1 => ?_) (fun hc1 => ?_)
  · have h := h.1 hc1
    refine lv_aload_n hx hb dX10_isGood_45 rfl (lv_at hl 0 rfl) ?_
    refine m_geti (x := σ 63 2) C0 hH f_63_2 kF_X10_76 dX10_isGood_46 rfl ?_
    refine lv_if_ne (tgt := 60) hx hb dX10_isGood_49 (by decide) (fun hc2 => ?_) (fun hc2 => ?_)
    · have h := h.1 hc2
      refine lv_aload_n hx hb dX10_isGood_60 rfl (lv_at hl 0 rfl) ?_
      refine lv_iload_n hx hb dX10_isGood_61 rfl (lv_at hl 1 rfl) ?_
      refine m_cV (M2 := M_X10_isWrongLetter) (As := [.int x1]) (rest := []) h C0 hH hl kc_X10_isWrongLetter ki_X10_isWrongLetter kx_X10_isWrongLetter ob_63 kM_X10_90 rfl (Nat.le_of_ble_eq_true rfl) (Nat.le_of_ble_eq_true rfl) ⟨Nat.le_of_ble_eq_true rfl, Nat.le_of_ble_eq_true rfl⟩ dX10_isGood_62 rfl (fun r τ3 H locs hq hH => ?_)
      obtain ⟨r4, rfl, h⟩ := hq
      exact hret (some (.int r4)) _ _ _ _ _ ⟨_, rfl, h.2⟩ hH ⟨dX10_isGood_65, .boolean, rfl, nb h.1⟩
    · have h := h.2 hc2
      refine lv_aload_n hx hb dX10_isGood_52 rfl (lv_at hl 0 rfl) ?_
      refine lv_iload_n hx hb dX10_isGood_53 rfl (lv_at hl 1 rfl) ?_
      refine m_cV (M2 := M_X10_isPersonLetter) (As := [.int x1]) (rest := []) h C0 hH hl kc_X10_isPersonLetter ki_X10_isPersonLetter kx_X10_isPersonLetter ob_63 kM_X10_87 rfl (Nat.le_of_ble_eq_true rfl) (Nat.le_of_ble_eq_true rfl) ⟨Nat.le_of_ble_eq_true rfl, Nat.le_of_ble_eq_true rfl⟩ dX10_isGood_54 rfl (fun r τ5 H locs hq hH => ?_)
      obtain ⟨r6, rfl, h⟩ := hq
      refine lv_goto (tgt := 65) hx hb dX10_isGood_57 (by decide) ?_
      exact hret (some (.int r6)) _ _ _ _ _ ⟨_, rfl, h.2⟩ hH ⟨dX10_isGood_65, .boolean, rfl, nb h.1⟩
  · have h := h.2 hc1
    refine lv_iload_n hx hb dX10_isGood_5 rfl (lv_at hl 1 rfl) ?_
    refine lv_if_ne (tgt := 28) hx hb dX10_isGood_6 (by decide) (fun hc7 => ?_) (fun hc7 => ?_)
    · have h := h.1 hc7
      refine lv_aload_n hx hb dX10_isGood_28 rfl (lv_at hl 0 rfl) ?_
      refine m_getr C0 hH f_63_0 64 rfl kF_X10_7 dX10_isGood_29 ?_
      refine lv_iconst (v := 1) hx hb dX10_isGood_32 (by decide) ?_
      refine m_iald (x := σ 64 1) C0 hH a_64 (vin (by decide)) dX10_isGood_33 rfl ?_
      refine lv_bipush (v := 59) hx hb dX10_isGood_34 (by decide) ?_
      refine lv_icmp_ne (tgt := 43) hx hb dX10_isGood_36 (by decide) (fun hc8 => ?_) (fun hc8 => ?_)
      · have h := h.1 hc8
        refine lv_iconst (v := 0) hx hb dX10_isGood_43 (by decide) ?_
        exact hret (some (.int 0)) _ _ _ _ _ ⟨_, rfl, h⟩ hH ⟨dX10_isGood_44, .boolean, rfl, nb (Or.inl rfl)⟩
      · have h := h.2 hc8
        refine lv_iconst (v := 1) hx hb dX10_isGood_39 (by decide) ?_
        refine lv_goto (tgt := 44) hx hb dX10_isGood_40 (by decide) ?_
        exact hret (some (.int 1)) _ _ _ _ _ ⟨_, rfl, h⟩ hH ⟨dX10_isGood_44, .boolean, rfl, nb (Or.inr rfl)⟩
    · have h := h.2 hc7
      refine lv_aload_n hx hb dX10_isGood_9 rfl (lv_at hl 0 rfl) ?_
      refine m_getr C0 hH f_63_0 64 rfl kF_X10_7 dX10_isGood_10 ?_
      refine lv_iconst (v := 0) hx hb dX10_isGood_13 (by decide) ?_
      refine m_iald (x := σ 64 0) C0 hH a_64 (vin (by decide)) dX10_isGood_14 rfl ?_
      refine lv_i2l hx hb dX10_isGood_15 rfl ?_
      refine lv_ldc2 hx hb C0.2.2.2.1 (C0.2.2.2.2.1 _ kC_X10_83) dX10_isGood_16 ?_
      refine lv_ldc2 hx hb C0.2.2.2.1 (C0.2.2.2.2.1 _ kC_X10_85) dX10_isGood_19 ?_
      refine m_cS (M2 := M_X10_in) (As := [.long (σ 64 0).toInt64, .long 49, .long 54]) (rest := []) h C0 hH hl kc_X10_in ks_X10_in kM_X10_61 rfl (Nat.le_of_ble_eq_true rfl) (Nat.le_of_ble_eq_true rfl) ⟨Nat.le_of_ble_eq_true rfl, Nat.le_of_ble_eq_true rfl⟩ dX10_isGood_22 rfl (fun r τ9 H locs hq hH => ?_)
      obtain ⟨r10, rfl, h⟩ := hq
      refine lv_goto (tgt := 44) hx hb dX10_isGood_25 (by decide) ?_
      exact hret (some (.int r10)) _ _ _ _ _ ⟨_, rfl, h.2⟩ hH ⟨dX10_isGood_44, .boolean, rfl, nb h.1⟩

def r_X10_faultOf_0 (E : EE) (σ : Mm) (Q : Int32 → Mm → Prop) : Prop := Rn E M_X10_faultOf 0 [(0, .ref (Ad E 63))] [] σ (qi Q)
def r_X10_faultOf_7 (E : EE) (x1 : Int32) (σ : Mm) (Q : Int32 → Mm → Prop) : Prop := Rn E M_X10_faultOf 7 [(0, .ref (Ad E 63)), (1, .int x1)] [] σ (qi Q)
set_option maxRecDepth 20000 in
set_option maxHeartbeats 4000000 in
theorem s_X10_faultOf_0 (E : EE) (σ : Mm) (Q : Int32 → Mm → Prop) (h : r_X10_faultOf_7 E 0 (up σ 63 2 0) Q) : r_X10_faultOf_0 E σ Q := by
  intro p e R s m args below meth c Z cells slots H locs ls C0 hH hl hret
  have hx := C0.1
  have hb : c.code = cX10_faultOf := C0.2.1
  have hl : lv_has ls 2 [(0, .ref (Ad E 63))] := hl
  refine lv_aload_n hx hb dX10_faultOf_0 rfl (lv_at hl 0 rfl) ?_
  refine lv_iconst (v := 0) hx hb dX10_faultOf_1 (by decide) ?_
  refine m_puti C0 hH f_63_2 kF_X10_76 rfl dX10_faultOf_2 rfl rfl (fun H locs hH => ?_)
  refine lv_iconst (v := 0) hx hb dX10_faultOf_5 (by decide) ?_
  refine lv_istore_n (lv' := [(1, .int 0), (0, .ref (Ad E 63))]) hx hb dX10_faultOf_6 rfl hl (by decide) rfl (fun ls hl => ?_)
  exact h p e R s m args below meth c Z cells slots H locs ls C0 hH (lv_sub hl [1, 0] rfl) hret
set_option maxRecDepth 20000 in
set_option maxHeartbeats 4000000 in
theorem s_X10_faultOf_7 (E : EE) (x1 : Int32) (σ : Mm) (Q : Int32 → Mm → Prop) (h : (((σ 63 1) ≤ x1 → Q x1 σ) ∧ (¬ (σ 63 1) ≤ x1 → r_X10_isGood_0 E x1 σ (fun r3 τ2 => ((r3 = 0 → Q x1 τ2) ∧ (¬ r3 = 0 → r_X10_faultOf_7 E (x1 + 1) τ2 Q)))))) : r_X10_faultOf_7 E x1 σ Q := by
  intro p e R s m args below meth c Z cells slots H locs ls C0 hH hl hret
  have hx := C0.1
  have hb : c.code = cX10_faultOf := C0.2.1
  have hl : lv_has ls 2 [(0, .ref (Ad E 63)), (1, .int x1)] := hl
  refine lv_iload_n hx hb dX10_faultOf_7 rfl (lv_at hl 1 rfl) ?_
  refine lv_aload_n hx hb dX10_faultOf_8 rfl (lv_at hl 0 rfl) ?_
  refine m_geti (x := σ 63 1) C0 hH f_63_1 kF_X10_65 dX10_faultOf_9 rfl ?_
  refine lv_icmp_ge (tgt := 29) hx hb dX10_faultOf_12 (by decide) (fun hc1 => ?_) (fun hc1 => ?_)
  · have h := h.1 hc1
    refine lv_iload_n hx hb dX10_faultOf_29 rfl (lv_at hl 1 rfl) ?_
    exact hret (some (.int x1)) _ _ _ _ _ ⟨_, rfl, h⟩ hH ⟨dX10_faultOf_30, .int, rfl, rfl⟩
  · have h := h.2 hc1
    refine lv_aload_n hx hb dX10_faultOf_15 rfl (lv_at hl 0 rfl) ?_
    refine lv_iload_n hx hb dX10_faultOf_16 rfl (lv_at hl 1 rfl) ?_
    refine m_cV (M2 := M_X10_isGood) (As := [.int x1]) (rest := []) h C0 hH hl kc_X10_isGood ki_X10_isGood kx_X10_isGood ob_63 kM_X10_93 rfl (Nat.le_of_ble_eq_true rfl) (Nat.le_of_ble_eq_true rfl) ⟨Nat.le_of_ble_eq_true rfl, Nat.le_of_ble_eq_true rfl⟩ dX10_faultOf_17 rfl (fun r τ2 H locs hq hH => ?_)
    obtain ⟨r3, rfl, h⟩ := hq
    refine lv_if_eq (tgt := 29) hx hb dX10_faultOf_20 (by decide) (fun hc4 => ?_) (fun hc4 => ?_)
    · have h := h.1 hc4
      refine lv_iload_n hx hb dX10_faultOf_29 rfl (lv_at hl 1 rfl) ?_
      exact hret (some (.int x1)) _ _ _ _ _ ⟨_, rfl, h⟩ hH ⟨dX10_faultOf_30, .int, rfl, rfl⟩
    · have h := h.2 hc4
      refine lv_iinc (v := (x1 + 1)) (lv' := [(1, .int (x1 + 1)), (0, .ref (Ad E 63))]) hx hb dX10_faultOf_23 hl (k := 1) rfl rfl (by decide) rfl (fun ls hl => ?_)
      refine lv_goto (tgt := 7) hx hb dX10_faultOf_26 (by decide) ?_
      exact h p e R s m args below meth c Z cells slots H locs ls C0 hH (lv_sub hl [1, 0] rfl) hret

def r_X10_fault_0 (E : EE) (σ : Mm) (Q : Int32 → Mm → Prop) : Prop := Rn E M_X10_fault 0 [(0, .ref (Ad E 63))] [] σ (qi Q)
set_option maxRecDepth 20000 in
set_option maxHeartbeats 4000000 in
theorem s_X10_fault_0 (E : EE) (σ : Mm) (Q : Int32 → Mm → Prop) (h : r_X10_faultOf_0 E  σ (fun r2 τ1 => Q r2 τ1)) : r_X10_fault_0 E σ Q := by
  intro p e R s m args below meth c Z cells slots H locs ls C0 hH hl hret
  have hx := C0.1
  have hb : c.code = cX10_fault := C0.2.1
  have hl : lv_has ls 1 [(0, .ref (Ad E 63))] := hl
  refine lv_aload_n hx hb dX10_fault_0 rfl (lv_at hl 0 rfl) ?_
  refine m_cV (M2 := M_X10_faultOf) (As := []) (rest := []) h C0 hH hl kc_X10_faultOf ki_X10_faultOf kx_X10_faultOf ob_63 kM_X10_96 rfl (Nat.le_of_ble_eq_true rfl) (Nat.le_of_ble_eq_true rfl) ⟨Nat.le_of_ble_eq_true rfl, Nat.le_of_ble_eq_true rfl⟩ dX10_fault_1 rfl (fun r τ1 H locs hq hH => ?_)
  obtain ⟨r2, rfl, h⟩ := hq
  exact hret (some (.int r2)) _ _ _ _ _ ⟨_, rfl, h⟩ hH ⟨dX10_fault_4, .int, rfl, rfl⟩

def r_X10_chapel_0 (E : EE) (σ : Mm) (Q : Int32 → Mm → Prop) : Prop := Rn E M_X10_chapel 0 [(0, .ref (Ad E 63))] [] σ (qi Q)
def r_X10_chapel_77 (E : EE) (x1 : Int32) (σ : Mm) (Q : Int32 → Mm → Prop) : Prop := Rn E M_X10_chapel 77 [(0, .ref (Ad E 63)), (1, .int x1)] [] σ (qi Q)
def r_X10_chapel_138 (E : EE) (x1 : Int32) (σ : Mm) (Q : Int32 → Mm → Prop) : Prop := Rn E M_X10_chapel 138 [(0, .ref (Ad E 63)), (1, .int x1)] [] σ (qi Q)
set_option maxRecDepth 20000 in
set_option maxHeartbeats 4000000 in
theorem s_X10_chapel_0 (E : EE) (σ : Mm) (Q : Int32 → Mm → Prop) (h : r_X10_faultOf_0 E  σ (fun r2 τ1 => ((r2 < (τ1 63 1) → Q (-103) τ1) ∧ (¬ r2 < (τ1 63 1) → (((τ1 63 2) = 0 → Q (-103) τ1) ∧ (¬ (τ1 63 2) = 0 → (((((τ1 63 1) - (τ1 63 2)) - (((τ1 63 1) - (τ1 63 2)) / 4) * 4) = 0 → r_X10_chapel_77 E 0 (up (up (up τ1 63 5 ((τ1 64 0) - 48)) 63 3 (((τ1 63 2) - 1) / 3)) 63 4 (((τ1 63 1) - (τ1 63 2)) / 4)) Q) ∧ (¬ (((τ1 63 1) - (τ1 63 2)) - (((τ1 63 1) - (τ1 63 2)) / 4) * 4) = 0 → Q (-103) τ1)))))))) : r_X10_chapel_0 E σ Q := by
  intro p e R s m args below meth c Z cells slots H locs ls C0 hH hl hret
  have hx := C0.1
  have hb : c.code = cX10_chapel := C0.2.1
  have hl : lv_has ls 3 [(0, .ref (Ad E 63))] := hl
  refine lv_aload_n hx hb dX10_chapel_0 rfl (lv_at hl 0 rfl) ?_
  refine m_cV (M2 := M_X10_faultOf) (As := []) (rest := []) h C0 hH hl kc_X10_faultOf ki_X10_faultOf kx_X10_faultOf ob_63 kM_X10_96 rfl (Nat.le_of_ble_eq_true rfl) (Nat.le_of_ble_eq_true rfl) ⟨Nat.le_of_ble_eq_true rfl, Nat.le_of_ble_eq_true rfl⟩ dX10_chapel_1 rfl (fun r τ1 H locs hq hH => ?_)
  obtain ⟨r2, rfl, h⟩ := hq
  refine lv_aload_n hx hb dX10_chapel_4 rfl (lv_at hl 0 rfl) ?_
  refine m_geti (x := τ1 63 1) C0 hH f_63_1 kF_X10_65 dX10_chapel_5 rfl ?_
  refine lv_icmp_lt (tgt := 32) hx hb dX10_chapel_8 (by decide) (fun hc3 => ?_) (fun hc3 => ?_)
  · have h := h.1 hc3
    refine lv_bipush (v := (-103)) hx hb dX10_chapel_32 (by decide) ?_
    exact hret (some (.int (-103))) _ _ _ _ _ ⟨_, rfl, h⟩ hH ⟨dX10_chapel_34, .int, rfl, rfl⟩
  · have h := h.2 hc3
    refine lv_aload_n hx hb dX10_chapel_11 rfl (lv_at hl 0 rfl) ?_
    refine m_geti (x := τ1 63 2) C0 hH f_63_2 kF_X10_76 dX10_chapel_12 rfl ?_
    refine lv_if_eq (tgt := 32) hx hb dX10_chapel_15 (by decide) (fun hc4 => ?_) (fun hc4 => ?_)
    · have h := h.1 hc4
      refine lv_bipush (v := (-103)) hx hb dX10_chapel_32 (by decide) ?_
      exact hret (some (.int (-103))) _ _ _ _ _ ⟨_, rfl, h⟩ hH ⟨dX10_chapel_34, .int, rfl, rfl⟩
    · have h := h.2 hc4
      refine lv_aload_n hx hb dX10_chapel_18 rfl (lv_at hl 0 rfl) ?_
      refine m_geti (x := τ1 63 1) C0 hH f_63_1 kF_X10_65 dX10_chapel_19 rfl ?_
      refine lv_aload_n hx hb dX10_chapel_22 rfl (lv_at hl 0 rfl) ?_
      refine m_geti (x := τ1 63 2) C0 hH f_63_2 kF_X10_76 dX10_chapel_23 rfl ?_
      refine lv_isub hx hb dX10_chapel_26 ?_
      refine lv_iconst (v := 4) hx hb dX10_chapel_27 (by decide) ?_
      refine lv_irem hx hb dX10_chapel_28 (by decide) ?_
      refine lv_if_eq (tgt := 35) hx hb dX10_chapel_29 (by decide) (fun hc5 => ?_) (fun hc5 => ?_)
      · have h := h.1 hc5
        refine lv_aload_n hx hb dX10_chapel_35 rfl (lv_at hl 0 rfl) ?_
        refine lv_aload_n hx hb dX10_chapel_36 rfl (lv_at hl 0 rfl) ?_
        refine m_getr C0 hH f_63_0 64 rfl kF_X10_7 dX10_chapel_37 ?_
        refine lv_iconst (v := 0) hx hb dX10_chapel_40 (by decide) ?_
        refine m_iald (x := τ1 64 0) C0 hH a_64 (vin (by decide)) dX10_chapel_41 rfl ?_
        refine lv_bipush (v := 48) hx hb dX10_chapel_42 (by decide) ?_
        refine lv_isub hx hb dX10_chapel_44 ?_
        refine m_puti C0 hH f_63_5 kF_X10_100 rfl dX10_chapel_45 rfl rfl (fun H locs hH => ?_)
        refine lv_aload_n hx hb dX10_chapel_48 rfl (lv_at hl 0 rfl) ?_
        refine lv_aload_n hx hb dX10_chapel_49 rfl (lv_at hl 0 rfl) ?_
        refine m_geti (x := τ1 63 2) C0 hH f_63_2 kF_X10_76 dX10_chapel_50 rfl ?_
        refine lv_iconst (v := 1) hx hb dX10_chapel_53 (by decide) ?_
        refine lv_isub hx hb dX10_chapel_54 ?_
        refine lv_iconst (v := 3) hx hb dX10_chapel_55 (by decide) ?_
        refine lv_idiv hx hb dX10_chapel_56 (by decide) ?_
        refine m_puti C0 hH f_63_3 kF_X10_103 rfl dX10_chapel_57 rfl rfl (fun H locs hH => ?_)
        refine lv_aload_n hx hb dX10_chapel_60 rfl (lv_at hl 0 rfl) ?_
        refine lv_aload_n hx hb dX10_chapel_61 rfl (lv_at hl 0 rfl) ?_
        refine m_geti (x := τ1 63 1) C0 hH f_63_1 kF_X10_65 dX10_chapel_62 rfl ?_
        refine lv_aload_n hx hb dX10_chapel_65 rfl (lv_at hl 0 rfl) ?_
        refine m_geti (x := τ1 63 2) C0 hH f_63_2 kF_X10_76 dX10_chapel_66 rfl ?_
        refine lv_isub hx hb dX10_chapel_69 ?_
        refine lv_iconst (v := 4) hx hb dX10_chapel_70 (by decide) ?_
        refine lv_idiv hx hb dX10_chapel_71 (by decide) ?_
        refine m_puti C0 hH f_63_4 kF_X10_106 rfl dX10_chapel_72 rfl rfl (fun H locs hH => ?_)
        refine lv_iconst (v := 0) hx hb dX10_chapel_75 (by decide) ?_
        refine lv_istore_n (lv' := [(1, .int 0), (0, .ref (Ad E 63))]) hx hb dX10_chapel_76 rfl hl (by decide) rfl (fun ls hl => ?_)
        exact h p e R s m args below meth c Z cells slots H locs ls C0 hH (lv_sub hl [1, 0] rfl) hret
      · have h := h.2 hc5
        refine lv_bipush (v := (-103)) hx hb dX10_chapel_32 (by decide) ?_
        exact hret (some (.int (-103))) _ _ _ _ _ ⟨_, rfl, h⟩ hH ⟨dX10_chapel_34, .int, rfl, rfl⟩
set_option maxRecDepth 20000 in
set_option maxHeartbeats 4000000 in
theorem s_X10_chapel_77 (E : EE) (x1 : Int32) (σ : Mm) (Q : Int32 → Mm → Prop) (h : (((σ 63 3) ≤ x1 → r_X10_chapel_138 E 0 σ Q) ∧ (¬ (σ 63 3) ≤ x1 → (vp_in (2 + (3 * x1)) 54 ∧ r_X10_kindBy_0 E (σ 64 ((2 + (3 * x1)).toNatClampNeg)) σ (fun r3 τ2 => (vp_in x1 6 ∧ (vp_in (3 + (3 * x1)) 54 ∧ (vp_in x1 6 ∧ (vp_in x1 6 ∧ r_X10_chapel_77 E (x1 + 1) (up (up (up τ2 65 x1.toNatClampNeg r3) 66 x1.toNatClampNeg ((τ2 64 ((3 + (3 * x1)).toNatClampNeg)) - 48)) 67 x1.toNatClampNeg 0) Q))))))))) : r_X10_chapel_77 E x1 σ Q := by
  intro p e R s m args below meth c Z cells slots H locs ls C0 hH hl hret
  have hx := C0.1
  have hb : c.code = cX10_chapel := C0.2.1
  have hl : lv_has ls 3 [(0, .ref (Ad E 63)), (1, .int x1)] := hl
  refine lv_iload_n hx hb dX10_chapel_77 rfl (lv_at hl 1 rfl) ?_
  refine lv_aload_n hx hb dX10_chapel_78 rfl (lv_at hl 0 rfl) ?_
  refine m_geti (x := σ 63 3) C0 hH f_63_3 kF_X10_103 dX10_chapel_79 rfl ?_
  refine lv_icmp_ge (tgt := 136) hx hb dX10_chapel_82 (by decide) (fun hc1 => ?_) (fun hc1 => ?_)
  · have h := h.1 hc1
    refine lv_iconst (v := 0) hx hb dX10_chapel_136 (by decide) ?_
    refine lv_istore_n (lv' := [(1, .int 0), (0, .ref (Ad E 63))]) hx hb dX10_chapel_137 rfl hl (by decide) rfl (fun ls hl => ?_)
    exact h p e R s m args below meth c Z cells slots H locs ls C0 hH (lv_sub hl [1, 0] rfl) hret
  · have h := h.2 hc1
    refine lv_aload_n hx hb dX10_chapel_85 rfl (lv_at hl 0 rfl) ?_
    refine m_getr C0 hH f_63_9 65 rfl kF_X10_13 dX10_chapel_86 ?_
    refine lv_iload_n hx hb dX10_chapel_89 rfl (lv_at hl 1 rfl) ?_
    refine lv_aload_n hx hb dX10_chapel_90 rfl (lv_at hl 0 rfl) ?_
    refine m_getr C0 hH f_63_0 64 rfl kF_X10_7 dX10_chapel_91 ?_
    refine lv_iconst (v := 2) hx hb dX10_chapel_94 (by decide) ?_
    refine lv_iconst (v := 3) hx hb dX10_chapel_95 (by decide) ?_
    refine lv_iload_n hx hb dX10_chapel_96 rfl (lv_at hl 1 rfl) ?_
    refine lv_imul hx hb dX10_chapel_97 ?_
    refine lv_iadd hx hb dX10_chapel_98 ?_
    refine m_iald (x := σ 64 ((2 + (3 * x1)).toNatClampNeg)) C0 hH a_64 h.1 dX10_chapel_99 rfl ?_
    have h := h.2
    refine m_cS (M2 := M_X10_kindBy) (As := [.int (σ 64 ((2 + (3 * x1)).toNatClampNeg))]) (rest := [.int x1, .ref (Ad E 65)]) h C0 hH hl kc_X10_kindBy ks_X10_kindBy kM_X10_68 rfl (Nat.le_of_ble_eq_true rfl) (Nat.le_of_ble_eq_true rfl) ⟨Nat.le_of_ble_eq_true rfl, Nat.le_of_ble_eq_true rfl⟩ dX10_chapel_100 rfl (fun r τ2 H locs hq hH => ?_)
    obtain ⟨r3, rfl, h⟩ := hq
    refine m_iast (j := x1.toNatClampNeg) C0 hH a_65 h.1 rfl dX10_chapel_103 (fun H locs hH => ?_)
    have h := h.2
    refine lv_aload_n hx hb dX10_chapel_104 rfl (lv_at hl 0 rfl) ?_
    refine m_getr C0 hH f_63_10 66 rfl kF_X10_16 dX10_chapel_105 ?_
    refine lv_iload_n hx hb dX10_chapel_108 rfl (lv_at hl 1 rfl) ?_
    refine lv_aload_n hx hb dX10_chapel_109 rfl (lv_at hl 0 rfl) ?_
    refine m_getr C0 hH f_63_0 64 rfl kF_X10_7 dX10_chapel_110 ?_
    refine lv_iconst (v := 3) hx hb dX10_chapel_113 (by decide) ?_
    refine lv_iconst (v := 3) hx hb dX10_chapel_114 (by decide) ?_
    refine lv_iload_n hx hb dX10_chapel_115 rfl (lv_at hl 1 rfl) ?_
    refine lv_imul hx hb dX10_chapel_116 ?_
    refine lv_iadd hx hb dX10_chapel_117 ?_
    refine m_iald (x := τ2 64 ((3 + (3 * x1)).toNatClampNeg)) C0 hH a_64 h.1 dX10_chapel_118 rfl ?_
    have h := h.2
    refine lv_bipush (v := 48) hx hb dX10_chapel_119 (by decide) ?_
    refine lv_isub hx hb dX10_chapel_121 ?_
    refine m_iast (j := x1.toNatClampNeg) C0 hH a_66 h.1 rfl dX10_chapel_122 (fun H locs hH => ?_)
    have h := h.2
    refine lv_aload_n hx hb dX10_chapel_123 rfl (lv_at hl 0 rfl) ?_
    refine m_getr C0 hH f_63_11 67 rfl kF_X10_19 dX10_chapel_124 ?_
    refine lv_iload_n hx hb dX10_chapel_127 rfl (lv_at hl 1 rfl) ?_
    refine lv_iconst (v := 0) hx hb dX10_chapel_128 (by decide) ?_
    refine m_iast (j := x1.toNatClampNeg) C0 hH a_67 h.1 rfl dX10_chapel_129 (fun H locs hH => ?_)
    have h := h.2
    refine lv_iinc (v := (x1 + 1)) (lv' := [(1, .int (x1 + 1)), (0, .ref (Ad E 63))]) hx hb dX10_chapel_130 hl (k := 1) rfl rfl (by decide) rfl (fun ls hl => ?_)
    refine lv_goto (tgt := 77) hx hb dX10_chapel_133 (by decide) ?_
    exact h p e R s m args below meth c Z cells slots H locs ls C0 hH (lv_sub hl [1, 0] rfl) hret
set_option maxRecDepth 20000 in
set_option maxHeartbeats 4000000 in
theorem s_X10_chapel_138 (E : EE) (x1 : Int32) (σ : Mm) (Q : Int32 → Mm → Prop) (h : (((σ 63 4) ≤ x1 → Q (σ 63 3) (up (up (up (up (up σ 63 6 0) 63 7 0) 63 20 0) 63 8 ((σ 63 8) + 1)) 63 1 0)) ∧ (¬ (σ 63 4) ≤ x1 → (vp_in (((σ 63 2) + 1) + (4 * x1)) 54 ∧ (vp_in x1 8 ∧ (vp_in ((((σ 63 2) + 1) + (4 * x1)) + 1) 54 ∧ (vp_in x1 8 ∧ (vp_in ((((σ 63 2) + 1) + (4 * x1)) + 2) 54 ∧ (vp_in x1 8 ∧ r_X10_chapel_138 E (x1 + 1) (up (up (up σ 68 x1.toNatClampNeg ((σ 64 ((((σ 63 2) + 1) + (4 * x1)).toNatClampNeg)) - 48)) 69 x1.toNatClampNeg ((σ 64 (((((σ 63 2) + 1) + (4 * x1)) + 1).toNatClampNeg)) - 48)) 70 x1.toNatClampNeg ((σ 64 (((((σ 63 2) + 1) + (4 * x1)) + 2).toNatClampNeg)) - 48)) Q))))))))) : r_X10_chapel_138 E x1 σ Q := by
  intro p e R s m args below meth c Z cells slots H locs ls C0 hH hl hret
  have hx := C0.1
  have hb : c.code = cX10_chapel := C0.2.1
  have hl : lv_has ls 3 [(0, .ref (Ad E 63)), (1, .int x1)] := hl
  refine lv_iload_n hx hb dX10_chapel_138 rfl (lv_at hl 1 rfl) ?_
  refine lv_aload_n hx hb dX10_chapel_139 rfl (lv_at hl 0 rfl) ?_
  refine m_geti (x := σ 63 4) C0 hH f_63_4 kF_X10_106 dX10_chapel_140 rfl ?_
  refine lv_icmp_ge (tgt := 212) hx hb dX10_chapel_143 (by decide) (fun hc1 => ?_) (fun hc1 => ?_)
  · have h := h.1 hc1
    refine lv_aload_n hx hb dX10_chapel_212 rfl (lv_at hl 0 rfl) ?_
    refine lv_iconst (v := 0) hx hb dX10_chapel_213 (by decide) ?_
    refine m_puti C0 hH f_63_6 kF_X10_109 rfl dX10_chapel_214 rfl rfl (fun H locs hH => ?_)
    refine lv_aload_n hx hb dX10_chapel_217 rfl (lv_at hl 0 rfl) ?_
    refine lv_iconst (v := 0) hx hb dX10_chapel_218 (by decide) ?_
    refine m_puti C0 hH f_63_7 kF_X10_112 rfl dX10_chapel_219 rfl rfl (fun H locs hH => ?_)
    refine lv_aload_n hx hb dX10_chapel_222 rfl (lv_at hl 0 rfl) ?_
    refine lv_iconst (v := 0) hx hb dX10_chapel_223 (by decide) ?_
    refine m_puti C0 hH f_63_20 kF_X10_115 rfl dX10_chapel_224 rfl rfl (fun H locs hH => ?_)
    refine lv_aload_n hx hb dX10_chapel_227 rfl (lv_at hl 0 rfl) ?_
    refine lv_dup hx hb dX10_chapel_228 rfl ?_
    refine m_geti (x := σ 63 8) C0 hH f_63_8 kF_X10_118 dX10_chapel_229 rfl ?_
    refine lv_iconst (v := 1) hx hb dX10_chapel_232 (by decide) ?_
    refine lv_iadd hx hb dX10_chapel_233 ?_
    refine m_puti C0 hH f_63_8 kF_X10_118 rfl dX10_chapel_234 rfl rfl (fun H locs hH => ?_)
    refine lv_aload_n hx hb dX10_chapel_237 rfl (lv_at hl 0 rfl) ?_
    refine lv_iconst (v := 0) hx hb dX10_chapel_238 (by decide) ?_
    refine m_puti C0 hH f_63_1 kF_X10_65 rfl dX10_chapel_239 rfl rfl (fun H locs hH => ?_)
    refine lv_aload_n hx hb dX10_chapel_242 rfl (lv_at hl 0 rfl) ?_
    refine m_geti (x := σ 63 3) C0 hH f_63_3 kF_X10_103 dX10_chapel_243 rfl ?_
    exact hret (some (.int (σ 63 3))) _ _ _ _ _ ⟨_, rfl, h⟩ hH ⟨dX10_chapel_246, .int, rfl, rfl⟩
  · have h := h.2 hc1
    refine lv_aload_n hx hb dX10_chapel_146 rfl (lv_at hl 0 rfl) ?_
    refine m_geti (x := σ 63 2) C0 hH f_63_2 kF_X10_76 dX10_chapel_147 rfl ?_
    refine lv_iconst (v := 1) hx hb dX10_chapel_150 (by decide) ?_
    refine lv_iadd hx hb dX10_chapel_151 ?_
    refine lv_iconst (v := 4) hx hb dX10_chapel_152 (by decide) ?_
    refine lv_iload_n hx hb dX10_chapel_153 rfl (lv_at hl 1 rfl) ?_
    refine lv_imul hx hb dX10_chapel_154 ?_
    refine lv_iadd hx hb dX10_chapel_155 ?_
    refine lv_istore_n (lv' := [(2, .int (((σ 63 2) + 1) + (4 * x1))), (0, .ref (Ad E 63)), (1, .int x1)]) hx hb dX10_chapel_156 rfl hl (by decide) rfl (fun ls hl => ?_)
    refine lv_aload_n hx hb dX10_chapel_157 rfl (lv_at hl 1 rfl) ?_
    refine m_getr C0 hH f_63_12 68 rfl kF_X10_22 dX10_chapel_158 ?_
    refine lv_iload_n hx hb dX10_chapel_161 rfl (lv_at hl 2 rfl) ?_
    refine lv_aload_n hx hb dX10_chapel_162 rfl (lv_at hl 1 rfl) ?_
    refine m_getr C0 hH f_63_0 64 rfl kF_X10_7 dX10_chapel_163 ?_
    refine lv_iload_n hx hb dX10_chapel_166 rfl (lv_at hl 0 rfl) ?_
    refine m_iald (x := σ 64 ((((σ 63 2) + 1) + (4 * x1)).toNatClampNeg)) C0 hH a_64 h.1 dX10_chapel_167 rfl ?_
    have h := h.2
    refine lv_bipush (v := 48) hx hb dX10_chapel_168 (by decide) ?_
    refine lv_isub hx hb dX10_chapel_170 ?_
    refine m_iast (j := x1.toNatClampNeg) C0 hH a_68 h.1 rfl dX10_chapel_171 (fun H locs hH => ?_)
    have h := h.2
    refine lv_aload_n hx hb dX10_chapel_172 rfl (lv_at hl 1 rfl) ?_
    refine m_getr C0 hH f_63_13 69 rfl kF_X10_25 dX10_chapel_173 ?_
    refine lv_iload_n hx hb dX10_chapel_176 rfl (lv_at hl 2 rfl) ?_
    refine lv_aload_n hx hb dX10_chapel_177 rfl (lv_at hl 1 rfl) ?_
    refine m_getr C0 hH f_63_0 64 rfl kF_X10_7 dX10_chapel_178 ?_
    refine lv_iload_n hx hb dX10_chapel_181 rfl (lv_at hl 0 rfl) ?_
    refine lv_iconst (v := 1) hx hb dX10_chapel_182 (by decide) ?_
    refine lv_iadd hx hb dX10_chapel_183 ?_
    refine m_iald (x := σ 64 (((((σ 63 2) + 1) + (4 * x1)) + 1).toNatClampNeg)) C0 hH a_64 h.1 dX10_chapel_184 rfl ?_
    have h := h.2
    refine lv_bipush (v := 48) hx hb dX10_chapel_185 (by decide) ?_
    refine lv_isub hx hb dX10_chapel_187 ?_
    refine m_iast (j := x1.toNatClampNeg) C0 hH a_69 h.1 rfl dX10_chapel_188 (fun H locs hH => ?_)
    have h := h.2
    refine lv_aload_n hx hb dX10_chapel_189 rfl (lv_at hl 1 rfl) ?_
    refine m_getr C0 hH f_63_14 70 rfl kF_X10_28 dX10_chapel_190 ?_
    refine lv_iload_n hx hb dX10_chapel_193 rfl (lv_at hl 2 rfl) ?_
    refine lv_aload_n hx hb dX10_chapel_194 rfl (lv_at hl 1 rfl) ?_
    refine m_getr C0 hH f_63_0 64 rfl kF_X10_7 dX10_chapel_195 ?_
    refine lv_iload_n hx hb dX10_chapel_198 rfl (lv_at hl 0 rfl) ?_
    refine lv_iconst (v := 2) hx hb dX10_chapel_199 (by decide) ?_
    refine lv_iadd hx hb dX10_chapel_200 ?_
    refine m_iald (x := σ 64 (((((σ 63 2) + 1) + (4 * x1)) + 2).toNatClampNeg)) C0 hH a_64 h.1 dX10_chapel_201 rfl ?_
    have h := h.2
    refine lv_bipush (v := 48) hx hb dX10_chapel_202 (by decide) ?_
    refine lv_isub hx hb dX10_chapel_204 ?_
    refine m_iast (j := x1.toNatClampNeg) C0 hH a_70 h.1 rfl dX10_chapel_205 (fun H locs hH => ?_)
    have h := h.2
    refine lv_iinc (v := (x1 + 1)) (lv' := [(1, .int (x1 + 1)), (2, .int (((σ 63 2) + 1) + (4 * x1))), (0, .ref (Ad E 63))]) hx hb dX10_chapel_206 hl (k := 2) rfl rfl (by decide) rfl (fun ls hl => ?_)
    refine lv_goto (tgt := 138) hx hb dX10_chapel_209 (by decide) ?_
    exact h p e R s m args below meth c Z cells slots H locs ls C0 hH (lv_sub hl [2, 0] rfl) hret

def r_X10_isPerson_0 (E : EE) (x1 : Int32) (σ : Mm) (Q : Int32 → Mm → Prop) : Prop := Rn E M_X10_isPerson 0 [(0, .ref (Ad E 63)), (1, .int x1)] [] σ (qi Q)
set_option maxRecDepth 20000 in
set_option maxHeartbeats 4000000 in
theorem s_X10_isPerson_0 (E : EE) (x1 : Int32) (σ : Mm) (Q : Int32 → Mm → Prop) (h : r_X10_in_0 E x1.toInt64 0 (((σ 63 3) - 1).toInt64) σ (fun r2 τ1 => ((r2 = 0 ∨ r2 = 1) ∧ Q r2 τ1))) : r_X10_isPerson_0 E x1 σ Q := by
  intro p e R s m args below meth c Z cells slots H locs ls C0 hH hl hret
  have hx := C0.1
  have hb : c.code = cX10_isPerson := C0.2.1
  have hl : lv_has ls 2 [(0, .ref (Ad E 63)), (1, .int x1)] := hl
  refine lv_iload_n hx hb dX10_isPerson_0 rfl (lv_at hl 1 rfl) ?_
  refine lv_i2l hx hb dX10_isPerson_1 rfl ?_
  refine lv_lconst (v := 0) hx hb dX10_isPerson_2 (by decide) ?_
  refine lv_aload_n hx hb dX10_isPerson_3 rfl (lv_at hl 0 rfl) ?_
  refine m_geti (x := σ 63 3) C0 hH f_63_3 kF_X10_103 dX10_isPerson_4 rfl ?_
  refine lv_iconst (v := 1) hx hb dX10_isPerson_7 (by decide) ?_
  refine lv_isub hx hb dX10_isPerson_8 ?_
  refine lv_i2l hx hb dX10_isPerson_9 rfl ?_
  refine m_cS (M2 := M_X10_in) (As := [.long x1.toInt64, .long 0, .long ((σ 63 3) - 1).toInt64]) (rest := []) h C0 hH hl kc_X10_in ks_X10_in kM_X10_61 rfl (Nat.le_of_ble_eq_true rfl) (Nat.le_of_ble_eq_true rfl) ⟨Nat.le_of_ble_eq_true rfl, Nat.le_of_ble_eq_true rfl⟩ dX10_isPerson_10 rfl (fun r τ1 H locs hq hH => ?_)
  obtain ⟨r2, rfl, h⟩ := hq
  exact hret (some (.int r2)) _ _ _ _ _ ⟨_, rfl, h.2⟩ hH ⟨dX10_isPerson_13, .boolean, rfl, nb h.1⟩

def r_X10_grudgesOf_0 (E : EE) (x1 : Int32) (x2 : Int32) (σ : Mm) (Q : Int32 → Mm → Prop) : Prop := Rn E M_X10_grudgesOf 0 [(0, .ref (Ad E 63)), (1, .int x1), (2, .int x2)] [] σ (qi Q)
def r_X10_grudgesOf_5 (E : EE) (x1 : Int32) (x2 : Int32) (x3 : Int32) (x4 : Int32) (σ : Mm) (Q : Int32 → Mm → Prop) : Prop := Rn E M_X10_grudgesOf 5 [(0, .ref (Ad E 63)), (1, .int x1), (2, .int x2), (3, .int x3), (4, .int x4)] [] σ (qi Q)
set_option maxRecDepth 20000 in
set_option maxHeartbeats 4000000 in
theorem s_X10_grudgesOf_0 (E : EE) (x1 : Int32) (x2 : Int32) (σ : Mm) (Q : Int32 → Mm → Prop) (h : r_X10_grudgesOf_5 E x1 x2 0 0 σ Q) : r_X10_grudgesOf_0 E x1 x2 σ Q := by
  intro p e R s m args below meth c Z cells slots H locs ls C0 hH hl hret
  have hx := C0.1
  have hb : c.code = cX10_grudgesOf := C0.2.1
  have hl : lv_has ls 5 [(0, .ref (Ad E 63)), (1, .int x1), (2, .int x2)] := hl
  refine lv_iconst (v := 0) hx hb dX10_grudgesOf_0 (by decide) ?_
  refine lv_istore_n (lv' := [(3, .int 0), (0, .ref (Ad E 63)), (1, .int x1), (2, .int x2)]) hx hb dX10_grudgesOf_1 rfl hl (by decide) rfl (fun ls hl => ?_)
  refine lv_iconst (v := 0) hx hb dX10_grudgesOf_2 (by decide) ?_
  refine lv_istore (lv' := [(4, .int 0), (3, .int 0), (0, .ref (Ad E 63)), (1, .int x1), (2, .int x2)]) hx hb dX10_grudgesOf_3 hl (by decide) rfl (fun ls hl => ?_)
  exact h p e R s m args below meth c Z cells slots H locs ls C0 hH (lv_sub hl [2, 3, 4, 1, 0] rfl) hret
set_option maxRecDepth 20000 in
set_option maxHeartbeats 4000000 in
theorem s_X10_grudgesOf_5 (E : EE) (x1 : Int32) (x2 : Int32) (x3 : Int32) (x4 : Int32) (σ : Mm) (Q : Int32 → Mm → Prop) (h : (((σ 63 4) ≤ x4 → Q x3 σ) ∧ (¬ (σ 63 4) ≤ x4 → (vp_in x4 8 ∧ ((¬ (σ 69 x4.toNatClampNeg) = x1 → r_X10_grudgesOf_5 E x1 x2 (x3 ||| 0) (x4 + 1) σ Q) ∧ ((σ 69 x4.toNatClampNeg) = x1 → ((¬ ((x2 >>> (x4 &&& 31)) &&& 1) = 0 → r_X10_grudgesOf_5 E x1 x2 (x3 ||| 0) (x4 + 1) σ Q) ∧ (((x2 >>> (x4 &&& 31)) &&& 1) = 0 → (vp_in x4 8 ∧ r_X10_grudgesOf_5 E x1 x2 (x3 ||| (1 <<< ((σ 68 x4.toNatClampNeg) &&& 31))) (x4 + 1) σ Q))))))))) : r_X10_grudgesOf_5 E x1 x2 x3 x4 σ Q := by
  intro p e R s m args below meth c Z cells slots H locs ls C0 hH hl hret
  have hx := C0.1
  have hb : c.code = cX10_grudgesOf := C0.2.1
  have hl : lv_has ls 5 [(0, .ref (Ad E 63)), (1, .int x1), (2, .int x2), (3, .int x3), (4, .int x4)] := hl
  refine lv_iload hx hb dX10_grudgesOf_5 (lv_at hl 4 rfl) ?_
  refine lv_aload_n hx hb dX10_grudgesOf_7 rfl (lv_at hl 0 rfl) ?_
  refine m_geti (x := σ 63 4) C0 hH f_63_4 kF_X10_106 dX10_grudgesOf_8 rfl ?_
  refine lv_icmp_ge (tgt := 56) hx hb dX10_grudgesOf_11 (by decide) (fun hc1 => ?_) (fun hc1 => ?_)
  · have h := h.1 hc1
    refine lv_iload_n hx hb dX10_grudgesOf_56 rfl (lv_at hl 3 rfl) ?_
    exact hret (some (.int x3)) _ _ _ _ _ ⟨_, rfl, h⟩ hH ⟨dX10_grudgesOf_57, .int, rfl, rfl⟩
  · have h := h.2 hc1
    refine lv_iload_n hx hb dX10_grudgesOf_14 rfl (lv_at hl 3 rfl) ?_
    refine lv_aload_n hx hb dX10_grudgesOf_15 rfl (lv_at hl 0 rfl) ?_
    refine m_getr C0 hH f_63_13 69 rfl kF_X10_25 dX10_grudgesOf_16 ?_
    refine lv_iload hx hb dX10_grudgesOf_19 (lv_at hl 4 rfl) ?_
    refine m_iald (x := σ 69 x4.toNatClampNeg) C0 hH a_69 h.1 dX10_grudgesOf_21 rfl ?_
    have h := h.2
    refine lv_iload_n hx hb dX10_grudgesOf_22 rfl (lv_at hl 1 rfl) ?_
    refine lv_icmp_ne (tgt := 47) hx hb dX10_grudgesOf_23 (by decide) (fun hc2 => ?_) (fun hc2 => ?_)
    · have h := h.1 hc2
      refine lv_iconst (v := 0) hx hb dX10_grudgesOf_47 (by decide) ?_
      refine lv_ior hx hb dX10_grudgesOf_48 ?_
      refine lv_istore_n (lv' := [(3, .int (x3 ||| 0)), (0, .ref (Ad E 63)), (1, .int x1), (2, .int x2), (4, .int x4)]) hx hb dX10_grudgesOf_49 rfl hl (by decide) rfl (fun ls hl => ?_)
      refine lv_iinc (v := (x4 + 1)) (lv' := [(4, .int (x4 + 1)), (3, .int (x3 ||| 0)), (0, .ref (Ad E 63)), (1, .int x1), (2, .int x2)]) hx hb dX10_grudgesOf_50 hl (k := 4) rfl rfl (by decide) rfl (fun ls hl => ?_)
      refine lv_goto (tgt := 5) hx hb dX10_grudgesOf_53 (by decide) ?_
      exact h p e R s m args below meth c Z cells slots H locs ls C0 hH (lv_sub hl [2, 3, 4, 1, 0] rfl) hret
    · have h := h.2 hc2
      refine lv_iload_n hx hb dX10_grudgesOf_26 rfl (lv_at hl 2 rfl) ?_
      refine lv_iload hx hb dX10_grudgesOf_27 (lv_at hl 4 rfl) ?_
      refine lv_ishr hx hb dX10_grudgesOf_29 ?_
      refine lv_iconst (v := 1) hx hb dX10_grudgesOf_30 (by decide) ?_
      refine lv_iand hx hb dX10_grudgesOf_31 ?_
      refine lv_if_ne (tgt := 47) hx hb dX10_grudgesOf_32 (by decide) (fun hc3 => ?_) (fun hc3 => ?_)
      · have h := h.1 hc3
        refine lv_iconst (v := 0) hx hb dX10_grudgesOf_47 (by decide) ?_
        refine lv_ior hx hb dX10_grudgesOf_48 ?_
        refine lv_istore_n (lv' := [(3, .int (x3 ||| 0)), (0, .ref (Ad E 63)), (1, .int x1), (2, .int x2), (4, .int x4)]) hx hb dX10_grudgesOf_49 rfl hl (by decide) rfl (fun ls hl => ?_)
        refine lv_iinc (v := (x4 + 1)) (lv' := [(4, .int (x4 + 1)), (3, .int (x3 ||| 0)), (0, .ref (Ad E 63)), (1, .int x1), (2, .int x2)]) hx hb dX10_grudgesOf_50 hl (k := 4) rfl rfl (by decide) rfl (fun ls hl => ?_)
        refine lv_goto (tgt := 5) hx hb dX10_grudgesOf_53 (by decide) ?_
        exact h p e R s m args below meth c Z cells slots H locs ls C0 hH (lv_sub hl [2, 3, 4, 1, 0] rfl) hret
      · have h := h.2 hc3
        refine lv_iconst (v := 1) hx hb dX10_grudgesOf_35 (by decide) ?_
        refine lv_aload_n hx hb dX10_grudgesOf_36 rfl (lv_at hl 0 rfl) ?_
        refine m_getr C0 hH f_63_12 68 rfl kF_X10_22 dX10_grudgesOf_37 ?_
        refine lv_iload hx hb dX10_grudgesOf_40 (lv_at hl 4 rfl) ?_
        refine m_iald (x := σ 68 x4.toNatClampNeg) C0 hH a_68 h.1 dX10_grudgesOf_42 rfl ?_
        have h := h.2
        refine lv_ishl hx hb dX10_grudgesOf_43 ?_
        refine lv_goto (tgt := 48) hx hb dX10_grudgesOf_44 (by decide) ?_
        refine lv_ior hx hb dX10_grudgesOf_48 ?_
        refine lv_istore_n (lv' := [(3, .int (x3 ||| (1 <<< ((σ 68 x4.toNatClampNeg) &&& 31)))), (0, .ref (Ad E 63)), (1, .int x1), (2, .int x2), (4, .int x4)]) hx hb dX10_grudgesOf_49 rfl hl (by decide) rfl (fun ls hl => ?_)
        refine lv_iinc (v := (x4 + 1)) (lv' := [(4, .int (x4 + 1)), (3, .int (x3 ||| (1 <<< ((σ 68 x4.toNatClampNeg) &&& 31)))), (0, .ref (Ad E 63)), (1, .int x1), (2, .int x2)]) hx hb dX10_grudgesOf_50 hl (k := 4) rfl rfl (by decide) rfl (fun ls hl => ?_)
        refine lv_goto (tgt := 5) hx hb dX10_grudgesOf_53 (by decide) ?_
        exact h p e R s m args below meth c Z cells slots H locs ls C0 hH (lv_sub hl [2, 3, 4, 1, 0] rfl) hret

def r_X10_guiltBy_0 (E : EE) (x1 : Int32) (x2 : Int32) (σ : Mm) (Q : Int32 → Mm → Prop) : Prop := Rn E M_X10_guiltBy 0 [(0, .ref (Ad E 63)), (1, .int x1), (2, .int x2)] [] σ (qi Q)
def r_X10_guiltBy_8 (E : EE) (x1 : Int32) (x2 : Int32) (x3 : Int32) (x4 : Int32) (x5 : Int32) (σ : Mm) (Q : Int32 → Mm → Prop) : Prop := Rn E M_X10_guiltBy 8 [(0, .ref (Ad E 63)), (1, .int x1), (2, .int x2), (3, .int x3), (4, .int x4), (5, .int x5)] [] σ (qi Q)
set_option maxRecDepth 20000 in
set_option maxHeartbeats 4000000 in
theorem s_X10_guiltBy_0 (E : EE) (x1 : Int32) (x2 : Int32) (σ : Mm) (Q : Int32 → Mm → Prop) (h : r_X10_guiltBy_8 E x1 x2 0 0 0 σ Q) : r_X10_guiltBy_0 E x1 x2 σ Q := by
  intro p e R s m args below meth c Z cells slots H locs ls C0 hH hl hret
  have hx := C0.1
  have hb : c.code = cX10_guiltBy := C0.2.1
  have hl : lv_has ls 8 [(0, .ref (Ad E 63)), (1, .int x1), (2, .int x2)] := hl
  refine lv_iconst (v := 0) hx hb dX10_guiltBy_0 (by decide) ?_
  refine lv_istore_n (lv' := [(3, .int 0), (0, .ref (Ad E 63)), (1, .int x1), (2, .int x2)]) hx hb dX10_guiltBy_1 rfl hl (by decide) rfl (fun ls hl => ?_)
  refine lv_iconst (v := 0) hx hb dX10_guiltBy_2 (by decide) ?_
  refine lv_istore (lv' := [(4, .int 0), (3, .int 0), (0, .ref (Ad E 63)), (1, .int x1), (2, .int x2)]) hx hb dX10_guiltBy_3 hl (by decide) rfl (fun ls hl => ?_)
  refine lv_iconst (v := 0) hx hb dX10_guiltBy_5 (by decide) ?_
  refine lv_istore (lv' := [(5, .int 0), (4, .int 0), (3, .int 0), (0, .ref (Ad E 63)), (1, .int x1), (2, .int x2)]) hx hb dX10_guiltBy_6 hl (by decide) rfl (fun ls hl => ?_)
  exact h p e R s m args below meth c Z cells slots H locs ls C0 hH (lv_sub hl [3, 4, 5, 2, 1, 0] rfl) hret
set_option maxRecDepth 20000 in
set_option maxHeartbeats 4000000 in
theorem s_X10_guiltBy_8 (E : EE) (x1 : Int32) (x2 : Int32) (x3 : Int32) (x4 : Int32) (x5 : Int32) (σ : Mm) (Q : Int32 → Mm → Prop) (h : (((σ 63 4) ≤ x5 → (vp_in x1 6 ∧ (((σ 65 x1.toNatClampNeg) = 1 → Q (x3 / 2) σ) ∧ ((σ 65 x1.toNatClampNeg) = 2 → Q (x3 + x4) σ) ∧ ((σ 65 x1.toNatClampNeg) = 3 → ((x3 ≤ 1 → Q 1 σ) ∧ (¬ x3 ≤ 1 → Q x3 σ))) ∧ ((σ 65 x1.toNatClampNeg) = 4 → Q 0 σ) ∧ (¬ (σ 65 x1.toNatClampNeg) = 1 → ¬ (σ 65 x1.toNatClampNeg) = 2 → ¬ (σ 65 x1.toNatClampNeg) = 3 → ¬ (σ 65 x1.toNatClampNeg) = 4 → Q x3 σ)))) ∧ (¬ (σ 63 4) ≤ x5 → (vp_in x5 8 ∧ ((¬ (σ 68 x5.toNatClampNeg) = x1 → ((¬ ((x2 >>> (x5 &&& 31)) &&& 1) = 1 → r_X10_guiltBy_8 E x1 x2 (x3 + 0) (x4 + 0) (x5 + 1) σ Q) ∧ (((x2 >>> (x5 &&& 31)) &&& 1) = 1 → r_X10_guiltBy_8 E x1 x2 (x3 + 0) (x4 + 0) (x5 + 1) σ Q))) ∧ ((σ 68 x5.toNatClampNeg) = x1 → ((¬ ((x2 >>> (x5 &&& 31)) &&& 1) = 1 → (vp_in x5 8 ∧ r_X10_guiltBy_8 E x1 x2 (x3 + (σ 70 x5.toNatClampNeg)) (x4 + 0) (x5 + 1) σ Q)) ∧ (((x2 >>> (x5 &&& 31)) &&& 1) = 1 → r_X10_guiltBy_8 E x1 x2 (x3 + 0) (x4 + 1) (x5 + 1) σ Q)))))))) : r_X10_guiltBy_8 E x1 x2 x3 x4 x5 σ Q := by
  intro p e R s m args below meth c Z cells slots H locs ls C0 hH hl hret
  have hx := C0.1
  have hb : c.code = cX10_guiltBy := C0.2.1
  have hl : lv_has ls 8 [(0, .ref (Ad E 63)), (1, .int x1), (2, .int x2), (3, .int x3), (4, .int x4), (5, .int x5)] := hl
  refine lv_iload hx hb dX10_guiltBy_8 (lv_at hl 5 rfl) ?_
  refine lv_aload_n hx hb dX10_guiltBy_10 rfl (lv_at hl 0 rfl) ?_
  refine m_geti (x := σ 63 4) C0 hH f_63_4 kF_X10_106 dX10_guiltBy_11 rfl ?_
  refine lv_icmp_ge (tgt := 102) hx hb dX10_guiltBy_14 (by decide) (fun hc1 => ?_) (fun hc1 => ?_)
  · have h := h.1 hc1
    refine lv_aload_n hx hb dX10_guiltBy_102 rfl (lv_at hl 0 rfl) ?_
    refine m_getr C0 hH f_63_9 65 rfl kF_X10_13 dX10_guiltBy_103 ?_
    refine lv_iload_n hx hb dX10_guiltBy_106 rfl (lv_at hl 1 rfl) ?_
    refine m_iald (x := σ 65 x1.toNatClampNeg) C0 hH a_65 h.1 dX10_guiltBy_107 rfl ?_
    have h := h.2
    by_cases hs2 : (σ 65 x1.toNatClampNeg) = 1
    · have h := h.1 hs2
      refine m_tin (v := 1) (tgt := 140) C0 dX10_guiltBy_108 hs2 (by decide) (by decide) rfl (by decide) ?_
      refine lv_iload_n hx hb dX10_guiltBy_140 rfl (lv_at hl 3 rfl) ?_
      refine lv_iconst (v := 2) hx hb dX10_guiltBy_141 (by decide) ?_
      refine lv_idiv hx hb dX10_guiltBy_142 (by decide) ?_
      exact hret (some (.int (x3 / 2))) _ _ _ _ _ ⟨_, rfl, h⟩ hH ⟨dX10_guiltBy_143, .int, rfl, rfl⟩
    have h := h.2
    by_cases hs3 : (σ 65 x1.toNatClampNeg) = 2
    · have h := h.1 hs3
      refine m_tin (v := 2) (tgt := 144) C0 dX10_guiltBy_108 hs3 (by decide) (by decide) rfl (by decide) ?_
      refine lv_iload_n hx hb dX10_guiltBy_144 rfl (lv_at hl 3 rfl) ?_
      refine lv_iload hx hb dX10_guiltBy_145 (lv_at hl 4 rfl) ?_
      refine lv_iadd hx hb dX10_guiltBy_147 ?_
      exact hret (some (.int (x3 + x4))) _ _ _ _ _ ⟨_, rfl, h⟩ hH ⟨dX10_guiltBy_148, .int, rfl, rfl⟩
    have h := h.2
    by_cases hs4 : (σ 65 x1.toNatClampNeg) = 3
    · have h := h.1 hs4
      refine m_tin (v := 3) (tgt := 149) C0 dX10_guiltBy_108 hs4 (by decide) (by decide) rfl (by decide) ?_
      refine lv_iload_n hx hb dX10_guiltBy_149 rfl (lv_at hl 3 rfl) ?_
      refine lv_iconst (v := 1) hx hb dX10_guiltBy_150 (by decide) ?_
      refine lv_icmp_le (tgt := 158) hx hb dX10_guiltBy_151 (by decide) (fun hc5 => ?_) (fun hc5 => ?_)
      · have h := h.1 hc5
        refine lv_iconst (v := 1) hx hb dX10_guiltBy_158 (by decide) ?_
        exact hret (some (.int 1)) _ _ _ _ _ ⟨_, rfl, h⟩ hH ⟨dX10_guiltBy_159, .int, rfl, rfl⟩
      · have h := h.2 hc5
        refine lv_iload_n hx hb dX10_guiltBy_154 rfl (lv_at hl 3 rfl) ?_
        refine lv_goto (tgt := 159) hx hb dX10_guiltBy_155 (by decide) ?_
        exact hret (some (.int x3)) _ _ _ _ _ ⟨_, rfl, h⟩ hH ⟨dX10_guiltBy_159, .int, rfl, rfl⟩
    have h := h.2
    by_cases hs6 : (σ 65 x1.toNatClampNeg) = 4
    · have h := h.1 hs6
      refine m_tin (v := 4) (tgt := 160) C0 dX10_guiltBy_108 hs6 (by decide) (by decide) rfl (by decide) ?_
      refine lv_iconst (v := 0) hx hb dX10_guiltBy_160 (by decide) ?_
      exact hret (some (.int 0)) _ _ _ _ _ ⟨_, rfl, h⟩ hH ⟨dX10_guiltBy_161, .int, rfl, rfl⟩
    have h := h.2
    have h := h hs2
    have h := h hs3
    have h := h hs4
    have h := h hs6
    refine m_tout (tgt := 162) C0 dX10_guiltBy_108 (fun v h1 h2 => ?_) (by decide) ?_
    · rcases (show v = 1 ∨ v = 2 ∨ v = 3 ∨ v = 4 by omega) with rfl | rfl | rfl | rfl
      · exact fun q => hs2 (q.trans (by decide))
      · exact fun q => hs3 (q.trans (by decide))
      · exact fun q => hs4 (q.trans (by decide))
      · exact fun q => hs6 (q.trans (by decide))
    refine lv_iload_n hx hb dX10_guiltBy_162 rfl (lv_at hl 3 rfl) ?_
    exact hret (some (.int x3)) _ _ _ _ _ ⟨_, rfl, h⟩ hH ⟨dX10_guiltBy_163, .int, rfl, rfl⟩
  · have h := h.2 hc1
    refine lv_aload_n hx hb dX10_guiltBy_17 rfl (lv_at hl 0 rfl) ?_
    refine m_getr C0 hH f_63_12 68 rfl kF_X10_22 dX10_guiltBy_18 ?_
    refine lv_iload hx hb dX10_guiltBy_21 (lv_at hl 5 rfl) ?_
    refine m_iald (x := σ 68 x5.toNatClampNeg) C0 hH a_68 h.1 dX10_guiltBy_23 rfl ?_
    have h := h.2
    refine lv_iload_n hx hb dX10_guiltBy_24 rfl (lv_at hl 1 rfl) ?_
    refine lv_icmp_ne (tgt := 32) hx hb dX10_guiltBy_25 (by decide) (fun hc7 => ?_) (fun hc7 => ?_)
    · have h := h.1 hc7
      refine lv_iconst (v := 0) hx hb dX10_guiltBy_32 (by decide) ?_
      refine lv_istore (lv' := [(6, .int 0), (0, .ref (Ad E 63)), (1, .int x1), (2, .int x2), (3, .int x3), (4, .int x4), (5, .int x5)]) hx hb dX10_guiltBy_33 hl (by decide) rfl (fun ls hl => ?_)
      refine lv_iload_n hx hb dX10_guiltBy_35 rfl (lv_at hl 3 rfl) ?_
      refine lv_iload hx hb dX10_guiltBy_36 (lv_at hl 6 rfl) ?_
      refine lv_ishr hx hb dX10_guiltBy_38 ?_
      refine lv_iconst (v := 1) hx hb dX10_guiltBy_39 (by decide) ?_
      refine lv_iand hx hb dX10_guiltBy_40 ?_
      refine lv_iconst (v := 1) hx hb dX10_guiltBy_41 (by decide) ?_
      refine lv_icmp_ne (tgt := 49) hx hb dX10_guiltBy_42 (by decide) (fun hc8 => ?_) (fun hc8 => ?_)
      · have h := h.1 hc8
        refine lv_iconst (v := 0) hx hb dX10_guiltBy_49 (by decide) ?_
        refine lv_istore (lv' := [(7, .int 0), (6, .int 0), (0, .ref (Ad E 63)), (1, .int x1), (2, .int x2), (3, .int x3), (4, .int x4), (5, .int x5)]) hx hb dX10_guiltBy_50 hl (by decide) rfl (fun ls hl => ?_)
        refine lv_iload_n hx hb dX10_guiltBy_52 rfl (lv_at hl 5 rfl) ?_
        refine lv_iload hx hb dX10_guiltBy_53 (lv_at hl 1 rfl) ?_
        refine lv_if_eq (tgt := 73) hx hb dX10_guiltBy_55 (by decide) (fun _ => ?_) (fun hc => absurd hc (by decide))
        refine lv_iconst (v := 0) hx hb dX10_guiltBy_73 (by decide) ?_
        refine lv_iadd hx hb dX10_guiltBy_74 ?_
        refine lv_istore_n (lv' := [(3, .int (x3 + 0)), (7, .int 0), (6, .int 0), (0, .ref (Ad E 63)), (1, .int x1), (2, .int x2), (4, .int x4), (5, .int x5)]) hx hb dX10_guiltBy_75 rfl hl (by decide) rfl (fun ls hl => ?_)
        refine lv_iload hx hb dX10_guiltBy_76 (lv_at hl 6 rfl) ?_
        refine lv_iload hx hb dX10_guiltBy_78 (lv_at hl 2 rfl) ?_
        refine lv_if_eq (tgt := 92) hx hb dX10_guiltBy_80 (by decide) (fun _ => ?_) (fun hc => absurd hc (by decide))
        refine lv_iconst (v := 0) hx hb dX10_guiltBy_92 (by decide) ?_
        refine lv_iadd hx hb dX10_guiltBy_93 ?_
        refine lv_istore (lv' := [(4, .int (x4 + 0)), (3, .int (x3 + 0)), (7, .int 0), (6, .int 0), (0, .ref (Ad E 63)), (1, .int x1), (2, .int x2), (5, .int x5)]) hx hb dX10_guiltBy_94 hl (by decide) rfl (fun ls hl => ?_)
        refine lv_iinc (v := (x5 + 1)) (lv' := [(5, .int (x5 + 1)), (4, .int (x4 + 0)), (3, .int (x3 + 0)), (7, .int 0), (6, .int 0), (0, .ref (Ad E 63)), (1, .int x1), (2, .int x2)]) hx hb dX10_guiltBy_96 hl (k := 7) rfl rfl (by decide) rfl (fun ls hl => ?_)
        refine lv_goto (tgt := 8) hx hb dX10_guiltBy_99 (by decide) ?_
        exact h p e R s m args below meth c Z cells slots H locs ls C0 hH (lv_sub hl [5, 6, 7, 2, 1, 0] rfl) hret
      · have h := h.2 hc8
        refine lv_iconst (v := 1) hx hb dX10_guiltBy_45 (by decide) ?_
        refine lv_goto (tgt := 50) hx hb dX10_guiltBy_46 (by decide) ?_
        refine lv_istore (lv' := [(7, .int 1), (6, .int 0), (0, .ref (Ad E 63)), (1, .int x1), (2, .int x2), (3, .int x3), (4, .int x4), (5, .int x5)]) hx hb dX10_guiltBy_50 hl (by decide) rfl (fun ls hl => ?_)
        refine lv_iload_n hx hb dX10_guiltBy_52 rfl (lv_at hl 5 rfl) ?_
        refine lv_iload hx hb dX10_guiltBy_53 (lv_at hl 1 rfl) ?_
        refine lv_if_eq (tgt := 73) hx hb dX10_guiltBy_55 (by decide) (fun _ => ?_) (fun hc => absurd hc (by decide))
        refine lv_iconst (v := 0) hx hb dX10_guiltBy_73 (by decide) ?_
        refine lv_iadd hx hb dX10_guiltBy_74 ?_
        refine lv_istore_n (lv' := [(3, .int (x3 + 0)), (7, .int 1), (6, .int 0), (0, .ref (Ad E 63)), (1, .int x1), (2, .int x2), (4, .int x4), (5, .int x5)]) hx hb dX10_guiltBy_75 rfl hl (by decide) rfl (fun ls hl => ?_)
        refine lv_iload hx hb dX10_guiltBy_76 (lv_at hl 6 rfl) ?_
        refine lv_iload hx hb dX10_guiltBy_78 (lv_at hl 2 rfl) ?_
        refine lv_if_eq (tgt := 92) hx hb dX10_guiltBy_80 (by decide) (fun _ => ?_) (fun hc => absurd hc (by decide))
        refine lv_iconst (v := 0) hx hb dX10_guiltBy_92 (by decide) ?_
        refine lv_iadd hx hb dX10_guiltBy_93 ?_
        refine lv_istore (lv' := [(4, .int (x4 + 0)), (3, .int (x3 + 0)), (7, .int 1), (6, .int 0), (0, .ref (Ad E 63)), (1, .int x1), (2, .int x2), (5, .int x5)]) hx hb dX10_guiltBy_94 hl (by decide) rfl (fun ls hl => ?_)
        refine lv_iinc (v := (x5 + 1)) (lv' := [(5, .int (x5 + 1)), (4, .int (x4 + 0)), (3, .int (x3 + 0)), (7, .int 1), (6, .int 0), (0, .ref (Ad E 63)), (1, .int x1), (2, .int x2)]) hx hb dX10_guiltBy_96 hl (k := 7) rfl rfl (by decide) rfl (fun ls hl => ?_)
        refine lv_goto (tgt := 8) hx hb dX10_guiltBy_99 (by decide) ?_
        exact h p e R s m args below meth c Z cells slots H locs ls C0 hH (lv_sub hl [5, 6, 7, 2, 1, 0] rfl) hret
    · have h := h.2 hc7
      refine lv_iconst (v := 1) hx hb dX10_guiltBy_28 (by decide) ?_
      refine lv_goto (tgt := 33) hx hb dX10_guiltBy_29 (by decide) ?_
      refine lv_istore (lv' := [(6, .int 1), (0, .ref (Ad E 63)), (1, .int x1), (2, .int x2), (3, .int x3), (4, .int x4), (5, .int x5)]) hx hb dX10_guiltBy_33 hl (by decide) rfl (fun ls hl => ?_)
      refine lv_iload_n hx hb dX10_guiltBy_35 rfl (lv_at hl 3 rfl) ?_
      refine lv_iload hx hb dX10_guiltBy_36 (lv_at hl 6 rfl) ?_
      refine lv_ishr hx hb dX10_guiltBy_38 ?_
      refine lv_iconst (v := 1) hx hb dX10_guiltBy_39 (by decide) ?_
      refine lv_iand hx hb dX10_guiltBy_40 ?_
      refine lv_iconst (v := 1) hx hb dX10_guiltBy_41 (by decide) ?_
      refine lv_icmp_ne (tgt := 49) hx hb dX10_guiltBy_42 (by decide) (fun hc9 => ?_) (fun hc9 => ?_)
      · have h := h.1 hc9
        refine lv_iconst (v := 0) hx hb dX10_guiltBy_49 (by decide) ?_
        refine lv_istore (lv' := [(7, .int 0), (6, .int 1), (0, .ref (Ad E 63)), (1, .int x1), (2, .int x2), (3, .int x3), (4, .int x4), (5, .int x5)]) hx hb dX10_guiltBy_50 hl (by decide) rfl (fun ls hl => ?_)
        refine lv_iload_n hx hb dX10_guiltBy_52 rfl (lv_at hl 5 rfl) ?_
        refine lv_iload hx hb dX10_guiltBy_53 (lv_at hl 1 rfl) ?_
        refine lv_if_eq (tgt := 73) hx hb dX10_guiltBy_55 (by decide) (fun hc => absurd hc (by decide)) (fun _ => ?_)
        refine lv_iload hx hb dX10_guiltBy_58 (lv_at hl 0 rfl) ?_
        refine lv_if_ne (tgt := 73) hx hb dX10_guiltBy_60 (by decide) (fun hc => absurd hc (by decide)) (fun _ => ?_)
        refine lv_aload_n hx hb dX10_guiltBy_63 rfl (lv_at hl 2 rfl) ?_
        refine m_getr C0 hH f_63_14 70 rfl kF_X10_28 dX10_guiltBy_64 ?_
        refine lv_iload hx hb dX10_guiltBy_67 (lv_at hl 7 rfl) ?_
        refine m_iald (x := σ 70 x5.toNatClampNeg) C0 hH a_70 h.1 dX10_guiltBy_69 rfl ?_
        have h := h.2
        refine lv_goto (tgt := 74) hx hb dX10_guiltBy_70 (by decide) ?_
        refine lv_iadd hx hb dX10_guiltBy_74 ?_
        refine lv_istore_n (lv' := [(3, .int (x3 + (σ 70 x5.toNatClampNeg))), (7, .int 0), (6, .int 1), (0, .ref (Ad E 63)), (1, .int x1), (2, .int x2), (4, .int x4), (5, .int x5)]) hx hb dX10_guiltBy_75 rfl hl (by decide) rfl (fun ls hl => ?_)
        refine lv_iload hx hb dX10_guiltBy_76 (lv_at hl 6 rfl) ?_
        refine lv_iload hx hb dX10_guiltBy_78 (lv_at hl 2 rfl) ?_
        refine lv_if_eq (tgt := 92) hx hb dX10_guiltBy_80 (by decide) (fun hc => absurd hc (by decide)) (fun _ => ?_)
        refine lv_iload hx hb dX10_guiltBy_83 (lv_at hl 1 rfl) ?_
        refine lv_if_eq (tgt := 92) hx hb dX10_guiltBy_85 (by decide) (fun _ => ?_) (fun hc => absurd hc (by decide))
        refine lv_iconst (v := 0) hx hb dX10_guiltBy_92 (by decide) ?_
        refine lv_iadd hx hb dX10_guiltBy_93 ?_
        refine lv_istore (lv' := [(4, .int (x4 + 0)), (3, .int (x3 + (σ 70 x5.toNatClampNeg))), (7, .int 0), (6, .int 1), (0, .ref (Ad E 63)), (1, .int x1), (2, .int x2), (5, .int x5)]) hx hb dX10_guiltBy_94 hl (by decide) rfl (fun ls hl => ?_)
        refine lv_iinc (v := (x5 + 1)) (lv' := [(5, .int (x5 + 1)), (4, .int (x4 + 0)), (3, .int (x3 + (σ 70 x5.toNatClampNeg))), (7, .int 0), (6, .int 1), (0, .ref (Ad E 63)), (1, .int x1), (2, .int x2)]) hx hb dX10_guiltBy_96 hl (k := 7) rfl rfl (by decide) rfl (fun ls hl => ?_)
        refine lv_goto (tgt := 8) hx hb dX10_guiltBy_99 (by decide) ?_
        exact h p e R s m args below meth c Z cells slots H locs ls C0 hH (lv_sub hl [5, 6, 7, 2, 1, 0] rfl) hret
      · have h := h.2 hc9
        refine lv_iconst (v := 1) hx hb dX10_guiltBy_45 (by decide) ?_
        refine lv_goto (tgt := 50) hx hb dX10_guiltBy_46 (by decide) ?_
        refine lv_istore (lv' := [(7, .int 1), (6, .int 1), (0, .ref (Ad E 63)), (1, .int x1), (2, .int x2), (3, .int x3), (4, .int x4), (5, .int x5)]) hx hb dX10_guiltBy_50 hl (by decide) rfl (fun ls hl => ?_)
        refine lv_iload_n hx hb dX10_guiltBy_52 rfl (lv_at hl 5 rfl) ?_
        refine lv_iload hx hb dX10_guiltBy_53 (lv_at hl 1 rfl) ?_
        refine lv_if_eq (tgt := 73) hx hb dX10_guiltBy_55 (by decide) (fun hc => absurd hc (by decide)) (fun _ => ?_)
        refine lv_iload hx hb dX10_guiltBy_58 (lv_at hl 0 rfl) ?_
        refine lv_if_ne (tgt := 73) hx hb dX10_guiltBy_60 (by decide) (fun _ => ?_) (fun hc => absurd hc (by decide))
        refine lv_iconst (v := 0) hx hb dX10_guiltBy_73 (by decide) ?_
        refine lv_iadd hx hb dX10_guiltBy_74 ?_
        refine lv_istore_n (lv' := [(3, .int (x3 + 0)), (7, .int 1), (6, .int 1), (0, .ref (Ad E 63)), (1, .int x1), (2, .int x2), (4, .int x4), (5, .int x5)]) hx hb dX10_guiltBy_75 rfl hl (by decide) rfl (fun ls hl => ?_)
        refine lv_iload hx hb dX10_guiltBy_76 (lv_at hl 6 rfl) ?_
        refine lv_iload hx hb dX10_guiltBy_78 (lv_at hl 2 rfl) ?_
        refine lv_if_eq (tgt := 92) hx hb dX10_guiltBy_80 (by decide) (fun hc => absurd hc (by decide)) (fun _ => ?_)
        refine lv_iload hx hb dX10_guiltBy_83 (lv_at hl 1 rfl) ?_
        refine lv_if_eq (tgt := 92) hx hb dX10_guiltBy_85 (by decide) (fun hc => absurd hc (by decide)) (fun _ => ?_)
        refine lv_iconst (v := 1) hx hb dX10_guiltBy_88 (by decide) ?_
        refine lv_goto (tgt := 93) hx hb dX10_guiltBy_89 (by decide) ?_
        refine lv_iadd hx hb dX10_guiltBy_93 ?_
        refine lv_istore (lv' := [(4, .int (x4 + 1)), (3, .int (x3 + 0)), (7, .int 1), (6, .int 1), (0, .ref (Ad E 63)), (1, .int x1), (2, .int x2), (5, .int x5)]) hx hb dX10_guiltBy_94 hl (by decide) rfl (fun ls hl => ?_)
        refine lv_iinc (v := (x5 + 1)) (lv' := [(5, .int (x5 + 1)), (4, .int (x4 + 1)), (3, .int (x3 + 0)), (7, .int 1), (6, .int 1), (0, .ref (Ad E 63)), (1, .int x1), (2, .int x2)]) hx hb dX10_guiltBy_96 hl (k := 7) rfl rfl (by decide) rfl (fun ls hl => ?_)
        refine lv_goto (tgt := 8) hx hb dX10_guiltBy_99 (by decide) ?_
        exact h p e R s m args below meth c Z cells slots H locs ls C0 hH (lv_sub hl [5, 6, 7, 2, 1, 0] rfl) hret

def r_X10_sitsBy_0 (E : EE) (x1 : Int32) (x2 : Int32) (σ : Mm) (Q : Int32 → Mm → Prop) : Prop := Rn E M_X10_sitsBy 0 [(0, .ref (Ad E 63)), (1, .int x1), (2, .int x2)] [] σ (qi Q)
def r_X10_sitsBy_2 (E : EE) (x1 : Int32) (x2 : Int32) (x3 : Int32) (σ : Mm) (Q : Int32 → Mm → Prop) : Prop := Rn E M_X10_sitsBy 2 [(0, .ref (Ad E 63)), (1, .int x1), (2, .int x2), (3, .int x3)] [] σ (qi Q)
def r_X10_sitsBy_33 (E : EE) (x1 : Int32) (x2 : Int32) (x3 : Int32) (x4 : Int32) (σ : Mm) (Q : Int32 → Mm → Prop) : Prop := Rn E M_X10_sitsBy 33 [(0, .ref (Ad E 63)), (1, .int x1), (2, .int x2), (3, .int x3), (4, .int x4)] [] σ (qi Q)
def r_X10_sitsBy_48 (E : EE) (x1 : Int32) (x2 : Int32) (x3 : Int32) (x4 : Int32) (x5 : Int32) (x6 : Int32) (σ : Mm) (Q : Int32 → Mm → Prop) : Prop := Rn E M_X10_sitsBy 48 [(0, .ref (Ad E 63)), (1, .int x1), (2, .int x2), (3, .int x3), (4, .int x4), (5, .int x5), (6, .int x6)] [] σ (qi Q)
set_option maxRecDepth 20000 in
set_option maxHeartbeats 4000000 in
theorem s_X10_sitsBy_0 (E : EE) (x1 : Int32) (x2 : Int32) (σ : Mm) (Q : Int32 → Mm → Prop) (h : r_X10_sitsBy_2 E x1 x2 0 σ Q) : r_X10_sitsBy_0 E x1 x2 σ Q := by
  intro p e R s m args below meth c Z cells slots H locs ls C0 hH hl hret
  have hx := C0.1
  have hb : c.code = cX10_sitsBy := C0.2.1
  have hl : lv_has ls 7 [(0, .ref (Ad E 63)), (1, .int x1), (2, .int x2)] := hl
  refine lv_iconst (v := 0) hx hb dX10_sitsBy_0 (by decide) ?_
  refine lv_istore_n (lv' := [(3, .int 0), (0, .ref (Ad E 63)), (1, .int x1), (2, .int x2)]) hx hb dX10_sitsBy_1 rfl hl (by decide) rfl (fun ls hl => ?_)
  exact h p e R s m args below meth c Z cells slots H locs ls C0 hH (lv_sub hl [1, 2, 3, 0] rfl) hret
set_option maxRecDepth 20000 in
set_option maxHeartbeats 4000000 in
theorem s_X10_sitsBy_2 (E : EE) (x1 : Int32) (x2 : Int32) (x3 : Int32) (σ : Mm) (Q : Int32 → Mm → Prop) (h : (((σ 63 3) ≤ x3 → r_X10_sitsBy_33 E x1 x2 0 0 σ Q) ∧ (¬ (σ 63 3) ≤ x3 → r_X10_guiltBy_0 E x3 x1 σ (fun r3 τ2 => (vp_in x3 6 ∧ r_X10_sitsBy_2 E x1 x2 (x3 + 1) (up τ2 71 x3.toNatClampNeg r3) Q))))) : r_X10_sitsBy_2 E x1 x2 x3 σ Q := by
  intro p e R s m args below meth c Z cells slots H locs ls C0 hH hl hret
  have hx := C0.1
  have hb : c.code = cX10_sitsBy := C0.2.1
  have hl : lv_has ls 7 [(0, .ref (Ad E 63)), (1, .int x1), (2, .int x2), (3, .int x3)] := hl
  refine lv_iload_n hx hb dX10_sitsBy_2 rfl (lv_at hl 3 rfl) ?_
  refine lv_aload_n hx hb dX10_sitsBy_3 rfl (lv_at hl 0 rfl) ?_
  refine m_geti (x := σ 63 3) C0 hH f_63_3 kF_X10_103 dX10_sitsBy_4 rfl ?_
  refine lv_icmp_ge (tgt := 28) hx hb dX10_sitsBy_7 (by decide) (fun hc1 => ?_) (fun hc1 => ?_)
  · have h := h.1 hc1
    refine lv_iconst (v := 0) hx hb dX10_sitsBy_28 (by decide) ?_
    refine lv_istore_n (lv' := [(3, .int 0), (0, .ref (Ad E 63)), (1, .int x1), (2, .int x2)]) hx hb dX10_sitsBy_29 rfl hl (by decide) rfl (fun ls hl => ?_)
    refine lv_iconst (v := 0) hx hb dX10_sitsBy_30 (by decide) ?_
    refine lv_istore (lv' := [(4, .int 0), (3, .int 0), (0, .ref (Ad E 63)), (1, .int x1), (2, .int x2)]) hx hb dX10_sitsBy_31 hl (by decide) rfl (fun ls hl => ?_)
    exact h p e R s m args below meth c Z cells slots H locs ls C0 hH (lv_sub hl [2, 3, 4, 1, 0] rfl) hret
  · have h := h.2 hc1
    refine lv_aload_n hx hb dX10_sitsBy_10 rfl (lv_at hl 0 rfl) ?_
    refine m_getr C0 hH f_63_15 71 rfl kF_X10_31 dX10_sitsBy_11 ?_
    refine lv_iload_n hx hb dX10_sitsBy_14 rfl (lv_at hl 3 rfl) ?_
    refine lv_aload_n hx hb dX10_sitsBy_15 rfl (lv_at hl 0 rfl) ?_
    refine lv_iload_n hx hb dX10_sitsBy_16 rfl (lv_at hl 3 rfl) ?_
    refine lv_iload_n hx hb dX10_sitsBy_17 rfl (lv_at hl 1 rfl) ?_
    refine m_cV (M2 := M_X10_guiltBy) (As := [.int x3, .int x1]) (rest := [.int x3, .ref (Ad E 71)]) h C0 hH hl kc_X10_guiltBy ki_X10_guiltBy kx_X10_guiltBy ob_63 kM_X10_121 rfl (Nat.le_of_ble_eq_true rfl) (Nat.le_of_ble_eq_true rfl) ⟨Nat.le_of_ble_eq_true rfl, Nat.le_of_ble_eq_true rfl⟩ dX10_sitsBy_18 rfl (fun r τ2 H locs hq hH => ?_)
    obtain ⟨r3, rfl, h⟩ := hq
    refine m_iast (j := x3.toNatClampNeg) C0 hH a_71 h.1 rfl dX10_sitsBy_21 (fun H locs hH => ?_)
    have h := h.2
    refine lv_iinc (v := (x3 + 1)) (lv' := [(3, .int (x3 + 1)), (0, .ref (Ad E 63)), (1, .int x1), (2, .int x2)]) hx hb dX10_sitsBy_22 hl (k := 3) rfl rfl (by decide) rfl (fun ls hl => ?_)
    refine lv_goto (tgt := 2) hx hb dX10_sitsBy_25 (by decide) ?_
    exact h p e R s m args below meth c Z cells slots H locs ls C0 hH (lv_sub hl [1, 2, 3, 0] rfl) hret
set_option maxRecDepth 20000 in
set_option maxHeartbeats 4000000 in
theorem s_X10_sitsBy_33 (E : EE) (x1 : Int32) (x2 : Int32) (x3 : Int32) (x4 : Int32) (σ : Mm) (Q : Int32 → Mm → Prop) (h : (((σ 63 3) ≤ x4 → Q x3 σ) ∧ (¬ (σ 63 3) ≤ x4 → r_X10_sitsBy_48 E x1 x2 x3 x4 0 0 σ Q))) : r_X10_sitsBy_33 E x1 x2 x3 x4 σ Q := by
  intro p e R s m args below meth c Z cells slots H locs ls C0 hH hl hret
  have hx := C0.1
  have hb : c.code = cX10_sitsBy := C0.2.1
  have hl : lv_has ls 7 [(0, .ref (Ad E 63)), (1, .int x1), (2, .int x2), (3, .int x3), (4, .int x4)] := hl
  refine lv_iload hx hb dX10_sitsBy_33 (lv_at hl 4 rfl) ?_
  refine lv_aload_n hx hb dX10_sitsBy_35 rfl (lv_at hl 0 rfl) ?_
  refine m_geti (x := σ 63 3) C0 hH f_63_3 kF_X10_103 dX10_sitsBy_36 rfl ?_
  refine lv_icmp_ge (tgt := 147) hx hb dX10_sitsBy_39 (by decide) (fun hc1 => ?_) (fun hc1 => ?_)
  · have h := h.1 hc1
    refine lv_iload_n hx hb dX10_sitsBy_147 rfl (lv_at hl 3 rfl) ?_
    exact hret (some (.int x3)) _ _ _ _ _ ⟨_, rfl, h⟩ hH ⟨dX10_sitsBy_148, .int, rfl, rfl⟩
  · have h := h.2 hc1
    refine lv_iconst (v := 0) hx hb dX10_sitsBy_42 (by decide) ?_
    refine lv_istore (lv' := [(5, .int 0), (0, .ref (Ad E 63)), (1, .int x1), (2, .int x2), (3, .int x3), (4, .int x4)]) hx hb dX10_sitsBy_43 hl (by decide) rfl (fun ls hl => ?_)
    refine lv_iconst (v := 0) hx hb dX10_sitsBy_45 (by decide) ?_
    refine lv_istore (lv' := [(6, .int 0), (5, .int 0), (0, .ref (Ad E 63)), (1, .int x1), (2, .int x2), (3, .int x3), (4, .int x4)]) hx hb dX10_sitsBy_46 hl (by decide) rfl (fun ls hl => ?_)
    exact h p e R s m args below meth c Z cells slots H locs ls C0 hH (lv_sub hl [2, 3, 4, 5, 6, 1, 0] rfl) hret
set_option maxRecDepth 20000 in
set_option maxHeartbeats 4000000 in
theorem s_X10_sitsBy_48 (E : EE) (x1 : Int32) (x2 : Int32) (x3 : Int32) (x4 : Int32) (x5 : Int32) (x6 : Int32) (σ : Mm) (Q : Int32 → Mm → Prop) (h : (((σ 63 3) ≤ x6 → (vp_in x4 6 ∧ (((σ 71 x4.toNatClampNeg) ≤ 0 → r_X10_sitsBy_33 E x1 x2 (x3 ||| 0) (x4 + 1) σ Q) ∧ (¬ (σ 71 x4.toNatClampNeg) ≤ 0 → ((x2 ≤ x5 → r_X10_sitsBy_33 E x1 x2 (x3 ||| 0) (x4 + 1) σ Q) ∧ (¬ x2 ≤ x5 → r_X10_sitsBy_33 E x1 x2 (x3 ||| (1 <<< (x4 &&& 31))) (x4 + 1) σ Q)))))) ∧ (¬ (σ 63 3) ≤ x6 → (vp_in x6 6 ∧ (vp_in x4 6 ∧ (((σ 71 x4.toNatClampNeg) < (σ 71 x6.toNatClampNeg) → r_X10_sitsBy_48 E x1 x2 x3 x4 (x5 + 1) (x6 + 1) σ Q) ∧ (¬ (σ 71 x4.toNatClampNeg) < (σ 71 x6.toNatClampNeg) → (vp_in x6 6 ∧ (vp_in x4 6 ∧ ((¬ (σ 71 x6.toNatClampNeg) = (σ 71 x4.toNatClampNeg) → r_X10_sitsBy_48 E x1 x2 x3 x4 (x5 + 0) (x6 + 1) σ Q) ∧ ((σ 71 x6.toNatClampNeg) = (σ 71 x4.toNatClampNeg) → ((x4 ≤ x6 → r_X10_sitsBy_48 E x1 x2 x3 x4 (x5 + 0) (x6 + 1) σ Q) ∧ (¬ x4 ≤ x6 → r_X10_sitsBy_48 E x1 x2 x3 x4 (x5 + 1) (x6 + 1) σ Q))))))))))))) : r_X10_sitsBy_48 E x1 x2 x3 x4 x5 x6 σ Q := by
  intro p e R s m args below meth c Z cells slots H locs ls C0 hH hl hret
  have hx := C0.1
  have hb : c.code = cX10_sitsBy := C0.2.1
  have hl : lv_has ls 7 [(0, .ref (Ad E 63)), (1, .int x1), (2, .int x2), (3, .int x3), (4, .int x4), (5, .int x5), (6, .int x6)] := hl
  refine lv_iload hx hb dX10_sitsBy_48 (lv_at hl 6 rfl) ?_
  refine lv_aload_n hx hb dX10_sitsBy_50 rfl (lv_at hl 0 rfl) ?_
  refine m_geti (x := σ 63 3) C0 hH f_63_3 kF_X10_103 dX10_sitsBy_51 rfl ?_
  refine lv_icmp_ge (tgt := 114) hx hb dX10_sitsBy_54 (by decide) (fun hc1 => ?_) (fun hc1 => ?_)
  · have h := h.1 hc1
    refine lv_iload_n hx hb dX10_sitsBy_114 rfl (lv_at hl 3 rfl) ?_
    refine lv_aload_n hx hb dX10_sitsBy_115 rfl (lv_at hl 0 rfl) ?_
    refine m_getr C0 hH f_63_15 71 rfl kF_X10_31 dX10_sitsBy_116 ?_
    refine lv_iload hx hb dX10_sitsBy_119 (lv_at hl 4 rfl) ?_
    refine m_iald (x := σ 71 x4.toNatClampNeg) C0 hH a_71 h.1 dX10_sitsBy_121 rfl ?_
    have h := h.2
    refine lv_if_le (tgt := 138) hx hb dX10_sitsBy_122 (by decide) (fun hc2 => ?_) (fun hc2 => ?_)
    · have h := h.1 hc2
      refine lv_iconst (v := 0) hx hb dX10_sitsBy_138 (by decide) ?_
      refine lv_ior hx hb dX10_sitsBy_139 ?_
      refine lv_istore_n (lv' := [(3, .int (x3 ||| 0)), (0, .ref (Ad E 63)), (1, .int x1), (2, .int x2), (4, .int x4), (5, .int x5), (6, .int x6)]) hx hb dX10_sitsBy_140 rfl hl (by decide) rfl (fun ls hl => ?_)
      refine lv_iinc (v := (x4 + 1)) (lv' := [(4, .int (x4 + 1)), (3, .int (x3 ||| 0)), (0, .ref (Ad E 63)), (1, .int x1), (2, .int x2), (5, .int x5), (6, .int x6)]) hx hb dX10_sitsBy_141 hl (k := 4) rfl rfl (by decide) rfl (fun ls hl => ?_)
      refine lv_goto (tgt := 33) hx hb dX10_sitsBy_144 (by decide) ?_
      exact h p e R s m args below meth c Z cells slots H locs ls C0 hH (lv_sub hl [2, 3, 4, 1, 0] rfl) hret
    · have h := h.2 hc2
      refine lv_iload hx hb dX10_sitsBy_125 (lv_at hl 5 rfl) ?_
      refine lv_iload_n hx hb dX10_sitsBy_127 rfl (lv_at hl 2 rfl) ?_
      refine lv_icmp_ge (tgt := 138) hx hb dX10_sitsBy_128 (by decide) (fun hc3 => ?_) (fun hc3 => ?_)
      · have h := h.1 hc3
        refine lv_iconst (v := 0) hx hb dX10_sitsBy_138 (by decide) ?_
        refine lv_ior hx hb dX10_sitsBy_139 ?_
        refine lv_istore_n (lv' := [(3, .int (x3 ||| 0)), (0, .ref (Ad E 63)), (1, .int x1), (2, .int x2), (4, .int x4), (5, .int x5), (6, .int x6)]) hx hb dX10_sitsBy_140 rfl hl (by decide) rfl (fun ls hl => ?_)
        refine lv_iinc (v := (x4 + 1)) (lv' := [(4, .int (x4 + 1)), (3, .int (x3 ||| 0)), (0, .ref (Ad E 63)), (1, .int x1), (2, .int x2), (5, .int x5), (6, .int x6)]) hx hb dX10_sitsBy_141 hl (k := 4) rfl rfl (by decide) rfl (fun ls hl => ?_)
        refine lv_goto (tgt := 33) hx hb dX10_sitsBy_144 (by decide) ?_
        exact h p e R s m args below meth c Z cells slots H locs ls C0 hH (lv_sub hl [2, 3, 4, 1, 0] rfl) hret
      · have h := h.2 hc3
        refine lv_iconst (v := 1) hx hb dX10_sitsBy_131 (by decide) ?_
        refine lv_iload hx hb dX10_sitsBy_132 (lv_at hl 4 rfl) ?_
        refine lv_ishl hx hb dX10_sitsBy_134 ?_
        refine lv_goto (tgt := 139) hx hb dX10_sitsBy_135 (by decide) ?_
        refine lv_ior hx hb dX10_sitsBy_139 ?_
        refine lv_istore_n (lv' := [(3, .int (x3 ||| (1 <<< (x4 &&& 31)))), (0, .ref (Ad E 63)), (1, .int x1), (2, .int x2), (4, .int x4), (5, .int x5), (6, .int x6)]) hx hb dX10_sitsBy_140 rfl hl (by decide) rfl (fun ls hl => ?_)
        refine lv_iinc (v := (x4 + 1)) (lv' := [(4, .int (x4 + 1)), (3, .int (x3 ||| (1 <<< (x4 &&& 31)))), (0, .ref (Ad E 63)), (1, .int x1), (2, .int x2), (5, .int x5), (6, .int x6)]) hx hb dX10_sitsBy_141 hl (k := 4) rfl rfl (by decide) rfl (fun ls hl => ?_)
        refine lv_goto (tgt := 33) hx hb dX10_sitsBy_144 (by decide) ?_
        exact h p e R s m args below meth c Z cells slots H locs ls C0 hH (lv_sub hl [2, 3, 4, 1, 0] rfl) hret
  · have h := h.2 hc1
    refine lv_iload hx hb dX10_sitsBy_57 (lv_at hl 5 rfl) ?_
    refine lv_aload_n hx hb dX10_sitsBy_59 rfl (lv_at hl 0 rfl) ?_
    refine m_getr C0 hH f_63_15 71 rfl kF_X10_31 dX10_sitsBy_60 ?_
    refine lv_iload hx hb dX10_sitsBy_63 (lv_at hl 6 rfl) ?_
    refine m_iald (x := σ 71 x6.toNatClampNeg) C0 hH a_71 h.1 dX10_sitsBy_65 rfl ?_
    have h := h.2
    refine lv_aload_n hx hb dX10_sitsBy_66 rfl (lv_at hl 0 rfl) ?_
    refine m_getr C0 hH f_63_15 71 rfl kF_X10_31 dX10_sitsBy_67 ?_
    refine lv_iload hx hb dX10_sitsBy_70 (lv_at hl 4 rfl) ?_
    refine m_iald (x := σ 71 x4.toNatClampNeg) C0 hH a_71 h.1 dX10_sitsBy_72 rfl ?_
    have h := h.2
    refine lv_icmp_gt (tgt := 100) hx hb dX10_sitsBy_73 (by decide) (fun hc4 => ?_) (fun hc4 => ?_)
    · have h := h.1 hc4
      refine lv_iconst (v := 1) hx hb dX10_sitsBy_100 (by decide) ?_
      refine lv_goto (tgt := 105) hx hb dX10_sitsBy_101 (by decide) ?_
      refine lv_iadd hx hb dX10_sitsBy_105 ?_
      refine lv_istore (lv' := [(5, .int (x5 + 1)), (0, .ref (Ad E 63)), (1, .int x1), (2, .int x2), (3, .int x3), (4, .int x4), (6, .int x6)]) hx hb dX10_sitsBy_106 hl (by decide) rfl (fun ls hl => ?_)
      refine lv_iinc (v := (x6 + 1)) (lv' := [(6, .int (x6 + 1)), (5, .int (x5 + 1)), (0, .ref (Ad E 63)), (1, .int x1), (2, .int x2), (3, .int x3), (4, .int x4)]) hx hb dX10_sitsBy_108 hl (k := 6) rfl rfl (by decide) rfl (fun ls hl => ?_)
      refine lv_goto (tgt := 48) hx hb dX10_sitsBy_111 (by decide) ?_
      exact h p e R s m args below meth c Z cells slots H locs ls C0 hH (lv_sub hl [2, 3, 4, 5, 6, 1, 0] rfl) hret
    · have h := h.2 hc4
      refine lv_aload_n hx hb dX10_sitsBy_76 rfl (lv_at hl 0 rfl) ?_
      refine m_getr C0 hH f_63_15 71 rfl kF_X10_31 dX10_sitsBy_77 ?_
      refine lv_iload hx hb dX10_sitsBy_80 (lv_at hl 6 rfl) ?_
      refine m_iald (x := σ 71 x6.toNatClampNeg) C0 hH a_71 h.1 dX10_sitsBy_82 rfl ?_
      have h := h.2
      refine lv_aload_n hx hb dX10_sitsBy_83 rfl (lv_at hl 0 rfl) ?_
      refine m_getr C0 hH f_63_15 71 rfl kF_X10_31 dX10_sitsBy_84 ?_
      refine lv_iload hx hb dX10_sitsBy_87 (lv_at hl 4 rfl) ?_
      refine m_iald (x := σ 71 x4.toNatClampNeg) C0 hH a_71 h.1 dX10_sitsBy_89 rfl ?_
      have h := h.2
      refine lv_icmp_ne (tgt := 104) hx hb dX10_sitsBy_90 (by decide) (fun hc5 => ?_) (fun hc5 => ?_)
      · have h := h.1 hc5
        refine lv_iconst (v := 0) hx hb dX10_sitsBy_104 (by decide) ?_
        refine lv_iadd hx hb dX10_sitsBy_105 ?_
        refine lv_istore (lv' := [(5, .int (x5 + 0)), (0, .ref (Ad E 63)), (1, .int x1), (2, .int x2), (3, .int x3), (4, .int x4), (6, .int x6)]) hx hb dX10_sitsBy_106 hl (by decide) rfl (fun ls hl => ?_)
        refine lv_iinc (v := (x6 + 1)) (lv' := [(6, .int (x6 + 1)), (5, .int (x5 + 0)), (0, .ref (Ad E 63)), (1, .int x1), (2, .int x2), (3, .int x3), (4, .int x4)]) hx hb dX10_sitsBy_108 hl (k := 6) rfl rfl (by decide) rfl (fun ls hl => ?_)
        refine lv_goto (tgt := 48) hx hb dX10_sitsBy_111 (by decide) ?_
        exact h p e R s m args below meth c Z cells slots H locs ls C0 hH (lv_sub hl [2, 3, 4, 5, 6, 1, 0] rfl) hret
      · have h := h.2 hc5
        refine lv_iload hx hb dX10_sitsBy_93 (lv_at hl 6 rfl) ?_
        refine lv_iload hx hb dX10_sitsBy_95 (lv_at hl 4 rfl) ?_
        refine lv_icmp_ge (tgt := 104) hx hb dX10_sitsBy_97 (by decide) (fun hc6 => ?_) (fun hc6 => ?_)
        · have h := h.1 hc6
          refine lv_iconst (v := 0) hx hb dX10_sitsBy_104 (by decide) ?_
          refine lv_iadd hx hb dX10_sitsBy_105 ?_
          refine lv_istore (lv' := [(5, .int (x5 + 0)), (0, .ref (Ad E 63)), (1, .int x1), (2, .int x2), (3, .int x3), (4, .int x4), (6, .int x6)]) hx hb dX10_sitsBy_106 hl (by decide) rfl (fun ls hl => ?_)
          refine lv_iinc (v := (x6 + 1)) (lv' := [(6, .int (x6 + 1)), (5, .int (x5 + 0)), (0, .ref (Ad E 63)), (1, .int x1), (2, .int x2), (3, .int x3), (4, .int x4)]) hx hb dX10_sitsBy_108 hl (k := 6) rfl rfl (by decide) rfl (fun ls hl => ?_)
          refine lv_goto (tgt := 48) hx hb dX10_sitsBy_111 (by decide) ?_
          exact h p e R s m args below meth c Z cells slots H locs ls C0 hH (lv_sub hl [2, 3, 4, 5, 6, 1, 0] rfl) hret
        · have h := h.2 hc6
          refine lv_iconst (v := 1) hx hb dX10_sitsBy_100 (by decide) ?_
          refine lv_goto (tgt := 105) hx hb dX10_sitsBy_101 (by decide) ?_
          refine lv_iadd hx hb dX10_sitsBy_105 ?_
          refine lv_istore (lv' := [(5, .int (x5 + 1)), (0, .ref (Ad E 63)), (1, .int x1), (2, .int x2), (3, .int x3), (4, .int x4), (6, .int x6)]) hx hb dX10_sitsBy_106 hl (by decide) rfl (fun ls hl => ?_)
          refine lv_iinc (v := (x6 + 1)) (lv' := [(6, .int (x6 + 1)), (5, .int (x5 + 1)), (0, .ref (Ad E 63)), (1, .int x1), (2, .int x2), (3, .int x3), (4, .int x4)]) hx hb dX10_sitsBy_108 hl (k := 6) rfl rfl (by decide) rfl (fun ls hl => ?_)
          refine lv_goto (tgt := 48) hx hb dX10_sitsBy_111 (by decide) ?_
          exact h p e R s m args below meth c Z cells slots H locs ls C0 hH (lv_sub hl [2, 3, 4, 5, 6, 1, 0] rfl) hret

def r_X10_sitsNow_0 (E : EE) (σ : Mm) (Q : Int32 → Mm → Prop) : Prop := Rn E M_X10_sitsNow 0 [(0, .ref (Ad E 63))] [] σ (qi Q)
set_option maxRecDepth 20000 in
set_option maxHeartbeats 4000000 in
theorem s_X10_sitsNow_0 (E : EE) (σ : Mm) (Q : Int32 → Mm → Prop) (h : r_X10_sitsBy_0 E (σ 63 6) (σ 63 5) σ (fun r2 τ1 => Q r2 τ1)) : r_X10_sitsNow_0 E σ Q := by
  intro p e R s m args below meth c Z cells slots H locs ls C0 hH hl hret
  have hx := C0.1
  have hb : c.code = cX10_sitsNow := C0.2.1
  have hl : lv_has ls 1 [(0, .ref (Ad E 63))] := hl
  refine lv_aload_n hx hb dX10_sitsNow_0 rfl (lv_at hl 0 rfl) ?_
  refine lv_aload_n hx hb dX10_sitsNow_1 rfl (lv_at hl 0 rfl) ?_
  refine m_geti (x := σ 63 6) C0 hH f_63_6 kF_X10_109 dX10_sitsNow_2 rfl ?_
  refine lv_aload_n hx hb dX10_sitsNow_5 rfl (lv_at hl 0 rfl) ?_
  refine m_geti (x := σ 63 5) C0 hH f_63_5 kF_X10_100 dX10_sitsNow_6 rfl ?_
  refine m_cV (M2 := M_X10_sitsBy) (As := [.int (σ 63 6), .int (σ 63 5)]) (rest := []) h C0 hH hl kc_X10_sitsBy ki_X10_sitsBy kx_X10_sitsBy ob_63 kM_X10_125 rfl (Nat.le_of_ble_eq_true rfl) (Nat.le_of_ble_eq_true rfl) ⟨Nat.le_of_ble_eq_true rfl, Nat.le_of_ble_eq_true rfl⟩ dX10_sitsNow_9 rfl (fun r τ1 H locs hq hH => ?_)
  obtain ⟨r2, rfl, h⟩ := hq
  exact hret (some (.int r2)) _ _ _ _ _ ⟨_, rfl, h⟩ hH ⟨dX10_sitsNow_12, .int, rfl, rfl⟩

def r_X10_tellPerson_0 (E : EE) (x1 : Int32) (x2 : Int32) (σ : Mm) (Q : Int32 → Mm → Prop) : Prop := Rn E M_X10_tellPerson 0 [(0, .ref (Ad E 63)), (1, .int x1), (2, .int x2)] [] σ (qi Q)
set_option maxRecDepth 20000 in
set_option maxHeartbeats 4000000 in
theorem s_X10_tellPerson_0 (E : EE) (x1 : Int32) (x2 : Int32) (σ : Mm) (Q : Int32 → Mm → Prop) (h : ((x2 = 0 → (vp_in x1 6 ∧ Q (σ 65 x1.toNatClampNeg) σ)) ∧ (x2 = 1 → (vp_in x1 6 ∧ Q (σ 66 x1.toNatClampNeg) σ)) ∧ (x2 = 2 → r_X10_guiltBy_0 E x1 (σ 63 6) σ (fun r5 τ4 => Q r5 τ4)) ∧ (x2 = 3 → r_X10_sitsNow_0 E  σ (fun r8 τ7 => Q ((r8 >>> (x1 &&& 31)) &&& 1) τ7)) ∧ (x2 = 4 → (vp_in x1 6 ∧ Q (σ 67 x1.toNatClampNeg) σ)) ∧ (x2 = 5 → r_X10_grudgesOf_0 E x1 (σ 63 6) σ (fun r12 τ11 => Q r12 τ11)) ∧ (¬ x2 = 0 → ¬ x2 = 1 → ¬ x2 = 2 → ¬ x2 = 3 → ¬ x2 = 4 → ¬ x2 = 5 → Q (-102) σ))) : r_X10_tellPerson_0 E x1 x2 σ Q := by
  intro p e R s m args below meth c Z cells slots H locs ls C0 hH hl hret
  have hx := C0.1
  have hb : c.code = cX10_tellPerson := C0.2.1
  have hl : lv_has ls 3 [(0, .ref (Ad E 63)), (1, .int x1), (2, .int x2)] := hl
  refine lv_iload_n hx hb dX10_tellPerson_0 rfl (lv_at hl 2 rfl) ?_
  by_cases hs1 : x2 = 0
  · have h := h.1 hs1
    refine m_tin (v := 0) (tgt := 40) C0 dX10_tellPerson_1 hs1 (by decide) (by decide) rfl (by decide) ?_
    refine lv_aload_n hx hb dX10_tellPerson_40 rfl (lv_at hl 0 rfl) ?_
    refine m_getr C0 hH f_63_9 65 rfl kF_X10_13 dX10_tellPerson_41 ?_
    refine lv_iload_n hx hb dX10_tellPerson_44 rfl (lv_at hl 1 rfl) ?_
    refine m_iald (x := σ 65 x1.toNatClampNeg) C0 hH a_65 h.1 dX10_tellPerson_45 rfl ?_
    have h := h.2
    exact hret (some (.int (σ 65 x1.toNatClampNeg))) _ _ _ _ _ ⟨_, rfl, h⟩ hH ⟨dX10_tellPerson_46, .int, rfl, rfl⟩
  have h := h.2
  by_cases hs2 : x2 = 1
  · have h := h.1 hs2
    refine m_tin (v := 1) (tgt := 47) C0 dX10_tellPerson_1 hs2 (by decide) (by decide) rfl (by decide) ?_
    refine lv_aload_n hx hb dX10_tellPerson_47 rfl (lv_at hl 0 rfl) ?_
    refine m_getr C0 hH f_63_10 66 rfl kF_X10_16 dX10_tellPerson_48 ?_
    refine lv_iload_n hx hb dX10_tellPerson_51 rfl (lv_at hl 1 rfl) ?_
    refine m_iald (x := σ 66 x1.toNatClampNeg) C0 hH a_66 h.1 dX10_tellPerson_52 rfl ?_
    have h := h.2
    exact hret (some (.int (σ 66 x1.toNatClampNeg))) _ _ _ _ _ ⟨_, rfl, h⟩ hH ⟨dX10_tellPerson_53, .int, rfl, rfl⟩
  have h := h.2
  by_cases hs3 : x2 = 2
  · have h := h.1 hs3
    refine m_tin (v := 2) (tgt := 54) C0 dX10_tellPerson_1 hs3 (by decide) (by decide) rfl (by decide) ?_
    refine lv_aload_n hx hb dX10_tellPerson_54 rfl (lv_at hl 0 rfl) ?_
    refine lv_iload_n hx hb dX10_tellPerson_55 rfl (lv_at hl 1 rfl) ?_
    refine lv_aload_n hx hb dX10_tellPerson_56 rfl (lv_at hl 0 rfl) ?_
    refine m_geti (x := σ 63 6) C0 hH f_63_6 kF_X10_109 dX10_tellPerson_57 rfl ?_
    refine m_cV (M2 := M_X10_guiltBy) (As := [.int x1, .int (σ 63 6)]) (rest := []) h C0 hH hl kc_X10_guiltBy ki_X10_guiltBy kx_X10_guiltBy ob_63 kM_X10_121 rfl (Nat.le_of_ble_eq_true rfl) (Nat.le_of_ble_eq_true rfl) ⟨Nat.le_of_ble_eq_true rfl, Nat.le_of_ble_eq_true rfl⟩ dX10_tellPerson_60 rfl (fun r τ4 H locs hq hH => ?_)
    obtain ⟨r5, rfl, h⟩ := hq
    exact hret (some (.int r5)) _ _ _ _ _ ⟨_, rfl, h⟩ hH ⟨dX10_tellPerson_63, .int, rfl, rfl⟩
  have h := h.2
  by_cases hs6 : x2 = 3
  · have h := h.1 hs6
    refine m_tin (v := 3) (tgt := 64) C0 dX10_tellPerson_1 hs6 (by decide) (by decide) rfl (by decide) ?_
    refine lv_aload_n hx hb dX10_tellPerson_64 rfl (lv_at hl 0 rfl) ?_
    refine m_cV (M2 := M_X10_sitsNow) (As := []) (rest := []) h C0 hH hl kc_X10_sitsNow ki_X10_sitsNow kx_X10_sitsNow ob_63 kM_X10_128 rfl (Nat.le_of_ble_eq_true rfl) (Nat.le_of_ble_eq_true rfl) ⟨Nat.le_of_ble_eq_true rfl, Nat.le_of_ble_eq_true rfl⟩ dX10_tellPerson_65 rfl (fun r τ7 H locs hq hH => ?_)
    obtain ⟨r8, rfl, h⟩ := hq
    refine lv_iload_n hx hb dX10_tellPerson_68 rfl (lv_at hl 1 rfl) ?_
    refine lv_ishr hx hb dX10_tellPerson_69 ?_
    refine lv_iconst (v := 1) hx hb dX10_tellPerson_70 (by decide) ?_
    refine lv_iand hx hb dX10_tellPerson_71 ?_
    exact hret (some (.int ((r8 >>> (x1 &&& 31)) &&& 1))) _ _ _ _ _ ⟨_, rfl, h⟩ hH ⟨dX10_tellPerson_72, .int, rfl, rfl⟩
  have h := h.2
  by_cases hs9 : x2 = 4
  · have h := h.1 hs9
    refine m_tin (v := 4) (tgt := 73) C0 dX10_tellPerson_1 hs9 (by decide) (by decide) rfl (by decide) ?_
    refine lv_aload_n hx hb dX10_tellPerson_73 rfl (lv_at hl 0 rfl) ?_
    refine m_getr C0 hH f_63_11 67 rfl kF_X10_19 dX10_tellPerson_74 ?_
    refine lv_iload_n hx hb dX10_tellPerson_77 rfl (lv_at hl 1 rfl) ?_
    refine m_iald (x := σ 67 x1.toNatClampNeg) C0 hH a_67 h.1 dX10_tellPerson_78 rfl ?_
    have h := h.2
    exact hret (some (.int (σ 67 x1.toNatClampNeg))) _ _ _ _ _ ⟨_, rfl, h⟩ hH ⟨dX10_tellPerson_79, .int, rfl, rfl⟩
  have h := h.2
  by_cases hs10 : x2 = 5
  · have h := h.1 hs10
    refine m_tin (v := 5) (tgt := 80) C0 dX10_tellPerson_1 hs10 (by decide) (by decide) rfl (by decide) ?_
    refine lv_aload_n hx hb dX10_tellPerson_80 rfl (lv_at hl 0 rfl) ?_
    refine lv_iload_n hx hb dX10_tellPerson_81 rfl (lv_at hl 1 rfl) ?_
    refine lv_aload_n hx hb dX10_tellPerson_82 rfl (lv_at hl 0 rfl) ?_
    refine m_geti (x := σ 63 6) C0 hH f_63_6 kF_X10_109 dX10_tellPerson_83 rfl ?_
    refine m_cV (M2 := M_X10_grudgesOf) (As := [.int x1, .int (σ 63 6)]) (rest := []) h C0 hH hl kc_X10_grudgesOf ki_X10_grudgesOf kx_X10_grudgesOf ob_63 kM_X10_131 rfl (Nat.le_of_ble_eq_true rfl) (Nat.le_of_ble_eq_true rfl) ⟨Nat.le_of_ble_eq_true rfl, Nat.le_of_ble_eq_true rfl⟩ dX10_tellPerson_86 rfl (fun r τ11 H locs hq hH => ?_)
    obtain ⟨r12, rfl, h⟩ := hq
    exact hret (some (.int r12)) _ _ _ _ _ ⟨_, rfl, h⟩ hH ⟨dX10_tellPerson_89, .int, rfl, rfl⟩
  have h := h.2
  have h := h hs1
  have h := h hs2
  have h := h hs3
  have h := h hs6
  have h := h hs9
  have h := h hs10
  refine m_tout (tgt := 90) C0 dX10_tellPerson_1 (fun v h1 h2 => ?_) (by decide) ?_
  · rcases (show v = 0 ∨ v = 1 ∨ v = 2 ∨ v = 3 ∨ v = 4 ∨ v = 5 by omega) with rfl | rfl | rfl | rfl | rfl | rfl
    · exact fun q => hs1 (q.trans (by decide))
    · exact fun q => hs2 (q.trans (by decide))
    · exact fun q => hs3 (q.trans (by decide))
    · exact fun q => hs6 (q.trans (by decide))
    · exact fun q => hs9 (q.trans (by decide))
    · exact fun q => hs10 (q.trans (by decide))
  refine lv_bipush (v := (-102)) hx hb dX10_tellPerson_90 (by decide) ?_
  exact hret (some (.int (-102))) _ _ _ _ _ ⟨_, rfl, h⟩ hH ⟨dX10_tellPerson_92, .int, rfl, rfl⟩

def r_X10_person_0 (E : EE) (x1 : Int32) (x2 : Int32) (σ : Mm) (Q : Int32 → Mm → Prop) : Prop := Rn E M_X10_person 0 [(0, .ref (Ad E 63)), (1, .int x1), (2, .int x2)] [] σ (qi Q)
set_option maxRecDepth 20000 in
set_option maxHeartbeats 4000000 in
theorem s_X10_person_0 (E : EE) (x1 : Int32) (x2 : Int32) (σ : Mm) (Q : Int32 → Mm → Prop) (h : r_X10_isPerson_0 E x1 σ (fun r2 τ1 => ((r2 = 0 → Q (-101) τ1) ∧ (¬ r2 = 0 → r_X10_tellPerson_0 E x1 x2 τ1 (fun r5 τ4 => Q r5 τ4))))) : r_X10_person_0 E x1 x2 σ Q := by
  intro p e R s m args below meth c Z cells slots H locs ls C0 hH hl hret
  have hx := C0.1
  have hb : c.code = cX10_person := C0.2.1
  have hl : lv_has ls 3 [(0, .ref (Ad E 63)), (1, .int x1), (2, .int x2)] := hl
  refine lv_aload_n hx hb dX10_person_0 rfl (lv_at hl 0 rfl) ?_
  refine lv_iload_n hx hb dX10_person_1 rfl (lv_at hl 1 rfl) ?_
  refine m_cV (M2 := M_X10_isPerson) (As := [.int x1]) (rest := []) h C0 hH hl kc_X10_isPerson ki_X10_isPerson kx_X10_isPerson ob_63 kM_X10_134 rfl (Nat.le_of_ble_eq_true rfl) (Nat.le_of_ble_eq_true rfl) ⟨Nat.le_of_ble_eq_true rfl, Nat.le_of_ble_eq_true rfl⟩ dX10_person_2 rfl (fun r τ1 H locs hq hH => ?_)
  obtain ⟨r2, rfl, h⟩ := hq
  refine lv_if_eq (tgt := 17) hx hb dX10_person_5 (by decide) (fun hc3 => ?_) (fun hc3 => ?_)
  · have h := h.1 hc3
    refine lv_bipush (v := (-101)) hx hb dX10_person_17 (by decide) ?_
    exact hret (some (.int (-101))) _ _ _ _ _ ⟨_, rfl, h⟩ hH ⟨dX10_person_19, .int, rfl, rfl⟩
  · have h := h.2 hc3
    refine lv_aload_n hx hb dX10_person_8 rfl (lv_at hl 0 rfl) ?_
    refine lv_iload_n hx hb dX10_person_9 rfl (lv_at hl 1 rfl) ?_
    refine lv_iload_n hx hb dX10_person_10 rfl (lv_at hl 2 rfl) ?_
    refine m_cV (M2 := M_X10_tellPerson) (As := [.int x1, .int x2]) (rest := []) h C0 hH hl kc_X10_tellPerson ki_X10_tellPerson kx_X10_tellPerson ob_63 kM_X10_137 rfl (Nat.le_of_ble_eq_true rfl) (Nat.le_of_ble_eq_true rfl) ⟨Nat.le_of_ble_eq_true rfl, Nat.le_of_ble_eq_true rfl⟩ dX10_person_11 rfl (fun r τ4 H locs hq hH => ?_)
    obtain ⟨r5, rfl, h⟩ := hq
    refine lv_goto (tgt := 19) hx hb dX10_person_14 (by decide) ?_
    exact hret (some (.int r5)) _ _ _ _ _ ⟨_, rfl, h⟩ hH ⟨dX10_person_19, .int, rfl, rfl⟩

def r_X10_as_0 (E : EE) (x1 : Int32) (x2 : Int32) (σ : Mm) (Q : Int32 → Mm → Prop) : Prop := Rn E M_X10_as 0 [(0, .ref (Ad E 63)), (1, .int x1), (2, .int x2)] [] σ (qi Q)
set_option maxRecDepth 20000 in
set_option maxHeartbeats 4000000 in
theorem s_X10_as_0 (E : EE) (x1 : Int32) (x2 : Int32) (σ : Mm) (Q : Int32 → Mm → Prop) (h : r_X10_isPerson_0 E x1 σ (fun r2 τ1 => ((¬ r2 = 0 → r_X10_in_0 E x2.toInt64 0 4 τ1 (fun r5 τ4 => ((¬ r5 = 0 → ((x2 = 0 → Q x1 τ4) ∧ (¬ x2 = 0 → (vp_in x1 6 ∧ ((x2 = (τ4 65 x1.toNatClampNeg) → Q x1 τ4) ∧ (¬ x2 = (τ4 65 x1.toNatClampNeg) → ((¬ x2 = 1 → Q (-1) τ4) ∧ (x2 = 1 → (vp_in x1 6 ∧ ((¬ (τ4 65 x1.toNatClampNeg) = 4 → Q (-1) τ4) ∧ ((τ4 65 x1.toNatClampNeg) = 4 → Q x1 τ4))))))))))) ∧ (r5 = 0 → Q (-102) τ4)))) ∧ (r2 = 0 → Q (-101) τ1)))) : r_X10_as_0 E x1 x2 σ Q := by
  intro p e R s m args below meth c Z cells slots H locs ls C0 hH hl hret
  have hx := C0.1
  have hb : c.code = cX10_as := C0.2.1
  have hl : lv_has ls 4 [(0, .ref (Ad E 63)), (1, .int x1), (2, .int x2)] := hl
  refine lv_aload_n hx hb dX10_as_0 rfl (lv_at hl 0 rfl) ?_
  refine lv_iload_n hx hb dX10_as_1 rfl (lv_at hl 1 rfl) ?_
  refine m_cV (M2 := M_X10_isPerson) (As := [.int x1]) (rest := []) h C0 hH hl kc_X10_isPerson ki_X10_isPerson kx_X10_isPerson ob_63 kM_X10_134 rfl (Nat.le_of_ble_eq_true rfl) (Nat.le_of_ble_eq_true rfl) ⟨Nat.le_of_ble_eq_true rfl, Nat.le_of_ble_eq_true rfl⟩ dX10_as_2 rfl (fun r τ1 H locs hq hH => ?_)
  obtain ⟨r2, rfl, h⟩ := hq
  refine lv_if_ne (tgt := 11) hx hb dX10_as_5 (by decide) (fun hc3 => ?_) (fun hc3 => ?_)
  · have h := h.1 hc3
    refine lv_iload_n hx hb dX10_as_11 rfl (lv_at hl 2 rfl) ?_
    refine lv_i2l hx hb dX10_as_12 rfl ?_
    refine lv_lconst (v := 0) hx hb dX10_as_13 (by decide) ?_
    refine lv_ldc2 hx hb C0.2.2.2.1 (C0.2.2.2.2.1 _ kC_X10_140) dX10_as_14 ?_
    refine m_cS (M2 := M_X10_in) (As := [.long x2.toInt64, .long 0, .long 4]) (rest := []) h C0 hH hl kc_X10_in ks_X10_in kM_X10_61 rfl (Nat.le_of_ble_eq_true rfl) (Nat.le_of_ble_eq_true rfl) ⟨Nat.le_of_ble_eq_true rfl, Nat.le_of_ble_eq_true rfl⟩ dX10_as_17 rfl (fun r τ4 H locs hq hH => ?_)
    obtain ⟨r5, rfl, h⟩ := hq
    refine lv_if_ne (tgt := 26) hx hb dX10_as_20 (by decide) (fun hc6 => ?_) (fun hc6 => ?_)
    · have h := h.1 hc6
      refine lv_iload_n hx hb dX10_as_26 rfl (lv_at hl 2 rfl) ?_
      refine lv_if_eq (tgt := 55) hx hb dX10_as_27 (by decide) (fun hc7 => ?_) (fun hc7 => ?_)
      · have h := h.1 hc7
        refine lv_iconst (v := 1) hx hb dX10_as_55 (by decide) ?_
        refine lv_goto (tgt := 60) hx hb dX10_as_56 (by decide) ?_
        refine lv_istore_n (lv' := [(3, .int 1), (0, .ref (Ad E 63)), (1, .int x1), (2, .int x2)]) hx hb dX10_as_60 rfl hl (by decide) rfl (fun ls hl => ?_)
        refine lv_iload_n hx hb dX10_as_61 rfl (lv_at hl 0 rfl) ?_
        refine lv_if_eq (tgt := 69) hx hb dX10_as_62 (by decide) (fun hc => absurd hc (by decide)) (fun _ => ?_)
        refine lv_iload_n hx hb dX10_as_65 rfl (lv_at hl 2 rfl) ?_
        refine lv_goto (tgt := 70) hx hb dX10_as_66 (by decide) ?_
        exact hret (some (.int x1)) _ _ _ _ _ ⟨_, rfl, h⟩ hH ⟨dX10_as_70, .int, rfl, rfl⟩
      · have h := h.2 hc7
        refine lv_iload_n hx hb dX10_as_30 rfl (lv_at hl 2 rfl) ?_
        refine lv_aload_n hx hb dX10_as_31 rfl (lv_at hl 0 rfl) ?_
        refine m_getr C0 hH f_63_9 65 rfl kF_X10_13 dX10_as_32 ?_
        refine lv_iload_n hx hb dX10_as_35 rfl (lv_at hl 1 rfl) ?_
        refine m_iald (x := τ4 65 x1.toNatClampNeg) C0 hH a_65 h.1 dX10_as_36 rfl ?_
        have h := h.2
        refine lv_icmp_eq (tgt := 55) hx hb dX10_as_37 (by decide) (fun hc8 => ?_) (fun hc8 => ?_)
        · have h := h.1 hc8
          refine lv_iconst (v := 1) hx hb dX10_as_55 (by decide) ?_
          refine lv_goto (tgt := 60) hx hb dX10_as_56 (by decide) ?_
          refine lv_istore_n (lv' := [(3, .int 1), (0, .ref (Ad E 63)), (1, .int x1), (2, .int x2)]) hx hb dX10_as_60 rfl hl (by decide) rfl (fun ls hl => ?_)
          refine lv_iload_n hx hb dX10_as_61 rfl (lv_at hl 0 rfl) ?_
          refine lv_if_eq (tgt := 69) hx hb dX10_as_62 (by decide) (fun hc => absurd hc (by decide)) (fun _ => ?_)
          refine lv_iload_n hx hb dX10_as_65 rfl (lv_at hl 2 rfl) ?_
          refine lv_goto (tgt := 70) hx hb dX10_as_66 (by decide) ?_
          exact hret (some (.int x1)) _ _ _ _ _ ⟨_, rfl, h⟩ hH ⟨dX10_as_70, .int, rfl, rfl⟩
        · have h := h.2 hc8
          refine lv_iload_n hx hb dX10_as_40 rfl (lv_at hl 2 rfl) ?_
          refine lv_iconst (v := 1) hx hb dX10_as_41 (by decide) ?_
          refine lv_icmp_ne (tgt := 59) hx hb dX10_as_42 (by decide) (fun hc9 => ?_) (fun hc9 => ?_)
          · have h := h.1 hc9
            refine lv_iconst (v := 0) hx hb dX10_as_59 (by decide) ?_
            refine lv_istore_n (lv' := [(3, .int 0), (0, .ref (Ad E 63)), (1, .int x1), (2, .int x2)]) hx hb dX10_as_60 rfl hl (by decide) rfl (fun ls hl => ?_)
            refine lv_iload_n hx hb dX10_as_61 rfl (lv_at hl 0 rfl) ?_
            refine lv_if_eq (tgt := 69) hx hb dX10_as_62 (by decide) (fun _ => ?_) (fun hc => absurd hc (by decide))
            refine lv_iconst (v := (-1)) hx hb dX10_as_69 (by decide) ?_
            exact hret (some (.int (-1))) _ _ _ _ _ ⟨_, rfl, h⟩ hH ⟨dX10_as_70, .int, rfl, rfl⟩
          · have h := h.2 hc9
            refine lv_aload_n hx hb dX10_as_45 rfl (lv_at hl 0 rfl) ?_
            refine m_getr C0 hH f_63_9 65 rfl kF_X10_13 dX10_as_46 ?_
            refine lv_iload_n hx hb dX10_as_49 rfl (lv_at hl 1 rfl) ?_
            refine m_iald (x := τ4 65 x1.toNatClampNeg) C0 hH a_65 h.1 dX10_as_50 rfl ?_
            have h := h.2
            refine lv_iconst (v := 4) hx hb dX10_as_51 (by decide) ?_
            refine lv_icmp_ne (tgt := 59) hx hb dX10_as_52 (by decide) (fun hc10 => ?_) (fun hc10 => ?_)
            · have h := h.1 hc10
              refine lv_iconst (v := 0) hx hb dX10_as_59 (by decide) ?_
              refine lv_istore_n (lv' := [(3, .int 0), (0, .ref (Ad E 63)), (1, .int x1), (2, .int x2)]) hx hb dX10_as_60 rfl hl (by decide) rfl (fun ls hl => ?_)
              refine lv_iload_n hx hb dX10_as_61 rfl (lv_at hl 0 rfl) ?_
              refine lv_if_eq (tgt := 69) hx hb dX10_as_62 (by decide) (fun _ => ?_) (fun hc => absurd hc (by decide))
              refine lv_iconst (v := (-1)) hx hb dX10_as_69 (by decide) ?_
              exact hret (some (.int (-1))) _ _ _ _ _ ⟨_, rfl, h⟩ hH ⟨dX10_as_70, .int, rfl, rfl⟩
            · have h := h.2 hc10
              refine lv_iconst (v := 1) hx hb dX10_as_55 (by decide) ?_
              refine lv_goto (tgt := 60) hx hb dX10_as_56 (by decide) ?_
              refine lv_istore_n (lv' := [(3, .int 1), (0, .ref (Ad E 63)), (1, .int x1), (2, .int x2)]) hx hb dX10_as_60 rfl hl (by decide) rfl (fun ls hl => ?_)
              refine lv_iload_n hx hb dX10_as_61 rfl (lv_at hl 0 rfl) ?_
              refine lv_if_eq (tgt := 69) hx hb dX10_as_62 (by decide) (fun hc => absurd hc (by decide)) (fun _ => ?_)
              refine lv_iload_n hx hb dX10_as_65 rfl (lv_at hl 2 rfl) ?_
              refine lv_goto (tgt := 70) hx hb dX10_as_66 (by decide) ?_
              exact hret (some (.int x1)) _ _ _ _ _ ⟨_, rfl, h⟩ hH ⟨dX10_as_70, .int, rfl, rfl⟩
    · have h := h.2 hc6
      refine lv_bipush (v := (-102)) hx hb dX10_as_23 (by decide) ?_
      exact hret (some (.int (-102))) _ _ _ _ _ ⟨_, rfl, h⟩ hH ⟨dX10_as_25, .int, rfl, rfl⟩
  · have h := h.2 hc3
    refine lv_bipush (v := (-101)) hx hb dX10_as_8 (by decide) ?_
    exact hret (some (.int (-101))) _ _ _ _ _ ⟨_, rfl, h⟩ hH ⟨dX10_as_10, .int, rfl, rfl⟩

def r_X10_isWrong_0 (E : EE) (x1 : Int32) (σ : Mm) (Q : Int32 → Mm → Prop) : Prop := Rn E M_X10_isWrong 0 [(0, .ref (Ad E 63)), (1, .int x1)] [] σ (qi Q)
set_option maxRecDepth 20000 in
set_option maxHeartbeats 4000000 in
theorem s_X10_isWrong_0 (E : EE) (x1 : Int32) (σ : Mm) (Q : Int32 → Mm → Prop) (h : r_X10_in_0 E x1.toInt64 0 (((σ 63 4) - 1).toInt64) σ (fun r2 τ1 => ((r2 = 0 ∨ r2 = 1) ∧ Q r2 τ1))) : r_X10_isWrong_0 E x1 σ Q := by
  intro p e R s m args below meth c Z cells slots H locs ls C0 hH hl hret
  have hx := C0.1
  have hb : c.code = cX10_isWrong := C0.2.1
  have hl : lv_has ls 2 [(0, .ref (Ad E 63)), (1, .int x1)] := hl
  refine lv_iload_n hx hb dX10_isWrong_0 rfl (lv_at hl 1 rfl) ?_
  refine lv_i2l hx hb dX10_isWrong_1 rfl ?_
  refine lv_lconst (v := 0) hx hb dX10_isWrong_2 (by decide) ?_
  refine lv_aload_n hx hb dX10_isWrong_3 rfl (lv_at hl 0 rfl) ?_
  refine m_geti (x := σ 63 4) C0 hH f_63_4 kF_X10_106 dX10_isWrong_4 rfl ?_
  refine lv_iconst (v := 1) hx hb dX10_isWrong_7 (by decide) ?_
  refine lv_isub hx hb dX10_isWrong_8 ?_
  refine lv_i2l hx hb dX10_isWrong_9 rfl ?_
  refine m_cS (M2 := M_X10_in) (As := [.long x1.toInt64, .long 0, .long ((σ 63 4) - 1).toInt64]) (rest := []) h C0 hH hl kc_X10_in ks_X10_in kM_X10_61 rfl (Nat.le_of_ble_eq_true rfl) (Nat.le_of_ble_eq_true rfl) ⟨Nat.le_of_ble_eq_true rfl, Nat.le_of_ble_eq_true rfl⟩ dX10_isWrong_10 rfl (fun r τ1 H locs hq hH => ?_)
  obtain ⟨r2, rfl, h⟩ := hq
  exact hret (some (.int r2)) _ _ _ _ _ ⟨_, rfl, h.2⟩ hH ⟨dX10_isWrong_13, .boolean, rfl, nb h.1⟩

def r_X10_sitsIf_0 (E : EE) (x1 : Int32) (x2 : Int32) (x3 : Int32) (σ : Mm) (Q : Int32 → Mm → Prop) : Prop := Rn E M_X10_sitsIf 0 [(0, .ref (Ad E 63)), (1, .int x1), (2, .int x2), (3, .int x3)] [] σ (qi Q)
set_option maxRecDepth 20000 in
set_option maxHeartbeats 4000000 in
theorem s_X10_sitsIf_0 (E : EE) (x1 : Int32) (x2 : Int32) (x3 : Int32) (σ : Mm) (Q : Int32 → Mm → Prop) (h : (vp_in x1 8 ∧ (vp_in x1 8 ∧ r_X10_sitsBy_0 E (σ 63 6) x3 (up σ 70 x1.toNatClampNeg x2) (fun r2 τ1 => (vp_in x1 8 ∧ (vp_in x1 8 ∧ Q ((r2 >>> ((τ1 68 x1.toNatClampNeg) &&& 31)) &&& 1) (up τ1 70 x1.toNatClampNeg (σ 70 x1.toNatClampNeg)))))))) : r_X10_sitsIf_0 E x1 x2 x3 σ Q := by
  intro p e R s m args below meth c Z cells slots H locs ls C0 hH hl hret
  have hx := C0.1
  have hb : c.code = cX10_sitsIf := C0.2.1
  have hl : lv_has ls 6 [(0, .ref (Ad E 63)), (1, .int x1), (2, .int x2), (3, .int x3)] := hl
  refine lv_aload_n hx hb dX10_sitsIf_0 rfl (lv_at hl 0 rfl) ?_
  refine m_getr C0 hH f_63_14 70 rfl kF_X10_28 dX10_sitsIf_1 ?_
  refine lv_iload_n hx hb dX10_sitsIf_4 rfl (lv_at hl 1 rfl) ?_
  refine m_iald (x := σ 70 x1.toNatClampNeg) C0 hH a_70 h.1 dX10_sitsIf_5 rfl ?_
  have h := h.2
  refine lv_istore (lv' := [(4, .int (σ 70 x1.toNatClampNeg)), (0, .ref (Ad E 63)), (1, .int x1), (2, .int x2), (3, .int x3)]) hx hb dX10_sitsIf_6 hl (by decide) rfl (fun ls hl => ?_)
  refine lv_aload_n hx hb dX10_sitsIf_8 rfl (lv_at hl 1 rfl) ?_
  refine m_getr C0 hH f_63_14 70 rfl kF_X10_28 dX10_sitsIf_9 ?_
  refine lv_iload_n hx hb dX10_sitsIf_12 rfl (lv_at hl 2 rfl) ?_
  refine lv_iload_n hx hb dX10_sitsIf_13 rfl (lv_at hl 3 rfl) ?_
  refine m_iast (j := x1.toNatClampNeg) C0 hH a_70 h.1 rfl dX10_sitsIf_14 (fun H locs hH => ?_)
  have h := h.2
  refine lv_aload_n hx hb dX10_sitsIf_15 rfl (lv_at hl 1 rfl) ?_
  refine lv_aload_n hx hb dX10_sitsIf_16 rfl (lv_at hl 1 rfl) ?_
  refine m_geti (x := σ 63 6) C0 hH f_63_6 kF_X10_109 dX10_sitsIf_17 rfl ?_
  refine lv_iload_n hx hb dX10_sitsIf_20 rfl (lv_at hl 4 rfl) ?_
  refine m_cV (M2 := M_X10_sitsBy) (As := [.int (σ 63 6), .int x3]) (rest := []) h C0 hH hl kc_X10_sitsBy ki_X10_sitsBy kx_X10_sitsBy ob_63 kM_X10_125 rfl (Nat.le_of_ble_eq_true rfl) (Nat.le_of_ble_eq_true rfl) ⟨Nat.le_of_ble_eq_true rfl, Nat.le_of_ble_eq_true rfl⟩ dX10_sitsIf_21 rfl (fun r τ1 H locs hq hH => ?_)
  obtain ⟨r2, rfl, h⟩ := hq
  refine lv_aload_n hx hb dX10_sitsIf_24 rfl (lv_at hl 1 rfl) ?_
  refine m_getr C0 hH f_63_12 68 rfl kF_X10_22 dX10_sitsIf_25 ?_
  refine lv_iload_n hx hb dX10_sitsIf_28 rfl (lv_at hl 2 rfl) ?_
  refine m_iald (x := τ1 68 x1.toNatClampNeg) C0 hH a_68 h.1 dX10_sitsIf_29 rfl ?_
  have h := h.2
  refine lv_ishr hx hb dX10_sitsIf_30 ?_
  refine lv_iconst (v := 1) hx hb dX10_sitsIf_31 (by decide) ?_
  refine lv_iand hx hb dX10_sitsIf_32 ?_
  refine lv_istore (lv' := [(5, .int ((r2 >>> ((τ1 68 x1.toNatClampNeg) &&& 31)) &&& 1)), (4, .int (σ 70 x1.toNatClampNeg)), (0, .ref (Ad E 63)), (1, .int x1), (2, .int x2), (3, .int x3)]) hx hb dX10_sitsIf_33 hl (by decide) rfl (fun ls hl => ?_)
  refine lv_aload_n hx hb dX10_sitsIf_35 rfl (lv_at hl 2 rfl) ?_
  refine m_getr C0 hH f_63_14 70 rfl kF_X10_28 dX10_sitsIf_36 ?_
  refine lv_iload_n hx hb dX10_sitsIf_39 rfl (lv_at hl 3 rfl) ?_
  refine lv_iload hx hb dX10_sitsIf_40 (lv_at hl 1 rfl) ?_
  refine m_iast (j := x1.toNatClampNeg) C0 hH a_70 h.1 rfl dX10_sitsIf_42 (fun H locs hH => ?_)
  have h := h.2
  refine lv_iload hx hb dX10_sitsIf_43 (lv_at hl 0 rfl) ?_
  exact hret (some (.int ((r2 >>> ((τ1 68 x1.toNatClampNeg) &&& 31)) &&& 1))) _ _ _ _ _ ⟨_, rfl, h⟩ hH ⟨dX10_sitsIf_45, .int, rfl, rfl⟩

def r_X10_gravesOf_0 (E : EE) (x1 : Int32) (σ : Mm) (Q : Int32 → Mm → Prop) : Prop := Rn E M_X10_gravesOf 0 [(0, .ref (Ad E 63)), (1, .int x1)] [] σ (qi Q)
def r_X10_gravesOf_4 (E : EE) (x1 : Int32) (x2 : Int32) (x3 : Int32) (σ : Mm) (Q : Int32 → Mm → Prop) : Prop := Rn E M_X10_gravesOf 4 [(0, .ref (Ad E 63)), (1, .int x1), (2, .int x2), (3, .int x3)] [] σ (qi Q)
def r_X10_gravesOf_16 (E : EE) (x1 : Int32) (x2 : Int32) (x3 : Int32) (x4 : Int32) (x5 : Int32) (σ : Mm) (Q : Int32 → Mm → Prop) : Prop := Rn E M_X10_gravesOf 16 [(0, .ref (Ad E 63)), (1, .int x1), (2, .int x2), (3, .int x3), (4, .int x4), (5, .int x5)] [] σ (qi Q)
set_option maxRecDepth 20000 in
set_option maxHeartbeats 4000000 in
theorem s_X10_gravesOf_0 (E : EE) (x1 : Int32) (σ : Mm) (Q : Int32 → Mm → Prop) (h : r_X10_gravesOf_4 E x1 0 1 σ Q) : r_X10_gravesOf_0 E x1 σ Q := by
  intro p e R s m args below meth c Z cells slots H locs ls C0 hH hl hret
  have hx := C0.1
  have hb : c.code = cX10_gravesOf := C0.2.1
  have hl : lv_has ls 6 [(0, .ref (Ad E 63)), (1, .int x1)] := hl
  refine lv_iconst (v := 0) hx hb dX10_gravesOf_0 (by decide) ?_
  refine lv_istore_n (lv' := [(2, .int 0), (0, .ref (Ad E 63)), (1, .int x1)]) hx hb dX10_gravesOf_1 rfl hl (by decide) rfl (fun ls hl => ?_)
  refine lv_iconst (v := 1) hx hb dX10_gravesOf_2 (by decide) ?_
  refine lv_istore_n (lv' := [(3, .int 1), (2, .int 0), (0, .ref (Ad E 63)), (1, .int x1)]) hx hb dX10_gravesOf_3 rfl hl (by decide) rfl (fun ls hl => ?_)
  exact h p e R s m args below meth c Z cells slots H locs ls C0 hH (lv_sub hl [2, 3, 1, 0] rfl) hret
set_option maxRecDepth 20000 in
set_option maxHeartbeats 4000000 in
theorem s_X10_gravesOf_4 (E : EE) (x1 : Int32) (x2 : Int32) (x3 : Int32) (σ : Mm) (Q : Int32 → Mm → Prop) (h : ((10 ≤ x3 → Q x2 σ) ∧ (¬ 10 ≤ x3 → r_X10_gravesOf_16 E x1 x2 x3 1 0 σ Q))) : r_X10_gravesOf_4 E x1 x2 x3 σ Q := by
  intro p e R s m args below meth c Z cells slots H locs ls C0 hH hl hret
  have hx := C0.1
  have hb : c.code = cX10_gravesOf := C0.2.1
  have hl : lv_has ls 6 [(0, .ref (Ad E 63)), (1, .int x1), (2, .int x2), (3, .int x3)] := hl
  refine lv_iload_n hx hb dX10_gravesOf_4 rfl (lv_at hl 3 rfl) ?_
  refine lv_bipush (v := 10) hx hb dX10_gravesOf_5 (by decide) ?_
  refine lv_icmp_ge (tgt := 106) hx hb dX10_gravesOf_7 (by decide) (fun hc1 => ?_) (fun hc1 => ?_)
  · have h := h.1 hc1
    refine lv_iload_n hx hb dX10_gravesOf_106 rfl (lv_at hl 2 rfl) ?_
    exact hret (some (.int x2)) _ _ _ _ _ ⟨_, rfl, h⟩ hH ⟨dX10_gravesOf_107, .int, rfl, rfl⟩
  · have h := h.2 hc1
    refine lv_iconst (v := 1) hx hb dX10_gravesOf_10 (by decide) ?_
    refine lv_istore (lv' := [(4, .int 1), (0, .ref (Ad E 63)), (1, .int x1), (2, .int x2), (3, .int x3)]) hx hb dX10_gravesOf_11 hl (by decide) rfl (fun ls hl => ?_)
    refine lv_iconst (v := 0) hx hb dX10_gravesOf_13 (by decide) ?_
    refine lv_istore (lv' := [(5, .int 0), (4, .int 1), (0, .ref (Ad E 63)), (1, .int x1), (2, .int x2), (3, .int x3)]) hx hb dX10_gravesOf_14 hl (by decide) rfl (fun ls hl => ?_)
    exact h p e R s m args below meth c Z cells slots H locs ls C0 hH (lv_sub hl [2, 3, 4, 5, 1, 0] rfl) hret
set_option maxRecDepth 20000 in
set_option maxHeartbeats 4000000 in
theorem s_X10_gravesOf_16 (E : EE) (x1 : Int32) (x2 : Int32) (x3 : Int32) (x4 : Int32) (x5 : Int32) (σ : Mm) (Q : Int32 → Mm → Prop) (h : (((3 * (σ 63 20)) ≤ x5 → ((x4 = 0 → r_X10_gravesOf_4 E x1 (x2 ||| 0) (x3 + 1) σ Q) ∧ (¬ x4 = 0 → r_X10_gravesOf_4 E x1 (x2 ||| (1 <<< ((x3 - 1) &&& 31))) (x3 + 1) σ Q))) ∧ (¬ (3 * (σ 63 20)) ≤ x5 → ((x4 = 0 → r_X10_gravesOf_16 E x1 x2 x3 0 (x5 + 3) σ Q) ∧ (¬ x4 = 0 → (vp_in x5 18 ∧ ((¬ (σ 73 x5.toNatClampNeg) = x1 → r_X10_gravesOf_16 E x1 x2 x3 1 (x5 + 3) σ Q) ∧ ((σ 73 x5.toNatClampNeg) = x1 → (vp_in (x5 + 1) 18 ∧ r_X10_sitsIf_0 E x1 x3 (σ 73 ((x5 + 1).toNatClampNeg)) σ (fun r6 τ5 => (vp_in (x5 + 2) 18 ∧ ((¬ r6 = (τ5 73 ((x5 + 2).toNatClampNeg)) → r_X10_gravesOf_16 E x1 x2 x3 0 (x5 + 3) τ5 Q) ∧ (r6 = (τ5 73 ((x5 + 2).toNatClampNeg)) → r_X10_gravesOf_16 E x1 x2 x3 1 (x5 + 3) τ5 Q))))))))))))) : r_X10_gravesOf_16 E x1 x2 x3 x4 x5 σ Q := by
  intro p e R s m args below meth c Z cells slots H locs ls C0 hH hl hret
  have hx := C0.1
  have hb : c.code = cX10_gravesOf := C0.2.1
  have hl : lv_has ls 6 [(0, .ref (Ad E 63)), (1, .int x1), (2, .int x2), (3, .int x3), (4, .int x4), (5, .int x5)] := hl
  refine lv_iload hx hb dX10_gravesOf_16 (lv_at hl 5 rfl) ?_
  refine lv_iconst (v := 3) hx hb dX10_gravesOf_18 (by decide) ?_
  refine lv_aload_n hx hb dX10_gravesOf_19 rfl (lv_at hl 0 rfl) ?_
  refine m_geti (x := σ 63 20) C0 hH f_63_20 kF_X10_115 dX10_gravesOf_20 rfl ?_
  refine lv_imul hx hb dX10_gravesOf_23 ?_
  refine lv_icmp_ge (tgt := 83) hx hb dX10_gravesOf_24 (by decide) (fun hc1 => ?_) (fun hc1 => ?_)
  · have h := h.1 hc1
    refine lv_iload_n hx hb dX10_gravesOf_83 rfl (lv_at hl 2 rfl) ?_
    refine lv_iload hx hb dX10_gravesOf_84 (lv_at hl 4 rfl) ?_
    refine lv_if_eq (tgt := 97) hx hb dX10_gravesOf_86 (by decide) (fun hc2 => ?_) (fun hc2 => ?_)
    · have h := h.1 hc2
      refine lv_iconst (v := 0) hx hb dX10_gravesOf_97 (by decide) ?_
      refine lv_ior hx hb dX10_gravesOf_98 ?_
      refine lv_istore_n (lv' := [(2, .int (x2 ||| 0)), (0, .ref (Ad E 63)), (1, .int x1), (3, .int x3), (4, .int x4), (5, .int x5)]) hx hb dX10_gravesOf_99 rfl hl (by decide) rfl (fun ls hl => ?_)
      refine lv_iinc (v := (x3 + 1)) (lv' := [(3, .int (x3 + 1)), (2, .int (x2 ||| 0)), (0, .ref (Ad E 63)), (1, .int x1), (4, .int x4), (5, .int x5)]) hx hb dX10_gravesOf_100 hl (k := 3) rfl rfl (by decide) rfl (fun ls hl => ?_)
      refine lv_goto (tgt := 4) hx hb dX10_gravesOf_103 (by decide) ?_
      exact h p e R s m args below meth c Z cells slots H locs ls C0 hH (lv_sub hl [2, 3, 1, 0] rfl) hret
    · have h := h.2 hc2
      refine lv_iconst (v := 1) hx hb dX10_gravesOf_89 (by decide) ?_
      refine lv_iload_n hx hb dX10_gravesOf_90 rfl (lv_at hl 3 rfl) ?_
      refine lv_iconst (v := 1) hx hb dX10_gravesOf_91 (by decide) ?_
      refine lv_isub hx hb dX10_gravesOf_92 ?_
      refine lv_ishl hx hb dX10_gravesOf_93 ?_
      refine lv_goto (tgt := 98) hx hb dX10_gravesOf_94 (by decide) ?_
      refine lv_ior hx hb dX10_gravesOf_98 ?_
      refine lv_istore_n (lv' := [(2, .int (x2 ||| (1 <<< ((x3 - 1) &&& 31)))), (0, .ref (Ad E 63)), (1, .int x1), (3, .int x3), (4, .int x4), (5, .int x5)]) hx hb dX10_gravesOf_99 rfl hl (by decide) rfl (fun ls hl => ?_)
      refine lv_iinc (v := (x3 + 1)) (lv' := [(3, .int (x3 + 1)), (2, .int (x2 ||| (1 <<< ((x3 - 1) &&& 31)))), (0, .ref (Ad E 63)), (1, .int x1), (4, .int x4), (5, .int x5)]) hx hb dX10_gravesOf_100 hl (k := 3) rfl rfl (by decide) rfl (fun ls hl => ?_)
      refine lv_goto (tgt := 4) hx hb dX10_gravesOf_103 (by decide) ?_
      exact h p e R s m args below meth c Z cells slots H locs ls C0 hH (lv_sub hl [2, 3, 1, 0] rfl) hret
  · have h := h.2 hc1
    refine lv_iload hx hb dX10_gravesOf_27 (lv_at hl 4 rfl) ?_
    refine lv_if_eq (tgt := 74) hx hb dX10_gravesOf_29 (by decide) (fun hc3 => ?_) (fun hc3 => ?_)
    · have h := h.1 hc3
      refine lv_iconst (v := 0) hx hb dX10_gravesOf_74 (by decide) ?_
      refine lv_istore (lv' := [(4, .int 0), (0, .ref (Ad E 63)), (1, .int x1), (2, .int x2), (3, .int x3), (5, .int x5)]) hx hb dX10_gravesOf_75 hl (by decide) rfl (fun ls hl => ?_)
      refine lv_iinc (v := (x5 + 3)) (lv' := [(5, .int (x5 + 3)), (4, .int 0), (0, .ref (Ad E 63)), (1, .int x1), (2, .int x2), (3, .int x3)]) hx hb dX10_gravesOf_77 hl (k := 5) rfl rfl (by decide) rfl (fun ls hl => ?_)
      refine lv_goto (tgt := 16) hx hb dX10_gravesOf_80 (by decide) ?_
      exact h p e R s m args below meth c Z cells slots H locs ls C0 hH (lv_sub hl [2, 3, 4, 5, 1, 0] rfl) hret
    · have h := h.2 hc3
      refine lv_aload_n hx hb dX10_gravesOf_32 rfl (lv_at hl 0 rfl) ?_
      refine m_getr C0 hH f_63_21 73 rfl kF_X10_37 dX10_gravesOf_33 ?_
      refine lv_iload hx hb dX10_gravesOf_36 (lv_at hl 5 rfl) ?_
      refine m_iald (x := σ 73 x5.toNatClampNeg) C0 hH a_73 h.1 dX10_gravesOf_38 rfl ?_
      have h := h.2
      refine lv_iload_n hx hb dX10_gravesOf_39 rfl (lv_at hl 1 rfl) ?_
      refine lv_icmp_ne (tgt := 70) hx hb dX10_gravesOf_40 (by decide) (fun hc4 => ?_) (fun hc4 => ?_)
      · have h := h.1 hc4
        refine lv_iconst (v := 1) hx hb dX10_gravesOf_70 (by decide) ?_
        refine lv_goto (tgt := 75) hx hb dX10_gravesOf_71 (by decide) ?_
        refine lv_istore (lv' := [(4, .int 1), (0, .ref (Ad E 63)), (1, .int x1), (2, .int x2), (3, .int x3), (5, .int x5)]) hx hb dX10_gravesOf_75 hl (by decide) rfl (fun ls hl => ?_)
        refine lv_iinc (v := (x5 + 3)) (lv' := [(5, .int (x5 + 3)), (4, .int 1), (0, .ref (Ad E 63)), (1, .int x1), (2, .int x2), (3, .int x3)]) hx hb dX10_gravesOf_77 hl (k := 5) rfl rfl (by decide) rfl (fun ls hl => ?_)
        refine lv_goto (tgt := 16) hx hb dX10_gravesOf_80 (by decide) ?_
        exact h p e R s m args below meth c Z cells slots H locs ls C0 hH (lv_sub hl [2, 3, 4, 5, 1, 0] rfl) hret
      · have h := h.2 hc4
        refine lv_aload_n hx hb dX10_gravesOf_43 rfl (lv_at hl 0 rfl) ?_
        refine lv_iload_n hx hb dX10_gravesOf_44 rfl (lv_at hl 1 rfl) ?_
        refine lv_iload_n hx hb dX10_gravesOf_45 rfl (lv_at hl 3 rfl) ?_
        refine lv_aload_n hx hb dX10_gravesOf_46 rfl (lv_at hl 0 rfl) ?_
        refine m_getr C0 hH f_63_21 73 rfl kF_X10_37 dX10_gravesOf_47 ?_
        refine lv_iload hx hb dX10_gravesOf_50 (lv_at hl 5 rfl) ?_
        refine lv_iconst (v := 1) hx hb dX10_gravesOf_52 (by decide) ?_
        refine lv_iadd hx hb dX10_gravesOf_53 ?_
        refine m_iald (x := σ 73 ((x5 + 1).toNatClampNeg)) C0 hH a_73 h.1 dX10_gravesOf_54 rfl ?_
        have h := h.2
        refine m_cV (M2 := M_X10_sitsIf) (As := [.int x1, .int x3, .int (σ 73 ((x5 + 1).toNatClampNeg))]) (rest := []) h C0 hH hl kc_X10_sitsIf ki_X10_sitsIf kx_X10_sitsIf ob_63 kM_X10_210 rfl (Nat.le_of_ble_eq_true rfl) (Nat.le_of_ble_eq_true rfl) ⟨Nat.le_of_ble_eq_true rfl, Nat.le_of_ble_eq_true rfl⟩ dX10_gravesOf_55 rfl (fun r τ5 H locs hq hH => ?_)
        obtain ⟨r6, rfl, h⟩ := hq
        refine lv_aload_n hx hb dX10_gravesOf_58 rfl (lv_at hl 0 rfl) ?_
        refine m_getr C0 hH f_63_21 73 rfl kF_X10_37 dX10_gravesOf_59 ?_
        refine lv_iload hx hb dX10_gravesOf_62 (lv_at hl 5 rfl) ?_
        refine lv_iconst (v := 2) hx hb dX10_gravesOf_64 (by decide) ?_
        refine lv_iadd hx hb dX10_gravesOf_65 ?_
        refine m_iald (x := τ5 73 ((x5 + 2).toNatClampNeg)) C0 hH a_73 h.1 dX10_gravesOf_66 rfl ?_
        have h := h.2
        refine lv_icmp_ne (tgt := 74) hx hb dX10_gravesOf_67 (by decide) (fun hc7 => ?_) (fun hc7 => ?_)
        · have h := h.1 hc7
          refine lv_iconst (v := 0) hx hb dX10_gravesOf_74 (by decide) ?_
          refine lv_istore (lv' := [(4, .int 0), (0, .ref (Ad E 63)), (1, .int x1), (2, .int x2), (3, .int x3), (5, .int x5)]) hx hb dX10_gravesOf_75 hl (by decide) rfl (fun ls hl => ?_)
          refine lv_iinc (v := (x5 + 3)) (lv' := [(5, .int (x5 + 3)), (4, .int 0), (0, .ref (Ad E 63)), (1, .int x1), (2, .int x2), (3, .int x3)]) hx hb dX10_gravesOf_77 hl (k := 5) rfl rfl (by decide) rfl (fun ls hl => ?_)
          refine lv_goto (tgt := 16) hx hb dX10_gravesOf_80 (by decide) ?_
          exact h p e R s m args below meth c Z cells slots H locs ls C0 hH (lv_sub hl [2, 3, 4, 5, 1, 0] rfl) hret
        · have h := h.2 hc7
          refine lv_iconst (v := 1) hx hb dX10_gravesOf_70 (by decide) ?_
          refine lv_goto (tgt := 75) hx hb dX10_gravesOf_71 (by decide) ?_
          refine lv_istore (lv' := [(4, .int 1), (0, .ref (Ad E 63)), (1, .int x1), (2, .int x2), (3, .int x3), (5, .int x5)]) hx hb dX10_gravesOf_75 hl (by decide) rfl (fun ls hl => ?_)
          refine lv_iinc (v := (x5 + 3)) (lv' := [(5, .int (x5 + 3)), (4, .int 1), (0, .ref (Ad E 63)), (1, .int x1), (2, .int x2), (3, .int x3)]) hx hb dX10_gravesOf_77 hl (k := 5) rfl rfl (by decide) rfl (fun ls hl => ?_)
          refine lv_goto (tgt := 16) hx hb dX10_gravesOf_80 (by decide) ?_
          exact h p e R s m args below meth c Z cells slots H locs ls C0 hH (lv_sub hl [2, 3, 4, 5, 1, 0] rfl) hret
