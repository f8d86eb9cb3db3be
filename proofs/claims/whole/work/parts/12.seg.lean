def r_X2_hasPerson_14_0 (E : EE) (x1 : Int32) (σ : Mm) (Q : Int32 → Mm → Prop) : Prop := Rn E M_X2_hasPerson 0 [(0, .ref (Ad E 14)), (1, .int x1)] [] σ (qi Q)
set_option maxRecDepth 20000 in
set_option maxHeartbeats 4000000 in
theorem s_X2_hasPerson_14_0 (E : EE) (x1 : Int32) (σ : Mm) (Q : Int32 → Mm → Prop) (h : ((x1 < 0 → Q 0 σ) ∧ (¬ x1 < 0 → (((σ 14 1) ≤ x1 → Q 0 σ) ∧ (¬ (σ 14 1) ≤ x1 → Q 1 σ))))) : r_X2_hasPerson_14_0 E x1 σ Q := by
  intro p e R s m args below meth c Z cells slots H locs ls C0 hH hl hret
  have hx := C0.1
  have hb : c.code = cX2_hasPerson := C0.2.1
  have hl : lv_has ls 2 [(0, .ref (Ad E 14)), (1, .int x1)] := hl
  refine lv_iload_n hx hb dX2_hasPerson_0 rfl (lv_at hl 1 rfl) ?_
  refine lv_if_lt (tgt := 16) hx hb dX2_hasPerson_1 (by decide) (fun hc1 => ?_) (fun hc1 => ?_)
  · have h := h.1 hc1
    refine lv_iconst (v := 0) hx hb dX2_hasPerson_16 (by decide) ?_
    exact hret (some (.int 0)) _ _ _ _ _ ⟨_, rfl, h⟩ hH ⟨dX2_hasPerson_17, .boolean, rfl, nb (Or.inl rfl)⟩
  · have h := h.2 hc1
    refine lv_iload_n hx hb dX2_hasPerson_4 rfl (lv_at hl 1 rfl) ?_
    refine lv_aload_n hx hb dX2_hasPerson_5 rfl (lv_at hl 0 rfl) ?_
    refine m_geti (x := σ 14 1) C0 hH f_14_1 kF_X2_15 dX2_hasPerson_6 rfl ?_
    refine lv_icmp_ge (tgt := 16) hx hb dX2_hasPerson_9 (by decide) (fun hc2 => ?_) (fun hc2 => ?_)
    · have h := h.1 hc2
      refine lv_iconst (v := 0) hx hb dX2_hasPerson_16 (by decide) ?_
      exact hret (some (.int 0)) _ _ _ _ _ ⟨_, rfl, h⟩ hH ⟨dX2_hasPerson_17, .boolean, rfl, nb (Or.inl rfl)⟩
    · have h := h.2 hc2
      refine lv_iconst (v := 1) hx hb dX2_hasPerson_12 (by decide) ?_
      refine lv_goto (tgt := 17) hx hb dX2_hasPerson_13 (by decide) ?_
      exact hret (some (.int 1)) _ _ _ _ _ ⟨_, rfl, h⟩ hH ⟨dX2_hasPerson_17, .boolean, rfl, nb (Or.inr rfl)⟩

def r_X4_fill_0 (E : EE) (x2 : Int32) (σ : Mm) (Q : Mm → Prop) : Prop := Rn E M_X4_fill 0 [(0, .ref (Ad E 47)), (1, .ref (Ad E 14)), (2, .int x2)] [] σ (qv Q)
def r_X4_fill_10 (E : EE) (x2 : Int32) (x3 : Int32) (σ : Mm) (Q : Mm → Prop) : Prop := Rn E M_X4_fill 10 [(0, .ref (Ad E 47)), (1, .ref (Ad E 14)), (2, .int x2), (3, .int x3)] [] σ (qv Q)
def r_X4_fill_33 (E : EE) (x2 : Int32) (x3 : Int32) (σ : Mm) (Q : Mm → Prop) : Prop := Rn E M_X4_fill 33 [(0, .ref (Ad E 47)), (1, .ref (Ad E 14)), (2, .int x2), (3, .int x3)] [] σ (qv Q)
set_option maxRecDepth 20000 in
set_option maxHeartbeats 4000000 in
theorem s_X4_fill_0 (E : EE) (x2 : Int32) (σ : Mm) (Q : Mm → Prop) (h : r_X4_fill_10 E x2 0 (up σ 47 1 (σ 14 1)) Q) : r_X4_fill_0 E x2 σ Q := by
  intro p e R s m args below meth c Z cells slots H locs ls C0 hH hl hret
  have hx := C0.1
  have hb : c.code = cX4_fill := C0.2.1
  have hl : lv_has ls 4 [(0, .ref (Ad E 47)), (1, .ref (Ad E 14)), (2, .int x2)] := hl
  refine lv_aload_n hx hb dX4_fill_0 rfl (lv_at hl 0 rfl) ?_
  refine lv_aload_n hx hb dX4_fill_1 rfl (lv_at hl 1 rfl) ?_
  refine m_geti (x := σ 14 1) C0 hH f_14_1 kF_X4_19 dX4_fill_2 rfl ?_
  refine m_puti C0 hH f_47_1 kF_X4_15 rfl dX4_fill_5 rfl rfl (fun H locs hH => ?_)
  refine lv_iconst (v := 0) hx hb dX4_fill_8 (by decide) ?_
  refine lv_istore_n (lv' := [(3, .int 0), (0, .ref (Ad E 47)), (1, .ref (Ad E 14)), (2, .int x2)]) hx hb dX4_fill_9 rfl hl (by decide) rfl (fun ls hl => ?_)
  exact h p e R s m args below meth c Z cells slots H locs ls C0 hH (lv_sub hl [1, 2, 3, 0] rfl) hret
set_option maxRecDepth 20000 in
set_option maxHeartbeats 4000000 in
theorem s_X4_fill_10 (E : EE) (x2 : Int32) (x3 : Int32) (σ : Mm) (Q : Mm → Prop) (h : (((σ 47 1) ≤ x3 → r_X4_fill_33 E x2 0 σ Q) ∧ (¬ (σ 47 1) ≤ x3 → (vp_in x3 6 ∧ r_X4_fill_10 E x2 (x3 + 1) (up σ 48 x3.toNatClampNeg 0) Q)))) : r_X4_fill_10 E x2 x3 σ Q := by
  intro p e R s m args below meth c Z cells slots H locs ls C0 hH hl hret
  have hx := C0.1
  have hb : c.code = cX4_fill := C0.2.1
  have hl : lv_has ls 4 [(0, .ref (Ad E 47)), (1, .ref (Ad E 14)), (2, .int x2), (3, .int x3)] := hl
  refine lv_iload_n hx hb dX4_fill_10 rfl (lv_at hl 3 rfl) ?_
  refine lv_aload_n hx hb dX4_fill_11 rfl (lv_at hl 0 rfl) ?_
  refine m_geti (x := σ 47 1) C0 hH f_47_1 kF_X4_15 dX4_fill_12 rfl ?_
  refine lv_icmp_ge (tgt := 31) hx hb dX4_fill_15 (by decide) (fun hc1 => ?_) (fun hc1 => ?_)
  · have h := h.1 hc1
    refine lv_iconst (v := 0) hx hb dX4_fill_31 (by decide) ?_
    refine lv_istore_n (lv' := [(3, .int 0), (0, .ref (Ad E 47)), (1, .ref (Ad E 14)), (2, .int x2)]) hx hb dX4_fill_32 rfl hl (by decide) rfl (fun ls hl => ?_)
    exact h p e R s m args below meth c Z cells slots H locs ls C0 hH (lv_sub hl [1, 2, 3, 0] rfl) hret
  · have h := h.2 hc1
    refine lv_aload_n hx hb dX4_fill_18 rfl (lv_at hl 0 rfl) ?_
    refine m_getr C0 hH f_47_0 48 rfl kF_X4_9 dX4_fill_19 ?_
    refine lv_iload_n hx hb dX4_fill_22 rfl (lv_at hl 3 rfl) ?_
    refine lv_iconst (v := 0) hx hb dX4_fill_23 (by decide) ?_
    refine m_iast (j := x3.toNatClampNeg) C0 hH a_48 h.1 rfl dX4_fill_24 (fun H locs hH => ?_)
    have h := h.2
    refine lv_iinc (v := (x3 + 1)) (lv' := [(3, .int (x3 + 1)), (0, .ref (Ad E 47)), (1, .ref (Ad E 14)), (2, .int x2)]) hx hb dX4_fill_25 hl (k := 3) rfl rfl (by decide) rfl (fun ls hl => ?_)
    refine lv_goto (tgt := 10) hx hb dX4_fill_28 (by decide) ?_
    exact h p e R s m args below meth c Z cells slots H locs ls C0 hH (lv_sub hl [1, 2, 3, 0] rfl) hret
set_option maxRecDepth 20000 in
set_option maxHeartbeats 4000000 in
theorem s_X4_fill_33 (E : EE) (x2 : Int32) (x3 : Int32) (σ : Mm) (Q : Mm → Prop) (h : (((σ 14 2) ≤ x3 → Q σ) ∧ (¬ (σ 14 2) ≤ x3 → r_X9_hasBit_0 E x2 x3 σ (fun r3 τ2 => ((¬ r3 = 0 → r_X4_fill_33 E x2 (x3 + 1) τ2 Q) ∧ (r3 = 0 → (vp_in x3 8 ∧ (vp_in (τ2 19 x3.toNatClampNeg) 6 ∧ (vp_in x3 8 ∧ (vp_in (τ2 19 x3.toNatClampNeg) 6 ∧ r_X4_fill_33 E x2 (x3 + 1) (up τ2 48 ((τ2 19 x3.toNatClampNeg).toNatClampNeg) ((τ2 48 ((τ2 19 x3.toNatClampNeg).toNatClampNeg)) ||| (1 <<< ((τ2 18 x3.toNatClampNeg) &&& 31)))) Q)))))))))) : r_X4_fill_33 E x2 x3 σ Q := by
  intro p e R s m args below meth c Z cells slots H locs ls C0 hH hl hret
  have hx := C0.1
  have hb : c.code = cX4_fill := C0.2.1
  have hl : lv_has ls 4 [(0, .ref (Ad E 47)), (1, .ref (Ad E 14)), (2, .int x2), (3, .int x3)] := hl
  refine lv_iload_n hx hb dX4_fill_33 rfl (lv_at hl 3 rfl) ?_
  refine lv_aload_n hx hb dX4_fill_34 rfl (lv_at hl 1 rfl) ?_
  refine m_geti (x := σ 14 2) C0 hH f_14_2 kF_X4_22 dX4_fill_35 rfl ?_
  refine lv_icmp_ge (tgt := 77) hx hb dX4_fill_38 (by decide) (fun hc1 => ?_) (fun hc1 => ?_)
  · have h := h.1 hc1
    exact hret none _ _ _ _ _ ⟨rfl, h⟩ hH ⟨dX4_fill_77, rfl⟩
  · have h := h.2 hc1
    refine lv_iload_n hx hb dX4_fill_41 rfl (lv_at hl 2 rfl) ?_
    refine lv_iload_n hx hb dX4_fill_42 rfl (lv_at hl 3 rfl) ?_
    refine m_cN (M2 := M_X9_hasBit) (As := [.int x2, .int x3]) (rest := []) h C0 hH hl kc_X9_hasBit ks_X9_hasBit kN_X4_25 rfl (Nat.le_of_ble_eq_true rfl) (Nat.le_of_ble_eq_true rfl) ⟨Nat.le_of_ble_eq_true rfl, Nat.le_of_ble_eq_true rfl⟩ dX4_fill_43 rfl (fun r τ2 H locs hq hH => ?_)
    obtain ⟨r3, rfl, h⟩ := hq
    refine lv_if_ne (tgt := 71) hx hb dX4_fill_46 (by decide) (fun hc4 => ?_) (fun hc4 => ?_)
    · have h := h.1 hc4
      refine lv_iinc (v := (x3 + 1)) (lv' := [(3, .int (x3 + 1)), (0, .ref (Ad E 47)), (1, .ref (Ad E 14)), (2, .int x2)]) hx hb dX4_fill_71 hl (k := 3) rfl rfl (by decide) rfl (fun ls hl => ?_)
      refine lv_goto (tgt := 33) hx hb dX4_fill_74 (by decide) ?_
      exact h p e R s m args below meth c Z cells slots H locs ls C0 hH (lv_sub hl [1, 2, 3, 0] rfl) hret
    · have h := h.2 hc4
      refine lv_aload_n hx hb dX4_fill_49 rfl (lv_at hl 0 rfl) ?_
      refine m_getr C0 hH f_47_0 48 rfl kF_X4_9 dX4_fill_50 ?_
      refine lv_aload_n hx hb dX4_fill_53 rfl (lv_at hl 1 rfl) ?_
      refine m_getr C0 hH f_14_10 19 rfl kF_X4_29 dX4_fill_54 ?_
      refine lv_iload_n hx hb dX4_fill_57 rfl (lv_at hl 3 rfl) ?_
      refine m_iald (x := τ2 19 x3.toNatClampNeg) C0 hH a_19 h.1 dX4_fill_58 rfl ?_
      have h := h.2
      refine lv_dup2_11 hx hb dX4_fill_59 rfl rfl ?_
      refine m_iald (x := τ2 48 ((τ2 19 x3.toNatClampNeg).toNatClampNeg)) C0 hH a_48 h.1 dX4_fill_60 rfl ?_
      have h := h.2
      refine lv_iconst (v := 1) hx hb dX4_fill_61 (by decide) ?_
      refine lv_aload_n hx hb dX4_fill_62 rfl (lv_at hl 1 rfl) ?_
      refine m_getr C0 hH f_14_9 18 rfl kF_X4_32 dX4_fill_63 ?_
      refine lv_iload_n hx hb dX4_fill_66 rfl (lv_at hl 3 rfl) ?_
      refine m_iald (x := τ2 18 x3.toNatClampNeg) C0 hH a_18 h.1 dX4_fill_67 rfl ?_
      have h := h.2
      refine lv_ishl hx hb dX4_fill_68 ?_
      refine lv_ior hx hb dX4_fill_69 ?_
      refine m_iast (j := (τ2 19 x3.toNatClampNeg).toNatClampNeg) C0 hH a_48 h.1 rfl dX4_fill_70 (fun H locs hH => ?_)
      have h := h.2
      refine lv_iinc (v := (x3 + 1)) (lv' := [(3, .int (x3 + 1)), (0, .ref (Ad E 47)), (1, .ref (Ad E 14)), (2, .int x2)]) hx hb dX4_fill_71 hl (k := 3) rfl rfl (by decide) rfl (fun ls hl => ?_)
      refine lv_goto (tgt := 33) hx hb dX4_fill_74 (by decide) ?_
      exact h p e R s m args below meth c Z cells slots H locs ls C0 hH (lv_sub hl [1, 2, 3, 0] rfl) hret

def r_X9_person_0 (E : EE) (x1 : Int32) (x2 : Int32) (σ : Mm) (Q : Int32 → Mm → Prop) : Prop := Rn E M_X9_person 0 [(0, .ref (Ad E 0)), (1, .int x1), (2, .int x2)] [] σ (qi Q)
set_option maxRecDepth 20000 in
set_option maxHeartbeats 4000000 in
theorem s_X9_person_0 (E : EE) (x1 : Int32) (x2 : Int32) (σ : Mm) (Q : Int32 → Mm → Prop) (h : r_X2_hasPerson_14_0 E x1 σ (fun r2 τ1 => ((¬ r2 = 0 → ((x2 = 0 → (vp_in x1 6 ∧ Q (τ1 15 x1.toNatClampNeg) τ1)) ∧ (x2 = 1 → (vp_in x1 6 ∧ Q (τ1 16 x1.toNatClampNeg) τ1)) ∧ (x2 = 2 → r_X9_guiltOf_0 E x1 τ1 (fun r8 τ7 => Q r8 τ7)) ∧ (x2 = 3 → r_X9_sittersNow_0 E  τ1 (fun r11 τ10 => r_X9_hasBit_0 E r11 x1 τ10 (fun r13 τ12 => ((r13 = 0 → Q 0 τ12) ∧ (¬ r13 = 0 → Q 1 τ12))))) ∧ (x2 = 4 → (vp_in x1 6 ∧ Q (τ1 17 x1.toNatClampNeg) τ1)) ∧ (x2 = 5 → r_X4_fill_0 E (τ1 14 3) τ1 (fun τ17 => (vp_in x1 6 ∧ Q (τ17 48 x1.toNatClampNeg) τ17))) ∧ (¬ x2 = 0 → ¬ x2 = 1 → ¬ x2 = 2 → ¬ x2 = 3 → ¬ x2 = 4 → ¬ x2 = 5 → Q (-102) τ1))) ∧ (r2 = 0 → Q (-101) τ1)))) : r_X9_person_0 E x1 x2 σ Q := by
  intro p e R s m args below meth c Z cells slots H locs ls C0 hH hl hret
  have hx := C0.1
  have hb : c.code = cX9_person := C0.2.1
  have hl : lv_has ls 3 [(0, .ref (Ad E 0)), (1, .int x1), (2, .int x2)] := hl
  refine lv_aload_n hx hb dX9_person_0 rfl (lv_at hl 0 rfl) ?_
  refine m_getr C0 hH f_0_2 14 rfl kF_X9_26 dX9_person_1 ?_
  refine lv_iload_n hx hb dX9_person_4 rfl (lv_at hl 1 rfl) ?_
  refine m_cV (M2 := M_X2_hasPerson) (As := [.int x1]) (rest := []) h C0 hH hl kc_X2_hasPerson ki_X2_hasPerson kx_X2_hasPerson ob_14 kM_X9_114 rfl (Nat.le_of_ble_eq_true rfl) (Nat.le_of_ble_eq_true rfl) ⟨Nat.le_of_ble_eq_true rfl, Nat.le_of_ble_eq_true rfl⟩ dX9_person_5 rfl (fun r τ1 H locs hq hH => ?_)
  obtain ⟨r2, rfl, h⟩ := hq
  refine lv_if_ne (tgt := 14) hx hb dX9_person_8 (by decide) (fun hc3 => ?_) (fun hc3 => ?_)
  · have h := h.1 hc3
    refine lv_iload_n hx hb dX9_person_14 rfl (lv_at hl 2 rfl) ?_
    by_cases hs4 : x2 = 0
    · have h := h.1 hs4
      refine m_tin (v := 0) (tgt := 52) C0 dX9_person_15 hs4 (by decide) (by decide) rfl (by decide) ?_
      refine lv_aload_n hx hb dX9_person_52 rfl (lv_at hl 0 rfl) ?_
      refine m_getr C0 hH f_0_2 14 rfl kF_X9_26 dX9_person_53 ?_
      refine m_getr C0 hH f_14_6 15 rfl kF_X9_118 dX9_person_56 ?_
      refine lv_iload_n hx hb dX9_person_59 rfl (lv_at hl 1 rfl) ?_
      refine m_iald (x := τ1 15 x1.toNatClampNeg) C0 hH a_15 h.1 dX9_person_60 rfl ?_
      have h := h.2
      exact hret (some (.int (τ1 15 x1.toNatClampNeg))) _ _ _ _ _ ⟨_, rfl, h⟩ hH ⟨dX9_person_61, .int, rfl, rfl⟩
    have h := h.2
    by_cases hs5 : x2 = 1
    · have h := h.1 hs5
      refine m_tin (v := 1) (tgt := 62) C0 dX9_person_15 hs5 (by decide) (by decide) rfl (by decide) ?_
      refine lv_aload_n hx hb dX9_person_62 rfl (lv_at hl 0 rfl) ?_
      refine m_getr C0 hH f_0_2 14 rfl kF_X9_26 dX9_person_63 ?_
      refine m_getr C0 hH f_14_7 16 rfl kF_X9_122 dX9_person_66 ?_
      refine lv_iload_n hx hb dX9_person_69 rfl (lv_at hl 1 rfl) ?_
      refine m_iald (x := τ1 16 x1.toNatClampNeg) C0 hH a_16 h.1 dX9_person_70 rfl ?_
      have h := h.2
      exact hret (some (.int (τ1 16 x1.toNatClampNeg))) _ _ _ _ _ ⟨_, rfl, h⟩ hH ⟨dX9_person_71, .int, rfl, rfl⟩
    have h := h.2
    by_cases hs6 : x2 = 2
    · have h := h.1 hs6
      refine m_tin (v := 2) (tgt := 72) C0 dX9_person_15 hs6 (by decide) (by decide) rfl (by decide) ?_
      refine lv_aload_n hx hb dX9_person_72 rfl (lv_at hl 0 rfl) ?_
      refine lv_iload_n hx hb dX9_person_73 rfl (lv_at hl 1 rfl) ?_
      refine m_cV (M2 := M_X9_guiltOf) (As := [.int x1]) (rest := []) h C0 hH hl kc_X9_guiltOf ki_X9_guiltOf kx_X9_guiltOf ob_0 kM_X9_125 rfl (Nat.le_of_ble_eq_true rfl) (Nat.le_of_ble_eq_true rfl) ⟨Nat.le_of_ble_eq_true rfl, Nat.le_of_ble_eq_true rfl⟩ dX9_person_74 rfl (fun r τ7 H locs hq hH => ?_)
      obtain ⟨r8, rfl, h⟩ := hq
      exact hret (some (.int r8)) _ _ _ _ _ ⟨_, rfl, h⟩ hH ⟨dX9_person_77, .int, rfl, rfl⟩
    have h := h.2
    by_cases hs9 : x2 = 3
    · have h := h.1 hs9
      refine m_tin (v := 3) (tgt := 78) C0 dX9_person_15 hs9 (by decide) (by decide) rfl (by decide) ?_
      refine lv_aload_n hx hb dX9_person_78 rfl (lv_at hl 0 rfl) ?_
      refine m_cV (M2 := M_X9_sittersNow) (As := []) (rest := []) h C0 hH hl kc_X9_sittersNow ki_X9_sittersNow kx_X9_sittersNow ob_0 kM_X9_129 rfl (Nat.le_of_ble_eq_true rfl) (Nat.le_of_ble_eq_true rfl) ⟨Nat.le_of_ble_eq_true rfl, Nat.le_of_ble_eq_true rfl⟩ dX9_person_79 rfl (fun r τ10 H locs hq hH => ?_)
      obtain ⟨r11, rfl, h⟩ := hq
      refine lv_iload_n hx hb dX9_person_82 rfl (lv_at hl 1 rfl) ?_
      refine m_cS (M2 := M_X9_hasBit) (As := [.int r11, .int x1]) (rest := []) h C0 hH hl kc_X9_hasBit ks_X9_hasBit kM_X9_133 rfl (Nat.le_of_ble_eq_true rfl) (Nat.le_of_ble_eq_true rfl) ⟨Nat.le_of_ble_eq_true rfl, Nat.le_of_ble_eq_true rfl⟩ dX9_person_83 rfl (fun r τ12 H locs hq hH => ?_)
      obtain ⟨r13, rfl, h⟩ := hq
      refine lv_if_eq (tgt := 93) hx hb dX9_person_86 (by decide) (fun hc14 => ?_) (fun hc14 => ?_)
      · have h := h.1 hc14
        refine lv_iconst (v := 0) hx hb dX9_person_93 (by decide) ?_
        exact hret (some (.int 0)) _ _ _ _ _ ⟨_, rfl, h⟩ hH ⟨dX9_person_94, .int, rfl, rfl⟩
      · have h := h.2 hc14
        refine lv_iconst (v := 1) hx hb dX9_person_89 (by decide) ?_
        refine lv_goto (tgt := 94) hx hb dX9_person_90 (by decide) ?_
        exact hret (some (.int 1)) _ _ _ _ _ ⟨_, rfl, h⟩ hH ⟨dX9_person_94, .int, rfl, rfl⟩
    have h := h.2
    by_cases hs15 : x2 = 4
    · have h := h.1 hs15
      refine m_tin (v := 4) (tgt := 95) C0 dX9_person_15 hs15 (by decide) (by decide) rfl (by decide) ?_
      refine lv_aload_n hx hb dX9_person_95 rfl (lv_at hl 0 rfl) ?_
      refine m_getr C0 hH f_0_2 14 rfl kF_X9_26 dX9_person_96 ?_
      refine m_getr C0 hH f_14_8 17 rfl kF_X9_137 dX9_person_99 ?_
      refine lv_iload_n hx hb dX9_person_102 rfl (lv_at hl 1 rfl) ?_
      refine m_iald (x := τ1 17 x1.toNatClampNeg) C0 hH a_17 h.1 dX9_person_103 rfl ?_
      have h := h.2
      exact hret (some (.int (τ1 17 x1.toNatClampNeg))) _ _ _ _ _ ⟨_, rfl, h⟩ hH ⟨dX9_person_104, .int, rfl, rfl⟩
    have h := h.2
    by_cases hs16 : x2 = 5
    · have h := h.1 hs16
      refine m_tin (v := 5) (tgt := 105) C0 dX9_person_15 hs16 (by decide) (by decide) rfl (by decide) ?_
      refine lv_aload_n hx hb dX9_person_105 rfl (lv_at hl 0 rfl) ?_
      refine m_getr C0 hH f_0_6 47 rfl kF_X9_46 dX9_person_106 ?_
      refine lv_aload_n hx hb dX9_person_109 rfl (lv_at hl 0 rfl) ?_
      refine m_getr C0 hH f_0_2 14 rfl kF_X9_26 dX9_person_110 ?_
      refine lv_aload_n hx hb dX9_person_113 rfl (lv_at hl 0 rfl) ?_
      refine m_getr C0 hH f_0_2 14 rfl kF_X9_26 dX9_person_114 ?_
      refine m_geti (x := τ1 14 3) C0 hH f_14_3 kF_X9_140 dX9_person_117 rfl ?_
      refine m_cV (M2 := M_X4_fill) (As := [.ref (Ad E 14), .int (τ1 14 3)]) (rest := []) h C0 hH hl kc_X4_fill ki_X4_fill kx_X4_fill ob_47 kM_X9_143 rfl (Nat.le_of_ble_eq_true rfl) (Nat.le_of_ble_eq_true rfl) ⟨Nat.le_of_ble_eq_true rfl, Nat.le_of_ble_eq_true rfl⟩ dX9_person_120 rfl (fun r τ17 H locs hq hH => ?_)
      obtain ⟨rfl, h⟩ := hq
      refine lv_aload_n hx hb dX9_person_123 rfl (lv_at hl 0 rfl) ?_
      refine m_getr C0 hH f_0_6 47 rfl kF_X9_46 dX9_person_124 ?_
      refine m_getr C0 hH f_47_0 48 rfl kF_X9_147 dX9_person_127 ?_
      refine lv_iload_n hx hb dX9_person_130 rfl (lv_at hl 1 rfl) ?_
      refine m_iald (x := τ17 48 x1.toNatClampNeg) C0 hH a_48 h.1 dX9_person_131 rfl ?_
      have h := h.2
      exact hret (some (.int (τ17 48 x1.toNatClampNeg))) _ _ _ _ _ ⟨_, rfl, h⟩ hH ⟨dX9_person_132, .int, rfl, rfl⟩
    have h := h.2
    have h := h hs4
    have h := h hs5
    have h := h hs6
    have h := h hs9
    have h := h hs15
    have h := h hs16
    refine m_tout (tgt := 133) C0 dX9_person_15 (fun v h1 h2 => ?_) (by decide) ?_
    · rcases (show v = 0 ∨ v = 1 ∨ v = 2 ∨ v = 3 ∨ v = 4 ∨ v = 5 by omega) with rfl | rfl | rfl | rfl | rfl | rfl
      · exact fun q => hs4 (q.trans (by decide))
      · exact fun q => hs5 (q.trans (by decide))
      · exact fun q => hs6 (q.trans (by decide))
      · exact fun q => hs9 (q.trans (by decide))
      · exact fun q => hs15 (q.trans (by decide))
      · exact fun q => hs16 (q.trans (by decide))
    refine lv_bipush (v := (-102)) hx hb dX9_person_133 (by decide) ?_
    exact hret (some (.int (-102))) _ _ _ _ _ ⟨_, rfl, h⟩ hH ⟨dX9_person_135, .int, rfl, rfl⟩
  · have h := h.2 hc3
    refine lv_bipush (v := (-101)) hx hb dX9_person_11 (by decide) ?_
    exact hret (some (.int (-101))) _ _ _ _ _ ⟨_, rfl, h⟩ hH ⟨dX9_person_13, .int, rfl, rfl⟩

def r_X9_isA_0 (E : EE) (x0 : Int32) (x1 : Int32) (σ : Mm) (Q : Int32 → Mm → Prop) : Prop := Rn E M_X9_isA 0 [(0, .int x0), (1, .int x1)] [] σ (qi Q)
set_option maxRecDepth 20000 in
set_option maxHeartbeats 4000000 in
theorem s_X9_isA_0 (E : EE) (x0 : Int32) (x1 : Int32) (σ : Mm) (Q : Int32 → Mm → Prop) (h : ((x1 = 0 → Q 1 σ) ∧ (¬ x1 = 0 → ((x1 = x0 → Q 1 σ) ∧ (¬ x1 = x0 → ((¬ x1 = 1 → Q 0 σ) ∧ (x1 = 1 → ((¬ x0 = 4 → Q 0 σ) ∧ (x0 = 4 → Q 1 σ))))))))) : r_X9_isA_0 E x0 x1 σ Q := by
  intro p e R s m args below meth c Z cells slots H locs ls C0 hH hl hret
  have hx := C0.1
  have hb : c.code = cX9_isA := C0.2.1
  have hl : lv_has ls 2 [(0, .int x0), (1, .int x1)] := hl
  refine lv_iload_n hx hb dX9_isA_0 rfl (lv_at hl 1 rfl) ?_
  refine lv_if_eq (tgt := 19) hx hb dX9_isA_1 (by decide) (fun hc1 => ?_) (fun hc1 => ?_)
  · have h := h.1 hc1
    refine lv_iconst (v := 1) hx hb dX9_isA_19 (by decide) ?_
    refine lv_goto (tgt := 24) hx hb dX9_isA_20 (by decide) ?_
    exact hret (some (.int 1)) _ _ _ _ _ ⟨_, rfl, h⟩ hH ⟨dX9_isA_24, .boolean, rfl, nb (Or.inr rfl)⟩
  · have h := h.2 hc1
    refine lv_iload_n hx hb dX9_isA_4 rfl (lv_at hl 1 rfl) ?_
    refine lv_iload_n hx hb dX9_isA_5 rfl (lv_at hl 0 rfl) ?_
    refine lv_icmp_eq (tgt := 19) hx hb dX9_isA_6 (by decide) (fun hc2 => ?_) (fun hc2 => ?_)
    · have h := h.1 hc2
      refine lv_iconst (v := 1) hx hb dX9_isA_19 (by decide) ?_
      refine lv_goto (tgt := 24) hx hb dX9_isA_20 (by decide) ?_
      exact hret (some (.int 1)) _ _ _ _ _ ⟨_, rfl, h⟩ hH ⟨dX9_isA_24, .boolean, rfl, nb (Or.inr rfl)⟩
    · have h := h.2 hc2
      refine lv_iload_n hx hb dX9_isA_9 rfl (lv_at hl 1 rfl) ?_
      refine lv_iconst (v := 1) hx hb dX9_isA_10 (by decide) ?_
      refine lv_icmp_ne (tgt := 23) hx hb dX9_isA_11 (by decide) (fun hc3 => ?_) (fun hc3 => ?_)
      · have h := h.1 hc3
        refine lv_iconst (v := 0) hx hb dX9_isA_23 (by decide) ?_
        exact hret (some (.int 0)) _ _ _ _ _ ⟨_, rfl, h⟩ hH ⟨dX9_isA_24, .boolean, rfl, nb (Or.inl rfl)⟩
      · have h := h.2 hc3
        refine lv_iload_n hx hb dX9_isA_14 rfl (lv_at hl 0 rfl) ?_
        refine lv_iconst (v := 4) hx hb dX9_isA_15 (by decide) ?_
        refine lv_icmp_ne (tgt := 23) hx hb dX9_isA_16 (by decide) (fun hc4 => ?_) (fun hc4 => ?_)
        · have h := h.1 hc4
          refine lv_iconst (v := 0) hx hb dX9_isA_23 (by decide) ?_
          exact hret (some (.int 0)) _ _ _ _ _ ⟨_, rfl, h⟩ hH ⟨dX9_isA_24, .boolean, rfl, nb (Or.inl rfl)⟩
        · have h := h.2 hc4
          refine lv_iconst (v := 1) hx hb dX9_isA_19 (by decide) ?_
          refine lv_goto (tgt := 24) hx hb dX9_isA_20 (by decide) ?_
          exact hret (some (.int 1)) _ _ _ _ _ ⟨_, rfl, h⟩ hH ⟨dX9_isA_24, .boolean, rfl, nb (Or.inr rfl)⟩

def r_X9_isKind_0 (E : EE) (x0 : Int32) (σ : Mm) (Q : Int32 → Mm → Prop) : Prop := Rn E M_X9_isKind 0 [(0, .int x0)] [] σ (qi Q)
set_option maxRecDepth 20000 in
set_option maxHeartbeats 4000000 in
theorem s_X9_isKind_0 (E : EE) (x0 : Int32) (σ : Mm) (Q : Int32 → Mm → Prop) (h : ((x0 < 0 → Q 0 σ) ∧ (¬ x0 < 0 → ((4 < x0 → Q 0 σ) ∧ (¬ 4 < x0 → Q 1 σ))))) : r_X9_isKind_0 E x0 σ Q := by
  intro p e R s m args below meth c Z cells slots H locs ls C0 hH hl hret
  have hx := C0.1
  have hb : c.code = cX9_isKind := C0.2.1
  have hl : lv_has ls 1 [(0, .int x0)] := hl
  refine lv_iload_n hx hb dX9_isKind_0 rfl (lv_at hl 0 rfl) ?_
  refine lv_if_lt (tgt := 13) hx hb dX9_isKind_1 (by decide) (fun hc1 => ?_) (fun hc1 => ?_)
  · have h := h.1 hc1
    refine lv_iconst (v := 0) hx hb dX9_isKind_13 (by decide) ?_
    exact hret (some (.int 0)) _ _ _ _ _ ⟨_, rfl, h⟩ hH ⟨dX9_isKind_14, .boolean, rfl, nb (Or.inl rfl)⟩
  · have h := h.2 hc1
    refine lv_iload_n hx hb dX9_isKind_4 rfl (lv_at hl 0 rfl) ?_
    refine lv_iconst (v := 4) hx hb dX9_isKind_5 (by decide) ?_
    refine lv_icmp_gt (tgt := 13) hx hb dX9_isKind_6 (by decide) (fun hc2 => ?_) (fun hc2 => ?_)
    · have h := h.1 hc2
      refine lv_iconst (v := 0) hx hb dX9_isKind_13 (by decide) ?_
      exact hret (some (.int 0)) _ _ _ _ _ ⟨_, rfl, h⟩ hH ⟨dX9_isKind_14, .boolean, rfl, nb (Or.inl rfl)⟩
    · have h := h.2 hc2
      refine lv_iconst (v := 1) hx hb dX9_isKind_9 (by decide) ?_
      refine lv_goto (tgt := 14) hx hb dX9_isKind_10 (by decide) ?_
      exact hret (some (.int 1)) _ _ _ _ _ ⟨_, rfl, h⟩ hH ⟨dX9_isKind_14, .boolean, rfl, nb (Or.inr rfl)⟩

def r_X9_as_0 (E : EE) (x1 : Int32) (x2 : Int32) (σ : Mm) (Q : Int32 → Mm → Prop) : Prop := Rn E M_X9_as 0 [(0, .ref (Ad E 0)), (1, .int x1), (2, .int x2)] [] σ (qi Q)
set_option maxRecDepth 20000 in
set_option maxHeartbeats 4000000 in
theorem s_X9_as_0 (E : EE) (x1 : Int32) (x2 : Int32) (σ : Mm) (Q : Int32 → Mm → Prop) (h : r_X2_hasPerson_14_0 E x1 σ (fun r2 τ1 => ((¬ r2 = 0 → r_X9_isKind_0 E x2 τ1 (fun r5 τ4 => ((¬ r5 = 0 → (vp_in x1 6 ∧ r_X9_isA_0 E (τ4 15 x1.toNatClampNeg) x2 τ4 (fun r8 τ7 => ((r8 = 0 → Q (-1) τ7) ∧ (¬ r8 = 0 → Q x1 τ7))))) ∧ (r5 = 0 → Q (-102) τ4)))) ∧ (r2 = 0 → Q (-101) τ1)))) : r_X9_as_0 E x1 x2 σ Q := by
  intro p e R s m args below meth c Z cells slots H locs ls C0 hH hl hret
  have hx := C0.1
  have hb : c.code = cX9_as := C0.2.1
  have hl : lv_has ls 3 [(0, .ref (Ad E 0)), (1, .int x1), (2, .int x2)] := hl
  refine lv_aload_n hx hb dX9_as_0 rfl (lv_at hl 0 rfl) ?_
  refine m_getr C0 hH f_0_2 14 rfl kF_X9_26 dX9_as_1 ?_
  refine lv_iload_n hx hb dX9_as_4 rfl (lv_at hl 1 rfl) ?_
  refine m_cV (M2 := M_X2_hasPerson) (As := [.int x1]) (rest := []) h C0 hH hl kc_X2_hasPerson ki_X2_hasPerson kx_X2_hasPerson ob_14 kM_X9_114 rfl (Nat.le_of_ble_eq_true rfl) (Nat.le_of_ble_eq_true rfl) ⟨Nat.le_of_ble_eq_true rfl, Nat.le_of_ble_eq_true rfl⟩ dX9_as_5 rfl (fun r τ1 H locs hq hH => ?_)
  obtain ⟨r2, rfl, h⟩ := hq
  refine lv_if_ne (tgt := 14) hx hb dX9_as_8 (by decide) (fun hc3 => ?_) (fun hc3 => ?_)
  · have h := h.1 hc3
    refine lv_iload_n hx hb dX9_as_14 rfl (lv_at hl 2 rfl) ?_
    refine m_cS (M2 := M_X9_isKind) (As := [.int x2]) (rest := []) h C0 hH hl kc_X9_isKind ks_X9_isKind kM_X9_150 rfl (Nat.le_of_ble_eq_true rfl) (Nat.le_of_ble_eq_true rfl) ⟨Nat.le_of_ble_eq_true rfl, Nat.le_of_ble_eq_true rfl⟩ dX9_as_15 rfl (fun r τ4 H locs hq hH => ?_)
    obtain ⟨r5, rfl, h⟩ := hq
    refine lv_if_ne (tgt := 24) hx hb dX9_as_18 (by decide) (fun hc6 => ?_) (fun hc6 => ?_)
    · have h := h.1 hc6
      refine lv_aload_n hx hb dX9_as_24 rfl (lv_at hl 0 rfl) ?_
      refine m_getr C0 hH f_0_2 14 rfl kF_X9_26 dX9_as_25 ?_
      refine m_getr C0 hH f_14_6 15 rfl kF_X9_118 dX9_as_28 ?_
      refine lv_iload_n hx hb dX9_as_31 rfl (lv_at hl 1 rfl) ?_
      refine m_iald (x := τ4 15 x1.toNatClampNeg) C0 hH a_15 h.1 dX9_as_32 rfl ?_
      have h := h.2
      refine lv_iload_n hx hb dX9_as_33 rfl (lv_at hl 2 rfl) ?_
      refine m_cS (M2 := M_X9_isA) (As := [.int (τ4 15 x1.toNatClampNeg), .int x2]) (rest := []) h C0 hH hl kc_X9_isA ks_X9_isA kM_X9_153 rfl (Nat.le_of_ble_eq_true rfl) (Nat.le_of_ble_eq_true rfl) ⟨Nat.le_of_ble_eq_true rfl, Nat.le_of_ble_eq_true rfl⟩ dX9_as_34 rfl (fun r τ7 H locs hq hH => ?_)
      obtain ⟨r8, rfl, h⟩ := hq
      refine lv_if_eq (tgt := 44) hx hb dX9_as_37 (by decide) (fun hc9 => ?_) (fun hc9 => ?_)
      · have h := h.1 hc9
        refine lv_iconst (v := (-1)) hx hb dX9_as_44 (by decide) ?_
        exact hret (some (.int (-1))) _ _ _ _ _ ⟨_, rfl, h⟩ hH ⟨dX9_as_45, .int, rfl, rfl⟩
      · have h := h.2 hc9
        refine lv_iload_n hx hb dX9_as_40 rfl (lv_at hl 1 rfl) ?_
        refine lv_goto (tgt := 45) hx hb dX9_as_41 (by decide) ?_
        exact hret (some (.int x1)) _ _ _ _ _ ⟨_, rfl, h⟩ hH ⟨dX9_as_45, .int, rfl, rfl⟩
    · have h := h.2 hc6
      refine lv_bipush (v := (-102)) hx hb dX9_as_21 (by decide) ?_
      exact hret (some (.int (-102))) _ _ _ _ _ ⟨_, rfl, h⟩ hH ⟨dX9_as_23, .int, rfl, rfl⟩
  · have h := h.2 hc3
    refine lv_bipush (v := (-101)) hx hb dX9_as_11 (by decide) ?_
    exact hret (some (.int (-101))) _ _ _ _ _ ⟨_, rfl, h⟩ hH ⟨dX9_as_13, .int, rfl, rfl⟩

def r_X2_hasWrong_0 (E : EE) (x1 : Int32) (σ : Mm) (Q : Int32 → Mm → Prop) : Prop := Rn E M_X2_hasWrong 0 [(0, .ref (Ad E 14)), (1, .int x1)] [] σ (qi Q)
set_option maxRecDepth 20000 in
set_option maxHeartbeats 4000000 in
theorem s_X2_hasWrong_0 (E : EE) (x1 : Int32) (σ : Mm) (Q : Int32 → Mm → Prop) (h : ((x1 < 0 → Q 0 σ) ∧ (¬ x1 < 0 → (((σ 14 2) ≤ x1 → Q 0 σ) ∧ (¬ (σ 14 2) ≤ x1 → Q 1 σ))))) : r_X2_hasWrong_0 E x1 σ Q := by
  intro p e R s m args below meth c Z cells slots H locs ls C0 hH hl hret
  have hx := C0.1
  have hb : c.code = cX2_hasWrong := C0.2.1
  have hl : lv_has ls 2 [(0, .ref (Ad E 14)), (1, .int x1)] := hl
  refine lv_iload_n hx hb dX2_hasWrong_0 rfl (lv_at hl 1 rfl) ?_
  refine lv_if_lt (tgt := 16) hx hb dX2_hasWrong_1 (by decide) (fun hc1 => ?_) (fun hc1 => ?_)
  · have h := h.1 hc1
    refine lv_iconst (v := 0) hx hb dX2_hasWrong_16 (by decide) ?_
    exact hret (some (.int 0)) _ _ _ _ _ ⟨_, rfl, h⟩ hH ⟨dX2_hasWrong_17, .boolean, rfl, nb (Or.inl rfl)⟩
  · have h := h.2 hc1
    refine lv_iload_n hx hb dX2_hasWrong_4 rfl (lv_at hl 1 rfl) ?_
    refine lv_aload_n hx hb dX2_hasWrong_5 rfl (lv_at hl 0 rfl) ?_
    refine m_geti (x := σ 14 2) C0 hH f_14_2 kF_X2_18 dX2_hasWrong_6 rfl ?_
    refine lv_icmp_ge (tgt := 16) hx hb dX2_hasWrong_9 (by decide) (fun hc2 => ?_) (fun hc2 => ?_)
    · have h := h.1 hc2
      refine lv_iconst (v := 0) hx hb dX2_hasWrong_16 (by decide) ?_
      exact hret (some (.int 0)) _ _ _ _ _ ⟨_, rfl, h⟩ hH ⟨dX2_hasWrong_17, .boolean, rfl, nb (Or.inl rfl)⟩
    · have h := h.2 hc2
      refine lv_iconst (v := 1) hx hb dX2_hasWrong_12 (by decide) ?_
      refine lv_goto (tgt := 17) hx hb dX2_hasWrong_13 (by decide) ?_
      exact hret (some (.int 1)) _ _ _ _ _ ⟨_, rfl, h⟩ hH ⟨dX2_hasWrong_17, .boolean, rfl, nb (Or.inr rfl)⟩

def r_X2_isForgiven_0 (E : EE) (x1 : Int32) (σ : Mm) (Q : Int32 → Mm → Prop) : Prop := Rn E M_X2_isForgiven 0 [(0, .ref (Ad E 14)), (1, .int x1)] [] σ (qi Q)
set_option maxRecDepth 20000 in
set_option maxHeartbeats 4000000 in
theorem s_X2_isForgiven_0 (E : EE) (x1 : Int32) (σ : Mm) (Q : Int32 → Mm → Prop) (h : r_X9_hasBit_0 E (σ 14 3) x1 σ (fun r2 τ1 => ((r2 = 0 ∨ r2 = 1) ∧ Q r2 τ1))) : r_X2_isForgiven_0 E x1 σ Q := by
  intro p e R s m args below meth c Z cells slots H locs ls C0 hH hl hret
  have hx := C0.1
  have hb : c.code = cX2_isForgiven := C0.2.1
  have hl : lv_has ls 2 [(0, .ref (Ad E 14)), (1, .int x1)] := hl
  refine lv_aload_n hx hb dX2_isForgiven_0 rfl (lv_at hl 0 rfl) ?_
  refine m_geti (x := σ 14 3) C0 hH f_14_3 kF_X2_21 dX2_isForgiven_1 rfl ?_
  refine lv_iload_n hx hb dX2_isForgiven_4 rfl (lv_at hl 1 rfl) ?_
  refine m_cN (M2 := M_X9_hasBit) (As := [.int (σ 14 3), .int x1]) (rest := []) h C0 hH hl kc_X9_hasBit ks_X9_hasBit kN_X2_59 rfl (Nat.le_of_ble_eq_true rfl) (Nat.le_of_ble_eq_true rfl) ⟨Nat.le_of_ble_eq_true rfl, Nat.le_of_ble_eq_true rfl⟩ dX2_isForgiven_5 rfl (fun r τ1 H locs hq hH => ?_)
  obtain ⟨r2, rfl, h⟩ := hq
  exact hret (some (.int r2)) _ _ _ _ _ ⟨_, rfl, h.2⟩ hH ⟨dX2_isForgiven_8, .boolean, rfl, nb h.1⟩

def r_J6_bitCount_0f7a4_0 (E : EE) (x0 : Int32) (σ : Mm) (Q : Int32 → Mm → Prop) : Prop := Rn E M_J6_bitCount_0f7a4 0 [(0, .int x0)] [] σ (qi Q)
set_option maxRecDepth 20000 in
set_option maxHeartbeats 4000000 in
theorem s_J6_bitCount_0f7a4_0 (E : EE) (x0 : Int32) (σ : Mm) (Q : Int32 → Mm → Prop) (h : Q ((((((((x0 - ((ush x0 1) &&& 1431655765)) &&& 858993459) + ((ush (x0 - ((ush x0 1) &&& 1431655765)) 2) &&& 858993459)) + (ush (((x0 - ((ush x0 1) &&& 1431655765)) &&& 858993459) + ((ush (x0 - ((ush x0 1) &&& 1431655765)) 2) &&& 858993459)) 4)) &&& 252645135) + (ush (((((x0 - ((ush x0 1) &&& 1431655765)) &&& 858993459) + ((ush (x0 - ((ush x0 1) &&& 1431655765)) 2) &&& 858993459)) + (ush (((x0 - ((ush x0 1) &&& 1431655765)) &&& 858993459) + ((ush (x0 - ((ush x0 1) &&& 1431655765)) 2) &&& 858993459)) 4)) &&& 252645135) 8)) + (ush ((((((x0 - ((ush x0 1) &&& 1431655765)) &&& 858993459) + ((ush (x0 - ((ush x0 1) &&& 1431655765)) 2) &&& 858993459)) + (ush (((x0 - ((ush x0 1) &&& 1431655765)) &&& 858993459) + ((ush (x0 - ((ush x0 1) &&& 1431655765)) 2) &&& 858993459)) 4)) &&& 252645135) + (ush (((((x0 - ((ush x0 1) &&& 1431655765)) &&& 858993459) + ((ush (x0 - ((ush x0 1) &&& 1431655765)) 2) &&& 858993459)) + (ush (((x0 - ((ush x0 1) &&& 1431655765)) &&& 858993459) + ((ush (x0 - ((ush x0 1) &&& 1431655765)) 2) &&& 858993459)) 4)) &&& 252645135) 8)) 16)) &&& 63) σ) : r_J6_bitCount_0f7a4_0 E x0 σ Q := by
  intro p e R s m args below meth c Z cells slots H locs ls C0 hH hl hret
  have hx := C0.1
  have hb : c.code = cJ6_bitCount_0f7a4 := C0.2.1
  have hl : lv_has ls 1 [(0, .int x0)] := hl
  refine lv_iload_n hx hb dJ6_bitCount_0f7a4_0 rfl (lv_at hl 0 rfl) ?_
  refine lv_iload_n hx hb dJ6_bitCount_0f7a4_1 rfl (lv_at hl 0 rfl) ?_
  refine lv_iconst (v := 1) hx hb dJ6_bitCount_0f7a4_2 (by decide) ?_
  refine lv_iushr (v := (ush x0 1)) hx hb dJ6_bitCount_0f7a4_3 rfl ?_
  refine lv_ldcw hx hb C0.2.2.2.1 (C0.2.2.2.2.1 _ kC_J6_265) dJ6_bitCount_0f7a4_4 ?_
  refine lv_iand hx hb dJ6_bitCount_0f7a4_7 ?_
  refine lv_isub hx hb dJ6_bitCount_0f7a4_8 ?_
  refine lv_istore_n (lv' := [(0, .int (x0 - ((ush x0 1) &&& 1431655765)))]) hx hb dJ6_bitCount_0f7a4_9 rfl hl (by decide) rfl (fun ls hl => ?_)
  refine lv_iload_n hx hb dJ6_bitCount_0f7a4_10 rfl (lv_at hl 0 rfl) ?_
  refine lv_ldcw hx hb C0.2.2.2.1 (C0.2.2.2.2.1 _ kC_J6_266) dJ6_bitCount_0f7a4_11 ?_
  refine lv_iand hx hb dJ6_bitCount_0f7a4_14 ?_
  refine lv_iload_n hx hb dJ6_bitCount_0f7a4_15 rfl (lv_at hl 0 rfl) ?_
  refine lv_iconst (v := 2) hx hb dJ6_bitCount_0f7a4_16 (by decide) ?_
  refine lv_iushr (v := (ush (x0 - ((ush x0 1) &&& 1431655765)) 2)) hx hb dJ6_bitCount_0f7a4_17 rfl ?_
  refine lv_ldcw hx hb C0.2.2.2.1 (C0.2.2.2.2.1 _ kC_J6_266) dJ6_bitCount_0f7a4_18 ?_
  refine lv_iand hx hb dJ6_bitCount_0f7a4_21 ?_
  refine lv_iadd hx hb dJ6_bitCount_0f7a4_22 ?_
  refine lv_istore_n (lv' := [(0, .int (((x0 - ((ush x0 1) &&& 1431655765)) &&& 858993459) + ((ush (x0 - ((ush x0 1) &&& 1431655765)) 2) &&& 858993459)))]) hx hb dJ6_bitCount_0f7a4_23 rfl hl (by decide) rfl (fun ls hl => ?_)
  refine lv_iload_n hx hb dJ6_bitCount_0f7a4_24 rfl (lv_at hl 0 rfl) ?_
  refine lv_iload_n hx hb dJ6_bitCount_0f7a4_25 rfl (lv_at hl 0 rfl) ?_
  refine lv_iconst (v := 4) hx hb dJ6_bitCount_0f7a4_26 (by decide) ?_
  refine lv_iushr (v := (ush (((x0 - ((ush x0 1) &&& 1431655765)) &&& 858993459) + ((ush (x0 - ((ush x0 1) &&& 1431655765)) 2) &&& 858993459)) 4)) hx hb dJ6_bitCount_0f7a4_27 rfl ?_
  refine lv_iadd hx hb dJ6_bitCount_0f7a4_28 ?_
  refine lv_ldcw hx hb C0.2.2.2.1 (C0.2.2.2.2.1 _ kC_J6_267) dJ6_bitCount_0f7a4_29 ?_
  refine lv_iand hx hb dJ6_bitCount_0f7a4_32 ?_
  refine lv_istore_n (lv' := [(0, .int (((((x0 - ((ush x0 1) &&& 1431655765)) &&& 858993459) + ((ush (x0 - ((ush x0 1) &&& 1431655765)) 2) &&& 858993459)) + (ush (((x0 - ((ush x0 1) &&& 1431655765)) &&& 858993459) + ((ush (x0 - ((ush x0 1) &&& 1431655765)) 2) &&& 858993459)) 4)) &&& 252645135))]) hx hb dJ6_bitCount_0f7a4_33 rfl hl (by decide) rfl (fun ls hl => ?_)
  refine lv_iload_n hx hb dJ6_bitCount_0f7a4_34 rfl (lv_at hl 0 rfl) ?_
  refine lv_iload_n hx hb dJ6_bitCount_0f7a4_35 rfl (lv_at hl 0 rfl) ?_
  refine lv_bipush (v := 8) hx hb dJ6_bitCount_0f7a4_36 (by decide) ?_
  refine lv_iushr (v := (ush (((((x0 - ((ush x0 1) &&& 1431655765)) &&& 858993459) + ((ush (x0 - ((ush x0 1) &&& 1431655765)) 2) &&& 858993459)) + (ush (((x0 - ((ush x0 1) &&& 1431655765)) &&& 858993459) + ((ush (x0 - ((ush x0 1) &&& 1431655765)) 2) &&& 858993459)) 4)) &&& 252645135) 8)) hx hb dJ6_bitCount_0f7a4_38 rfl ?_
  refine lv_iadd hx hb dJ6_bitCount_0f7a4_39 ?_
  refine lv_istore_n (lv' := [(0, .int ((((((x0 - ((ush x0 1) &&& 1431655765)) &&& 858993459) + ((ush (x0 - ((ush x0 1) &&& 1431655765)) 2) &&& 858993459)) + (ush (((x0 - ((ush x0 1) &&& 1431655765)) &&& 858993459) + ((ush (x0 - ((ush x0 1) &&& 1431655765)) 2) &&& 858993459)) 4)) &&& 252645135) + (ush (((((x0 - ((ush x0 1) &&& 1431655765)) &&& 858993459) + ((ush (x0 - ((ush x0 1) &&& 1431655765)) 2) &&& 858993459)) + (ush (((x0 - ((ush x0 1) &&& 1431655765)) &&& 858993459) + ((ush (x0 - ((ush x0 1) &&& 1431655765)) 2) &&& 858993459)) 4)) &&& 252645135) 8)))]) hx hb dJ6_bitCount_0f7a4_40 rfl hl (by decide) rfl (fun ls hl => ?_)
  refine lv_iload_n hx hb dJ6_bitCount_0f7a4_41 rfl (lv_at hl 0 rfl) ?_
  refine lv_iload_n hx hb dJ6_bitCount_0f7a4_42 rfl (lv_at hl 0 rfl) ?_
  refine lv_bipush (v := 16) hx hb dJ6_bitCount_0f7a4_43 (by decide) ?_
  refine lv_iushr (v := (ush ((((((x0 - ((ush x0 1) &&& 1431655765)) &&& 858993459) + ((ush (x0 - ((ush x0 1) &&& 1431655765)) 2) &&& 858993459)) + (ush (((x0 - ((ush x0 1) &&& 1431655765)) &&& 858993459) + ((ush (x0 - ((ush x0 1) &&& 1431655765)) 2) &&& 858993459)) 4)) &&& 252645135) + (ush (((((x0 - ((ush x0 1) &&& 1431655765)) &&& 858993459) + ((ush (x0 - ((ush x0 1) &&& 1431655765)) 2) &&& 858993459)) + (ush (((x0 - ((ush x0 1) &&& 1431655765)) &&& 858993459) + ((ush (x0 - ((ush x0 1) &&& 1431655765)) 2) &&& 858993459)) 4)) &&& 252645135) 8)) 16)) hx hb dJ6_bitCount_0f7a4_45 rfl ?_
  refine lv_iadd hx hb dJ6_bitCount_0f7a4_46 ?_
  refine lv_istore_n (lv' := [(0, .int (((((((x0 - ((ush x0 1) &&& 1431655765)) &&& 858993459) + ((ush (x0 - ((ush x0 1) &&& 1431655765)) 2) &&& 858993459)) + (ush (((x0 - ((ush x0 1) &&& 1431655765)) &&& 858993459) + ((ush (x0 - ((ush x0 1) &&& 1431655765)) 2) &&& 858993459)) 4)) &&& 252645135) + (ush (((((x0 - ((ush x0 1) &&& 1431655765)) &&& 858993459) + ((ush (x0 - ((ush x0 1) &&& 1431655765)) 2) &&& 858993459)) + (ush (((x0 - ((ush x0 1) &&& 1431655765)) &&& 858993459) + ((ush (x0 - ((ush x0 1) &&& 1431655765)) 2) &&& 858993459)) 4)) &&& 252645135) 8)) + (ush ((((((x0 - ((ush x0 1) &&& 1431655765)) &&& 858993459) + ((ush (x0 - ((ush x0 1) &&& 1431655765)) 2) &&& 858993459)) + (ush (((x0 - ((ush x0 1) &&& 1431655765)) &&& 858993459) + ((ush (x0 - ((ush x0 1) &&& 1431655765)) 2) &&& 858993459)) 4)) &&& 252645135) + (ush (((((x0 - ((ush x0 1) &&& 1431655765)) &&& 858993459) + ((ush (x0 - ((ush x0 1) &&& 1431655765)) 2) &&& 858993459)) + (ush (((x0 - ((ush x0 1) &&& 1431655765)) &&& 858993459) + ((ush (x0 - ((ush x0 1) &&& 1431655765)) 2) &&& 858993459)) 4)) &&& 252645135) 8)) 16)))]) hx hb dJ6_bitCount_0f7a4_47 rfl hl (by decide) rfl (fun ls hl => ?_)
  refine lv_iload_n hx hb dJ6_bitCount_0f7a4_48 rfl (lv_at hl 0 rfl) ?_
  refine lv_bipush (v := 63) hx hb dJ6_bitCount_0f7a4_49 (by decide) ?_
  refine lv_iand hx hb dJ6_bitCount_0f7a4_51 ?_
  exact hret (some (.int ((((((((x0 - ((ush x0 1) &&& 1431655765)) &&& 858993459) + ((ush (x0 - ((ush x0 1) &&& 1431655765)) 2) &&& 858993459)) + (ush (((x0 - ((ush x0 1) &&& 1431655765)) &&& 858993459) + ((ush (x0 - ((ush x0 1) &&& 1431655765)) 2) &&& 858993459)) 4)) &&& 252645135) + (ush (((((x0 - ((ush x0 1) &&& 1431655765)) &&& 858993459) + ((ush (x0 - ((ush x0 1) &&& 1431655765)) 2) &&& 858993459)) + (ush (((x0 - ((ush x0 1) &&& 1431655765)) &&& 858993459) + ((ush (x0 - ((ush x0 1) &&& 1431655765)) 2) &&& 858993459)) 4)) &&& 252645135) 8)) + (ush ((((((x0 - ((ush x0 1) &&& 1431655765)) &&& 858993459) + ((ush (x0 - ((ush x0 1) &&& 1431655765)) 2) &&& 858993459)) + (ush (((x0 - ((ush x0 1) &&& 1431655765)) &&& 858993459) + ((ush (x0 - ((ush x0 1) &&& 1431655765)) 2) &&& 858993459)) 4)) &&& 252645135) + (ush (((((x0 - ((ush x0 1) &&& 1431655765)) &&& 858993459) + ((ush (x0 - ((ush x0 1) &&& 1431655765)) 2) &&& 858993459)) + (ush (((x0 - ((ush x0 1) &&& 1431655765)) &&& 858993459) + ((ush (x0 - ((ush x0 1) &&& 1431655765)) 2) &&& 858993459)) 4)) &&& 252645135) 8)) 16)) &&& 63))) _ _ _ _ _ ⟨_, rfl, h⟩ hH ⟨dJ6_bitCount_0f7a4_52, .int, rfl, rfl⟩

def r_X3_leftAtWorst_0 (E : EE) (x1 : Int32) (σ : Mm) (Q : Int32 → Mm → Prop) : Prop := Rn E M_X3_leftAtWorst 0 [(0, .ref (Ad E 60)), (1, .int x1)] [] σ (qi Q)
def r_X3_leftAtWorst_4 (E : EE) (x1 : Int32) (x2 : Int32) (x3 : Int32) (σ : Mm) (Q : Int32 → Mm → Prop) : Prop := Rn E M_X3_leftAtWorst 4 [(0, .ref (Ad E 60)), (1, .int x1), (2, .int x2), (3, .int x3)] [] σ (qi Q)
set_option maxRecDepth 20000 in
set_option maxHeartbeats 4000000 in
theorem s_X3_leftAtWorst_0 (E : EE) (x1 : Int32) (σ : Mm) (Q : Int32 → Mm → Prop) (h : r_X3_leftAtWorst_4 E x1 0 1 σ Q) : r_X3_leftAtWorst_0 E x1 σ Q := by
  intro p e R s m args below meth c Z cells slots H locs ls C0 hH hl hret
  have hx := C0.1
  have hb : c.code = cX3_leftAtWorst := C0.2.1
  have hl : lv_has ls 4 [(0, .ref (Ad E 60)), (1, .int x1)] := hl
  refine lv_iconst (v := 0) hx hb dX3_leftAtWorst_0 (by decide) ?_
  refine lv_istore_n (lv' := [(2, .int 0), (0, .ref (Ad E 60)), (1, .int x1)]) hx hb dX3_leftAtWorst_1 rfl hl (by decide) rfl (fun ls hl => ?_)
  refine lv_iconst (v := 1) hx hb dX3_leftAtWorst_2 (by decide) ?_
  refine lv_istore_n (lv' := [(3, .int 1), (2, .int 0), (0, .ref (Ad E 60)), (1, .int x1)]) hx hb dX3_leftAtWorst_3 rfl hl (by decide) rfl (fun ls hl => ?_)
  exact h p e R s m args below meth c Z cells slots H locs ls C0 hH (lv_sub hl [2, 3, 1, 0] rfl) hret
set_option maxRecDepth 20000 in
set_option maxHeartbeats 4000000 in
theorem s_X3_leftAtWorst_4 (E : EE) (x1 : Int32) (x2 : Int32) (x3 : Int32) (σ : Mm) (Q : Int32 → Mm → Prop) (h : ((9 < x3 → r_J6_bitCount_0f7a4_0 E (σ 60 1) σ (fun r3 τ2 => Q (if x2 < (r3 - x2) then (r3 - x2) else x2) τ2)) ∧ (¬ 9 < x3 → r_X9_hasBit_0 E (σ 60 1) (x3 - 1) σ (fun r5 τ4 => ((r5 = 0 → r_X3_leftAtWorst_4 E x1 x2 (x3 + 1) τ4 Q) ∧ (¬ r5 = 0 → (vp_in x3 10 ∧ ((x1 ≤ (τ4 61 x3.toNatClampNeg) → r_X3_leftAtWorst_4 E x1 x2 (x3 + 1) τ4 Q) ∧ (¬ x1 ≤ (τ4 61 x3.toNatClampNeg) → r_X3_leftAtWorst_4 E x1 (x2 + 1) (x3 + 1) τ4 Q))))))))) : r_X3_leftAtWorst_4 E x1 x2 x3 σ Q := by
  intro p e R s m args below meth c Z cells slots H locs ls C0 hH hl hret
  have hx := C0.1
  have hb : c.code = cX3_leftAtWorst := C0.2.1
  have hl : lv_has ls 4 [(0, .ref (Ad E 60)), (1, .int x1), (2, .int x2), (3, .int x3)] := hl
  refine lv_iload_n hx hb dX3_leftAtWorst_4 rfl (lv_at hl 3 rfl) ?_
  refine lv_bipush (v := 9) hx hb dX3_leftAtWorst_5 (by decide) ?_
  refine lv_icmp_gt (tgt := 42) hx hb dX3_leftAtWorst_7 (by decide) (fun hc1 => ?_) (fun hc1 => ?_)
  · have h := h.1 hc1
    refine lv_iload_n hx hb dX3_leftAtWorst_42 rfl (lv_at hl 2 rfl) ?_
    refine lv_aload_n hx hb dX3_leftAtWorst_43 rfl (lv_at hl 0 rfl) ?_
    refine m_geti (x := σ 60 1) C0 hH f_60_1 kF_X3_15 dX3_leftAtWorst_44 rfl ?_
    refine m_cS (M2 := M_J6_bitCount_0f7a4) (As := [.int (σ 60 1)]) (rest := [.int x2]) h C0 hH hl kc_J6_bitCount_0f7a4 ks_J6_bitCount_0f7a4 kM_X3_68 rfl (Nat.le_of_ble_eq_true rfl) (Nat.le_of_ble_eq_true rfl) ⟨Nat.le_of_ble_eq_true rfl, Nat.le_of_ble_eq_true rfl⟩ dX3_leftAtWorst_47 rfl (fun r τ2 H locs hq hH => ?_)
    obtain ⟨r3, rfl, h⟩ := hq
    refine lv_iload_n hx hb dX3_leftAtWorst_50 rfl (lv_at hl 2 rfl) ?_
    refine lv_isub hx hb dX3_leftAtWorst_51 ?_
    refine m_max (rest := []) C0 hl kM_X3_73 (Nat.le_of_ble_eq_true rfl) ⟨Nat.le_of_ble_eq_true rfl, Nat.le_of_ble_eq_true rfl⟩ dX3_leftAtWorst_52 ?_
    exact hret (some (.int (if x2 < (r3 - x2) then (r3 - x2) else x2))) _ _ _ _ _ ⟨_, rfl, h⟩ hH ⟨dX3_leftAtWorst_55, .int, rfl, rfl⟩
  · have h := h.2 hc1
    refine lv_aload_n hx hb dX3_leftAtWorst_10 rfl (lv_at hl 0 rfl) ?_
    refine m_geti (x := σ 60 1) C0 hH f_60_1 kF_X3_15 dX3_leftAtWorst_11 rfl ?_
    refine lv_iload_n hx hb dX3_leftAtWorst_14 rfl (lv_at hl 3 rfl) ?_
    refine lv_iconst (v := 1) hx hb dX3_leftAtWorst_15 (by decide) ?_
    refine lv_isub hx hb dX3_leftAtWorst_16 ?_
    refine m_cN (M2 := M_X9_hasBit) (As := [.int (σ 60 1), .int (x3 - 1)]) (rest := []) h C0 hH hl kc_X9_hasBit ks_X9_hasBit kN_X3_64 rfl (Nat.le_of_ble_eq_true rfl) (Nat.le_of_ble_eq_true rfl) ⟨Nat.le_of_ble_eq_true rfl, Nat.le_of_ble_eq_true rfl⟩ dX3_leftAtWorst_17 rfl (fun r τ4 H locs hq hH => ?_)
    obtain ⟨r5, rfl, h⟩ := hq
    refine lv_if_eq (tgt := 36) hx hb dX3_leftAtWorst_20 (by decide) (fun hc6 => ?_) (fun hc6 => ?_)
    · have h := h.1 hc6
      refine lv_iinc (v := (x3 + 1)) (lv' := [(3, .int (x3 + 1)), (0, .ref (Ad E 60)), (1, .int x1), (2, .int x2)]) hx hb dX3_leftAtWorst_36 hl (k := 3) rfl rfl (by decide) rfl (fun ls hl => ?_)
      refine lv_goto (tgt := 4) hx hb dX3_leftAtWorst_39 (by decide) ?_
      exact h p e R s m args below meth c Z cells slots H locs ls C0 hH (lv_sub hl [1, 2, 3, 0] rfl) hret
    · have h := h.2 hc6
      refine lv_aload_n hx hb dX3_leftAtWorst_23 rfl (lv_at hl 0 rfl) ?_
      refine m_getr C0 hH f_60_0 61 rfl kF_X3_9 dX3_leftAtWorst_24 ?_
      refine lv_iload_n hx hb dX3_leftAtWorst_27 rfl (lv_at hl 3 rfl) ?_
      refine m_iald (x := τ4 61 x3.toNatClampNeg) C0 hH a_61 h.1 dX3_leftAtWorst_28 rfl ?_
      have h := h.2
      refine lv_iload_n hx hb dX3_leftAtWorst_29 rfl (lv_at hl 1 rfl) ?_
      refine lv_icmp_ge (tgt := 36) hx hb dX3_leftAtWorst_30 (by decide) (fun hc7 => ?_) (fun hc7 => ?_)
      · have h := h.1 hc7
        refine lv_iinc (v := (x3 + 1)) (lv' := [(3, .int (x3 + 1)), (0, .ref (Ad E 60)), (1, .int x1), (2, .int x2)]) hx hb dX3_leftAtWorst_36 hl (k := 3) rfl rfl (by decide) rfl (fun ls hl => ?_)
        refine lv_goto (tgt := 4) hx hb dX3_leftAtWorst_39 (by decide) ?_
        exact h p e R s m args below meth c Z cells slots H locs ls C0 hH (lv_sub hl [1, 2, 3, 0] rfl) hret
      · have h := h.2 hc7
        refine lv_iinc (v := (x2 + 1)) (lv' := [(2, .int (x2 + 1)), (0, .ref (Ad E 60)), (1, .int x1), (3, .int x3)]) hx hb dX3_leftAtWorst_33 hl (k := 2) rfl rfl (by decide) rfl (fun ls hl => ?_)
        refine lv_iinc (v := (x3 + 1)) (lv' := [(3, .int (x3 + 1)), (2, .int (x2 + 1)), (0, .ref (Ad E 60)), (1, .int x1)]) hx hb dX3_leftAtWorst_36 hl (k := 3) rfl rfl (by decide) rfl (fun ls hl => ?_)
        refine lv_goto (tgt := 4) hx hb dX3_leftAtWorst_39 (by decide) ?_
        exact h p e R s m args below meth c Z cells slots H locs ls C0 hH (lv_sub hl [2, 3, 1, 0] rfl) hret

def r_X3_bestRoom_0 (E : EE) (σ : Mm) (Q : Int32 → Mm → Prop) : Prop := Rn E M_X3_bestRoom 0 [(0, .ref (Ad E 60))] [] σ (qi Q)
def r_X3_bestRoom_13 (E : EE) (x1 : Int32) (x2 : Int32) (σ : Mm) (Q : Int32 → Mm → Prop) : Prop := Rn E M_X3_bestRoom 13 [(0, .ref (Ad E 60)), (1, .int x1), (2, .int x2)] [] σ (qi Q)
set_option maxRecDepth 20000 in
set_option maxHeartbeats 4000000 in
theorem s_X3_bestRoom_0 (E : EE) (σ : Mm) (Q : Int32 → Mm → Prop) (h : ((¬ (σ 60 1) = 0 → r_X3_bestRoom_13 E 1 2 σ Q) ∧ ((σ 60 1) = 0 → Q (-1) σ))) : r_X3_bestRoom_0 E σ Q := by
  intro p e R s m args below meth c Z cells slots H locs ls C0 hH hl hret
  have hx := C0.1
  have hb : c.code = cX3_bestRoom := C0.2.1
  have hl : lv_has ls 3 [(0, .ref (Ad E 60))] := hl
  refine lv_aload_n hx hb dX3_bestRoom_0 rfl (lv_at hl 0 rfl) ?_
  refine m_geti (x := σ 60 1) C0 hH f_60_1 kF_X3_15 dX3_bestRoom_1 rfl ?_
  refine lv_if_ne (tgt := 9) hx hb dX3_bestRoom_4 (by decide) (fun hc1 => ?_) (fun hc1 => ?_)
  · have h := h.1 hc1
    refine lv_iconst (v := 1) hx hb dX3_bestRoom_9 (by decide) ?_
    refine lv_istore_n (lv' := [(1, .int 1), (0, .ref (Ad E 60))]) hx hb dX3_bestRoom_10 rfl hl (by decide) rfl (fun ls hl => ?_)
    refine lv_iconst (v := 2) hx hb dX3_bestRoom_11 (by decide) ?_
    refine lv_istore_n (lv' := [(2, .int 2), (1, .int 1), (0, .ref (Ad E 60))]) hx hb dX3_bestRoom_12 rfl hl (by decide) rfl (fun ls hl => ?_)
    exact h p e R s m args below meth c Z cells slots H locs ls C0 hH (lv_sub hl [2, 1, 0] rfl) hret
  · have h := h.2 hc1
    refine lv_iconst (v := (-1)) hx hb dX3_bestRoom_7 (by decide) ?_
    exact hret (some (.int (-1))) _ _ _ _ _ ⟨_, rfl, h⟩ hH ⟨dX3_bestRoom_8, .int, rfl, rfl⟩
set_option maxRecDepth 20000 in
set_option maxHeartbeats 4000000 in
theorem s_X3_bestRoom_13 (E : EE) (x1 : Int32) (x2 : Int32) (σ : Mm) (Q : Int32 → Mm → Prop) (h : ((6 < x2 → Q x1 σ) ∧ (¬ 6 < x2 → r_X3_leftAtWorst_0 E x2 σ (fun r3 τ2 => r_X3_leftAtWorst_0 E x1 τ2 (fun r5 τ4 => ((r5 ≤ r3 → r_X3_bestRoom_13 E x1 (x2 + 1) τ4 Q) ∧ (¬ r5 ≤ r3 → r_X3_bestRoom_13 E x2 (x2 + 1) τ4 Q))))))) : r_X3_bestRoom_13 E x1 x2 σ Q := by
  intro p e R s m args below meth c Z cells slots H locs ls C0 hH hl hret
  have hx := C0.1
  have hb : c.code = cX3_bestRoom := C0.2.1
  have hl : lv_has ls 3 [(0, .ref (Ad E 60)), (1, .int x1), (2, .int x2)] := hl
  refine lv_iload_n hx hb dX3_bestRoom_13 rfl (lv_at hl 2 rfl) ?_
  refine lv_bipush (v := 6) hx hb dX3_bestRoom_14 (by decide) ?_
  refine lv_icmp_gt (tgt := 40) hx hb dX3_bestRoom_16 (by decide) (fun hc1 => ?_) (fun hc1 => ?_)
  · have h := h.1 hc1
    refine lv_iload_n hx hb dX3_bestRoom_40 rfl (lv_at hl 1 rfl) ?_
    exact hret (some (.int x1)) _ _ _ _ _ ⟨_, rfl, h⟩ hH ⟨dX3_bestRoom_41, .int, rfl, rfl⟩
  · have h := h.2 hc1
    refine lv_aload_n hx hb dX3_bestRoom_19 rfl (lv_at hl 0 rfl) ?_
    refine lv_iload_n hx hb dX3_bestRoom_20 rfl (lv_at hl 2 rfl) ?_
    refine m_cV (M2 := M_X3_leftAtWorst) (As := [.int x2]) (rest := []) h C0 hH hl kc_X3_leftAtWorst ki_X3_leftAtWorst kx_X3_leftAtWorst ob_60 kM_X3_61 rfl (Nat.le_of_ble_eq_true rfl) (Nat.le_of_ble_eq_true rfl) ⟨Nat.le_of_ble_eq_true rfl, Nat.le_of_ble_eq_true rfl⟩ dX3_bestRoom_21 rfl (fun r τ2 H locs hq hH => ?_)
    obtain ⟨r3, rfl, h⟩ := hq
    refine lv_aload_n hx hb dX3_bestRoom_24 rfl (lv_at hl 0 rfl) ?_
    refine lv_iload_n hx hb dX3_bestRoom_25 rfl (lv_at hl 1 rfl) ?_
    refine m_cV (M2 := M_X3_leftAtWorst) (As := [.int x1]) (rest := [.int r3]) h C0 hH hl kc_X3_leftAtWorst ki_X3_leftAtWorst kx_X3_leftAtWorst ob_60 kM_X3_61 rfl (Nat.le_of_ble_eq_true rfl) (Nat.le_of_ble_eq_true rfl) ⟨Nat.le_of_ble_eq_true rfl, Nat.le_of_ble_eq_true rfl⟩ dX3_bestRoom_26 rfl (fun r τ4 H locs hq hH => ?_)
    obtain ⟨r5, rfl, h⟩ := hq
    refine lv_icmp_ge (tgt := 34) hx hb dX3_bestRoom_29 (by decide) (fun hc6 => ?_) (fun hc6 => ?_)
    · have h := h.1 hc6
      refine lv_iinc (v := (x2 + 1)) (lv' := [(2, .int (x2 + 1)), (0, .ref (Ad E 60)), (1, .int x1)]) hx hb dX3_bestRoom_34 hl (k := 2) rfl rfl (by decide) rfl (fun ls hl => ?_)
      refine lv_goto (tgt := 13) hx hb dX3_bestRoom_37 (by decide) ?_
      exact h p e R s m args below meth c Z cells slots H locs ls C0 hH (lv_sub hl [1, 2, 0] rfl) hret
    · have h := h.2 hc6
      refine lv_iload_n hx hb dX3_bestRoom_32 rfl (lv_at hl 2 rfl) ?_
      refine lv_istore_n (lv' := [(1, .int x2), (0, .ref (Ad E 60)), (2, .int x2)]) hx hb dX3_bestRoom_33 rfl hl (by decide) rfl (fun ls hl => ?_)
      refine lv_iinc (v := (x2 + 1)) (lv' := [(2, .int (x2 + 1)), (1, .int x2), (0, .ref (Ad E 60))]) hx hb dX3_bestRoom_34 hl (k := 2) rfl rfl (by decide) rfl (fun ls hl => ?_)
      refine lv_goto (tgt := 13) hx hb dX3_bestRoom_37 (by decide) ?_
      exact h p e R s m args below meth c Z cells slots H locs ls C0 hH (lv_sub hl [2, 1, 0] rfl) hret

def r_X0_fill_34_0 (E : EE) (x2 : Int32) (σ : Mm) (Q : Mm → Prop) : Prop := Rn E M_X0_fill 0 [(0, .ref (Ad E 44)), (1, .ref (Ad E 34)), (2, .int x2)] [] σ (qv Q)
def r_X0_fill_34_10 (E : EE) (x2 : Int32) (x3 : Int32) (σ : Mm) (Q : Mm → Prop) : Prop := Rn E M_X0_fill 10 [(0, .ref (Ad E 44)), (1, .ref (Ad E 34)), (2, .int x2), (3, .int x3)] [] σ (qv Q)
def r_X0_fill_34_40 (E : EE) (x2 : Int32) (x3 : Int32) (σ : Mm) (Q : Mm → Prop) : Prop := Rn E M_X0_fill 40 [(0, .ref (Ad E 44)), (1, .ref (Ad E 34)), (2, .int x2), (3, .int x3)] [] σ (qv Q)
def r_X0_fill_34_102 (E : EE) (x2 : Int32) (x3 : Int32) (σ : Mm) (Q : Mm → Prop) : Prop := Rn E M_X0_fill 102 [(0, .ref (Ad E 44)), (1, .ref (Ad E 34)), (2, .int x2), (3, .int x3)] [] σ (qv Q)
set_option maxRecDepth 20000 in
set_option maxHeartbeats 4000000 in
theorem s_X0_fill_34_0 (E : EE) (x2 : Int32) (σ : Mm) (Q : Mm → Prop) (h : r_X0_fill_34_10 E x2 0 (up σ 44 2 (σ 34 1)) Q) : r_X0_fill_34_0 E x2 σ Q := by
  intro p e R s m args below meth c Z cells slots H locs ls C0 hH hl hret
  have hx := C0.1
  have hb : c.code = cX0_fill := C0.2.1
  have hl : lv_has ls 5 [(0, .ref (Ad E 44)), (1, .ref (Ad E 34)), (2, .int x2)] := hl
  refine lv_aload_n hx hb dX0_fill_0 rfl (lv_at hl 0 rfl) ?_
  refine lv_aload_n hx hb dX0_fill_1 rfl (lv_at hl 1 rfl) ?_
  refine m_geti (x := σ 34 1) C0 hH f_34_1 kF_X0_22 dX0_fill_2 rfl ?_
  refine m_puti C0 hH f_44_2 kF_X0_18 rfl dX0_fill_5 rfl rfl (fun H locs hH => ?_)
  refine lv_iconst (v := 0) hx hb dX0_fill_8 (by decide) ?_
  refine lv_istore_n (lv' := [(3, .int 0), (0, .ref (Ad E 44)), (1, .ref (Ad E 34)), (2, .int x2)]) hx hb dX0_fill_9 rfl hl (by decide) rfl (fun ls hl => ?_)
  exact h p e R s m args below meth c Z cells slots H locs ls C0 hH (lv_sub hl [1, 2, 3, 0] rfl) hret
set_option maxRecDepth 20000 in
set_option maxHeartbeats 4000000 in
theorem s_X0_fill_34_10 (E : EE) (x2 : Int32) (x3 : Int32) (σ : Mm) (Q : Mm → Prop) (h : (((σ 44 2) ≤ x3 → r_X0_fill_34_40 E x2 0 σ Q) ∧ (¬ (σ 44 2) ≤ x3 → (vp_in x3 6 ∧ (vp_in x3 6 ∧ r_X0_fill_34_10 E x2 (x3 + 1) (up (up σ 45 x3.toNatClampNeg 0) 46 x3.toNatClampNeg 0) Q))))) : r_X0_fill_34_10 E x2 x3 σ Q := by
  intro p e R s m args below meth c Z cells slots H locs ls C0 hH hl hret
  have hx := C0.1
  have hb : c.code = cX0_fill := C0.2.1
  have hl : lv_has ls 5 [(0, .ref (Ad E 44)), (1, .ref (Ad E 34)), (2, .int x2), (3, .int x3)] := hl
  refine lv_iload_n hx hb dX0_fill_10 rfl (lv_at hl 3 rfl) ?_
  refine lv_aload_n hx hb dX0_fill_11 rfl (lv_at hl 0 rfl) ?_
  refine m_geti (x := σ 44 2) C0 hH f_44_2 kF_X0_18 dX0_fill_12 rfl ?_
  refine lv_icmp_ge (tgt := 38) hx hb dX0_fill_15 (by decide) (fun hc1 => ?_) (fun hc1 => ?_)
  · have h := h.1 hc1
    refine lv_iconst (v := 0) hx hb dX0_fill_38 (by decide) ?_
    refine lv_istore_n (lv' := [(3, .int 0), (0, .ref (Ad E 44)), (1, .ref (Ad E 34)), (2, .int x2)]) hx hb dX0_fill_39 rfl hl (by decide) rfl (fun ls hl => ?_)
    exact h p e R s m args below meth c Z cells slots H locs ls C0 hH (lv_sub hl [1, 2, 3, 0] rfl) hret
  · have h := h.2 hc1
    refine lv_aload_n hx hb dX0_fill_18 rfl (lv_at hl 0 rfl) ?_
    refine m_getr C0 hH f_44_0 45 rfl kF_X0_9 dX0_fill_19 ?_
    refine lv_iload_n hx hb dX0_fill_22 rfl (lv_at hl 3 rfl) ?_
    refine lv_iconst (v := 0) hx hb dX0_fill_23 (by decide) ?_
    refine m_iast (j := x3.toNatClampNeg) C0 hH a_45 h.1 rfl dX0_fill_24 (fun H locs hH => ?_)
    have h := h.2
    refine lv_aload_n hx hb dX0_fill_25 rfl (lv_at hl 0 rfl) ?_
    refine m_getr C0 hH f_44_1 46 rfl kF_X0_15 dX0_fill_26 ?_
    refine lv_iload_n hx hb dX0_fill_29 rfl (lv_at hl 3 rfl) ?_
    refine lv_iconst (v := 0) hx hb dX0_fill_30 (by decide) ?_
    refine m_iast (j := x3.toNatClampNeg) C0 hH a_46 h.1 rfl dX0_fill_31 (fun H locs hH => ?_)
    have h := h.2
    refine lv_iinc (v := (x3 + 1)) (lv' := [(3, .int (x3 + 1)), (0, .ref (Ad E 44)), (1, .ref (Ad E 34)), (2, .int x2)]) hx hb dX0_fill_32 hl (k := 3) rfl rfl (by decide) rfl (fun ls hl => ?_)
    refine lv_goto (tgt := 10) hx hb dX0_fill_35 (by decide) ?_
    exact h p e R s m args below meth c Z cells slots H locs ls C0 hH (lv_sub hl [1, 2, 3, 0] rfl) hret
set_option maxRecDepth 20000 in
set_option maxHeartbeats 4000000 in
theorem s_X0_fill_34_40 (E : EE) (x2 : Int32) (x3 : Int32) (σ : Mm) (Q : Mm → Prop) (h : (((σ 34 2) ≤ x3 → r_X0_fill_34_102 E x2 0 σ Q) ∧ (¬ (σ 34 2) ≤ x3 → (vp_in x3 8 ∧ r_X9_hasBit_0 E x2 x3 σ (fun r3 τ2 => ((r3 = 0 → (vp_in (σ 38 x3.toNatClampNeg) 6 ∧ (vp_in x3 8 ∧ (vp_in (σ 38 x3.toNatClampNeg) 6 ∧ r_X0_fill_34_40 E x2 (x3 + 1) (up τ2 45 ((σ 38 x3.toNatClampNeg).toNatClampNeg) ((τ2 45 ((σ 38 x3.toNatClampNeg).toNatClampNeg)) + (τ2 40 x3.toNatClampNeg))) Q)))) ∧ (¬ r3 = 0 → (vp_in (σ 38 x3.toNatClampNeg) 6 ∧ (vp_in (σ 38 x3.toNatClampNeg) 6 ∧ r_X0_fill_34_40 E x2 (x3 + 1) (up τ2 46 ((σ 38 x3.toNatClampNeg).toNatClampNeg) ((τ2 46 ((σ 38 x3.toNatClampNeg).toNatClampNeg)) + 1)) Q))))))))) : r_X0_fill_34_40 E x2 x3 σ Q := by
  intro p e R s m args below meth c Z cells slots H locs ls C0 hH hl hret
  have hx := C0.1
  have hb : c.code = cX0_fill := C0.2.1
  have hl : lv_has ls 5 [(0, .ref (Ad E 44)), (1, .ref (Ad E 34)), (2, .int x2), (3, .int x3)] := hl
  refine lv_iload_n hx hb dX0_fill_40 rfl (lv_at hl 3 rfl) ?_
  refine lv_aload_n hx hb dX0_fill_41 rfl (lv_at hl 1 rfl) ?_
  refine m_geti (x := σ 34 2) C0 hH f_34_2 kF_X0_25 dX0_fill_42 rfl ?_
  refine lv_icmp_ge (tgt := 100) hx hb dX0_fill_45 (by decide) (fun hc1 => ?_) (fun hc1 => ?_)
  · have h := h.1 hc1
    refine lv_iconst (v := 0) hx hb dX0_fill_100 (by decide) ?_
    refine lv_istore_n (lv' := [(3, .int 0), (0, .ref (Ad E 44)), (1, .ref (Ad E 34)), (2, .int x2)]) hx hb dX0_fill_101 rfl hl (by decide) rfl (fun ls hl => ?_)
    exact h p e R s m args below meth c Z cells slots H locs ls C0 hH (lv_sub hl [1, 2, 3, 0] rfl) hret
  · have h := h.2 hc1
    refine lv_aload_n hx hb dX0_fill_48 rfl (lv_at hl 1 rfl) ?_
    refine m_getr C0 hH f_34_9 38 rfl kF_X0_28 dX0_fill_49 ?_
    refine lv_iload_n hx hb dX0_fill_52 rfl (lv_at hl 3 rfl) ?_
    refine m_iald (x := σ 38 x3.toNatClampNeg) C0 hH a_38 h.1 dX0_fill_53 rfl ?_
    have h := h.2
    refine lv_istore (lv' := [(4, .int (σ 38 x3.toNatClampNeg)), (0, .ref (Ad E 44)), (1, .ref (Ad E 34)), (2, .int x2), (3, .int x3)]) hx hb dX0_fill_54 hl (by decide) rfl (fun ls hl => ?_)
    refine lv_iload_n hx hb dX0_fill_56 rfl (lv_at hl 3 rfl) ?_
    refine lv_iload_n hx hb dX0_fill_57 rfl (lv_at hl 4 rfl) ?_
    refine m_cN (M2 := M_X9_hasBit) (As := [.int x2, .int x3]) (rest := []) h C0 hH hl kc_X9_hasBit ks_X9_hasBit kN_X0_31 rfl (Nat.le_of_ble_eq_true rfl) (Nat.le_of_ble_eq_true rfl) ⟨Nat.le_of_ble_eq_true rfl, Nat.le_of_ble_eq_true rfl⟩ dX0_fill_58 rfl (fun r τ2 H locs hq hH => ?_)
    obtain ⟨r3, rfl, h⟩ := hq
    refine lv_if_eq (tgt := 78) hx hb dX0_fill_61 (by decide) (fun hc4 => ?_) (fun hc4 => ?_)
    · have h := h.1 hc4
      refine lv_aload_n hx hb dX0_fill_78 rfl (lv_at hl 1 rfl) ?_
      refine m_getr C0 hH f_44_0 45 rfl kF_X0_9 dX0_fill_79 ?_
      refine lv_iload hx hb dX0_fill_82 (lv_at hl 0 rfl) ?_
      refine lv_dup2_11 hx hb dX0_fill_84 rfl rfl ?_
      refine m_iald (x := τ2 45 ((σ 38 x3.toNatClampNeg).toNatClampNeg)) C0 hH a_45 h.1 dX0_fill_85 rfl ?_
      have h := h.2
      refine lv_aload_n hx hb dX0_fill_86 rfl (lv_at hl 2 rfl) ?_
      refine m_getr C0 hH f_34_11 40 rfl kF_X0_35 dX0_fill_87 ?_
      refine lv_iload_n hx hb dX0_fill_90 rfl (lv_at hl 4 rfl) ?_
      refine m_iald (x := τ2 40 x3.toNatClampNeg) C0 hH a_40 h.1 dX0_fill_91 rfl ?_
      have h := h.2
      refine lv_iadd hx hb dX0_fill_92 ?_
      refine m_iast (j := (σ 38 x3.toNatClampNeg).toNatClampNeg) C0 hH a_45 h.1 rfl dX0_fill_93 (fun H locs hH => ?_)
      have h := h.2
      refine lv_iinc (v := (x3 + 1)) (lv' := [(3, .int (x3 + 1)), (4, .int (σ 38 x3.toNatClampNeg)), (0, .ref (Ad E 44)), (1, .ref (Ad E 34)), (2, .int x2)]) hx hb dX0_fill_94 hl (k := 4) rfl rfl (by decide) rfl (fun ls hl => ?_)
      refine lv_goto (tgt := 40) hx hb dX0_fill_97 (by decide) ?_
      exact h p e R s m args below meth c Z cells slots H locs ls C0 hH (lv_sub hl [2, 3, 4, 0] rfl) hret
    · have h := h.2 hc4
      refine lv_aload_n hx hb dX0_fill_64 rfl (lv_at hl 1 rfl) ?_
      refine m_getr C0 hH f_44_1 46 rfl kF_X0_15 dX0_fill_65 ?_
      refine lv_iload hx hb dX0_fill_68 (lv_at hl 0 rfl) ?_
      refine lv_dup2_11 hx hb dX0_fill_70 rfl rfl ?_
      refine m_iald (x := τ2 46 ((σ 38 x3.toNatClampNeg).toNatClampNeg)) C0 hH a_46 h.1 dX0_fill_71 rfl ?_
      have h := h.2
      refine lv_iconst (v := 1) hx hb dX0_fill_72 (by decide) ?_
      refine lv_iadd hx hb dX0_fill_73 ?_
      refine m_iast (j := (σ 38 x3.toNatClampNeg).toNatClampNeg) C0 hH a_46 h.1 rfl dX0_fill_74 (fun H locs hH => ?_)
      have h := h.2
      refine lv_goto (tgt := 94) hx hb dX0_fill_75 (by decide) ?_
      refine lv_iinc (v := (x3 + 1)) (lv' := [(3, .int (x3 + 1)), (4, .int (σ 38 x3.toNatClampNeg)), (0, .ref (Ad E 44)), (1, .ref (Ad E 34)), (2, .int x2)]) hx hb dX0_fill_94 hl (k := 4) rfl rfl (by decide) rfl (fun ls hl => ?_)
      refine lv_goto (tgt := 40) hx hb dX0_fill_97 (by decide) ?_
      exact h p e R s m args below meth c Z cells slots H locs ls C0 hH (lv_sub hl [2, 3, 4, 0] rfl) hret
set_option maxRecDepth 20000 in
set_option maxHeartbeats 4000000 in
theorem s_X0_fill_34_102 (E : EE) (x2 : Int32) (x3 : Int32) (σ : Mm) (Q : Mm → Prop) (h : (((σ 44 2) ≤ x3 → Q σ) ∧ (¬ (σ 44 2) ≤ x3 → (vp_in x3 6 ∧ (vp_in x3 6 ∧ (vp_in x3 6 ∧ r_X0_guiltAs_0 E (σ 35 x3.toNatClampNeg) (σ 45 x3.toNatClampNeg) (σ 46 x3.toNatClampNeg) σ (fun r3 τ2 => (vp_in x3 6 ∧ r_X0_fill_34_102 E x2 (x3 + 1) (up τ2 45 x3.toNatClampNeg r3) Q)))))))) : r_X0_fill_34_102 E x2 x3 σ Q := by
  intro p e R s m args below meth c Z cells slots H locs ls C0 hH hl hret
  have hx := C0.1
  have hb : c.code = cX0_fill := C0.2.1
  have hl : lv_has ls 5 [(0, .ref (Ad E 44)), (1, .ref (Ad E 34)), (2, .int x2), (3, .int x3)] := hl
  refine lv_iload_n hx hb dX0_fill_102 rfl (lv_at hl 3 rfl) ?_
  refine lv_aload_n hx hb dX0_fill_103 rfl (lv_at hl 0 rfl) ?_
  refine m_geti (x := σ 44 2) C0 hH f_44_2 kF_X0_18 dX0_fill_104 rfl ?_
  refine lv_icmp_ge (tgt := 143) hx hb dX0_fill_107 (by decide) (fun hc1 => ?_) (fun hc1 => ?_)
  · have h := h.1 hc1
    exact hret none _ _ _ _ _ ⟨rfl, h⟩ hH ⟨dX0_fill_143, rfl⟩
  · have h := h.2 hc1
    refine lv_aload_n hx hb dX0_fill_110 rfl (lv_at hl 0 rfl) ?_
    refine m_getr C0 hH f_44_0 45 rfl kF_X0_9 dX0_fill_111 ?_
    refine lv_iload_n hx hb dX0_fill_114 rfl (lv_at hl 3 rfl) ?_
    refine lv_aload_n hx hb dX0_fill_115 rfl (lv_at hl 1 rfl) ?_
    refine m_getr C0 hH f_34_6 35 rfl kF_X0_38 dX0_fill_116 ?_
    refine lv_iload_n hx hb dX0_fill_119 rfl (lv_at hl 3 rfl) ?_
    refine m_iald (x := σ 35 x3.toNatClampNeg) C0 hH a_35 h.1 dX0_fill_120 rfl ?_
    have h := h.2
    refine lv_aload_n hx hb dX0_fill_121 rfl (lv_at hl 0 rfl) ?_
    refine m_getr C0 hH f_44_0 45 rfl kF_X0_9 dX0_fill_122 ?_
    refine lv_iload_n hx hb dX0_fill_125 rfl (lv_at hl 3 rfl) ?_
    refine m_iald (x := σ 45 x3.toNatClampNeg) C0 hH a_45 h.1 dX0_fill_126 rfl ?_
    have h := h.2
    refine lv_aload_n hx hb dX0_fill_127 rfl (lv_at hl 0 rfl) ?_
    refine m_getr C0 hH f_44_1 46 rfl kF_X0_15 dX0_fill_128 ?_
    refine lv_iload_n hx hb dX0_fill_131 rfl (lv_at hl 3 rfl) ?_
    refine m_iald (x := σ 46 x3.toNatClampNeg) C0 hH a_46 h.1 dX0_fill_132 rfl ?_
    have h := h.2
    refine m_cS (M2 := M_X0_guiltAs) (As := [.int (σ 35 x3.toNatClampNeg), .int (σ 45 x3.toNatClampNeg), .int (σ 46 x3.toNatClampNeg)]) (rest := [.int x3, .ref (Ad E 45)]) h C0 hH hl kc_X0_guiltAs ks_X0_guiltAs kM_X0_41 rfl (Nat.le_of_ble_eq_true rfl) (Nat.le_of_ble_eq_true rfl) ⟨Nat.le_of_ble_eq_true rfl, Nat.le_of_ble_eq_true rfl⟩ dX0_fill_133 rfl (fun r τ2 H locs hq hH => ?_)
    obtain ⟨r3, rfl, h⟩ := hq
    refine m_iast (j := x3.toNatClampNeg) C0 hH a_45 h.1 rfl dX0_fill_136 (fun H locs hH => ?_)
    have h := h.2
    refine lv_iinc (v := (x3 + 1)) (lv' := [(3, .int (x3 + 1)), (0, .ref (Ad E 44)), (1, .ref (Ad E 34)), (2, .int x2)]) hx hb dX0_fill_137 hl (k := 3) rfl rfl (by decide) rfl (fun ls hl => ?_)
    refine lv_goto (tgt := 102) hx hb dX0_fill_140 (by decide) ?_
    exact h p e R s m args below meth c Z cells slots H locs ls C0 hH (lv_sub hl [1, 2, 3, 0] rfl) hret

def r_X2_copyFrom_34_14_0 (E : EE) (σ : Mm) (Q : Mm → Prop) : Prop := Rn E M_X2_copyFrom 0 [(0, .ref (Ad E 34)), (1, .ref (Ad E 14))] [] σ (qv Q)
def r_X2_copyFrom_34_14_50 (E : EE) (x2 : Int32) (σ : Mm) (Q : Mm → Prop) : Prop := Rn E M_X2_copyFrom 50 [(0, .ref (Ad E 34)), (1, .ref (Ad E 14)), (2, .int x2)] [] σ (qv Q)
def r_X2_copyFrom_34_14_102 (E : EE) (x2 : Int32) (σ : Mm) (Q : Mm → Prop) : Prop := Rn E M_X2_copyFrom 102 [(0, .ref (Ad E 34)), (1, .ref (Ad E 14)), (2, .int x2)] [] σ (qv Q)
def r_X2_copyFrom_34_14_154 (E : EE) (x2 : Int32) (σ : Mm) (Q : Mm → Prop) : Prop := Rn E M_X2_copyFrom 154 [(0, .ref (Ad E 34)), (1, .ref (Ad E 14)), (2, .int x2)] [] σ (qv Q)
set_option maxRecDepth 20000 in
set_option maxHeartbeats 4000000 in
theorem s_X2_copyFrom_34_14_0 (E : EE) (σ : Mm) (Q : Mm → Prop) (h : r_X2_copyFrom_34_14_50 E 0 (up (up (up (up (up (up σ 34 0 (σ 14 0)) 34 1 (σ 14 1)) 34 2 (σ 14 2)) 34 3 (σ 14 3)) 34 4 (σ 14 4)) 34 5 (σ 14 5)) Q) : r_X2_copyFrom_34_14_0 E σ Q := by
  intro p e R s m args below meth c Z cells slots H locs ls C0 hH hl hret
  have hx := C0.1
  have hb : c.code = cX2_copyFrom := C0.2.1
  have hl : lv_has ls 3 [(0, .ref (Ad E 34)), (1, .ref (Ad E 14))] := hl
  refine lv_aload_n hx hb dX2_copyFrom_0 rfl (lv_at hl 0 rfl) ?_
  refine lv_aload_n hx hb dX2_copyFrom_1 rfl (lv_at hl 1 rfl) ?_
  refine m_geti (x := σ 14 0) C0 hH f_14_0 kF_X2_9 dX2_copyFrom_2 rfl ?_
  refine m_puti C0 hH f_34_0 kF_X2_9 rfl dX2_copyFrom_5 rfl rfl (fun H locs hH => ?_)
  refine lv_aload_n hx hb dX2_copyFrom_8 rfl (lv_at hl 0 rfl) ?_
  refine lv_aload_n hx hb dX2_copyFrom_9 rfl (lv_at hl 1 rfl) ?_
  refine m_geti (x := σ 14 1) C0 hH f_14_1 kF_X2_15 dX2_copyFrom_10 rfl ?_
  refine m_puti C0 hH f_34_1 kF_X2_15 rfl dX2_copyFrom_13 rfl rfl (fun H locs hH => ?_)
  refine lv_aload_n hx hb dX2_copyFrom_16 rfl (lv_at hl 0 rfl) ?_
  refine lv_aload_n hx hb dX2_copyFrom_17 rfl (lv_at hl 1 rfl) ?_
  refine m_geti (x := σ 14 2) C0 hH f_14_2 kF_X2_18 dX2_copyFrom_18 rfl ?_
  refine m_puti C0 hH f_34_2 kF_X2_18 rfl dX2_copyFrom_21 rfl rfl (fun H locs hH => ?_)
  refine lv_aload_n hx hb dX2_copyFrom_24 rfl (lv_at hl 0 rfl) ?_
  refine lv_aload_n hx hb dX2_copyFrom_25 rfl (lv_at hl 1 rfl) ?_
  refine m_geti (x := σ 14 3) C0 hH f_14_3 kF_X2_21 dX2_copyFrom_26 rfl ?_
  refine m_puti C0 hH f_34_3 kF_X2_21 rfl dX2_copyFrom_29 rfl rfl (fun H locs hH => ?_)
  refine lv_aload_n hx hb dX2_copyFrom_32 rfl (lv_at hl 0 rfl) ?_
  refine lv_aload_n hx hb dX2_copyFrom_33 rfl (lv_at hl 1 rfl) ?_
  refine m_geti (x := σ 14 4) C0 hH f_14_4 kF_X2_24 dX2_copyFrom_34 rfl ?_
  refine m_puti C0 hH f_34_4 kF_X2_24 rfl dX2_copyFrom_37 rfl rfl (fun H locs hH => ?_)
  refine lv_aload_n hx hb dX2_copyFrom_40 rfl (lv_at hl 0 rfl) ?_
  refine lv_aload_n hx hb dX2_copyFrom_41 rfl (lv_at hl 1 rfl) ?_
  refine m_geti (x := σ 14 5) C0 hH f_14_5 kF_X2_27 dX2_copyFrom_42 rfl ?_
  refine m_puti C0 hH f_34_5 kF_X2_27 rfl dX2_copyFrom_45 rfl rfl (fun H locs hH => ?_)
  refine lv_iconst (v := 0) hx hb dX2_copyFrom_48 (by decide) ?_
  refine lv_istore_n (lv' := [(2, .int 0), (0, .ref (Ad E 34)), (1, .ref (Ad E 14))]) hx hb dX2_copyFrom_49 rfl hl (by decide) rfl (fun ls hl => ?_)
  exact h p e R s m args below meth c Z cells slots H locs ls C0 hH (lv_sub hl [1, 2, 0] rfl) hret
set_option maxRecDepth 20000 in
set_option maxHeartbeats 4000000 in
theorem s_X2_copyFrom_34_14_50 (E : EE) (x2 : Int32) (σ : Mm) (Q : Mm → Prop) (h : (((σ 34 1) ≤ x2 → r_X2_copyFrom_34_14_102 E 0 σ Q) ∧ (¬ (σ 34 1) ≤ x2 → (vp_in x2 6 ∧ (vp_in x2 6 ∧ (vp_in x2 6 ∧ (vp_in x2 6 ∧ (vp_in x2 6 ∧ (vp_in x2 6 ∧ r_X2_copyFrom_34_14_50 E (x2 + 1) (up (up (up σ 35 x2.toNatClampNeg (σ 15 x2.toNatClampNeg)) 36 x2.toNatClampNeg (σ 16 x2.toNatClampNeg)) 37 x2.toNatClampNeg (σ 17 x2.toNatClampNeg)) Q))))))))) : r_X2_copyFrom_34_14_50 E x2 σ Q := by
  intro p e R s m args below meth c Z cells slots H locs ls C0 hH hl hret
  have hx := C0.1
  have hb : c.code = cX2_copyFrom := C0.2.1
  have hl : lv_has ls 3 [(0, .ref (Ad E 34)), (1, .ref (Ad E 14)), (2, .int x2)] := hl
  refine lv_iload_n hx hb dX2_copyFrom_50 rfl (lv_at hl 2 rfl) ?_
  refine lv_aload_n hx hb dX2_copyFrom_51 rfl (lv_at hl 0 rfl) ?_
  refine m_geti (x := σ 34 1) C0 hH f_34_1 kF_X2_15 dX2_copyFrom_52 rfl ?_
  refine lv_icmp_ge (tgt := 100) hx hb dX2_copyFrom_55 (by decide) (fun hc1 => ?_) (fun hc1 => ?_)
  · have h := h.1 hc1
    refine lv_iconst (v := 0) hx hb dX2_copyFrom_100 (by decide) ?_
    refine lv_istore_n (lv' := [(2, .int 0), (0, .ref (Ad E 34)), (1, .ref (Ad E 14))]) hx hb dX2_copyFrom_101 rfl hl (by decide) rfl (fun ls hl => ?_)
    exact h p e R s m args below meth c Z cells slots H locs ls C0 hH (lv_sub hl [1, 2, 0] rfl) hret
  · have h := h.2 hc1
    refine lv_aload_n hx hb dX2_copyFrom_58 rfl (lv_at hl 0 rfl) ?_
    refine m_getr C0 hH f_34_6 35 rfl kF_X2_30 dX2_copyFrom_59 ?_
    refine lv_iload_n hx hb dX2_copyFrom_62 rfl (lv_at hl 2 rfl) ?_
    refine lv_aload_n hx hb dX2_copyFrom_63 rfl (lv_at hl 1 rfl) ?_
    refine m_getr C0 hH f_14_6 15 rfl kF_X2_30 dX2_copyFrom_64 ?_
    refine lv_iload_n hx hb dX2_copyFrom_67 rfl (lv_at hl 2 rfl) ?_
    refine m_iald (x := σ 15 x2.toNatClampNeg) C0 hH a_15 h.1 dX2_copyFrom_68 rfl ?_
    have h := h.2
    refine m_iast (j := x2.toNatClampNeg) C0 hH a_35 h.1 rfl dX2_copyFrom_69 (fun H locs hH => ?_)
    have h := h.2
    refine lv_aload_n hx hb dX2_copyFrom_70 rfl (lv_at hl 0 rfl) ?_
    refine m_getr C0 hH f_34_7 36 rfl kF_X2_34 dX2_copyFrom_71 ?_
    refine lv_iload_n hx hb dX2_copyFrom_74 rfl (lv_at hl 2 rfl) ?_
    refine lv_aload_n hx hb dX2_copyFrom_75 rfl (lv_at hl 1 rfl) ?_
    refine m_getr C0 hH f_14_7 16 rfl kF_X2_34 dX2_copyFrom_76 ?_
    refine lv_iload_n hx hb dX2_copyFrom_79 rfl (lv_at hl 2 rfl) ?_
    refine m_iald (x := σ 16 x2.toNatClampNeg) C0 hH a_16 h.1 dX2_copyFrom_80 rfl ?_
    have h := h.2
    refine m_iast (j := x2.toNatClampNeg) C0 hH a_36 h.1 rfl dX2_copyFrom_81 (fun H locs hH => ?_)
    have h := h.2
    refine lv_aload_n hx hb dX2_copyFrom_82 rfl (lv_at hl 0 rfl) ?_
    refine m_getr C0 hH f_34_8 37 rfl kF_X2_37 dX2_copyFrom_83 ?_
    refine lv_iload_n hx hb dX2_copyFrom_86 rfl (lv_at hl 2 rfl) ?_
    refine lv_aload_n hx hb dX2_copyFrom_87 rfl (lv_at hl 1 rfl) ?_
    refine m_getr C0 hH f_14_8 17 rfl kF_X2_37 dX2_copyFrom_88 ?_
    refine lv_iload_n hx hb dX2_copyFrom_91 rfl (lv_at hl 2 rfl) ?_
    refine m_iald (x := σ 17 x2.toNatClampNeg) C0 hH a_17 h.1 dX2_copyFrom_92 rfl ?_
    have h := h.2
    refine m_iast (j := x2.toNatClampNeg) C0 hH a_37 h.1 rfl dX2_copyFrom_93 (fun H locs hH => ?_)
    have h := h.2
    refine lv_iinc (v := (x2 + 1)) (lv' := [(2, .int (x2 + 1)), (0, .ref (Ad E 34)), (1, .ref (Ad E 14))]) hx hb dX2_copyFrom_94 hl (k := 2) rfl rfl (by decide) rfl (fun ls hl => ?_)
    refine lv_goto (tgt := 50) hx hb dX2_copyFrom_97 (by decide) ?_
    exact h p e R s m args below meth c Z cells slots H locs ls C0 hH (lv_sub hl [1, 2, 0] rfl) hret
set_option maxRecDepth 20000 in
set_option maxHeartbeats 4000000 in
theorem s_X2_copyFrom_34_14_102 (E : EE) (x2 : Int32) (σ : Mm) (Q : Mm → Prop) (h : (((σ 34 2) ≤ x2 → r_X2_copyFrom_34_14_154 E 0 σ Q) ∧ (¬ (σ 34 2) ≤ x2 → (vp_in x2 8 ∧ (vp_in x2 8 ∧ (vp_in x2 8 ∧ (vp_in x2 8 ∧ (vp_in x2 8 ∧ (vp_in x2 8 ∧ r_X2_copyFrom_34_14_102 E (x2 + 1) (up (up (up σ 38 x2.toNatClampNeg (σ 18 x2.toNatClampNeg)) 39 x2.toNatClampNeg (σ 19 x2.toNatClampNeg)) 40 x2.toNatClampNeg (σ 20 x2.toNatClampNeg)) Q))))))))) : r_X2_copyFrom_34_14_102 E x2 σ Q := by
  intro p e R s m args below meth c Z cells slots H locs ls C0 hH hl hret
  have hx := C0.1
  have hb : c.code = cX2_copyFrom := C0.2.1
  have hl : lv_has ls 3 [(0, .ref (Ad E 34)), (1, .ref (Ad E 14)), (2, .int x2)] := hl
  refine lv_iload_n hx hb dX2_copyFrom_102 rfl (lv_at hl 2 rfl) ?_
  refine lv_aload_n hx hb dX2_copyFrom_103 rfl (lv_at hl 0 rfl) ?_
  refine m_geti (x := σ 34 2) C0 hH f_34_2 kF_X2_18 dX2_copyFrom_104 rfl ?_
  refine lv_icmp_ge (tgt := 152) hx hb dX2_copyFrom_107 (by decide) (fun hc1 => ?_) (fun hc1 => ?_)
  · have h := h.1 hc1
    refine lv_iconst (v := 0) hx hb dX2_copyFrom_152 (by decide) ?_
    refine lv_istore_n (lv' := [(2, .int 0), (0, .ref (Ad E 34)), (1, .ref (Ad E 14))]) hx hb dX2_copyFrom_153 rfl hl (by decide) rfl (fun ls hl => ?_)
    exact h p e R s m args below meth c Z cells slots H locs ls C0 hH (lv_sub hl [1, 2, 0] rfl) hret
  · have h := h.2 hc1
    refine lv_aload_n hx hb dX2_copyFrom_110 rfl (lv_at hl 0 rfl) ?_
    refine m_getr C0 hH f_34_9 38 rfl kF_X2_40 dX2_copyFrom_111 ?_
    refine lv_iload_n hx hb dX2_copyFrom_114 rfl (lv_at hl 2 rfl) ?_
    refine lv_aload_n hx hb dX2_copyFrom_115 rfl (lv_at hl 1 rfl) ?_
    refine m_getr C0 hH f_14_9 18 rfl kF_X2_40 dX2_copyFrom_116 ?_
    refine lv_iload_n hx hb dX2_copyFrom_119 rfl (lv_at hl 2 rfl) ?_
    refine m_iald (x := σ 18 x2.toNatClampNeg) C0 hH a_18 h.1 dX2_copyFrom_120 rfl ?_
    have h := h.2
    refine m_iast (j := x2.toNatClampNeg) C0 hH a_38 h.1 rfl dX2_copyFrom_121 (fun H locs hH => ?_)
    have h := h.2
    refine lv_aload_n hx hb dX2_copyFrom_122 rfl (lv_at hl 0 rfl) ?_
    refine m_getr C0 hH f_34_10 39 rfl kF_X2_43 dX2_copyFrom_123 ?_
    refine lv_iload_n hx hb dX2_copyFrom_126 rfl (lv_at hl 2 rfl) ?_
    refine lv_aload_n hx hb dX2_copyFrom_127 rfl (lv_at hl 1 rfl) ?_
    refine m_getr C0 hH f_14_10 19 rfl kF_X2_43 dX2_copyFrom_128 ?_
    refine lv_iload_n hx hb dX2_copyFrom_131 rfl (lv_at hl 2 rfl) ?_
    refine m_iald (x := σ 19 x2.toNatClampNeg) C0 hH a_19 h.1 dX2_copyFrom_132 rfl ?_
    have h := h.2
    refine m_iast (j := x2.toNatClampNeg) C0 hH a_39 h.1 rfl dX2_copyFrom_133 (fun H locs hH => ?_)
    have h := h.2
    refine lv_aload_n hx hb dX2_copyFrom_134 rfl (lv_at hl 0 rfl) ?_
    refine m_getr C0 hH f_34_11 40 rfl kF_X2_46 dX2_copyFrom_135 ?_
    refine lv_iload_n hx hb dX2_copyFrom_138 rfl (lv_at hl 2 rfl) ?_
    refine lv_aload_n hx hb dX2_copyFrom_139 rfl (lv_at hl 1 rfl) ?_
    refine m_getr C0 hH f_14_11 20 rfl kF_X2_46 dX2_copyFrom_140 ?_
    refine lv_iload_n hx hb dX2_copyFrom_143 rfl (lv_at hl 2 rfl) ?_
    refine m_iald (x := σ 20 x2.toNatClampNeg) C0 hH a_20 h.1 dX2_copyFrom_144 rfl ?_
    have h := h.2
    refine m_iast (j := x2.toNatClampNeg) C0 hH a_40 h.1 rfl dX2_copyFrom_145 (fun H locs hH => ?_)
    have h := h.2
    refine lv_iinc (v := (x2 + 1)) (lv' := [(2, .int (x2 + 1)), (0, .ref (Ad E 34)), (1, .ref (Ad E 14))]) hx hb dX2_copyFrom_146 hl (k := 2) rfl rfl (by decide) rfl (fun ls hl => ?_)
    refine lv_goto (tgt := 102) hx hb dX2_copyFrom_149 (by decide) ?_
    exact h p e R s m args below meth c Z cells slots H locs ls C0 hH (lv_sub hl [1, 2, 0] rfl) hret
set_option maxRecDepth 20000 in
set_option maxHeartbeats 4000000 in
theorem s_X2_copyFrom_34_14_154 (E : EE) (x2 : Int32) (σ : Mm) (Q : Mm → Prop) (h : (((σ 34 5) ≤ x2 → Q σ) ∧ (¬ (σ 34 5) ≤ x2 → (vp_in x2 6 ∧ (vp_in x2 6 ∧ (vp_in x2 6 ∧ (vp_in x2 6 ∧ (vp_in x2 6 ∧ (vp_in x2 6 ∧ r_X2_copyFrom_34_14_154 E (x2 + 1) (up (up (up σ 41 x2.toNatClampNeg (σ 21 x2.toNatClampNeg)) 42 x2.toNatClampNeg (σ 22 x2.toNatClampNeg)) 43 x2.toNatClampNeg (vp_nar .boolean (σ 23 x2.toNatClampNeg))) Q))))))))) : r_X2_copyFrom_34_14_154 E x2 σ Q := by
  intro p e R s m args below meth c Z cells slots H locs ls C0 hH hl hret
  have hx := C0.1
  have hb : c.code = cX2_copyFrom := C0.2.1
  have hl : lv_has ls 3 [(0, .ref (Ad E 34)), (1, .ref (Ad E 14)), (2, .int x2)] := hl
  refine lv_iload_n hx hb dX2_copyFrom_154 rfl (lv_at hl 2 rfl) ?_
  refine lv_aload_n hx hb dX2_copyFrom_155 rfl (lv_at hl 0 rfl) ?_
  refine m_geti (x := σ 34 5) C0 hH f_34_5 kF_X2_27 dX2_copyFrom_156 rfl ?_
  refine lv_icmp_ge (tgt := 204) hx hb dX2_copyFrom_159 (by decide) (fun hc1 => ?_) (fun hc1 => ?_)
  · have h := h.1 hc1
    exact hret none _ _ _ _ _ ⟨rfl, h⟩ hH ⟨dX2_copyFrom_204, rfl⟩
  · have h := h.2 hc1
    refine lv_aload_n hx hb dX2_copyFrom_162 rfl (lv_at hl 0 rfl) ?_
    refine m_getr C0 hH f_34_12 41 rfl kF_X2_49 dX2_copyFrom_163 ?_
    refine lv_iload_n hx hb dX2_copyFrom_166 rfl (lv_at hl 2 rfl) ?_
    refine lv_aload_n hx hb dX2_copyFrom_167 rfl (lv_at hl 1 rfl) ?_
    refine m_getr C0 hH f_14_12 21 rfl kF_X2_49 dX2_copyFrom_168 ?_
    refine lv_iload_n hx hb dX2_copyFrom_171 rfl (lv_at hl 2 rfl) ?_
    refine m_iald (x := σ 21 x2.toNatClampNeg) C0 hH a_21 h.1 dX2_copyFrom_172 rfl ?_
    have h := h.2
    refine m_iast (j := x2.toNatClampNeg) C0 hH a_41 h.1 rfl dX2_copyFrom_173 (fun H locs hH => ?_)
    have h := h.2
    refine lv_aload_n hx hb dX2_copyFrom_174 rfl (lv_at hl 0 rfl) ?_
    refine m_getr C0 hH f_34_13 42 rfl kF_X2_52 dX2_copyFrom_175 ?_
    refine lv_iload_n hx hb dX2_copyFrom_178 rfl (lv_at hl 2 rfl) ?_
    refine lv_aload_n hx hb dX2_copyFrom_179 rfl (lv_at hl 1 rfl) ?_
    refine m_getr C0 hH f_14_13 22 rfl kF_X2_52 dX2_copyFrom_180 ?_
    refine lv_iload_n hx hb dX2_copyFrom_183 rfl (lv_at hl 2 rfl) ?_
    refine m_iald (x := σ 22 x2.toNatClampNeg) C0 hH a_22 h.1 dX2_copyFrom_184 rfl ?_
    have h := h.2
    refine m_iast (j := x2.toNatClampNeg) C0 hH a_42 h.1 rfl dX2_copyFrom_185 (fun H locs hH => ?_)
    have h := h.2
    refine lv_aload_n hx hb dX2_copyFrom_186 rfl (lv_at hl 0 rfl) ?_
    refine m_getr C0 hH f_34_14 43 rfl kF_X2_55 dX2_copyFrom_187 ?_
    refine lv_iload_n hx hb dX2_copyFrom_190 rfl (lv_at hl 2 rfl) ?_
    refine lv_aload_n hx hb dX2_copyFrom_191 rfl (lv_at hl 1 rfl) ?_
    refine m_getr C0 hH f_14_14 23 rfl kF_X2_55 dX2_copyFrom_192 ?_
    refine lv_iload_n hx hb dX2_copyFrom_195 rfl (lv_at hl 2 rfl) ?_
    refine m_zald (x := σ 23 x2.toNatClampNeg) C0 hH a_23 h.1 dX2_copyFrom_196 rfl ?_
    have h := h.2
    refine m_zast (j := x2.toNatClampNeg) C0 hH a_43 h.1 rfl dX2_copyFrom_197 (fun H locs hH => ?_)
    have h := h.2
    refine lv_iinc (v := (x2 + 1)) (lv' := [(2, .int (x2 + 1)), (0, .ref (Ad E 34)), (1, .ref (Ad E 14))]) hx hb dX2_copyFrom_198 hl (k := 2) rfl rfl (by decide) rfl (fun ls hl => ?_)
    refine lv_goto (tgt := 154) hx hb dX2_copyFrom_201 (by decide) ?_
    exact h p e R s m args below meth c Z cells slots H locs ls C0 hH (lv_sub hl [1, 2, 0] rfl) hret

def r_X3_isAsSeen_0 (E : EE) (x1 : Int32) (x2 : Int32) (σ : Mm) (Q : Int32 → Mm → Prop) : Prop := Rn E M_X3_isAsSeen 0 [(0, .ref (Ad E 34)), (1, .int x1), (2, .int x2)] [] σ (qi Q)
def r_X3_isAsSeen_2 (E : EE) (x1 : Int32) (x2 : Int32) (x3 : Int32) (σ : Mm) (Q : Int32 → Mm → Prop) : Prop := Rn E M_X3_isAsSeen 2 [(0, .ref (Ad E 34)), (1, .int x1), (2, .int x2), (3, .int x3)] [] σ (qi Q)
set_option maxRecDepth 20000 in
set_option maxHeartbeats 4000000 in
theorem s_X3_isAsSeen_0 (E : EE) (x1 : Int32) (x2 : Int32) (σ : Mm) (Q : Int32 → Mm → Prop) (h : r_X3_isAsSeen_2 E x1 x2 0 σ Q) : r_X3_isAsSeen_0 E x1 x2 σ Q := by
  intro p e R s m args below meth c Z cells slots H locs ls C0 hH hl hret
  have hx := C0.1
  have hb : c.code = cX3_isAsSeen := C0.2.1
  have hl : lv_has ls 4 [(0, .ref (Ad E 34)), (1, .int x1), (2, .int x2)] := hl
  refine lv_iconst (v := 0) hx hb dX3_isAsSeen_0 (by decide) ?_
  refine lv_istore_n (lv' := [(3, .int 0), (0, .ref (Ad E 34)), (1, .int x1), (2, .int x2)]) hx hb dX3_isAsSeen_1 rfl hl (by decide) rfl (fun ls hl => ?_)
  exact h p e R s m args below meth c Z cells slots H locs ls C0 hH (lv_sub hl [1, 2, 3, 0] rfl) hret
set_option maxRecDepth 20000 in
set_option maxHeartbeats 4000000 in
theorem s_X3_isAsSeen_2 (E : EE) (x1 : Int32) (x2 : Int32) (x3 : Int32) (σ : Mm) (Q : Int32 → Mm → Prop) (h : (((σ 34 5) ≤ x3 → Q 1 σ) ∧ (¬ (σ 34 5) ≤ x3 → (vp_in x3 6 ∧ ((¬ (σ 41 x3.toNatClampNeg) = x1 → r_X3_isAsSeen_2 E x1 x2 (x3 + 1) σ Q) ∧ ((σ 41 x3.toNatClampNeg) = x1 → (vp_in x3 6 ∧ (((σ 42 x3.toNatClampNeg) ≤ x2 → (vp_in x3 6 ∧ ((0 = (σ 43 x3.toNatClampNeg) → r_X3_isAsSeen_2 E x1 x2 (x3 + 1) σ Q) ∧ (¬ 0 = (σ 43 x3.toNatClampNeg) → Q 0 σ)))) ∧ (¬ (σ 42 x3.toNatClampNeg) ≤ x2 → (vp_in x3 6 ∧ ((1 = (σ 43 x3.toNatClampNeg) → r_X3_isAsSeen_2 E x1 x2 (x3 + 1) σ Q) ∧ (¬ 1 = (σ 43 x3.toNatClampNeg) → Q 0 σ)))))))))))) : r_X3_isAsSeen_2 E x1 x2 x3 σ Q := by
  intro p e R s m args below meth c Z cells slots H locs ls C0 hH hl hret
  have hx := C0.1
  have hb : c.code = cX3_isAsSeen := C0.2.1
  have hl : lv_has ls 4 [(0, .ref (Ad E 34)), (1, .int x1), (2, .int x2), (3, .int x3)] := hl
  refine lv_iload_n hx hb dX3_isAsSeen_2 rfl (lv_at hl 3 rfl) ?_
  refine lv_aload_n hx hb dX3_isAsSeen_3 rfl (lv_at hl 0 rfl) ?_
  refine m_geti (x := σ 34 5) C0 hH f_34_5 kF_X3_48 dX3_isAsSeen_4 rfl ?_
  refine lv_icmp_ge (tgt := 52) hx hb dX3_isAsSeen_7 (by decide) (fun hc1 => ?_) (fun hc1 => ?_)
  · have h := h.1 hc1
    refine lv_iconst (v := 1) hx hb dX3_isAsSeen_52 (by decide) ?_
    exact hret (some (.int 1)) _ _ _ _ _ ⟨_, rfl, h⟩ hH ⟨dX3_isAsSeen_53, .boolean, rfl, nb (Or.inr rfl)⟩
  · have h := h.2 hc1
    refine lv_aload_n hx hb dX3_isAsSeen_10 rfl (lv_at hl 0 rfl) ?_
    refine m_getr C0 hH f_34_12 41 rfl kF_X3_51 dX3_isAsSeen_11 ?_
    refine lv_iload_n hx hb dX3_isAsSeen_14 rfl (lv_at hl 3 rfl) ?_
    refine m_iald (x := σ 41 x3.toNatClampNeg) C0 hH a_41 h.1 dX3_isAsSeen_15 rfl ?_
    have h := h.2
    refine lv_iload_n hx hb dX3_isAsSeen_16 rfl (lv_at hl 1 rfl) ?_
    refine lv_icmp_ne (tgt := 46) hx hb dX3_isAsSeen_17 (by decide) (fun hc2 => ?_) (fun hc2 => ?_)
    · have h := h.1 hc2
      refine lv_iinc (v := (x3 + 1)) (lv' := [(3, .int (x3 + 1)), (0, .ref (Ad E 34)), (1, .int x1), (2, .int x2)]) hx hb dX3_isAsSeen_46 hl (k := 3) rfl rfl (by decide) rfl (fun ls hl => ?_)
      refine lv_goto (tgt := 2) hx hb dX3_isAsSeen_49 (by decide) ?_
      exact h p e R s m args below meth c Z cells slots H locs ls C0 hH (lv_sub hl [1, 2, 3, 0] rfl) hret
    · have h := h.2 hc2
      refine lv_iload_n hx hb dX3_isAsSeen_20 rfl (lv_at hl 2 rfl) ?_
      refine lv_aload_n hx hb dX3_isAsSeen_21 rfl (lv_at hl 0 rfl) ?_
      refine m_getr C0 hH f_34_13 42 rfl kF_X3_54 dX3_isAsSeen_22 ?_
      refine lv_iload_n hx hb dX3_isAsSeen_25 rfl (lv_at hl 3 rfl) ?_
      refine m_iald (x := σ 42 x3.toNatClampNeg) C0 hH a_42 h.1 dX3_isAsSeen_26 rfl ?_
      have h := h.2
      refine lv_icmp_ge (tgt := 34) hx hb dX3_isAsSeen_27 (by decide) (fun hc3 => ?_) (fun hc3 => ?_)
      · have h := h.1 hc3
        refine lv_iconst (v := 0) hx hb dX3_isAsSeen_34 (by decide) ?_
        refine lv_aload_n hx hb dX3_isAsSeen_35 rfl (lv_at hl 0 rfl) ?_
        refine m_getr C0 hH f_34_14 43 rfl kF_X3_57 dX3_isAsSeen_36 ?_
        refine lv_iload_n hx hb dX3_isAsSeen_39 rfl (lv_at hl 3 rfl) ?_
        refine m_zald (x := σ 43 x3.toNatClampNeg) C0 hH a_43 h.1 dX3_isAsSeen_40 rfl ?_
        have h := h.2
        refine lv_icmp_eq (tgt := 46) hx hb dX3_isAsSeen_41 (by decide) (fun hc4 => ?_) (fun hc4 => ?_)
        · have h := h.1 hc4
          refine lv_iinc (v := (x3 + 1)) (lv' := [(3, .int (x3 + 1)), (0, .ref (Ad E 34)), (1, .int x1), (2, .int x2)]) hx hb dX3_isAsSeen_46 hl (k := 3) rfl rfl (by decide) rfl (fun ls hl => ?_)
          refine lv_goto (tgt := 2) hx hb dX3_isAsSeen_49 (by decide) ?_
          exact h p e R s m args below meth c Z cells slots H locs ls C0 hH (lv_sub hl [1, 2, 3, 0] rfl) hret
        · have h := h.2 hc4
          refine lv_iconst (v := 0) hx hb dX3_isAsSeen_44 (by decide) ?_
          exact hret (some (.int 0)) _ _ _ _ _ ⟨_, rfl, h⟩ hH ⟨dX3_isAsSeen_45, .boolean, rfl, nb (Or.inl rfl)⟩
      · have h := h.2 hc3
        refine lv_iconst (v := 1) hx hb dX3_isAsSeen_30 (by decide) ?_
        refine lv_goto (tgt := 35) hx hb dX3_isAsSeen_31 (by decide) ?_
        refine lv_aload_n hx hb dX3_isAsSeen_35 rfl (lv_at hl 0 rfl) ?_
        refine m_getr C0 hH f_34_14 43 rfl kF_X3_57 dX3_isAsSeen_36 ?_
        refine lv_iload_n hx hb dX3_isAsSeen_39 rfl (lv_at hl 3 rfl) ?_
        refine m_zald (x := σ 43 x3.toNatClampNeg) C0 hH a_43 h.1 dX3_isAsSeen_40 rfl ?_
        have h := h.2
        refine lv_icmp_eq (tgt := 46) hx hb dX3_isAsSeen_41 (by decide) (fun hc5 => ?_) (fun hc5 => ?_)
        · have h := h.1 hc5
          refine lv_iinc (v := (x3 + 1)) (lv' := [(3, .int (x3 + 1)), (0, .ref (Ad E 34)), (1, .int x1), (2, .int x2)]) hx hb dX3_isAsSeen_46 hl (k := 3) rfl rfl (by decide) rfl (fun ls hl => ?_)
          refine lv_goto (tgt := 2) hx hb dX3_isAsSeen_49 (by decide) ?_
          exact h p e R s m args below meth c Z cells slots H locs ls C0 hH (lv_sub hl [1, 2, 3, 0] rfl) hret
        · have h := h.2 hc5
          refine lv_iconst (v := 0) hx hb dX3_isAsSeen_44 (by decide) ?_
          exact hret (some (.int 0)) _ _ _ _ _ ⟨_, rfl, h⟩ hH ⟨dX3_isAsSeen_45, .boolean, rfl, nb (Or.inl rfl)⟩

def r_X3_fill_0 (E : EE) (x2 : Int32) (σ : Mm) (Q : Mm → Prop) : Prop := Rn E M_X3_fill 0 [(0, .ref (Ad E 60)), (1, .ref (Ad E 14)), (2, .int x2), (3, .ref (Ad E 34)), (4, .ref (Ad E 44))] [] σ (qv Q)
def r_X3_fill_13 (E : EE) (x2 : Int32) (x5 : Int32) (σ : Mm) (Q : Mm → Prop) : Prop := Rn E M_X3_fill 13 [(0, .ref (Ad E 60)), (1, .ref (Ad E 14)), (2, .int x2), (3, .ref (Ad E 34)), (4, .ref (Ad E 44)), (5, .int x5)] [] σ (qv Q)
set_option maxRecDepth 20000 in
set_option maxHeartbeats 4000000 in
theorem s_X3_fill_0 (E : EE) (x2 : Int32) (σ : Mm) (Q : Mm → Prop) (h : r_X2_copyFrom_34_14_0 E  σ (fun τ1 => r_X3_fill_13 E x2 1 (up τ1 60 1 0) Q)) : r_X3_fill_0 E x2 σ Q := by
  intro p e R s m args below meth c Z cells slots H locs ls C0 hH hl hret
  have hx := C0.1
  have hb : c.code = cX3_fill := C0.2.1
  have hl : lv_has ls 6 [(0, .ref (Ad E 60)), (1, .ref (Ad E 14)), (2, .int x2), (3, .ref (Ad E 34)), (4, .ref (Ad E 44))] := hl
  refine lv_aload_n hx hb dX3_fill_0 rfl (lv_at hl 3 rfl) ?_
  refine lv_aload_n hx hb dX3_fill_1 rfl (lv_at hl 1 rfl) ?_
  refine m_cV (M2 := M_X2_copyFrom) (As := [.ref (Ad E 14)]) (rest := []) h C0 hH hl kc_X2_copyFrom ki_X2_copyFrom kx_X2_copyFrom ob_34 kM_X3_19 rfl (Nat.le_of_ble_eq_true rfl) (Nat.le_of_ble_eq_true rfl) ⟨Nat.le_of_ble_eq_true rfl, Nat.le_of_ble_eq_true rfl⟩ dX3_fill_2 rfl (fun r τ1 H locs hq hH => ?_)
  obtain ⟨rfl, h⟩ := hq
  refine lv_aload_n hx hb dX3_fill_5 rfl (lv_at hl 0 rfl) ?_
  refine lv_iconst (v := 0) hx hb dX3_fill_6 (by decide) ?_
  refine m_puti C0 hH f_60_1 kF_X3_15 rfl dX3_fill_7 rfl rfl (fun H locs hH => ?_)
  refine lv_iconst (v := 1) hx hb dX3_fill_10 (by decide) ?_
  refine lv_istore (lv' := [(5, .int 1), (0, .ref (Ad E 60)), (1, .ref (Ad E 14)), (2, .int x2), (3, .ref (Ad E 34)), (4, .ref (Ad E 44))]) hx hb dX3_fill_11 hl (by decide) rfl (fun ls hl => ?_)
  exact h p e R s m args below meth c Z cells slots H locs ls C0 hH (lv_sub hl [1, 2, 3, 4, 5, 0] rfl) hret
set_option maxRecDepth 20000 in
set_option maxHeartbeats 4000000 in
theorem s_X3_fill_13 (E : EE) (x2 : Int32) (x5 : Int32) (σ : Mm) (Q : Mm → Prop) (h : ((9 < x5 → Q σ) ∧ (¬ 9 < x5 → (vp_in x2 8 ∧ r_X0_fill_34_0 E (σ 34 3) (up σ 40 x2.toNatClampNeg x5) (fun τ2 => (vp_in x2 8 ∧ r_X0_placeOf_0 E (τ2 38 x2.toNatClampNeg) τ2 (fun r4 τ3 => (vp_in x5 10 ∧ (vp_in x5 10 ∧ r_X3_isAsSeen_0 E x2 r4 (up τ3 61 x5.toNatClampNeg r4) (fun r6 τ5 => ((r6 = 0 → r_X3_fill_13 E x2 (x5 + 1) τ5 Q) ∧ (¬ r6 = 0 → r_X3_fill_13 E x2 (x5 + 1) (up τ5 60 1 ((τ5 60 1) ||| (1 <<< ((x5 - 1) &&& 31)))) Q)))))))))))) : r_X3_fill_13 E x2 x5 σ Q := by
  intro p e R s m args below meth c Z cells slots H locs ls C0 hH hl hret
  have hx := C0.1
  have hb : c.code = cX3_fill := C0.2.1
  have hl : lv_has ls 6 [(0, .ref (Ad E 60)), (1, .ref (Ad E 14)), (2, .int x2), (3, .ref (Ad E 34)), (4, .ref (Ad E 44)), (5, .int x5)] := hl
  refine lv_iload hx hb dX3_fill_13 (lv_at hl 5 rfl) ?_
  refine lv_bipush (v := 9) hx hb dX3_fill_15 (by decide) ?_
  refine lv_icmp_gt (tgt := 92) hx hb dX3_fill_17 (by decide) (fun hc1 => ?_) (fun hc1 => ?_)
  · have h := h.1 hc1
    exact hret none _ _ _ _ _ ⟨rfl, h⟩ hH ⟨dX3_fill_92, rfl⟩
  · have h := h.2 hc1
    refine lv_aload_n hx hb dX3_fill_20 rfl (lv_at hl 3 rfl) ?_
    refine m_getr C0 hH f_34_11 40 rfl kF_X3_25 dX3_fill_21 ?_
    refine lv_iload_n hx hb dX3_fill_24 rfl (lv_at hl 2 rfl) ?_
    refine lv_iload hx hb dX3_fill_25 (lv_at hl 5 rfl) ?_
    refine m_iast (j := x2.toNatClampNeg) C0 hH a_40 h.1 rfl dX3_fill_27 (fun H locs hH => ?_)
    have h := h.2
    refine lv_aload hx hb dX3_fill_28 (lv_at hl 4 rfl) ?_
    refine lv_aload_n hx hb dX3_fill_30 rfl (lv_at hl 3 rfl) ?_
    refine lv_aload_n hx hb dX3_fill_31 rfl (lv_at hl 3 rfl) ?_
    refine m_geti (x := σ 34 3) C0 hH f_34_3 kF_X3_28 dX3_fill_32 rfl ?_
    refine m_cV (M2 := M_X0_fill) (As := [.ref (Ad E 34), .int (σ 34 3)]) (rest := []) h C0 hH hl kc_X0_fill ki_X0_fill kx_X0_fill ob_44 kM_X3_31 rfl (Nat.le_of_ble_eq_true rfl) (Nat.le_of_ble_eq_true rfl) ⟨Nat.le_of_ble_eq_true rfl, Nat.le_of_ble_eq_true rfl⟩ dX3_fill_35 rfl (fun r τ2 H locs hq hH => ?_)
    obtain ⟨rfl, h⟩ := hq
    refine lv_aload_n hx hb dX3_fill_38 rfl (lv_at hl 0 rfl) ?_
    refine m_getr C0 hH f_60_0 61 rfl kF_X3_9 dX3_fill_39 ?_
    refine lv_iload hx hb dX3_fill_42 (lv_at hl 5 rfl) ?_
    refine lv_aload hx hb dX3_fill_44 (lv_at hl 4 rfl) ?_
    refine lv_aload_n hx hb dX3_fill_46 rfl (lv_at hl 3 rfl) ?_
    refine m_getr C0 hH f_34_9 38 rfl kF_X3_37 dX3_fill_47 ?_
    refine lv_iload_n hx hb dX3_fill_50 rfl (lv_at hl 2 rfl) ?_
    refine m_iald (x := τ2 38 x2.toNatClampNeg) C0 hH a_38 h.1 dX3_fill_51 rfl ?_
    have h := h.2
    refine m_cV (M2 := M_X0_placeOf) (As := [.int (τ2 38 x2.toNatClampNeg)]) (rest := [.int x5, .ref (Ad E 61)]) h C0 hH hl kc_X0_placeOf ki_X0_placeOf kx_X0_placeOf ob_44 kM_X3_40 rfl (Nat.le_of_ble_eq_true rfl) (Nat.le_of_ble_eq_true rfl) ⟨Nat.le_of_ble_eq_true rfl, Nat.le_of_ble_eq_true rfl⟩ dX3_fill_52 rfl (fun r τ3 H locs hq hH => ?_)
    obtain ⟨r4, rfl, h⟩ := hq
    refine m_iast (j := x5.toNatClampNeg) C0 hH a_61 h.1 rfl dX3_fill_55 (fun H locs hH => ?_)
    have h := h.2
    refine lv_aload_n hx hb dX3_fill_56 rfl (lv_at hl 3 rfl) ?_
    refine lv_iload_n hx hb dX3_fill_57 rfl (lv_at hl 2 rfl) ?_
    refine lv_aload_n hx hb dX3_fill_58 rfl (lv_at hl 0 rfl) ?_
    refine m_getr C0 hH f_60_0 61 rfl kF_X3_9 dX3_fill_59 ?_
    refine lv_iload hx hb dX3_fill_62 (lv_at hl 5 rfl) ?_
    refine m_iald (x := r4) C0 hH a_61 h.1 dX3_fill_64 up_rd ?_
    have h := h.2
    refine m_cS (M2 := M_X3_isAsSeen) (As := [.ref (Ad E 34), .int x2, .int r4]) (rest := []) h C0 hH hl kc_X3_isAsSeen ks_X3_isAsSeen kM_X3_44 rfl (Nat.le_of_ble_eq_true rfl) (Nat.le_of_ble_eq_true rfl) ⟨Nat.le_of_ble_eq_true rfl, Nat.le_of_ble_eq_true rfl⟩ dX3_fill_65 rfl (fun r τ5 H locs hq hH => ?_)
    obtain ⟨r6, rfl, h⟩ := hq
    refine lv_if_eq (tgt := 86) hx hb dX3_fill_68 (by decide) (fun hc7 => ?_) (fun hc7 => ?_)
    · have h := h.1 hc7
      refine lv_iinc (v := (x5 + 1)) (lv' := [(5, .int (x5 + 1)), (0, .ref (Ad E 60)), (1, .ref (Ad E 14)), (2, .int x2), (3, .ref (Ad E 34)), (4, .ref (Ad E 44))]) hx hb dX3_fill_86 hl (k := 5) rfl rfl (by decide) rfl (fun ls hl => ?_)
      refine lv_goto (tgt := 13) hx hb dX3_fill_89 (by decide) ?_
      exact h p e R s m args below meth c Z cells slots H locs ls C0 hH (lv_sub hl [1, 2, 3, 4, 5, 0] rfl) hret
    · have h := h.2 hc7
      refine lv_aload_n hx hb dX3_fill_71 rfl (lv_at hl 0 rfl) ?_
      refine lv_dup hx hb dX3_fill_72 rfl ?_
      refine m_geti (x := τ5 60 1) C0 hH f_60_1 kF_X3_15 dX3_fill_73 rfl ?_
      refine lv_iconst (v := 1) hx hb dX3_fill_76 (by decide) ?_
      refine lv_iload hx hb dX3_fill_77 (lv_at hl 5 rfl) ?_
      refine lv_iconst (v := 1) hx hb dX3_fill_79 (by decide) ?_
      refine lv_isub hx hb dX3_fill_80 ?_
      refine lv_ishl hx hb dX3_fill_81 ?_
      refine lv_ior hx hb dX3_fill_82 ?_
      refine m_puti C0 hH f_60_1 kF_X3_15 rfl dX3_fill_83 rfl rfl (fun H locs hH => ?_)
      refine lv_iinc (v := (x5 + 1)) (lv' := [(5, .int (x5 + 1)), (0, .ref (Ad E 60)), (1, .ref (Ad E 14)), (2, .int x2), (3, .ref (Ad E 34)), (4, .ref (Ad E 44))]) hx hb dX3_fill_86 hl (k := 5) rfl rfl (by decide) rfl (fun ls hl => ?_)
      refine lv_goto (tgt := 13) hx hb dX3_fill_89 (by decide) ?_
      exact h p e R s m args below meth c Z cells slots H locs ls C0 hH (lv_sub hl [1, 2, 3, 4, 5, 0] rfl) hret

def r_X9_wrong_0 (E : EE) (x1 : Int32) (x2 : Int32) (σ : Mm) (Q : Int32 → Mm → Prop) : Prop := Rn E M_X9_wrong 0 [(0, .ref (Ad E 0)), (1, .int x1), (2, .int x2)] [] σ (qi Q)
set_option maxRecDepth 20000 in
set_option maxHeartbeats 4000000 in
theorem s_X9_wrong_0 (E : EE) (x1 : Int32) (x2 : Int32) (σ : Mm) (Q : Int32 → Mm → Prop) (h : r_X2_hasWrong_0 E x1 σ (fun r2 τ1 => ((¬ r2 = 0 → ((x2 = 0 → (vp_in x1 8 ∧ Q (τ1 18 x1.toNatClampNeg) τ1)) ∧ (x2 = 1 → (vp_in x1 8 ∧ Q (τ1 19 x1.toNatClampNeg) τ1)) ∧ (x2 = 2 → (vp_in x1 8 ∧ Q (τ1 20 x1.toNatClampNeg) τ1)) ∧ (x2 = 3 → r_X2_isForgiven_0 E x1 τ1 (fun r9 τ8 => ((r9 = 0 → Q 0 τ8) ∧ (¬ r9 = 0 → Q 1 τ8)))) ∧ (x2 = 4 → r_X3_fill_0 E x1 τ1 (fun τ12 => Q (τ12 60 1) τ12)) ∧ (x2 = 5 → r_X3_fill_0 E x1 τ1 (fun τ14 => r_X3_bestRoom_0 E  τ14 (fun r16 τ15 => Q r16 τ15))) ∧ (¬ x2 = 0 → ¬ x2 = 1 → ¬ x2 = 2 → ¬ x2 = 3 → ¬ x2 = 4 → ¬ x2 = 5 → Q (-102) τ1))) ∧ (r2 = 0 → Q (-101) τ1)))) : r_X9_wrong_0 E x1 x2 σ Q := by
  intro p e R s m args below meth c Z cells slots H locs ls C0 hH hl hret
  have hx := C0.1
  have hb : c.code = cX9_wrong := C0.2.1
  have hl : lv_has ls 3 [(0, .ref (Ad E 0)), (1, .int x1), (2, .int x2)] := hl
  refine lv_aload_n hx hb dX9_wrong_0 rfl (lv_at hl 0 rfl) ?_
  refine m_getr C0 hH f_0_2 14 rfl kF_X9_26 dX9_wrong_1 ?_
  refine lv_iload_n hx hb dX9_wrong_4 rfl (lv_at hl 1 rfl) ?_
  refine m_cV (M2 := M_X2_hasWrong) (As := [.int x1]) (rest := []) h C0 hH hl kc_X2_hasWrong ki_X2_hasWrong kx_X2_hasWrong ob_14 kM_X9_156 rfl (Nat.le_of_ble_eq_true rfl) (Nat.le_of_ble_eq_true rfl) ⟨Nat.le_of_ble_eq_true rfl, Nat.le_of_ble_eq_true rfl⟩ dX9_wrong_5 rfl (fun r τ1 H locs hq hH => ?_)
  obtain ⟨r2, rfl, h⟩ := hq
  refine lv_if_ne (tgt := 14) hx hb dX9_wrong_8 (by decide) (fun hc3 => ?_) (fun hc3 => ?_)
  · have h := h.1 hc3
    refine lv_iload_n hx hb dX9_wrong_14 rfl (lv_at hl 2 rfl) ?_
    by_cases hs4 : x2 = 0
    · have h := h.1 hs4
      refine m_tin (v := 0) (tgt := 52) C0 dX9_wrong_15 hs4 (by decide) (by decide) rfl (by decide) ?_
      refine lv_aload_n hx hb dX9_wrong_52 rfl (lv_at hl 0 rfl) ?_
      refine m_getr C0 hH f_0_2 14 rfl kF_X9_26 dX9_wrong_53 ?_
      refine m_getr C0 hH f_14_9 18 rfl kF_X9_159 dX9_wrong_56 ?_
      refine lv_iload_n hx hb dX9_wrong_59 rfl (lv_at hl 1 rfl) ?_
      refine m_iald (x := τ1 18 x1.toNatClampNeg) C0 hH a_18 h.1 dX9_wrong_60 rfl ?_
      have h := h.2
      exact hret (some (.int (τ1 18 x1.toNatClampNeg))) _ _ _ _ _ ⟨_, rfl, h⟩ hH ⟨dX9_wrong_61, .int, rfl, rfl⟩
    have h := h.2
    by_cases hs5 : x2 = 1
    · have h := h.1 hs5
      refine m_tin (v := 1) (tgt := 62) C0 dX9_wrong_15 hs5 (by decide) (by decide) rfl (by decide) ?_
      refine lv_aload_n hx hb dX9_wrong_62 rfl (lv_at hl 0 rfl) ?_
      refine m_getr C0 hH f_0_2 14 rfl kF_X9_26 dX9_wrong_63 ?_
      refine m_getr C0 hH f_14_10 19 rfl kF_X9_162 dX9_wrong_66 ?_
      refine lv_iload_n hx hb dX9_wrong_69 rfl (lv_at hl 1 rfl) ?_
      refine m_iald (x := τ1 19 x1.toNatClampNeg) C0 hH a_19 h.1 dX9_wrong_70 rfl ?_
      have h := h.2
      exact hret (some (.int (τ1 19 x1.toNatClampNeg))) _ _ _ _ _ ⟨_, rfl, h⟩ hH ⟨dX9_wrong_71, .int, rfl, rfl⟩
    have h := h.2
    by_cases hs6 : x2 = 2
    · have h := h.1 hs6
      refine m_tin (v := 2) (tgt := 72) C0 dX9_wrong_15 hs6 (by decide) (by decide) rfl (by decide) ?_
      refine lv_aload_n hx hb dX9_wrong_72 rfl (lv_at hl 0 rfl) ?_
      refine m_getr C0 hH f_0_2 14 rfl kF_X9_26 dX9_wrong_73 ?_
      refine m_getr C0 hH f_14_11 20 rfl kF_X9_165 dX9_wrong_76 ?_
      refine lv_iload_n hx hb dX9_wrong_79 rfl (lv_at hl 1 rfl) ?_
      refine m_iald (x := τ1 20 x1.toNatClampNeg) C0 hH a_20 h.1 dX9_wrong_80 rfl ?_
      have h := h.2
      exact hret (some (.int (τ1 20 x1.toNatClampNeg))) _ _ _ _ _ ⟨_, rfl, h⟩ hH ⟨dX9_wrong_81, .int, rfl, rfl⟩
    have h := h.2
    by_cases hs7 : x2 = 3
    · have h := h.1 hs7
      refine m_tin (v := 3) (tgt := 82) C0 dX9_wrong_15 hs7 (by decide) (by decide) rfl (by decide) ?_
      refine lv_aload_n hx hb dX9_wrong_82 rfl (lv_at hl 0 rfl) ?_
      refine m_getr C0 hH f_0_2 14 rfl kF_X9_26 dX9_wrong_83 ?_
      refine lv_iload_n hx hb dX9_wrong_86 rfl (lv_at hl 1 rfl) ?_
      refine m_cV (M2 := M_X2_isForgiven) (As := [.int x1]) (rest := []) h C0 hH hl kc_X2_isForgiven ki_X2_isForgiven kx_X2_isForgiven ob_14 kM_X9_168 rfl (Nat.le_of_ble_eq_true rfl) (Nat.le_of_ble_eq_true rfl) ⟨Nat.le_of_ble_eq_true rfl, Nat.le_of_ble_eq_true rfl⟩ dX9_wrong_87 rfl (fun r τ8 H locs hq hH => ?_)
      obtain ⟨r9, rfl, h⟩ := hq
      refine lv_if_eq (tgt := 97) hx hb dX9_wrong_90 (by decide) (fun hc10 => ?_) (fun hc10 => ?_)
      · have h := h.1 hc10
        refine lv_iconst (v := 0) hx hb dX9_wrong_97 (by decide) ?_
        exact hret (some (.int 0)) _ _ _ _ _ ⟨_, rfl, h⟩ hH ⟨dX9_wrong_98, .int, rfl, rfl⟩
      · have h := h.2 hc10
        refine lv_iconst (v := 1) hx hb dX9_wrong_93 (by decide) ?_
        refine lv_goto (tgt := 98) hx hb dX9_wrong_94 (by decide) ?_
        exact hret (some (.int 1)) _ _ _ _ _ ⟨_, rfl, h⟩ hH ⟨dX9_wrong_98, .int, rfl, rfl⟩
    have h := h.2
    by_cases hs11 : x2 = 4
    · have h := h.1 hs11
      refine m_tin (v := 4) (tgt := 99) C0 dX9_wrong_15 hs11 (by decide) (by decide) rfl (by decide) ?_
      refine lv_aload_n hx hb dX9_wrong_99 rfl (lv_at hl 0 rfl) ?_
      refine m_getr C0 hH f_0_9 60 rfl kF_X9_67 dX9_wrong_100 ?_
      refine lv_aload_n hx hb dX9_wrong_103 rfl (lv_at hl 0 rfl) ?_
      refine m_getr C0 hH f_0_2 14 rfl kF_X9_26 dX9_wrong_104 ?_
      refine lv_iload_n hx hb dX9_wrong_107 rfl (lv_at hl 1 rfl) ?_
      refine lv_aload_n hx hb dX9_wrong_108 rfl (lv_at hl 0 rfl) ?_
      refine m_getr C0 hH f_0_4 34 rfl kF_X9_33 dX9_wrong_109 ?_
      refine lv_aload_n hx hb dX9_wrong_112 rfl (lv_at hl 0 rfl) ?_
      refine m_getr C0 hH f_0_5 44 rfl kF_X9_39 dX9_wrong_113 ?_
      refine m_cV (M2 := M_X3_fill) (As := [.ref (Ad E 14), .int x1, .ref (Ad E 34), .ref (Ad E 44)]) (rest := []) h C0 hH hl kc_X3_fill ki_X3_fill kx_X3_fill ob_60 kM_X9_171 rfl (Nat.le_of_ble_eq_true rfl) (Nat.le_of_ble_eq_true rfl) ⟨Nat.le_of_ble_eq_true rfl, Nat.le_of_ble_eq_true rfl⟩ dX9_wrong_116 rfl (fun r τ12 H locs hq hH => ?_)
      obtain ⟨rfl, h⟩ := hq
      refine lv_aload_n hx hb dX9_wrong_119 rfl (lv_at hl 0 rfl) ?_
      refine m_getr C0 hH f_0_9 60 rfl kF_X9_67 dX9_wrong_120 ?_
      refine m_geti (x := τ12 60 1) C0 hH f_60_1 kF_X9_174 dX9_wrong_123 rfl ?_
      exact hret (some (.int (τ12 60 1))) _ _ _ _ _ ⟨_, rfl, h⟩ hH ⟨dX9_wrong_126, .int, rfl, rfl⟩
    have h := h.2
    by_cases hs13 : x2 = 5
    · have h := h.1 hs13
      refine m_tin (v := 5) (tgt := 127) C0 dX9_wrong_15 hs13 (by decide) (by decide) rfl (by decide) ?_
      refine lv_aload_n hx hb dX9_wrong_127 rfl (lv_at hl 0 rfl) ?_
      refine m_getr C0 hH f_0_9 60 rfl kF_X9_67 dX9_wrong_128 ?_
      refine lv_aload_n hx hb dX9_wrong_131 rfl (lv_at hl 0 rfl) ?_
      refine m_getr C0 hH f_0_2 14 rfl kF_X9_26 dX9_wrong_132 ?_
      refine lv_iload_n hx hb dX9_wrong_135 rfl (lv_at hl 1 rfl) ?_
      refine lv_aload_n hx hb dX9_wrong_136 rfl (lv_at hl 0 rfl) ?_
      refine m_getr C0 hH f_0_4 34 rfl kF_X9_33 dX9_wrong_137 ?_
      refine lv_aload_n hx hb dX9_wrong_140 rfl (lv_at hl 0 rfl) ?_
      refine m_getr C0 hH f_0_5 44 rfl kF_X9_39 dX9_wrong_141 ?_
      refine m_cV (M2 := M_X3_fill) (As := [.ref (Ad E 14), .int x1, .ref (Ad E 34), .ref (Ad E 44)]) (rest := []) h C0 hH hl kc_X3_fill ki_X3_fill kx_X3_fill ob_60 kM_X9_171 rfl (Nat.le_of_ble_eq_true rfl) (Nat.le_of_ble_eq_true rfl) ⟨Nat.le_of_ble_eq_true rfl, Nat.le_of_ble_eq_true rfl⟩ dX9_wrong_144 rfl (fun r τ14 H locs hq hH => ?_)
      obtain ⟨rfl, h⟩ := hq
      refine lv_aload_n hx hb dX9_wrong_147 rfl (lv_at hl 0 rfl) ?_
      refine m_getr C0 hH f_0_9 60 rfl kF_X9_67 dX9_wrong_148 ?_
      refine m_cV (M2 := M_X3_bestRoom) (As := []) (rest := []) h C0 hH hl kc_X3_bestRoom ki_X3_bestRoom kx_X3_bestRoom ob_60 kM_X9_177 rfl (Nat.le_of_ble_eq_true rfl) (Nat.le_of_ble_eq_true rfl) ⟨Nat.le_of_ble_eq_true rfl, Nat.le_of_ble_eq_true rfl⟩ dX9_wrong_151 rfl (fun r τ15 H locs hq hH => ?_)
      obtain ⟨r16, rfl, h⟩ := hq
      exact hret (some (.int r16)) _ _ _ _ _ ⟨_, rfl, h⟩ hH ⟨dX9_wrong_154, .int, rfl, rfl⟩
    have h := h.2
    have h := h hs4
    have h := h hs5
    have h := h hs6
    have h := h hs7
    have h := h hs11
    have h := h hs13
    refine m_tout (tgt := 155) C0 dX9_wrong_15 (fun v h1 h2 => ?_) (by decide) ?_
    · rcases (show v = 0 ∨ v = 1 ∨ v = 2 ∨ v = 3 ∨ v = 4 ∨ v = 5 by omega) with rfl | rfl | rfl | rfl | rfl | rfl
      · exact fun q => hs4 (q.trans (by decide))
      · exact fun q => hs5 (q.trans (by decide))
      · exact fun q => hs6 (q.trans (by decide))
      · exact fun q => hs7 (q.trans (by decide))
      · exact fun q => hs11 (q.trans (by decide))
      · exact fun q => hs13 (q.trans (by decide))
    refine lv_bipush (v := (-102)) hx hb dX9_wrong_155 (by decide) ?_
    exact hret (some (.int (-102))) _ _ _ _ _ ⟨_, rfl, h⟩ hH ⟨dX9_wrong_157, .int, rfl, rfl⟩
  · have h := h.2 hc3
    refine lv_bipush (v := (-101)) hx hb dX9_wrong_11 (by decide) ?_
    exact hret (some (.int (-101))) _ _ _ _ _ ⟨_, rfl, h⟩ hH ⟨dX9_wrong_13, .int, rfl, rfl⟩

def r_X4_oneFurther_0 (E : EE) (x1 : Int32) (σ : Mm) (Q : Int32 → Mm → Prop) : Prop := Rn E M_X4_oneFurther 0 [(0, .ref (Ad E 47)), (1, .int x1)] [] σ (qi Q)
def r_X4_oneFurther_4 (E : EE) (x1 : Int32) (x2 : Int32) (x3 : Int32) (σ : Mm) (Q : Int32 → Mm → Prop) : Prop := Rn E M_X4_oneFurther 4 [(0, .ref (Ad E 47)), (1, .int x1), (2, .int x2), (3, .int x3)] [] σ (qi Q)
set_option maxRecDepth 20000 in
set_option maxHeartbeats 4000000 in
theorem s_X4_oneFurther_0 (E : EE) (x1 : Int32) (σ : Mm) (Q : Int32 → Mm → Prop) (h : r_X4_oneFurther_4 E x1 x1 0 σ Q) : r_X4_oneFurther_0 E x1 σ Q := by
  intro p e R s m args below meth c Z cells slots H locs ls C0 hH hl hret
  have hx := C0.1
  have hb : c.code = cX4_oneFurther := C0.2.1
  have hl : lv_has ls 4 [(0, .ref (Ad E 47)), (1, .int x1)] := hl
  refine lv_iload_n hx hb dX4_oneFurther_0 rfl (lv_at hl 1 rfl) ?_
  refine lv_istore_n (lv' := [(2, .int x1), (0, .ref (Ad E 47)), (1, .int x1)]) hx hb dX4_oneFurther_1 rfl hl (by decide) rfl (fun ls hl => ?_)
  refine lv_iconst (v := 0) hx hb dX4_oneFurther_2 (by decide) ?_
  refine lv_istore_n (lv' := [(3, .int 0), (2, .int x1), (0, .ref (Ad E 47)), (1, .int x1)]) hx hb dX4_oneFurther_3 rfl hl (by decide) rfl (fun ls hl => ?_)
  exact h p e R s m args below meth c Z cells slots H locs ls C0 hH (lv_sub hl [2, 3, 1, 0] rfl) hret
set_option maxRecDepth 20000 in
set_option maxHeartbeats 4000000 in
theorem s_X4_oneFurther_4 (E : EE) (x1 : Int32) (x2 : Int32) (x3 : Int32) (σ : Mm) (Q : Int32 → Mm → Prop) (h : (((σ 47 1) ≤ x3 → Q x2 σ) ∧ (¬ (σ 47 1) ≤ x3 → r_X9_hasBit_0 E x1 x3 σ (fun r3 τ2 => ((r3 = 0 → r_X4_oneFurther_4 E x1 x2 (x3 + 1) τ2 Q) ∧ (¬ r3 = 0 → (vp_in x3 6 ∧ r_X4_oneFurther_4 E x1 (x2 ||| (τ2 48 x3.toNatClampNeg)) (x3 + 1) τ2 Q))))))) : r_X4_oneFurther_4 E x1 x2 x3 σ Q := by
  intro p e R s m args below meth c Z cells slots H locs ls C0 hH hl hret
  have hx := C0.1
  have hb : c.code = cX4_oneFurther := C0.2.1
  have hl : lv_has ls 4 [(0, .ref (Ad E 47)), (1, .int x1), (2, .int x2), (3, .int x3)] := hl
  refine lv_iload_n hx hb dX4_oneFurther_4 rfl (lv_at hl 3 rfl) ?_
  refine lv_aload_n hx hb dX4_oneFurther_5 rfl (lv_at hl 0 rfl) ?_
  refine m_geti (x := σ 47 1) C0 hH f_47_1 kF_X4_15 dX4_oneFurther_6 rfl ?_
  refine lv_icmp_ge (tgt := 35) hx hb dX4_oneFurther_9 (by decide) (fun hc1 => ?_) (fun hc1 => ?_)
  · have h := h.1 hc1
    refine lv_iload_n hx hb dX4_oneFurther_35 rfl (lv_at hl 2 rfl) ?_
    exact hret (some (.int x2)) _ _ _ _ _ ⟨_, rfl, h⟩ hH ⟨dX4_oneFurther_36, .int, rfl, rfl⟩
  · have h := h.2 hc1
    refine lv_iload_n hx hb dX4_oneFurther_12 rfl (lv_at hl 1 rfl) ?_
    refine lv_iload_n hx hb dX4_oneFurther_13 rfl (lv_at hl 3 rfl) ?_
    refine m_cN (M2 := M_X9_hasBit) (As := [.int x1, .int x3]) (rest := []) h C0 hH hl kc_X9_hasBit ks_X9_hasBit kN_X4_25 rfl (Nat.le_of_ble_eq_true rfl) (Nat.le_of_ble_eq_true rfl) ⟨Nat.le_of_ble_eq_true rfl, Nat.le_of_ble_eq_true rfl⟩ dX4_oneFurther_14 rfl (fun r τ2 H locs hq hH => ?_)
    obtain ⟨r3, rfl, h⟩ := hq
    refine lv_if_eq (tgt := 29) hx hb dX4_oneFurther_17 (by decide) (fun hc4 => ?_) (fun hc4 => ?_)
    · have h := h.1 hc4
      refine lv_iinc (v := (x3 + 1)) (lv' := [(3, .int (x3 + 1)), (0, .ref (Ad E 47)), (1, .int x1), (2, .int x2)]) hx hb dX4_oneFurther_29 hl (k := 3) rfl rfl (by decide) rfl (fun ls hl => ?_)
      refine lv_goto (tgt := 4) hx hb dX4_oneFurther_32 (by decide) ?_
      exact h p e R s m args below meth c Z cells slots H locs ls C0 hH (lv_sub hl [1, 2, 3, 0] rfl) hret
    · have h := h.2 hc4
      refine lv_iload_n hx hb dX4_oneFurther_20 rfl (lv_at hl 2 rfl) ?_
      refine lv_aload_n hx hb dX4_oneFurther_21 rfl (lv_at hl 0 rfl) ?_
      refine m_getr C0 hH f_47_0 48 rfl kF_X4_9 dX4_oneFurther_22 ?_
      refine lv_iload_n hx hb dX4_oneFurther_25 rfl (lv_at hl 3 rfl) ?_
      refine m_iald (x := τ2 48 x3.toNatClampNeg) C0 hH a_48 h.1 dX4_oneFurther_26 rfl ?_
      have h := h.2
      refine lv_ior hx hb dX4_oneFurther_27 ?_
      refine lv_istore_n (lv' := [(2, .int (x2 ||| (τ2 48 x3.toNatClampNeg))), (0, .ref (Ad E 47)), (1, .int x1), (3, .int x3)]) hx hb dX4_oneFurther_28 rfl hl (by decide) rfl (fun ls hl => ?_)
      refine lv_iinc (v := (x3 + 1)) (lv' := [(3, .int (x3 + 1)), (2, .int (x2 ||| (τ2 48 x3.toNatClampNeg))), (0, .ref (Ad E 47)), (1, .int x1)]) hx hb dX4_oneFurther_29 hl (k := 3) rfl rfl (by decide) rfl (fun ls hl => ?_)
      refine lv_goto (tgt := 4) hx hb dX4_oneFurther_32 (by decide) ?_
      exact h p e R s m args below meth c Z cells slots H locs ls C0 hH (lv_sub hl [2, 3, 1, 0] rfl) hret

def r_X4_fewest_0 (E : EE) (x1 : Int32) (x2 : Int32) (σ : Mm) (Q : Int32 → Mm → Prop) : Prop := Rn E M_X4_fewest 0 [(0, .ref (Ad E 47)), (1, .int x1), (2, .int x2)] [] σ (qi Q)
def r_X4_fewest_10 (E : EE) (x1 : Int32) (x2 : Int32) (x3 : Int32) (x4 : Int32) (σ : Mm) (Q : Int32 → Mm → Prop) : Prop := Rn E M_X4_fewest 10 [(0, .ref (Ad E 47)), (1, .int x1), (2, .int x2), (3, .int x3), (4, .int x4)] [] σ (qi Q)
set_option maxRecDepth 20000 in
set_option maxHeartbeats 4000000 in
theorem s_X4_fewest_0 (E : EE) (x1 : Int32) (x2 : Int32) (σ : Mm) (Q : Int32 → Mm → Prop) (h : (vp_in x1 6 ∧ r_X4_fewest_10 E x1 x2 (σ 48 x1.toNatClampNeg) 1 σ Q)) : r_X4_fewest_0 E x1 x2 σ Q := by
  intro p e R s m args below meth c Z cells slots H locs ls C0 hH hl hret
  have hx := C0.1
  have hb : c.code = cX4_fewest := C0.2.1
  have hl : lv_has ls 5 [(0, .ref (Ad E 47)), (1, .int x1), (2, .int x2)] := hl
  refine lv_aload_n hx hb dX4_fewest_0 rfl (lv_at hl 0 rfl) ?_
  refine m_getr C0 hH f_47_0 48 rfl kF_X4_9 dX4_fewest_1 ?_
  refine lv_iload_n hx hb dX4_fewest_4 rfl (lv_at hl 1 rfl) ?_
  refine m_iald (x := σ 48 x1.toNatClampNeg) C0 hH a_48 h.1 dX4_fewest_5 rfl ?_
  have h := h.2
  refine lv_istore_n (lv' := [(3, .int (σ 48 x1.toNatClampNeg)), (0, .ref (Ad E 47)), (1, .int x1), (2, .int x2)]) hx hb dX4_fewest_6 rfl hl (by decide) rfl (fun ls hl => ?_)
  refine lv_iconst (v := 1) hx hb dX4_fewest_7 (by decide) ?_
  refine lv_istore (lv' := [(4, .int 1), (3, .int (σ 48 x1.toNatClampNeg)), (0, .ref (Ad E 47)), (1, .int x1), (2, .int x2)]) hx hb dX4_fewest_8 hl (by decide) rfl (fun ls hl => ?_)
  exact h p e R s m args below meth c Z cells slots H locs ls C0 hH (lv_sub hl [2, 3, 4, 1, 0] rfl) hret
set_option maxRecDepth 20000 in
set_option maxHeartbeats 4000000 in
theorem s_X4_fewest_10 (E : EE) (x1 : Int32) (x2 : Int32) (x3 : Int32) (x4 : Int32) (σ : Mm) (Q : Int32 → Mm → Prop) (h : (((σ 47 1) < x4 → Q (-1) σ) ∧ (¬ (σ 47 1) < x4 → r_X9_hasBit_0 E x3 x2 σ (fun r3 τ2 => ((r3 = 0 → r_X4_oneFurther_0 E x3 τ2 (fun r6 τ5 => r_X4_fewest_10 E x1 x2 r6 (x4 + 1) τ5 Q)) ∧ (¬ r3 = 0 → Q x4 τ2)))))) : r_X4_fewest_10 E x1 x2 x3 x4 σ Q := by
  intro p e R s m args below meth c Z cells slots H locs ls C0 hH hl hret
  have hx := C0.1
  have hb : c.code = cX4_fewest := C0.2.1
  have hl : lv_has ls 5 [(0, .ref (Ad E 47)), (1, .int x1), (2, .int x2), (3, .int x3), (4, .int x4)] := hl
  refine lv_iload hx hb dX4_fewest_10 (lv_at hl 4 rfl) ?_
  refine lv_aload_n hx hb dX4_fewest_12 rfl (lv_at hl 0 rfl) ?_
  refine m_geti (x := σ 47 1) C0 hH f_47_1 kF_X4_15 dX4_fewest_13 rfl ?_
  refine lv_icmp_gt (tgt := 42) hx hb dX4_fewest_16 (by decide) (fun hc1 => ?_) (fun hc1 => ?_)
  · have h := h.1 hc1
    refine lv_iconst (v := (-1)) hx hb dX4_fewest_42 (by decide) ?_
    exact hret (some (.int (-1))) _ _ _ _ _ ⟨_, rfl, h⟩ hH ⟨dX4_fewest_43, .int, rfl, rfl⟩
  · have h := h.2 hc1
    refine lv_iload_n hx hb dX4_fewest_19 rfl (lv_at hl 3 rfl) ?_
    refine lv_iload_n hx hb dX4_fewest_20 rfl (lv_at hl 2 rfl) ?_
    refine m_cN (M2 := M_X9_hasBit) (As := [.int x3, .int x2]) (rest := []) h C0 hH hl kc_X9_hasBit ks_X9_hasBit kN_X4_25 rfl (Nat.le_of_ble_eq_true rfl) (Nat.le_of_ble_eq_true rfl) ⟨Nat.le_of_ble_eq_true rfl, Nat.le_of_ble_eq_true rfl⟩ dX4_fewest_21 rfl (fun r τ2 H locs hq hH => ?_)
    obtain ⟨r3, rfl, h⟩ := hq
    refine lv_if_eq (tgt := 30) hx hb dX4_fewest_24 (by decide) (fun hc4 => ?_) (fun hc4 => ?_)
    · have h := h.1 hc4
      refine lv_aload_n hx hb dX4_fewest_30 rfl (lv_at hl 0 rfl) ?_
      refine lv_iload_n hx hb dX4_fewest_31 rfl (lv_at hl 3 rfl) ?_
      refine m_cV (M2 := M_X4_oneFurther) (As := [.int x3]) (rest := []) h C0 hH hl kc_X4_oneFurther ki_X4_oneFurther kx_X4_oneFurther ob_47 kM_X4_35 rfl (Nat.le_of_ble_eq_true rfl) (Nat.le_of_ble_eq_true rfl) ⟨Nat.le_of_ble_eq_true rfl, Nat.le_of_ble_eq_true rfl⟩ dX4_fewest_32 rfl (fun r τ5 H locs hq hH => ?_)
      obtain ⟨r6, rfl, h⟩ := hq
      refine lv_istore_n (lv' := [(3, .int r6), (0, .ref (Ad E 47)), (1, .int x1), (2, .int x2), (4, .int x4)]) hx hb dX4_fewest_35 rfl hl (by decide) rfl (fun ls hl => ?_)
      refine lv_iinc (v := (x4 + 1)) (lv' := [(4, .int (x4 + 1)), (3, .int r6), (0, .ref (Ad E 47)), (1, .int x1), (2, .int x2)]) hx hb dX4_fewest_36 hl (k := 4) rfl rfl (by decide) rfl (fun ls hl => ?_)
      refine lv_goto (tgt := 10) hx hb dX4_fewest_39 (by decide) ?_
      exact h p e R s m args below meth c Z cells slots H locs ls C0 hH (lv_sub hl [2, 3, 4, 1, 0] rfl) hret
    · have h := h.2 hc4
      refine lv_iload hx hb dX4_fewest_27 (lv_at hl 4 rfl) ?_
      exact hret (some (.int x4)) _ _ _ _ _ ⟨_, rfl, h⟩ hH ⟨dX4_fewest_29, .int, rfl, rfl⟩

def r_X9_to_0 (E : EE) (x1 : Int32) (x2 : Int32) (σ : Mm) (Q : Int32 → Mm → Prop) : Prop := Rn E M_X9_to 0 [(0, .ref (Ad E 0)), (1, .int x1), (2, .int x2)] [] σ (qi Q)
set_option maxRecDepth 20000 in
set_option maxHeartbeats 4000000 in
theorem s_X9_to_0 (E : EE) (x1 : Int32) (x2 : Int32) (σ : Mm) (Q : Int32 → Mm → Prop) (h : r_X2_hasPerson_14_0 E x1 σ (fun r2 τ1 => ((r2 = 0 → Q (-101) τ1) ∧ (¬ r2 = 0 → r_X2_hasPerson_14_0 E x2 τ1 (fun r5 τ4 => ((r5 = 0 → Q (-101) τ4) ∧ (¬ r5 = 0 → ((¬ x1 = x2 → r_X4_fill_0 E (τ4 14 3) τ4 (fun τ8 => r_X4_fewest_0 E x1 x2 τ8 (fun r10 τ9 => Q r10 τ9))) ∧ (x1 = x2 → Q (-101) τ4))))))))) : r_X9_to_0 E x1 x2 σ Q := by
  intro p e R s m args below meth c Z cells slots H locs ls C0 hH hl hret
  have hx := C0.1
  have hb : c.code = cX9_to := C0.2.1
  have hl : lv_has ls 3 [(0, .ref (Ad E 0)), (1, .int x1), (2, .int x2)] := hl
  refine lv_aload_n hx hb dX9_to_0 rfl (lv_at hl 0 rfl) ?_
  refine m_getr C0 hH f_0_2 14 rfl kF_X9_26 dX9_to_1 ?_
  refine lv_iload_n hx hb dX9_to_4 rfl (lv_at hl 1 rfl) ?_
  refine m_cV (M2 := M_X2_hasPerson) (As := [.int x1]) (rest := []) h C0 hH hl kc_X2_hasPerson ki_X2_hasPerson kx_X2_hasPerson ob_14 kM_X9_114 rfl (Nat.le_of_ble_eq_true rfl) (Nat.le_of_ble_eq_true rfl) ⟨Nat.le_of_ble_eq_true rfl, Nat.le_of_ble_eq_true rfl⟩ dX9_to_5 rfl (fun r τ1 H locs hq hH => ?_)
  obtain ⟨r2, rfl, h⟩ := hq
  refine lv_if_eq (tgt := 27) hx hb dX9_to_8 (by decide) (fun hc3 => ?_) (fun hc3 => ?_)
  · have h := h.1 hc3
    refine lv_bipush (v := (-101)) hx hb dX9_to_27 (by decide) ?_
    exact hret (some (.int (-101))) _ _ _ _ _ ⟨_, rfl, h⟩ hH ⟨dX9_to_29, .int, rfl, rfl⟩
  · have h := h.2 hc3
    refine lv_aload_n hx hb dX9_to_11 rfl (lv_at hl 0 rfl) ?_
    refine m_getr C0 hH f_0_2 14 rfl kF_X9_26 dX9_to_12 ?_
    refine lv_iload_n hx hb dX9_to_15 rfl (lv_at hl 2 rfl) ?_
    refine m_cV (M2 := M_X2_hasPerson) (As := [.int x2]) (rest := []) h C0 hH hl kc_X2_hasPerson ki_X2_hasPerson kx_X2_hasPerson ob_14 kM_X9_114 rfl (Nat.le_of_ble_eq_true rfl) (Nat.le_of_ble_eq_true rfl) ⟨Nat.le_of_ble_eq_true rfl, Nat.le_of_ble_eq_true rfl⟩ dX9_to_16 rfl (fun r τ4 H locs hq hH => ?_)
    obtain ⟨r5, rfl, h⟩ := hq
    refine lv_if_eq (tgt := 27) hx hb dX9_to_19 (by decide) (fun hc6 => ?_) (fun hc6 => ?_)
    · have h := h.1 hc6
      refine lv_bipush (v := (-101)) hx hb dX9_to_27 (by decide) ?_
      exact hret (some (.int (-101))) _ _ _ _ _ ⟨_, rfl, h⟩ hH ⟨dX9_to_29, .int, rfl, rfl⟩
    · have h := h.2 hc6
      refine lv_iload_n hx hb dX9_to_22 rfl (lv_at hl 1 rfl) ?_
      refine lv_iload_n hx hb dX9_to_23 rfl (lv_at hl 2 rfl) ?_
      refine lv_icmp_ne (tgt := 30) hx hb dX9_to_24 (by decide) (fun hc7 => ?_) (fun hc7 => ?_)
      · have h := h.1 hc7
        refine lv_aload_n hx hb dX9_to_30 rfl (lv_at hl 0 rfl) ?_
        refine m_getr C0 hH f_0_6 47 rfl kF_X9_46 dX9_to_31 ?_
        refine lv_aload_n hx hb dX9_to_34 rfl (lv_at hl 0 rfl) ?_
        refine m_getr C0 hH f_0_2 14 rfl kF_X9_26 dX9_to_35 ?_
        refine lv_aload_n hx hb dX9_to_38 rfl (lv_at hl 0 rfl) ?_
        refine m_getr C0 hH f_0_2 14 rfl kF_X9_26 dX9_to_39 ?_
        refine m_geti (x := τ4 14 3) C0 hH f_14_3 kF_X9_140 dX9_to_42 rfl ?_
        refine m_cV (M2 := M_X4_fill) (As := [.ref (Ad E 14), .int (τ4 14 3)]) (rest := []) h C0 hH hl kc_X4_fill ki_X4_fill kx_X4_fill ob_47 kM_X9_143 rfl (Nat.le_of_ble_eq_true rfl) (Nat.le_of_ble_eq_true rfl) ⟨Nat.le_of_ble_eq_true rfl, Nat.le_of_ble_eq_true rfl⟩ dX9_to_45 rfl (fun r τ8 H locs hq hH => ?_)
        obtain ⟨rfl, h⟩ := hq
        refine lv_aload_n hx hb dX9_to_48 rfl (lv_at hl 0 rfl) ?_
        refine m_getr C0 hH f_0_6 47 rfl kF_X9_46 dX9_to_49 ?_
        refine lv_iload_n hx hb dX9_to_52 rfl (lv_at hl 1 rfl) ?_
        refine lv_iload_n hx hb dX9_to_53 rfl (lv_at hl 2 rfl) ?_
        refine m_cV (M2 := M_X4_fewest) (As := [.int x1, .int x2]) (rest := []) h C0 hH hl kc_X4_fewest ki_X4_fewest kx_X4_fewest ob_47 kM_X9_180 rfl (Nat.le_of_ble_eq_true rfl) (Nat.le_of_ble_eq_true rfl) ⟨Nat.le_of_ble_eq_true rfl, Nat.le_of_ble_eq_true rfl⟩ dX9_to_54 rfl (fun r τ9 H locs hq hH => ?_)
        obtain ⟨r10, rfl, h⟩ := hq
        exact hret (some (.int r10)) _ _ _ _ _ ⟨_, rfl, h⟩ hH ⟨dX9_to_57, .int, rfl, rfl⟩
      · have h := h.2 hc7
        refine lv_bipush (v := (-101)) hx hb dX9_to_27 (by decide) ?_
        exact hret (some (.int (-101))) _ _ _ _ _ ⟨_, rfl, h⟩ hH ⟨dX9_to_29, .int, rfl, rfl⟩

def r_X2_isThere_0 (E : EE) (σ : Mm) (Q : Int32 → Mm → Prop) : Prop := Rn E M_X2_isThere 0 [(0, .ref (Ad E 14))] [] σ (qi Q)
set_option maxRecDepth 20000 in
set_option maxHeartbeats 4000000 in
theorem s_X2_isThere_0 (E : EE) (σ : Mm) (Q : Int32 → Mm → Prop) (h : (((σ 14 1) ≤ 0 → Q 0 σ) ∧ (¬ (σ 14 1) ≤ 0 → Q 1 σ))) : r_X2_isThere_0 E σ Q := by
  intro p e R s m args below meth c Z cells slots H locs ls C0 hH hl hret
  have hx := C0.1
  have hb : c.code = cX2_isThere := C0.2.1
  have hl : lv_has ls 1 [(0, .ref (Ad E 14))] := hl
  refine lv_aload_n hx hb dX2_isThere_0 rfl (lv_at hl 0 rfl) ?_
  refine m_geti (x := σ 14 1) C0 hH f_14_1 kF_X2_15 dX2_isThere_1 rfl ?_
  refine lv_if_le (tgt := 11) hx hb dX2_isThere_4 (by decide) (fun hc1 => ?_) (fun hc1 => ?_)
  · have h := h.1 hc1
    refine lv_iconst (v := 0) hx hb dX2_isThere_11 (by decide) ?_
    exact hret (some (.int 0)) _ _ _ _ _ ⟨_, rfl, h⟩ hH ⟨dX2_isThere_12, .boolean, rfl, nb (Or.inl rfl)⟩
  · have h := h.2 hc1
    refine lv_iconst (v := 1) hx hb dX2_isThere_7 (by decide) ?_
    refine lv_goto (tgt := 12) hx hb dX2_isThere_8 (by decide) ?_
    exact hret (some (.int 1)) _ _ _ _ _ ⟨_, rfl, h⟩ hH ⟨dX2_isThere_12, .boolean, rfl, nb (Or.inr rfl)⟩

def r_X9_nextWarm_0 (E : EE) (x0 : Int32) (x1 : Int32) (σ : Mm) (Q : Int32 → Mm → Prop) : Prop := Rn E M_X9_nextWarm 0 [(0, .int x0), (1, .int x1)] [] σ (qi Q)
set_option maxRecDepth 20000 in
set_option maxHeartbeats 4000000 in
theorem s_X9_nextWarm_0 (E : EE) (x0 : Int32) (x1 : Int32) (σ : Mm) (Q : Int32 → Mm → Prop) (h : ((x1 = 0 → Q (if 0 < (x0 - 1) then (x0 - 1) else 0) σ) ∧ (¬ x1 = 0 → Q (if (x0 + 2) < 20 then (x0 + 2) else 20) σ))) : r_X9_nextWarm_0 E x0 x1 σ Q := by
  intro p e R s m args below meth c Z cells slots H locs ls C0 hH hl hret
  have hx := C0.1
  have hb : c.code = cX9_nextWarm := C0.2.1
  have hl : lv_has ls 2 [(0, .int x0), (1, .int x1)] := hl
  refine lv_iload_n hx hb dX9_nextWarm_0 rfl (lv_at hl 1 rfl) ?_
  refine lv_if_eq (tgt := 15) hx hb dX9_nextWarm_1 (by decide) (fun hc1 => ?_) (fun hc1 => ?_)
  · have h := h.1 hc1
    refine lv_iconst (v := 0) hx hb dX9_nextWarm_15 (by decide) ?_
    refine lv_iload_n hx hb dX9_nextWarm_16 rfl (lv_at hl 0 rfl) ?_
    refine lv_iconst (v := 1) hx hb dX9_nextWarm_17 (by decide) ?_
    refine lv_isub hx hb dX9_nextWarm_18 ?_
    refine m_max (rest := []) C0 hl kM_X9_303 (Nat.le_of_ble_eq_true rfl) ⟨Nat.le_of_ble_eq_true rfl, Nat.le_of_ble_eq_true rfl⟩ dX9_nextWarm_19 ?_
    exact hret (some (.int (if 0 < (x0 - 1) then (x0 - 1) else 0))) _ _ _ _ _ ⟨_, rfl, h⟩ hH ⟨dX9_nextWarm_22, .int, rfl, rfl⟩
  · have h := h.2 hc1
    refine lv_bipush (v := 20) hx hb dX9_nextWarm_4 (by decide) ?_
    refine lv_iload_n hx hb dX9_nextWarm_6 rfl (lv_at hl 0 rfl) ?_
    refine lv_iconst (v := 2) hx hb dX9_nextWarm_7 (by decide) ?_
    refine lv_iadd hx hb dX9_nextWarm_8 ?_
    refine m_min (rest := []) C0 hl kM_X9_298 (Nat.le_of_ble_eq_true rfl) ⟨Nat.le_of_ble_eq_true rfl, Nat.le_of_ble_eq_true rfl⟩ dX9_nextWarm_9 ?_
    refine lv_goto (tgt := 22) hx hb dX9_nextWarm_12 (by decide) ?_
    exact hret (some (.int (if (x0 + 2) < 20 then (x0 + 2) else 20))) _ _ _ _ _ ⟨_, rfl, h⟩ hH ⟨dX9_nextWarm_22, .int, rfl, rfl⟩

def r_X2_passSunday_14_0 (E : EE) (x1 : Int32) (σ : Mm) (Q : Int32 → Mm → Prop) : Prop := Rn E M_X2_passSunday 0 [(0, .ref (Ad E 14)), (1, .int x1)] [] σ (qi Q)
def r_X2_passSunday_14_14 (E : EE) (x1 : Int32) (x2 : Int32) (x3 : Int32) (σ : Mm) (Q : Int32 → Mm → Prop) : Prop := Rn E M_X2_passSunday 14 [(0, .ref (Ad E 14)), (1, .int x1), (2, .int x2), (3, .int x3)] [] σ (qi Q)
set_option maxRecDepth 20000 in
set_option maxHeartbeats 4000000 in
theorem s_X2_passSunday_14_0 (E : EE) (x1 : Int32) (σ : Mm) (Q : Int32 → Mm → Prop) (h : r_X2_passSunday_14_14 E x1 0 0 (up σ 14 4 ((σ 14 4) + 1)) Q) : r_X2_passSunday_14_0 E x1 σ Q := by
  intro p e R s m args below meth c Z cells slots H locs ls C0 hH hl hret
  have hx := C0.1
  have hb : c.code = cX2_passSunday := C0.2.1
  have hl : lv_has ls 4 [(0, .ref (Ad E 14)), (1, .int x1)] := hl
  refine lv_iconst (v := 0) hx hb dX2_passSunday_0 (by decide) ?_
  refine lv_istore_n (lv' := [(2, .int 0), (0, .ref (Ad E 14)), (1, .int x1)]) hx hb dX2_passSunday_1 rfl hl (by decide) rfl (fun ls hl => ?_)
  refine lv_aload_n hx hb dX2_passSunday_2 rfl (lv_at hl 1 rfl) ?_
  refine lv_dup hx hb dX2_passSunday_3 rfl ?_
  refine m_geti (x := σ 14 4) C0 hH f_14_4 kF_X2_24 dX2_passSunday_4 rfl ?_
  refine lv_iconst (v := 1) hx hb dX2_passSunday_7 (by decide) ?_
  refine lv_iadd hx hb dX2_passSunday_8 ?_
  refine m_puti C0 hH f_14_4 kF_X2_24 rfl dX2_passSunday_9 rfl rfl (fun H locs hH => ?_)
  refine lv_iconst (v := 0) hx hb dX2_passSunday_12 (by decide) ?_
  refine lv_istore_n (lv' := [(3, .int 0), (2, .int 0), (0, .ref (Ad E 14)), (1, .int x1)]) hx hb dX2_passSunday_13 rfl hl (by decide) rfl (fun ls hl => ?_)
  exact h p e R s m args below meth c Z cells slots H locs ls C0 hH (lv_sub hl [2, 3, 1, 0] rfl) hret
set_option maxRecDepth 20000 in
set_option maxHeartbeats 4000000 in
theorem s_X2_passSunday_14_14 (E : EE) (x1 : Int32) (x2 : Int32) (x3 : Int32) (σ : Mm) (Q : Int32 → Mm → Prop) (h : (((σ 14 1) ≤ x3 → Q x2 σ) ∧ (¬ (σ 14 1) ≤ x3 → (vp_in x3 6 ∧ r_X9_hasBit_0 E x1 x3 σ (fun r3 τ2 => r_X9_nextWarm_0 E (σ 16 x3.toNatClampNeg) r3 τ2 (fun r5 τ4 => (vp_in x3 6 ∧ (vp_in x3 6 ∧ ((¬ r5 = 0 → r_X2_passSunday_14_14 E x1 x2 (x3 + 1) (up τ4 16 x3.toNatClampNeg r5) Q) ∧ (r5 = 0 → (vp_in x3 6 ∧ (vp_in x3 6 ∧ r_X2_passSunday_14_14 E x1 (x2 + 1) (x3 + 1) (up (up τ4 16 x3.toNatClampNeg r5) 17 x3.toNatClampNeg ((τ4 17 x3.toNatClampNeg) + 1)) Q)))))))))))) : r_X2_passSunday_14_14 E x1 x2 x3 σ Q := by
  intro p e R s m args below meth c Z cells slots H locs ls C0 hH hl hret
  have hx := C0.1
  have hb : c.code = cX2_passSunday := C0.2.1
  have hl : lv_has ls 4 [(0, .ref (Ad E 14)), (1, .int x1), (2, .int x2), (3, .int x3)] := hl
  refine lv_iload_n hx hb dX2_passSunday_14 rfl (lv_at hl 3 rfl) ?_
  refine lv_aload_n hx hb dX2_passSunday_15 rfl (lv_at hl 0 rfl) ?_
  refine m_geti (x := σ 14 1) C0 hH f_14_1 kF_X2_15 dX2_passSunday_16 rfl ?_
  refine lv_icmp_ge (tgt := 70) hx hb dX2_passSunday_19 (by decide) (fun hc1 => ?_) (fun hc1 => ?_)
  · have h := h.1 hc1
    refine lv_iload_n hx hb dX2_passSunday_70 rfl (lv_at hl 2 rfl) ?_
    exact hret (some (.int x2)) _ _ _ _ _ ⟨_, rfl, h⟩ hH ⟨dX2_passSunday_71, .int, rfl, rfl⟩
  · have h := h.2 hc1
    refine lv_aload_n hx hb dX2_passSunday_22 rfl (lv_at hl 0 rfl) ?_
    refine m_getr C0 hH f_14_7 16 rfl kF_X2_34 dX2_passSunday_23 ?_
    refine lv_iload_n hx hb dX2_passSunday_26 rfl (lv_at hl 3 rfl) ?_
    refine lv_aload_n hx hb dX2_passSunday_27 rfl (lv_at hl 0 rfl) ?_
    refine m_getr C0 hH f_14_7 16 rfl kF_X2_34 dX2_passSunday_28 ?_
    refine lv_iload_n hx hb dX2_passSunday_31 rfl (lv_at hl 3 rfl) ?_
    refine m_iald (x := σ 16 x3.toNatClampNeg) C0 hH a_16 h.1 dX2_passSunday_32 rfl ?_
    have h := h.2
    refine lv_iload_n hx hb dX2_passSunday_33 rfl (lv_at hl 1 rfl) ?_
    refine lv_iload_n hx hb dX2_passSunday_34 rfl (lv_at hl 3 rfl) ?_
    refine m_cN (M2 := M_X9_hasBit) (As := [.int x1, .int x3]) (rest := [.int (σ 16 x3.toNatClampNeg), .int x3, .ref (Ad E 16)]) h C0 hH hl kc_X9_hasBit ks_X9_hasBit kN_X2_59 rfl (Nat.le_of_ble_eq_true rfl) (Nat.le_of_ble_eq_true rfl) ⟨Nat.le_of_ble_eq_true rfl, Nat.le_of_ble_eq_true rfl⟩ dX2_passSunday_35 rfl (fun r τ2 H locs hq hH => ?_)
    obtain ⟨r3, rfl, h⟩ := hq
    refine m_cN (M2 := M_X9_nextWarm) (As := [.int (σ 16 x3.toNatClampNeg), .int r3]) (rest := [.int x3, .ref (Ad E 16)]) h C0 hH hl kc_X9_nextWarm ks_X9_nextWarm kN_X2_63 rfl (Nat.le_of_ble_eq_true rfl) (Nat.le_of_ble_eq_true rfl) ⟨Nat.le_of_ble_eq_true rfl, Nat.le_of_ble_eq_true rfl⟩ dX2_passSunday_38 rfl (fun r τ4 H locs hq hH => ?_)
    obtain ⟨r5, rfl, h⟩ := hq
    refine m_iast (j := x3.toNatClampNeg) C0 hH a_16 h.1 rfl dX2_passSunday_41 (fun H locs hH => ?_)
    have h := h.2
    refine lv_aload_n hx hb dX2_passSunday_42 rfl (lv_at hl 0 rfl) ?_
    refine m_getr C0 hH f_14_7 16 rfl kF_X2_34 dX2_passSunday_43 ?_
    refine lv_iload_n hx hb dX2_passSunday_46 rfl (lv_at hl 3 rfl) ?_
    refine m_iald (x := r5) C0 hH a_16 h.1 dX2_passSunday_47 up_rd ?_
    have h := h.2
    refine lv_if_ne (tgt := 64) hx hb dX2_passSunday_48 (by decide) (fun hc6 => ?_) (fun hc6 => ?_)
    · have h := h.1 hc6
      refine lv_iinc (v := (x3 + 1)) (lv' := [(3, .int (x3 + 1)), (0, .ref (Ad E 14)), (1, .int x1), (2, .int x2)]) hx hb dX2_passSunday_64 hl (k := 3) rfl rfl (by decide) rfl (fun ls hl => ?_)
      refine lv_goto (tgt := 14) hx hb dX2_passSunday_67 (by decide) ?_
      exact h p e R s m args below meth c Z cells slots H locs ls C0 hH (lv_sub hl [1, 2, 3, 0] rfl) hret
    · have h := h.2 hc6
      refine lv_aload_n hx hb dX2_passSunday_51 rfl (lv_at hl 0 rfl) ?_
      refine m_getr C0 hH f_14_8 17 rfl kF_X2_37 dX2_passSunday_52 ?_
      refine lv_iload_n hx hb dX2_passSunday_55 rfl (lv_at hl 3 rfl) ?_
      refine lv_dup2_11 hx hb dX2_passSunday_56 rfl rfl ?_
      refine m_iald (x := τ4 17 x3.toNatClampNeg) C0 hH a_17 h.1 dX2_passSunday_57 rfl ?_
      have h := h.2
      refine lv_iconst (v := 1) hx hb dX2_passSunday_58 (by decide) ?_
      refine lv_iadd hx hb dX2_passSunday_59 ?_
      refine m_iast (j := x3.toNatClampNeg) C0 hH a_17 h.1 rfl dX2_passSunday_60 (fun H locs hH => ?_)
      have h := h.2
      refine lv_iinc (v := (x2 + 1)) (lv' := [(2, .int (x2 + 1)), (0, .ref (Ad E 14)), (1, .int x1), (3, .int x3)]) hx hb dX2_passSunday_61 hl (k := 2) rfl rfl (by decide) rfl (fun ls hl => ?_)
      refine lv_iinc (v := (x3 + 1)) (lv' := [(3, .int (x3 + 1)), (2, .int (x2 + 1)), (0, .ref (Ad E 14)), (1, .int x1)]) hx hb dX2_passSunday_64 hl (k := 3) rfl rfl (by decide) rfl (fun ls hl => ?_)
      refine lv_goto (tgt := 14) hx hb dX2_passSunday_67 (by decide) ?_
      exact h p e R s m args below meth c Z cells slots H locs ls C0 hH (lv_sub hl [2, 3, 1, 0] rfl) hret

def r_X9_sunday_0 (E : EE) (σ : Mm) (Q : Int32 → Mm → Prop) : Prop := Rn E M_X9_sunday 0 [(0, .ref (Ad E 0))] [] σ (qi Q)
set_option maxRecDepth 20000 in
set_option maxHeartbeats 4000000 in
theorem s_X9_sunday_0 (E : EE) (σ : Mm) (Q : Int32 → Mm → Prop) (h : r_X2_isThere_0 E  σ (fun r2 τ1 => ((¬ r2 = 0 → (((τ1 14 4) < 999 → r_X9_sittersNow_0 E  τ1 (fun r6 τ5 => r_X2_passSunday_14_0 E r6 τ5 (fun r8 τ7 => Q r8 τ7))) ∧ (¬ (τ1 14 4) < 999 → Q (-104) τ1))) ∧ (r2 = 0 → Q (-103) τ1)))) : r_X9_sunday_0 E σ Q := by
  intro p e R s m args below meth c Z cells slots H locs ls C0 hH hl hret
  have hx := C0.1
  have hb : c.code = cX9_sunday := C0.2.1
  have hl : lv_has ls 1 [(0, .ref (Ad E 0))] := hl
  refine lv_aload_n hx hb dX9_sunday_0 rfl (lv_at hl 0 rfl) ?_
  refine m_getr C0 hH f_0_2 14 rfl kF_X9_26 dX9_sunday_1 ?_
  refine m_cV (M2 := M_X2_isThere) (As := []) (rest := []) h C0 hH hl kc_X2_isThere ki_X2_isThere kx_X2_isThere ob_14 kM_X9_184 rfl (Nat.le_of_ble_eq_true rfl) (Nat.le_of_ble_eq_true rfl) ⟨Nat.le_of_ble_eq_true rfl, Nat.le_of_ble_eq_true rfl⟩ dX9_sunday_4 rfl (fun r τ1 H locs hq hH => ?_)
  obtain ⟨r2, rfl, h⟩ := hq
  refine lv_if_ne (tgt := 13) hx hb dX9_sunday_7 (by decide) (fun hc3 => ?_) (fun hc3 => ?_)
  · have h := h.1 hc3
    refine lv_aload_n hx hb dX9_sunday_13 rfl (lv_at hl 0 rfl) ?_
    refine m_getr C0 hH f_0_2 14 rfl kF_X9_26 dX9_sunday_14 ?_
    refine m_geti (x := τ1 14 4) C0 hH f_14_4 kF_X9_187 dX9_sunday_17 rfl ?_
    refine lv_sipush (v := 999) hx hb dX9_sunday_20 (by decide) ?_
    refine lv_icmp_lt (tgt := 29) hx hb dX9_sunday_23 (by decide) (fun hc4 => ?_) (fun hc4 => ?_)
    · have h := h.1 hc4
      refine lv_aload_n hx hb dX9_sunday_29 rfl (lv_at hl 0 rfl) ?_
      refine m_getr C0 hH f_0_2 14 rfl kF_X9_26 dX9_sunday_30 ?_
      refine lv_aload_n hx hb dX9_sunday_33 rfl (lv_at hl 0 rfl) ?_
      refine m_cV (M2 := M_X9_sittersNow) (As := []) (rest := [.ref (Ad E 14)]) h C0 hH hl kc_X9_sittersNow ki_X9_sittersNow kx_X9_sittersNow ob_0 kM_X9_129 rfl (Nat.le_of_ble_eq_true rfl) (Nat.le_of_ble_eq_true rfl) ⟨Nat.le_of_ble_eq_true rfl, Nat.le_of_ble_eq_true rfl⟩ dX9_sunday_34 rfl (fun r τ5 H locs hq hH => ?_)
      obtain ⟨r6, rfl, h⟩ := hq
      refine m_cV (M2 := M_X2_passSunday) (As := [.int r6]) (rest := []) h C0 hH hl kc_X2_passSunday ki_X2_passSunday kx_X2_passSunday ob_14 kM_X9_190 rfl (Nat.le_of_ble_eq_true rfl) (Nat.le_of_ble_eq_true rfl) ⟨Nat.le_of_ble_eq_true rfl, Nat.le_of_ble_eq_true rfl⟩ dX9_sunday_37 rfl (fun r τ7 H locs hq hH => ?_)
      obtain ⟨r8, rfl, h⟩ := hq
      exact hret (some (.int r8)) _ _ _ _ _ ⟨_, rfl, h⟩ hH ⟨dX9_sunday_40, .int, rfl, rfl⟩
    · have h := h.2 hc4
      refine lv_bipush (v := (-104)) hx hb dX9_sunday_26 (by decide) ?_
      exact hret (some (.int (-104))) _ _ _ _ _ ⟨_, rfl, h⟩ hH ⟨dX9_sunday_28, .int, rfl, rfl⟩
  · have h := h.2 hc3
    refine lv_bipush (v := (-103)) hx hb dX9_sunday_10 (by decide) ?_
    exact hret (some (.int (-103))) _ _ _ _ _ ⟨_, rfl, h⟩ hH ⟨dX9_sunday_12, .int, rfl, rfl⟩

def r_X9_forgive_0 (E : EE) (x1 : Int32) (σ : Mm) (Q : Int32 → Mm → Prop) : Prop := Rn E M_X9_forgive 0 [(0, .ref (Ad E 0)), (1, .int x1)] [] σ (qi Q)
set_option maxRecDepth 20000 in
set_option maxHeartbeats 4000000 in
theorem s_X9_forgive_0 (E : EE) (x1 : Int32) (σ : Mm) (Q : Int32 → Mm → Prop) (h : r_X2_hasWrong_0 E x1 σ (fun r2 τ1 => ((¬ r2 = 0 → r_X2_isForgiven_0 E x1 τ1 (fun r5 τ4 => ((r5 = 0 → (vp_in x1 8 ∧ r_X9_guiltOf_0 E (τ4 18 x1.toNatClampNeg) (up τ4 14 3 ((τ4 14 3) ||| (1 <<< (x1 &&& 31)))) (fun r8 τ7 => Q r8 τ7))) ∧ (¬ r5 = 0 → Q (-103) τ4)))) ∧ (r2 = 0 → Q (-101) τ1)))) : r_X9_forgive_0 E x1 σ Q := by
  intro p e R s m args below meth c Z cells slots H locs ls C0 hH hl hret
  have hx := C0.1
  have hb : c.code = cX9_forgive := C0.2.1
  have hl : lv_has ls 2 [(0, .ref (Ad E 0)), (1, .int x1)] := hl
  refine lv_aload_n hx hb dX9_forgive_0 rfl (lv_at hl 0 rfl) ?_
  refine m_getr C0 hH f_0_2 14 rfl kF_X9_26 dX9_forgive_1 ?_
  refine lv_iload_n hx hb dX9_forgive_4 rfl (lv_at hl 1 rfl) ?_
  refine m_cV (M2 := M_X2_hasWrong) (As := [.int x1]) (rest := []) h C0 hH hl kc_X2_hasWrong ki_X2_hasWrong kx_X2_hasWrong ob_14 kM_X9_156 rfl (Nat.le_of_ble_eq_true rfl) (Nat.le_of_ble_eq_true rfl) ⟨Nat.le_of_ble_eq_true rfl, Nat.le_of_ble_eq_true rfl⟩ dX9_forgive_5 rfl (fun r τ1 H locs hq hH => ?_)
  obtain ⟨r2, rfl, h⟩ := hq
  refine lv_if_ne (tgt := 14) hx hb dX9_forgive_8 (by decide) (fun hc3 => ?_) (fun hc3 => ?_)
  · have h := h.1 hc3
    refine lv_aload_n hx hb dX9_forgive_14 rfl (lv_at hl 0 rfl) ?_
    refine m_getr C0 hH f_0_2 14 rfl kF_X9_26 dX9_forgive_15 ?_
    refine lv_iload_n hx hb dX9_forgive_18 rfl (lv_at hl 1 rfl) ?_
    refine m_cV (M2 := M_X2_isForgiven) (As := [.int x1]) (rest := []) h C0 hH hl kc_X2_isForgiven ki_X2_isForgiven kx_X2_isForgiven ob_14 kM_X9_168 rfl (Nat.le_of_ble_eq_true rfl) (Nat.le_of_ble_eq_true rfl) ⟨Nat.le_of_ble_eq_true rfl, Nat.le_of_ble_eq_true rfl⟩ dX9_forgive_19 rfl (fun r τ4 H locs hq hH => ?_)
    obtain ⟨r5, rfl, h⟩ := hq
    refine lv_if_eq (tgt := 28) hx hb dX9_forgive_22 (by decide) (fun hc6 => ?_) (fun hc6 => ?_)
    · have h := h.1 hc6
      refine lv_aload_n hx hb dX9_forgive_28 rfl (lv_at hl 0 rfl) ?_
      refine m_getr C0 hH f_0_2 14 rfl kF_X9_26 dX9_forgive_29 ?_
      refine lv_dup hx hb dX9_forgive_32 rfl ?_
      refine m_geti (x := τ4 14 3) C0 hH f_14_3 kF_X9_140 dX9_forgive_33 rfl ?_
      refine lv_iconst (v := 1) hx hb dX9_forgive_36 (by decide) ?_
      refine lv_iload_n hx hb dX9_forgive_37 rfl (lv_at hl 1 rfl) ?_
      refine lv_ishl hx hb dX9_forgive_38 ?_
      refine lv_ior hx hb dX9_forgive_39 ?_
      refine m_puti C0 hH f_14_3 kF_X9_140 rfl dX9_forgive_40 rfl rfl (fun H locs hH => ?_)
      refine lv_aload_n hx hb dX9_forgive_43 rfl (lv_at hl 0 rfl) ?_
      refine lv_aload_n hx hb dX9_forgive_44 rfl (lv_at hl 0 rfl) ?_
      refine m_getr C0 hH f_0_2 14 rfl kF_X9_26 dX9_forgive_45 ?_
      refine m_getr C0 hH f_14_9 18 rfl kF_X9_159 dX9_forgive_48 ?_
      refine lv_iload_n hx hb dX9_forgive_51 rfl (lv_at hl 1 rfl) ?_
      refine m_iald (x := τ4 18 x1.toNatClampNeg) C0 hH a_18 h.1 dX9_forgive_52 rfl ?_
      have h := h.2
      refine m_cV (M2 := M_X9_guiltOf) (As := [.int (τ4 18 x1.toNatClampNeg)]) (rest := []) h C0 hH hl kc_X9_guiltOf ki_X9_guiltOf kx_X9_guiltOf ob_0 kM_X9_125 rfl (Nat.le_of_ble_eq_true rfl) (Nat.le_of_ble_eq_true rfl) ⟨Nat.le_of_ble_eq_true rfl, Nat.le_of_ble_eq_true rfl⟩ dX9_forgive_53 rfl (fun r τ7 H locs hq hH => ?_)
      obtain ⟨r8, rfl, h⟩ := hq
      exact hret (some (.int r8)) _ _ _ _ _ ⟨_, rfl, h⟩ hH ⟨dX9_forgive_56, .int, rfl, rfl⟩
    · have h := h.2 hc6
      refine lv_bipush (v := (-103)) hx hb dX9_forgive_25 (by decide) ?_
      exact hret (some (.int (-103))) _ _ _ _ _ ⟨_, rfl, h⟩ hH ⟨dX9_forgive_27, .int, rfl, rfl⟩
  · have h := h.2 hc3
    refine lv_bipush (v := (-101)) hx hb dX9_forgive_11 (by decide) ?_
    exact hret (some (.int (-101))) _ _ _ _ _ ⟨_, rfl, h⟩ hH ⟨dX9_forgive_13, .int, rfl, rfl⟩
