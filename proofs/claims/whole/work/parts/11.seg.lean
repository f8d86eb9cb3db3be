def r_X6_add_0 (E : EE) (x1 : Int32) (σ : Mm) (Q : Mm → Prop) : Prop := Rn E M_X6_add 0 [(0, .ref (Ad E 1)), (1, .int x1)] [] σ (qv Q)
set_option maxRecDepth 20000 in
set_option maxHeartbeats 4000000 in
theorem s_X6_add_0 (E : EE) (x1 : Int32) (σ : Mm) (Q : Mm → Prop) (h : ((54 ≤ (σ 1 1) → Q σ) ∧ (¬ 54 ≤ (σ 1 1) → (vp_in (σ 1 1) 54 ∧ Q (up (up σ 2 ((σ 1 1).toNatClampNeg) x1) 1 1 ((σ 1 1) + 1)))))) : r_X6_add_0 E x1 σ Q := by
  intro p e R s m args below meth c Z cells slots H locs ls C0 hH hl hret
  have hx := C0.1
  have hb : c.code = cX6_add := C0.2.1
  have hl : lv_has ls 2 [(0, .ref (Ad E 1)), (1, .int x1)] := hl
  refine lv_aload_n hx hb dX6_add_0 rfl (lv_at hl 0 rfl) ?_
  refine m_geti (x := σ 1 1) C0 hH f_1_1 kF_X6_15 dX6_add_1 rfl ?_
  refine lv_aload_n hx hb dX6_add_4 rfl (lv_at hl 0 rfl) ?_
  refine m_getr C0 hH f_1_0 2 rfl kF_X6_9 dX6_add_5 ?_
  refine m_alen (x := 54) C0 hH a_2 dX6_add_8 (by decide) ?_
  refine lv_icmp_ge (tgt := 32) hx hb dX6_add_9 (by decide) (fun hc1 => ?_) (fun hc1 => ?_)
  · have h := h.1 hc1
    exact hret none _ _ _ _ _ ⟨rfl, h⟩ hH ⟨dX6_add_32, rfl⟩
  · have h := h.2 hc1
    refine lv_aload_n hx hb dX6_add_12 rfl (lv_at hl 0 rfl) ?_
    refine m_getr C0 hH f_1_0 2 rfl kF_X6_9 dX6_add_13 ?_
    refine lv_aload_n hx hb dX6_add_16 rfl (lv_at hl 0 rfl) ?_
    refine m_geti (x := σ 1 1) C0 hH f_1_1 kF_X6_15 dX6_add_17 rfl ?_
    refine lv_iload_n hx hb dX6_add_20 rfl (lv_at hl 1 rfl) ?_
    refine m_iast (j := (σ 1 1).toNatClampNeg) C0 hH a_2 h.1 rfl dX6_add_21 (fun H locs hH => ?_)
    have h := h.2
    refine lv_aload_n hx hb dX6_add_22 rfl (lv_at hl 0 rfl) ?_
    refine lv_dup hx hb dX6_add_23 rfl ?_
    refine m_geti (x := σ 1 1) C0 hH f_1_1 kF_X6_15 dX6_add_24 rfl ?_
    refine lv_iconst (v := 1) hx hb dX6_add_27 (by decide) ?_
    refine lv_iadd hx hb dX6_add_28 ?_
    refine m_puti C0 hH f_1_1 kF_X6_15 rfl dX6_add_29 rfl rfl (fun H locs hH => ?_)
    exact hret none _ _ _ _ _ ⟨rfl, h⟩ hH ⟨dX6_add_32, rfl⟩

def r_X9_letter_0 (E : EE) (x1 : Int32) (σ : Mm) (Q : Int32 → Mm → Prop) : Prop := Rn E M_X9_letter 0 [(0, .ref (Ad E 0)), (1, .int x1)] [] σ (qi Q)
set_option maxRecDepth 20000 in
set_option maxHeartbeats 4000000 in
theorem s_X9_letter_0 (E : EE) (x1 : Int32) (σ : Mm) (Q : Int32 → Mm → Prop) (h : ((x1 < 1 → Q (-102) σ) ∧ (¬ x1 < 1 → ((x1 ≤ 126 → (((σ 1 1) < 54 → r_X6_add_0 E x1 σ (fun τ4 => Q (τ4 1 1) τ4)) ∧ (¬ (σ 1 1) < 54 → Q (-104) σ))) ∧ (¬ x1 ≤ 126 → Q (-102) σ))))) : r_X9_letter_0 E x1 σ Q := by
  intro p e R s m args below meth c Z cells slots H locs ls C0 hH hl hret
  have hx := C0.1
  have hb : c.code = cX9_letter := C0.2.1
  have hl : lv_has ls 2 [(0, .ref (Ad E 0)), (1, .int x1)] := hl
  refine lv_iload_n hx hb dX9_letter_0 rfl (lv_at hl 1 rfl) ?_
  refine lv_iconst (v := 1) hx hb dX9_letter_1 (by decide) ?_
  refine lv_icmp_lt (tgt := 11) hx hb dX9_letter_2 (by decide) (fun hc1 => ?_) (fun hc1 => ?_)
  · have h := h.1 hc1
    refine lv_bipush (v := (-102)) hx hb dX9_letter_11 (by decide) ?_
    exact hret (some (.int (-102))) _ _ _ _ _ ⟨_, rfl, h⟩ hH ⟨dX9_letter_13, .int, rfl, rfl⟩
  · have h := h.2 hc1
    refine lv_iload_n hx hb dX9_letter_5 rfl (lv_at hl 1 rfl) ?_
    refine lv_bipush (v := 126) hx hb dX9_letter_6 (by decide) ?_
    refine lv_icmp_le (tgt := 14) hx hb dX9_letter_8 (by decide) (fun hc2 => ?_) (fun hc2 => ?_)
    · have h := h.1 hc2
      refine lv_aload_n hx hb dX9_letter_14 rfl (lv_at hl 0 rfl) ?_
      refine m_getr C0 hH f_0_0 1 rfl kF_X9_10 dX9_letter_15 ?_
      refine m_geti (x := σ 1 1) C0 hH f_1_1 kF_X9_89 dX9_letter_18 rfl ?_
      refine lv_bipush (v := 54) hx hb dX9_letter_21 (by decide) ?_
      refine lv_icmp_lt (tgt := 29) hx hb dX9_letter_23 (by decide) (fun hc3 => ?_) (fun hc3 => ?_)
      · have h := h.1 hc3
        refine lv_aload_n hx hb dX9_letter_29 rfl (lv_at hl 0 rfl) ?_
        refine m_getr C0 hH f_0_0 1 rfl kF_X9_10 dX9_letter_30 ?_
        refine lv_iload_n hx hb dX9_letter_33 rfl (lv_at hl 1 rfl) ?_
        refine m_cV (M2 := M_X6_add) (As := [.int x1]) (rest := []) h C0 hH hl kc_X6_add ki_X6_add kx_X6_add ob_1 kM_X9_92 rfl (Nat.le_of_ble_eq_true rfl) (Nat.le_of_ble_eq_true rfl) ⟨Nat.le_of_ble_eq_true rfl, Nat.le_of_ble_eq_true rfl⟩ dX9_letter_34 rfl (fun r τ4 H locs hq hH => ?_)
        obtain ⟨rfl, h⟩ := hq
        refine lv_aload_n hx hb dX9_letter_37 rfl (lv_at hl 0 rfl) ?_
        refine m_getr C0 hH f_0_0 1 rfl kF_X9_10 dX9_letter_38 ?_
        refine m_geti (x := τ4 1 1) C0 hH f_1_1 kF_X9_89 dX9_letter_41 rfl ?_
        exact hret (some (.int (τ4 1 1))) _ _ _ _ _ ⟨_, rfl, h⟩ hH ⟨dX9_letter_44, .int, rfl, rfl⟩
      · have h := h.2 hc3
        refine lv_bipush (v := (-104)) hx hb dX9_letter_26 (by decide) ?_
        exact hret (some (.int (-104))) _ _ _ _ _ ⟨_, rfl, h⟩ hH ⟨dX9_letter_28, .int, rfl, rfl⟩
    · have h := h.2 hc2
      refine lv_bipush (v := (-102)) hx hb dX9_letter_11 (by decide) ?_
      exact hret (some (.int (-102))) _ _ _ _ _ ⟨_, rfl, h⟩ hH ⟨dX9_letter_13, .int, rfl, rfl⟩

def r_X9_blank_0 (E : EE) (σ : Mm) (Q : Int32 → Mm → Prop) : Prop := Rn E M_X9_blank 0 [(0, .ref (Ad E 0))] [] σ (qi Q)
set_option maxRecDepth 20000 in
set_option maxHeartbeats 4000000 in
theorem s_X9_blank_0 (E : EE) (σ : Mm) (Q : Int32 → Mm → Prop) (h : Q (σ 1 1) (up σ 1 1 0)) : r_X9_blank_0 E σ Q := by
  intro p e R s m args below meth c Z cells slots H locs ls C0 hH hl hret
  have hx := C0.1
  have hb : c.code = cX9_blank := C0.2.1
  have hl : lv_has ls 2 [(0, .ref (Ad E 0))] := hl
  refine lv_aload_n hx hb dX9_blank_0 rfl (lv_at hl 0 rfl) ?_
  refine m_getr C0 hH f_0_0 1 rfl kF_X9_10 dX9_blank_1 ?_
  refine m_geti (x := σ 1 1) C0 hH f_1_1 kF_X9_89 dX9_blank_4 rfl ?_
  refine lv_istore_n (lv' := [(1, .int (σ 1 1)), (0, .ref (Ad E 0))]) hx hb dX9_blank_7 rfl hl (by decide) rfl (fun ls hl => ?_)
  refine lv_aload_n hx hb dX9_blank_8 rfl (lv_at hl 1 rfl) ?_
  refine m_getr C0 hH f_0_0 1 rfl kF_X9_10 dX9_blank_9 ?_
  refine lv_iconst (v := 0) hx hb dX9_blank_12 (by decide) ?_
  refine m_puti C0 hH f_1_1 kF_X9_89 rfl dX9_blank_13 rfl rfl (fun H locs hH => ?_)
  refine lv_iload_n hx hb dX9_blank_16 rfl (lv_at hl 0 rfl) ?_
  exact hret (some (.int (σ 1 1))) _ _ _ _ _ ⟨_, rfl, h⟩ hH ⟨dX9_blank_17, .int, rfl, rfl⟩

def r_X2_clear_0 (E : EE) (σ : Mm) (Q : Mm → Prop) : Prop := Rn E M_X2_clear 0 [(0, .ref (Ad E 4))] [] σ (qv Q)
set_option maxRecDepth 20000 in
set_option maxHeartbeats 4000000 in
theorem s_X2_clear_0 (E : EE) (σ : Mm) (Q : Mm → Prop) (h : Q (up (up (up (up (up (up σ 4 0 0) 4 1 0) 4 2 0) 4 3 0) 4 4 0) 4 5 0)) : r_X2_clear_0 E σ Q := by
  intro p e R s m args below meth c Z cells slots H locs ls C0 hH hl hret
  have hx := C0.1
  have hb : c.code = cX2_clear := C0.2.1
  have hl : lv_has ls 1 [(0, .ref (Ad E 4))] := hl
  refine lv_aload_n hx hb dX2_clear_0 rfl (lv_at hl 0 rfl) ?_
  refine lv_iconst (v := 0) hx hb dX2_clear_1 (by decide) ?_
  refine m_puti C0 hH f_4_0 kF_X2_9 rfl dX2_clear_2 rfl rfl (fun H locs hH => ?_)
  refine lv_aload_n hx hb dX2_clear_5 rfl (lv_at hl 0 rfl) ?_
  refine lv_iconst (v := 0) hx hb dX2_clear_6 (by decide) ?_
  refine m_puti C0 hH f_4_1 kF_X2_15 rfl dX2_clear_7 rfl rfl (fun H locs hH => ?_)
  refine lv_aload_n hx hb dX2_clear_10 rfl (lv_at hl 0 rfl) ?_
  refine lv_iconst (v := 0) hx hb dX2_clear_11 (by decide) ?_
  refine m_puti C0 hH f_4_2 kF_X2_18 rfl dX2_clear_12 rfl rfl (fun H locs hH => ?_)
  refine lv_aload_n hx hb dX2_clear_15 rfl (lv_at hl 0 rfl) ?_
  refine lv_iconst (v := 0) hx hb dX2_clear_16 (by decide) ?_
  refine m_puti C0 hH f_4_3 kF_X2_21 rfl dX2_clear_17 rfl rfl (fun H locs hH => ?_)
  refine lv_aload_n hx hb dX2_clear_20 rfl (lv_at hl 0 rfl) ?_
  refine lv_iconst (v := 0) hx hb dX2_clear_21 (by decide) ?_
  refine m_puti C0 hH f_4_4 kF_X2_24 rfl dX2_clear_22 rfl rfl (fun H locs hH => ?_)
  refine lv_aload_n hx hb dX2_clear_25 rfl (lv_at hl 0 rfl) ?_
  refine lv_iconst (v := 0) hx hb dX2_clear_26 (by decide) ?_
  refine m_puti C0 hH f_4_5 kF_X2_27 rfl dX2_clear_27 rfl rfl (fun H locs hH => ?_)
  exact hret none _ _ _ _ _ ⟨rfl, h⟩ hH ⟨dX2_clear_30, rfl⟩

def r_X9_digitOf_0 (E : EE) (x0 : Int32) (σ : Mm) (Q : Int32 → Mm → Prop) : Prop := Rn E M_X9_digitOf 0 [(0, .int x0)] [] σ (qi Q)
set_option maxRecDepth 20000 in
set_option maxHeartbeats 4000000 in
theorem s_X9_digitOf_0 (E : EE) (x0 : Int32) (σ : Mm) (Q : Int32 → Mm → Prop) (h : ((x0 < 48 → Q (-1) σ) ∧ (¬ x0 < 48 → ((57 < x0 → Q (-1) σ) ∧ (¬ 57 < x0 → Q (x0 - 48) σ))))) : r_X9_digitOf_0 E x0 σ Q := by
  intro p e R s m args below meth c Z cells slots H locs ls C0 hH hl hret
  have hx := C0.1
  have hb : c.code = cX9_digitOf := C0.2.1
  have hl : lv_has ls 1 [(0, .int x0)] := hl
  refine lv_iload_n hx hb dX9_digitOf_0 rfl (lv_at hl 0 rfl) ?_
  refine lv_bipush (v := 48) hx hb dX9_digitOf_1 (by decide) ?_
  refine lv_icmp_lt (tgt := 19) hx hb dX9_digitOf_3 (by decide) (fun hc1 => ?_) (fun hc1 => ?_)
  · have h := h.1 hc1
    refine lv_iconst (v := (-1)) hx hb dX9_digitOf_19 (by decide) ?_
    exact hret (some (.int (-1))) _ _ _ _ _ ⟨_, rfl, h⟩ hH ⟨dX9_digitOf_20, .int, rfl, rfl⟩
  · have h := h.2 hc1
    refine lv_iload_n hx hb dX9_digitOf_6 rfl (lv_at hl 0 rfl) ?_
    refine lv_bipush (v := 57) hx hb dX9_digitOf_7 (by decide) ?_
    refine lv_icmp_gt (tgt := 19) hx hb dX9_digitOf_9 (by decide) (fun hc2 => ?_) (fun hc2 => ?_)
    · have h := h.1 hc2
      refine lv_iconst (v := (-1)) hx hb dX9_digitOf_19 (by decide) ?_
      exact hret (some (.int (-1))) _ _ _ _ _ ⟨_, rfl, h⟩ hH ⟨dX9_digitOf_20, .int, rfl, rfl⟩
    · have h := h.2 hc2
      refine lv_iload_n hx hb dX9_digitOf_12 rfl (lv_at hl 0 rfl) ?_
      refine lv_bipush (v := 48) hx hb dX9_digitOf_13 (by decide) ?_
      refine lv_isub hx hb dX9_digitOf_15 ?_
      refine lv_goto (tgt := 20) hx hb dX9_digitOf_16 (by decide) ?_
      exact hret (some (.int (x0 - 48))) _ _ _ _ _ ⟨_, rfl, h⟩ hH ⟨dX9_digitOf_20, .int, rfl, rfl⟩

def r_X7_goesOn_0 (E : EE) (x1 : Int32) (x2 : Int32) (σ : Mm) (Q : Int32 → Mm → Prop) : Prop := Rn E M_X7_goesOn 0 [(0, .ref (Ad E 3)), (1, .int x1), (2, .int x2)] [] σ (qi Q)
set_option maxRecDepth 20000 in
set_option maxHeartbeats 4000000 in
theorem s_X7_goesOn_0 (E : EE) (x1 : Int32) (x2 : Int32) (σ : Mm) (Q : Int32 → Mm → Prop) (h : ((x1 = 0 → ((x1 = 0 ∨ x1 = 1) ∧ Q x1 σ)) ∧ (¬ x1 = 0 → ((x1 = 0 ∨ x1 = 1) ∧ Q x1 (up σ 3 1 x2))))) : r_X7_goesOn_0 E x1 x2 σ Q := by
  intro p e R s m args below meth c Z cells slots H locs ls C0 hH hl hret
  have hx := C0.1
  have hb : c.code = cX7_goesOn := C0.2.1
  have hl : lv_has ls 3 [(0, .ref (Ad E 3)), (1, .int x1), (2, .int x2)] := hl
  refine lv_iload_n hx hb dX7_goesOn_0 rfl (lv_at hl 1 rfl) ?_
  refine lv_if_eq (tgt := 9) hx hb dX7_goesOn_1 (by decide) (fun hc1 => ?_) (fun hc1 => ?_)
  · have h := h.1 hc1
    refine lv_iload_n hx hb dX7_goesOn_9 rfl (lv_at hl 1 rfl) ?_
    exact hret (some (.int x1)) _ _ _ _ _ ⟨_, rfl, h.2⟩ hH ⟨dX7_goesOn_10, .boolean, rfl, nb h.1⟩
  · have h := h.2 hc1
    refine lv_aload_n hx hb dX7_goesOn_4 rfl (lv_at hl 0 rfl) ?_
    refine lv_iload_n hx hb dX7_goesOn_5 rfl (lv_at hl 2 rfl) ?_
    refine m_puti C0 hH f_3_1 kF_X7_18 rfl dX7_goesOn_6 rfl rfl (fun H locs hH => ?_)
    refine lv_iload_n hx hb dX7_goesOn_9 rfl (lv_at hl 1 rfl) ?_
    exact hret (some (.int x1)) _ _ _ _ _ ⟨_, rfl, h.2⟩ hH ⟨dX7_goesOn_10, .boolean, rfl, nb h.1⟩

def r_X2_hasPerson_4_0 (E : EE) (x1 : Int32) (σ : Mm) (Q : Int32 → Mm → Prop) : Prop := Rn E M_X2_hasPerson 0 [(0, .ref (Ad E 4)), (1, .int x1)] [] σ (qi Q)
set_option maxRecDepth 20000 in
set_option maxHeartbeats 4000000 in
theorem s_X2_hasPerson_4_0 (E : EE) (x1 : Int32) (σ : Mm) (Q : Int32 → Mm → Prop) (h : ((x1 < 0 → Q 0 σ) ∧ (¬ x1 < 0 → (((σ 4 1) ≤ x1 → Q 0 σ) ∧ (¬ (σ 4 1) ≤ x1 → Q 1 σ))))) : r_X2_hasPerson_4_0 E x1 σ Q := by
  intro p e R s m args below meth c Z cells slots H locs ls C0 hH hl hret
  have hx := C0.1
  have hb : c.code = cX2_hasPerson := C0.2.1
  have hl : lv_has ls 2 [(0, .ref (Ad E 4)), (1, .int x1)] := hl
  refine lv_iload_n hx hb dX2_hasPerson_0 rfl (lv_at hl 1 rfl) ?_
  refine lv_if_lt (tgt := 16) hx hb dX2_hasPerson_1 (by decide) (fun hc1 => ?_) (fun hc1 => ?_)
  · have h := h.1 hc1
    refine lv_iconst (v := 0) hx hb dX2_hasPerson_16 (by decide) ?_
    exact hret (some (.int 0)) _ _ _ _ _ ⟨_, rfl, h⟩ hH ⟨dX2_hasPerson_17, .boolean, rfl, nb (Or.inl rfl)⟩
  · have h := h.2 hc1
    refine lv_iload_n hx hb dX2_hasPerson_4 rfl (lv_at hl 1 rfl) ?_
    refine lv_aload_n hx hb dX2_hasPerson_5 rfl (lv_at hl 0 rfl) ?_
    refine m_geti (x := σ 4 1) C0 hH f_4_1 kF_X2_15 dX2_hasPerson_6 rfl ?_
    refine lv_icmp_ge (tgt := 16) hx hb dX2_hasPerson_9 (by decide) (fun hc2 => ?_) (fun hc2 => ?_)
    · have h := h.1 hc2
      refine lv_iconst (v := 0) hx hb dX2_hasPerson_16 (by decide) ?_
      exact hret (some (.int 0)) _ _ _ _ _ ⟨_, rfl, h⟩ hH ⟨dX2_hasPerson_17, .boolean, rfl, nb (Or.inl rfl)⟩
    · have h := h.2 hc2
      refine lv_iconst (v := 1) hx hb dX2_hasPerson_12 (by decide) ?_
      refine lv_goto (tgt := 17) hx hb dX2_hasPerson_13 (by decide) ?_
      exact hret (some (.int 1)) _ _ _ _ _ ⟨_, rfl, h⟩ hH ⟨dX2_hasPerson_17, .boolean, rfl, nb (Or.inr rfl)⟩

def r_X7_takesDid_0 (E : EE) (x1 : Int32) (σ : Mm) (Q : Int32 → Mm → Prop) : Prop := Rn E M_X7_takesDid 0 [(0, .ref (Ad E 3)), (1, .int x1)] [] σ (qi Q)
set_option maxRecDepth 20000 in
set_option maxHeartbeats 4000000 in
theorem s_X7_takesDid_0 (E : EE) (x1 : Int32) (σ : Mm) (Q : Int32 → Mm → Prop) (h : r_X2_hasPerson_4_0 E x1 σ (fun r2 τ1 => ((r2 = 0 → Q 0 τ1) ∧ (¬ r2 = 0 → (((τ1 4 2) < 8 → (vp_in (τ1 4 2) 8 ∧ Q 1 (up (up τ1 8 ((τ1 4 2).toNatClampNeg) x1) 3 1 6))) ∧ (¬ (τ1 4 2) < 8 → Q 0 τ1)))))) : r_X7_takesDid_0 E x1 σ Q := by
  intro p e R s m args below meth c Z cells slots H locs ls C0 hH hl hret
  have hx := C0.1
  have hb : c.code = cX7_takesDid := C0.2.1
  have hl : lv_has ls 2 [(0, .ref (Ad E 3)), (1, .int x1)] := hl
  refine lv_aload_n hx hb dX7_takesDid_0 rfl (lv_at hl 0 rfl) ?_
  refine m_getr C0 hH f_3_0 4 rfl kF_X7_12 dX7_takesDid_1 ?_
  refine lv_iload_n hx hb dX7_takesDid_4 rfl (lv_at hl 1 rfl) ?_
  refine m_cV (M2 := M_X2_hasPerson) (As := [.int x1]) (rest := []) h C0 hH hl kc_X2_hasPerson ki_X2_hasPerson kx_X2_hasPerson ob_4 kM_X7_95 rfl (Nat.le_of_ble_eq_true rfl) (Nat.le_of_ble_eq_true rfl) ⟨Nat.le_of_ble_eq_true rfl, Nat.le_of_ble_eq_true rfl⟩ dX7_takesDid_5 rfl (fun r τ1 H locs hq hH => ?_)
  obtain ⟨r2, rfl, h⟩ := hq
  refine lv_if_eq (tgt := 23) hx hb dX7_takesDid_8 (by decide) (fun hc3 => ?_) (fun hc3 => ?_)
  · have h := h.1 hc3
    refine lv_iconst (v := 0) hx hb dX7_takesDid_23 (by decide) ?_
    exact hret (some (.int 0)) _ _ _ _ _ ⟨_, rfl, h⟩ hH ⟨dX7_takesDid_24, .boolean, rfl, nb (Or.inl rfl)⟩
  · have h := h.2 hc3
    refine lv_aload_n hx hb dX7_takesDid_11 rfl (lv_at hl 0 rfl) ?_
    refine m_getr C0 hH f_3_0 4 rfl kF_X7_12 dX7_takesDid_12 ?_
    refine m_geti (x := τ1 4 2) C0 hH f_4_2 kF_X7_74 dX7_takesDid_15 rfl ?_
    refine lv_bipush (v := 8) hx hb dX7_takesDid_18 (by decide) ?_
    refine lv_icmp_lt (tgt := 25) hx hb dX7_takesDid_20 (by decide) (fun hc4 => ?_) (fun hc4 => ?_)
    · have h := h.1 hc4
      refine lv_aload_n hx hb dX7_takesDid_25 rfl (lv_at hl 0 rfl) ?_
      refine m_getr C0 hH f_3_0 4 rfl kF_X7_12 dX7_takesDid_26 ?_
      refine m_getr C0 hH f_4_9 8 rfl kF_X7_98 dX7_takesDid_29 ?_
      refine lv_aload_n hx hb dX7_takesDid_32 rfl (lv_at hl 0 rfl) ?_
      refine m_getr C0 hH f_3_0 4 rfl kF_X7_12 dX7_takesDid_33 ?_
      refine m_geti (x := τ1 4 2) C0 hH f_4_2 kF_X7_74 dX7_takesDid_36 rfl ?_
      refine lv_iload_n hx hb dX7_takesDid_39 rfl (lv_at hl 1 rfl) ?_
      refine m_iast (j := (τ1 4 2).toNatClampNeg) C0 hH a_8 h.1 rfl dX7_takesDid_40 (fun H locs hH => ?_)
      have h := h.2
      refine lv_aload_n hx hb dX7_takesDid_41 rfl (lv_at hl 0 rfl) ?_
      refine lv_bipush (v := 6) hx hb dX7_takesDid_42 (by decide) ?_
      refine m_puti C0 hH f_3_1 kF_X7_18 rfl dX7_takesDid_44 rfl rfl (fun H locs hH => ?_)
      refine lv_iconst (v := 1) hx hb dX7_takesDid_47 (by decide) ?_
      exact hret (some (.int 1)) _ _ _ _ _ ⟨_, rfl, h⟩ hH ⟨dX7_takesDid_48, .boolean, rfl, nb (Or.inr rfl)⟩
    · have h := h.2 hc4
      refine lv_iconst (v := 0) hx hb dX7_takesDid_23 (by decide) ?_
      exact hret (some (.int 0)) _ _ _ _ _ ⟨_, rfl, h⟩ hH ⟨dX7_takesDid_24, .boolean, rfl, nb (Or.inl rfl)⟩

def r_X7_takesGrave_0 (E : EE) (x1 : Int32) (σ : Mm) (Q : Int32 → Mm → Prop) : Prop := Rn E M_X7_takesGrave 0 [(0, .ref (Ad E 3)), (1, .int x1)] [] σ (qi Q)
set_option maxRecDepth 20000 in
set_option maxHeartbeats 4000000 in
theorem s_X7_takesGrave_0 (E : EE) (x1 : Int32) (σ : Mm) (Q : Int32 → Mm → Prop) (h : ((x1 < 1 → Q 0 σ) ∧ (¬ x1 < 1 → (((σ 4 2) < 8 → (vp_in (σ 4 2) 8 ∧ Q 1 (up (up (up σ 10 ((σ 4 2).toNatClampNeg) x1) 4 2 ((σ 4 2) + 1)) 3 1 8))) ∧ (¬ (σ 4 2) < 8 → Q 0 σ))))) : r_X7_takesGrave_0 E x1 σ Q := by
  intro p e R s m args below meth c Z cells slots H locs ls C0 hH hl hret
  have hx := C0.1
  have hb : c.code = cX7_takesGrave := C0.2.1
  have hl : lv_has ls 2 [(0, .ref (Ad E 3)), (1, .int x1)] := hl
  refine lv_iload_n hx hb dX7_takesGrave_0 rfl (lv_at hl 1 rfl) ?_
  refine lv_iconst (v := 1) hx hb dX7_takesGrave_1 (by decide) ?_
  refine lv_icmp_lt (tgt := 17) hx hb dX7_takesGrave_2 (by decide) (fun hc1 => ?_) (fun hc1 => ?_)
  · have h := h.1 hc1
    refine lv_iconst (v := 0) hx hb dX7_takesGrave_17 (by decide) ?_
    exact hret (some (.int 0)) _ _ _ _ _ ⟨_, rfl, h⟩ hH ⟨dX7_takesGrave_18, .boolean, rfl, nb (Or.inl rfl)⟩
  · have h := h.2 hc1
    refine lv_aload_n hx hb dX7_takesGrave_5 rfl (lv_at hl 0 rfl) ?_
    refine m_getr C0 hH f_3_0 4 rfl kF_X7_12 dX7_takesGrave_6 ?_
    refine m_geti (x := σ 4 2) C0 hH f_4_2 kF_X7_74 dX7_takesGrave_9 rfl ?_
    refine lv_bipush (v := 8) hx hb dX7_takesGrave_12 (by decide) ?_
    refine lv_icmp_lt (tgt := 19) hx hb dX7_takesGrave_14 (by decide) (fun hc2 => ?_) (fun hc2 => ?_)
    · have h := h.1 hc2
      refine lv_aload_n hx hb dX7_takesGrave_19 rfl (lv_at hl 0 rfl) ?_
      refine m_getr C0 hH f_3_0 4 rfl kF_X7_12 dX7_takesGrave_20 ?_
      refine m_getr C0 hH f_4_11 10 rfl kF_X7_104 dX7_takesGrave_23 ?_
      refine lv_aload_n hx hb dX7_takesGrave_26 rfl (lv_at hl 0 rfl) ?_
      refine m_getr C0 hH f_3_0 4 rfl kF_X7_12 dX7_takesGrave_27 ?_
      refine m_geti (x := σ 4 2) C0 hH f_4_2 kF_X7_74 dX7_takesGrave_30 rfl ?_
      refine lv_iload_n hx hb dX7_takesGrave_33 rfl (lv_at hl 1 rfl) ?_
      refine m_iast (j := (σ 4 2).toNatClampNeg) C0 hH a_10 h.1 rfl dX7_takesGrave_34 (fun H locs hH => ?_)
      have h := h.2
      refine lv_aload_n hx hb dX7_takesGrave_35 rfl (lv_at hl 0 rfl) ?_
      refine m_getr C0 hH f_3_0 4 rfl kF_X7_12 dX7_takesGrave_36 ?_
      refine lv_dup hx hb dX7_takesGrave_39 rfl ?_
      refine m_geti (x := σ 4 2) C0 hH f_4_2 kF_X7_74 dX7_takesGrave_40 rfl ?_
      refine lv_iconst (v := 1) hx hb dX7_takesGrave_43 (by decide) ?_
      refine lv_iadd hx hb dX7_takesGrave_44 ?_
      refine m_puti C0 hH f_4_2 kF_X7_74 rfl dX7_takesGrave_45 rfl rfl (fun H locs hH => ?_)
      refine lv_aload_n hx hb dX7_takesGrave_48 rfl (lv_at hl 0 rfl) ?_
      refine lv_bipush (v := 8) hx hb dX7_takesGrave_49 (by decide) ?_
      refine m_puti C0 hH f_3_1 kF_X7_18 rfl dX7_takesGrave_51 rfl rfl (fun H locs hH => ?_)
      refine lv_iconst (v := 1) hx hb dX7_takesGrave_54 (by decide) ?_
      exact hret (some (.int 1)) _ _ _ _ _ ⟨_, rfl, h⟩ hH ⟨dX7_takesGrave_55, .boolean, rfl, nb (Or.inr rfl)⟩
    · have h := h.2 hc2
      refine lv_iconst (v := 0) hx hb dX7_takesGrave_17 (by decide) ?_
      exact hret (some (.int 0)) _ _ _ _ _ ⟨_, rfl, h⟩ hH ⟨dX7_takesGrave_18, .boolean, rfl, nb (Or.inl rfl)⟩

def r_X7_takesKind_0 (E : EE) (x1 : Int32) (σ : Mm) (Q : Int32 → Mm → Prop) : Prop := Rn E M_X7_takesKind 0 [(0, .ref (Ad E 3)), (1, .int x1)] [] σ (qi Q)
set_option maxRecDepth 20000 in
set_option maxHeartbeats 4000000 in
theorem s_X7_takesKind_0 (E : EE) (x1 : Int32) (σ : Mm) (Q : Int32 → Mm → Prop) (h : ((x1 < 0 → Q 0 σ) ∧ (¬ x1 < 0 → (((σ 4 1) < 6 → (vp_in (σ 4 1) 6 ∧ Q 1 (up (up σ 5 ((σ 4 1).toNatClampNeg) x1) 3 1 3))) ∧ (¬ (σ 4 1) < 6 → Q 0 σ))))) : r_X7_takesKind_0 E x1 σ Q := by
  intro p e R s m args below meth c Z cells slots H locs ls C0 hH hl hret
  have hx := C0.1
  have hb : c.code = cX7_takesKind := C0.2.1
  have hl : lv_has ls 2 [(0, .ref (Ad E 3)), (1, .int x1)] := hl
  refine lv_iload_n hx hb dX7_takesKind_0 rfl (lv_at hl 1 rfl) ?_
  refine lv_if_lt (tgt := 16) hx hb dX7_takesKind_1 (by decide) (fun hc1 => ?_) (fun hc1 => ?_)
  · have h := h.1 hc1
    refine lv_iconst (v := 0) hx hb dX7_takesKind_16 (by decide) ?_
    exact hret (some (.int 0)) _ _ _ _ _ ⟨_, rfl, h⟩ hH ⟨dX7_takesKind_17, .boolean, rfl, nb (Or.inl rfl)⟩
  · have h := h.2 hc1
    refine lv_aload_n hx hb dX7_takesKind_4 rfl (lv_at hl 0 rfl) ?_
    refine m_getr C0 hH f_3_0 4 rfl kF_X7_12 dX7_takesKind_5 ?_
    refine m_geti (x := σ 4 1) C0 hH f_4_1 kF_X7_83 dX7_takesKind_8 rfl ?_
    refine lv_bipush (v := 6) hx hb dX7_takesKind_11 (by decide) ?_
    refine lv_icmp_lt (tgt := 18) hx hb dX7_takesKind_13 (by decide) (fun hc2 => ?_) (fun hc2 => ?_)
    · have h := h.1 hc2
      refine lv_aload_n hx hb dX7_takesKind_18 rfl (lv_at hl 0 rfl) ?_
      refine m_getr C0 hH f_3_0 4 rfl kF_X7_12 dX7_takesKind_19 ?_
      refine m_getr C0 hH f_4_6 5 rfl kF_X7_86 dX7_takesKind_22 ?_
      refine lv_aload_n hx hb dX7_takesKind_25 rfl (lv_at hl 0 rfl) ?_
      refine m_getr C0 hH f_3_0 4 rfl kF_X7_12 dX7_takesKind_26 ?_
      refine m_geti (x := σ 4 1) C0 hH f_4_1 kF_X7_83 dX7_takesKind_29 rfl ?_
      refine lv_iload_n hx hb dX7_takesKind_32 rfl (lv_at hl 1 rfl) ?_
      refine m_iast (j := (σ 4 1).toNatClampNeg) C0 hH a_5 h.1 rfl dX7_takesKind_33 (fun H locs hH => ?_)
      have h := h.2
      refine lv_aload_n hx hb dX7_takesKind_34 rfl (lv_at hl 0 rfl) ?_
      refine lv_iconst (v := 3) hx hb dX7_takesKind_35 (by decide) ?_
      refine m_puti C0 hH f_3_1 kF_X7_18 rfl dX7_takesKind_36 rfl rfl (fun H locs hH => ?_)
      refine lv_iconst (v := 1) hx hb dX7_takesKind_39 (by decide) ?_
      exact hret (some (.int 1)) _ _ _ _ _ ⟨_, rfl, h⟩ hH ⟨dX7_takesKind_40, .boolean, rfl, nb (Or.inr rfl)⟩
    · have h := h.2 hc2
      refine lv_iconst (v := 0) hx hb dX7_takesKind_16 (by decide) ?_
      exact hret (some (.int 0)) _ _ _ _ _ ⟨_, rfl, h⟩ hH ⟨dX7_takesKind_17, .boolean, rfl, nb (Or.inl rfl)⟩

def r_X7_takesMark_0 (E : EE) (x1 : Int32) (σ : Mm) (Q : Int32 → Mm → Prop) : Prop := Rn E M_X7_takesMark 0 [(0, .ref (Ad E 3)), (1, .int x1)] [] σ (qi Q)
set_option maxRecDepth 20000 in
set_option maxHeartbeats 4000000 in
theorem s_X7_takesMark_0 (E : EE) (x1 : Int32) (σ : Mm) (Q : Int32 → Mm → Prop) (h : ((¬ x1 = 44 → ((¬ x1 = 59 → r_X7_goesOn_0 E 0 5 σ (fun r4 τ3 => ((r4 = 0 ∨ r4 = 1) ∧ Q r4 τ3))) ∧ (x1 = 59 → (((σ 4 1) < 2 → r_X7_goesOn_0 E 0 5 σ (fun r7 τ6 => ((r7 = 0 ∨ r7 = 1) ∧ Q r7 τ6))) ∧ (¬ (σ 4 1) < 2 → r_X7_goesOn_0 E 1 5 σ (fun r9 τ8 => ((r9 = 0 ∨ r9 = 1) ∧ Q r9 τ8))))))) ∧ (x1 = 44 → ((6 ≤ (σ 4 1) → r_X7_goesOn_0 E 0 2 σ (fun r12 τ11 => ((r12 = 0 ∨ r12 = 1) ∧ Q r12 τ11))) ∧ (¬ 6 ≤ (σ 4 1) → r_X7_goesOn_0 E 1 2 σ (fun r14 τ13 => ((r14 = 0 ∨ r14 = 1) ∧ Q r14 τ13))))))) : r_X7_takesMark_0 E x1 σ Q := by
  intro p e R s m args below meth c Z cells slots H locs ls C0 hH hl hret
  have hx := C0.1
  have hb : c.code = cX7_takesMark := C0.2.1
  have hl : lv_has ls 2 [(0, .ref (Ad E 3)), (1, .int x1)] := hl
  refine lv_iload_n hx hb dX7_takesMark_0 rfl (lv_at hl 1 rfl) ?_
  refine lv_bipush (v := 44) hx hb dX7_takesMark_1 (by decide) ?_
  refine lv_icmp_ne (tgt := 29) hx hb dX7_takesMark_3 (by decide) (fun hc1 => ?_) (fun hc1 => ?_)
  · have h := h.1 hc1
    refine lv_aload_n hx hb dX7_takesMark_29 rfl (lv_at hl 0 rfl) ?_
    refine lv_iload_n hx hb dX7_takesMark_30 rfl (lv_at hl 1 rfl) ?_
    refine lv_bipush (v := 59) hx hb dX7_takesMark_31 (by decide) ?_
    refine lv_icmp_ne (tgt := 51) hx hb dX7_takesMark_33 (by decide) (fun hc2 => ?_) (fun hc2 => ?_)
    · have h := h.1 hc2
      refine lv_iconst (v := 0) hx hb dX7_takesMark_51 (by decide) ?_
      refine lv_iconst (v := 5) hx hb dX7_takesMark_52 (by decide) ?_
      refine m_cV (M2 := M_X7_goesOn) (As := [.int 0, .int 5]) (rest := []) h C0 hH hl kc_X7_goesOn ki_X7_goesOn kx_X7_goesOn ob_3 kM_X7_45 rfl (Nat.le_of_ble_eq_true rfl) (Nat.le_of_ble_eq_true rfl) ⟨Nat.le_of_ble_eq_true rfl, Nat.le_of_ble_eq_true rfl⟩ dX7_takesMark_53 rfl (fun r τ3 H locs hq hH => ?_)
      obtain ⟨r4, rfl, h⟩ := hq
      exact hret (some (.int r4)) _ _ _ _ _ ⟨_, rfl, h.2⟩ hH ⟨dX7_takesMark_56, .boolean, rfl, nb h.1⟩
    · have h := h.2 hc2
      refine lv_aload_n hx hb dX7_takesMark_36 rfl (lv_at hl 0 rfl) ?_
      refine m_getr C0 hH f_3_0 4 rfl kF_X7_12 dX7_takesMark_37 ?_
      refine m_geti (x := σ 4 1) C0 hH f_4_1 kF_X7_83 dX7_takesMark_40 rfl ?_
      refine lv_iconst (v := 2) hx hb dX7_takesMark_43 (by decide) ?_
      refine lv_icmp_lt (tgt := 51) hx hb dX7_takesMark_44 (by decide) (fun hc5 => ?_) (fun hc5 => ?_)
      · have h := h.1 hc5
        refine lv_iconst (v := 0) hx hb dX7_takesMark_51 (by decide) ?_
        refine lv_iconst (v := 5) hx hb dX7_takesMark_52 (by decide) ?_
        refine m_cV (M2 := M_X7_goesOn) (As := [.int 0, .int 5]) (rest := []) h C0 hH hl kc_X7_goesOn ki_X7_goesOn kx_X7_goesOn ob_3 kM_X7_45 rfl (Nat.le_of_ble_eq_true rfl) (Nat.le_of_ble_eq_true rfl) ⟨Nat.le_of_ble_eq_true rfl, Nat.le_of_ble_eq_true rfl⟩ dX7_takesMark_53 rfl (fun r τ6 H locs hq hH => ?_)
        obtain ⟨r7, rfl, h⟩ := hq
        exact hret (some (.int r7)) _ _ _ _ _ ⟨_, rfl, h.2⟩ hH ⟨dX7_takesMark_56, .boolean, rfl, nb h.1⟩
      · have h := h.2 hc5
        refine lv_iconst (v := 1) hx hb dX7_takesMark_47 (by decide) ?_
        refine lv_goto (tgt := 52) hx hb dX7_takesMark_48 (by decide) ?_
        refine lv_iconst (v := 5) hx hb dX7_takesMark_52 (by decide) ?_
        refine m_cV (M2 := M_X7_goesOn) (As := [.int 1, .int 5]) (rest := []) h C0 hH hl kc_X7_goesOn ki_X7_goesOn kx_X7_goesOn ob_3 kM_X7_45 rfl (Nat.le_of_ble_eq_true rfl) (Nat.le_of_ble_eq_true rfl) ⟨Nat.le_of_ble_eq_true rfl, Nat.le_of_ble_eq_true rfl⟩ dX7_takesMark_53 rfl (fun r τ8 H locs hq hH => ?_)
        obtain ⟨r9, rfl, h⟩ := hq
        exact hret (some (.int r9)) _ _ _ _ _ ⟨_, rfl, h.2⟩ hH ⟨dX7_takesMark_56, .boolean, rfl, nb h.1⟩
  · have h := h.2 hc1
    refine lv_aload_n hx hb dX7_takesMark_6 rfl (lv_at hl 0 rfl) ?_
    refine lv_aload_n hx hb dX7_takesMark_7 rfl (lv_at hl 0 rfl) ?_
    refine m_getr C0 hH f_3_0 4 rfl kF_X7_12 dX7_takesMark_8 ?_
    refine m_geti (x := σ 4 1) C0 hH f_4_1 kF_X7_83 dX7_takesMark_11 rfl ?_
    refine lv_bipush (v := 6) hx hb dX7_takesMark_14 (by decide) ?_
    refine lv_icmp_ge (tgt := 23) hx hb dX7_takesMark_16 (by decide) (fun hc10 => ?_) (fun hc10 => ?_)
    · have h := h.1 hc10
      refine lv_iconst (v := 0) hx hb dX7_takesMark_23 (by decide) ?_
      refine lv_iconst (v := 2) hx hb dX7_takesMark_24 (by decide) ?_
      refine m_cV (M2 := M_X7_goesOn) (As := [.int 0, .int 2]) (rest := []) h C0 hH hl kc_X7_goesOn ki_X7_goesOn kx_X7_goesOn ob_3 kM_X7_45 rfl (Nat.le_of_ble_eq_true rfl) (Nat.le_of_ble_eq_true rfl) ⟨Nat.le_of_ble_eq_true rfl, Nat.le_of_ble_eq_true rfl⟩ dX7_takesMark_25 rfl (fun r τ11 H locs hq hH => ?_)
      obtain ⟨r12, rfl, h⟩ := hq
      exact hret (some (.int r12)) _ _ _ _ _ ⟨_, rfl, h.2⟩ hH ⟨dX7_takesMark_28, .boolean, rfl, nb h.1⟩
    · have h := h.2 hc10
      refine lv_iconst (v := 1) hx hb dX7_takesMark_19 (by decide) ?_
      refine lv_goto (tgt := 24) hx hb dX7_takesMark_20 (by decide) ?_
      refine lv_iconst (v := 2) hx hb dX7_takesMark_24 (by decide) ?_
      refine m_cV (M2 := M_X7_goesOn) (As := [.int 1, .int 2]) (rest := []) h C0 hH hl kc_X7_goesOn ki_X7_goesOn kx_X7_goesOn ob_3 kM_X7_45 rfl (Nat.le_of_ble_eq_true rfl) (Nat.le_of_ble_eq_true rfl) ⟨Nat.le_of_ble_eq_true rfl, Nat.le_of_ble_eq_true rfl⟩ dX7_takesMark_25 rfl (fun r τ13 H locs hq hH => ?_)
      obtain ⟨r14, rfl, h⟩ := hq
      exact hret (some (.int r14)) _ _ _ _ _ ⟨_, rfl, h.2⟩ hH ⟨dX7_takesMark_28, .boolean, rfl, nb h.1⟩

def r_X9_isRoom_0 (E : EE) (x0 : Int32) (σ : Mm) (Q : Int32 → Mm → Prop) : Prop := Rn E M_X9_isRoom 0 [(0, .int x0)] [] σ (qi Q)
set_option maxRecDepth 20000 in
set_option maxHeartbeats 4000000 in
theorem s_X9_isRoom_0 (E : EE) (x0 : Int32) (σ : Mm) (Q : Int32 → Mm → Prop) (h : ((x0 < 1 → Q 0 σ) ∧ (¬ x0 < 1 → ((6 < x0 → Q 0 σ) ∧ (¬ 6 < x0 → Q 1 σ))))) : r_X9_isRoom_0 E x0 σ Q := by
  intro p e R s m args below meth c Z cells slots H locs ls C0 hH hl hret
  have hx := C0.1
  have hb : c.code = cX9_isRoom := C0.2.1
  have hl : lv_has ls 1 [(0, .int x0)] := hl
  refine lv_iload_n hx hb dX9_isRoom_0 rfl (lv_at hl 0 rfl) ?_
  refine lv_iconst (v := 1) hx hb dX9_isRoom_1 (by decide) ?_
  refine lv_icmp_lt (tgt := 15) hx hb dX9_isRoom_2 (by decide) (fun hc1 => ?_) (fun hc1 => ?_)
  · have h := h.1 hc1
    refine lv_iconst (v := 0) hx hb dX9_isRoom_15 (by decide) ?_
    exact hret (some (.int 0)) _ _ _ _ _ ⟨_, rfl, h⟩ hH ⟨dX9_isRoom_16, .boolean, rfl, nb (Or.inl rfl)⟩
  · have h := h.2 hc1
    refine lv_iload_n hx hb dX9_isRoom_5 rfl (lv_at hl 0 rfl) ?_
    refine lv_bipush (v := 6) hx hb dX9_isRoom_6 (by decide) ?_
    refine lv_icmp_gt (tgt := 15) hx hb dX9_isRoom_8 (by decide) (fun hc2 => ?_) (fun hc2 => ?_)
    · have h := h.1 hc2
      refine lv_iconst (v := 0) hx hb dX9_isRoom_15 (by decide) ?_
      exact hret (some (.int 0)) _ _ _ _ _ ⟨_, rfl, h⟩ hH ⟨dX9_isRoom_16, .boolean, rfl, nb (Or.inl rfl)⟩
    · have h := h.2 hc2
      refine lv_iconst (v := 1) hx hb dX9_isRoom_11 (by decide) ?_
      refine lv_goto (tgt := 16) hx hb dX9_isRoom_12 (by decide) ?_
      exact hret (some (.int 1)) _ _ _ _ _ ⟨_, rfl, h⟩ hH ⟨dX9_isRoom_16, .boolean, rfl, nb (Or.inr rfl)⟩

def r_X7_takesRoom_0 (E : EE) (x1 : Int32) (σ : Mm) (Q : Int32 → Mm → Prop) : Prop := Rn E M_X7_takesRoom 0 [(0, .ref (Ad E 3)), (1, .int x1)] [] σ (qi Q)
set_option maxRecDepth 20000 in
set_option maxHeartbeats 4000000 in
theorem s_X7_takesRoom_0 (E : EE) (x1 : Int32) (σ : Mm) (Q : Int32 → Mm → Prop) (h : r_X9_isRoom_0 E x1 (up σ 4 0 x1) (fun r2 τ1 => r_X7_goesOn_0 E r2 1 τ1 (fun r4 τ3 => ((r4 = 0 ∨ r4 = 1) ∧ Q r4 τ3)))) : r_X7_takesRoom_0 E x1 σ Q := by
  intro p e R s m args below meth c Z cells slots H locs ls C0 hH hl hret
  have hx := C0.1
  have hb : c.code = cX7_takesRoom := C0.2.1
  have hl : lv_has ls 2 [(0, .ref (Ad E 3)), (1, .int x1)] := hl
  refine lv_aload_n hx hb dX7_takesRoom_0 rfl (lv_at hl 0 rfl) ?_
  refine m_getr C0 hH f_3_0 4 rfl kF_X7_12 dX7_takesRoom_1 ?_
  refine lv_iload_n hx hb dX7_takesRoom_4 rfl (lv_at hl 1 rfl) ?_
  refine m_puti C0 hH f_4_0 kF_X7_77 rfl dX7_takesRoom_5 rfl rfl (fun H locs hH => ?_)
  refine lv_aload_n hx hb dX7_takesRoom_8 rfl (lv_at hl 0 rfl) ?_
  refine lv_iload_n hx hb dX7_takesRoom_9 rfl (lv_at hl 1 rfl) ?_
  refine m_cN (M2 := M_X9_isRoom) (As := [.int x1]) (rest := [.ref (Ad E 3)]) h C0 hH hl kc_X9_isRoom ks_X9_isRoom kN_X7_80 rfl (Nat.le_of_ble_eq_true rfl) (Nat.le_of_ble_eq_true rfl) ⟨Nat.le_of_ble_eq_true rfl, Nat.le_of_ble_eq_true rfl⟩ dX7_takesRoom_10 rfl (fun r τ1 H locs hq hH => ?_)
  obtain ⟨r2, rfl, h⟩ := hq
  refine lv_iconst (v := 1) hx hb dX7_takesRoom_13 (by decide) ?_
  refine m_cV (M2 := M_X7_goesOn) (As := [.int r2, .int 1]) (rest := []) h C0 hH hl kc_X7_goesOn ki_X7_goesOn kx_X7_goesOn ob_3 kM_X7_45 rfl (Nat.le_of_ble_eq_true rfl) (Nat.le_of_ble_eq_true rfl) ⟨Nat.le_of_ble_eq_true rfl, Nat.le_of_ble_eq_true rfl⟩ dX7_takesRoom_14 rfl (fun r τ3 H locs hq hH => ?_)
  obtain ⟨r4, rfl, h⟩ := hq
  exact hret (some (.int r4)) _ _ _ _ _ ⟨_, rfl, h.2⟩ hH ⟨dX7_takesRoom_17, .boolean, rfl, nb h.1⟩

def r_X7_takesWarm_0 (E : EE) (x1 : Int32) (σ : Mm) (Q : Int32 → Mm → Prop) : Prop := Rn E M_X7_takesWarm 0 [(0, .ref (Ad E 3)), (1, .int x1)] [] σ (qi Q)
set_option maxRecDepth 20000 in
set_option maxHeartbeats 4000000 in
theorem s_X7_takesWarm_0 (E : EE) (x1 : Int32) (σ : Mm) (Q : Int32 → Mm → Prop) (h : ((x1 < 0 → Q 0 σ) ∧ (¬ x1 < 0 → (((σ 4 1) < 6 → (vp_in (σ 4 1) 6 ∧ (vp_in (σ 4 1) 6 ∧ Q 1 (up (up (up (up σ 6 ((σ 4 1).toNatClampNeg) x1) 7 ((σ 4 1).toNatClampNeg) 0) 4 1 ((σ 4 1) + 1)) 3 1 4)))) ∧ (¬ (σ 4 1) < 6 → Q 0 σ))))) : r_X7_takesWarm_0 E x1 σ Q := by
  intro p e R s m args below meth c Z cells slots H locs ls C0 hH hl hret
  have hx := C0.1
  have hb : c.code = cX7_takesWarm := C0.2.1
  have hl : lv_has ls 2 [(0, .ref (Ad E 3)), (1, .int x1)] := hl
  refine lv_iload_n hx hb dX7_takesWarm_0 rfl (lv_at hl 1 rfl) ?_
  refine lv_if_lt (tgt := 16) hx hb dX7_takesWarm_1 (by decide) (fun hc1 => ?_) (fun hc1 => ?_)
  · have h := h.1 hc1
    refine lv_iconst (v := 0) hx hb dX7_takesWarm_16 (by decide) ?_
    exact hret (some (.int 0)) _ _ _ _ _ ⟨_, rfl, h⟩ hH ⟨dX7_takesWarm_17, .boolean, rfl, nb (Or.inl rfl)⟩
  · have h := h.2 hc1
    refine lv_aload_n hx hb dX7_takesWarm_4 rfl (lv_at hl 0 rfl) ?_
    refine m_getr C0 hH f_3_0 4 rfl kF_X7_12 dX7_takesWarm_5 ?_
    refine m_geti (x := σ 4 1) C0 hH f_4_1 kF_X7_83 dX7_takesWarm_8 rfl ?_
    refine lv_bipush (v := 6) hx hb dX7_takesWarm_11 (by decide) ?_
    refine lv_icmp_lt (tgt := 18) hx hb dX7_takesWarm_13 (by decide) (fun hc2 => ?_) (fun hc2 => ?_)
    · have h := h.1 hc2
      refine lv_aload_n hx hb dX7_takesWarm_18 rfl (lv_at hl 0 rfl) ?_
      refine m_getr C0 hH f_3_0 4 rfl kF_X7_12 dX7_takesWarm_19 ?_
      refine m_getr C0 hH f_4_7 6 rfl kF_X7_89 dX7_takesWarm_22 ?_
      refine lv_aload_n hx hb dX7_takesWarm_25 rfl (lv_at hl 0 rfl) ?_
      refine m_getr C0 hH f_3_0 4 rfl kF_X7_12 dX7_takesWarm_26 ?_
      refine m_geti (x := σ 4 1) C0 hH f_4_1 kF_X7_83 dX7_takesWarm_29 rfl ?_
      refine lv_iload_n hx hb dX7_takesWarm_32 rfl (lv_at hl 1 rfl) ?_
      refine m_iast (j := (σ 4 1).toNatClampNeg) C0 hH a_6 h.1 rfl dX7_takesWarm_33 (fun H locs hH => ?_)
      have h := h.2
      refine lv_aload_n hx hb dX7_takesWarm_34 rfl (lv_at hl 0 rfl) ?_
      refine m_getr C0 hH f_3_0 4 rfl kF_X7_12 dX7_takesWarm_35 ?_
      refine m_getr C0 hH f_4_8 7 rfl kF_X7_92 dX7_takesWarm_38 ?_
      refine lv_aload_n hx hb dX7_takesWarm_41 rfl (lv_at hl 0 rfl) ?_
      refine m_getr C0 hH f_3_0 4 rfl kF_X7_12 dX7_takesWarm_42 ?_
      refine m_geti (x := σ 4 1) C0 hH f_4_1 kF_X7_83 dX7_takesWarm_45 rfl ?_
      refine lv_iconst (v := 0) hx hb dX7_takesWarm_48 (by decide) ?_
      refine m_iast (j := (σ 4 1).toNatClampNeg) C0 hH a_7 h.1 rfl dX7_takesWarm_49 (fun H locs hH => ?_)
      have h := h.2
      refine lv_aload_n hx hb dX7_takesWarm_50 rfl (lv_at hl 0 rfl) ?_
      refine m_getr C0 hH f_3_0 4 rfl kF_X7_12 dX7_takesWarm_51 ?_
      refine lv_dup hx hb dX7_takesWarm_54 rfl ?_
      refine m_geti (x := σ 4 1) C0 hH f_4_1 kF_X7_83 dX7_takesWarm_55 rfl ?_
      refine lv_iconst (v := 1) hx hb dX7_takesWarm_58 (by decide) ?_
      refine lv_iadd hx hb dX7_takesWarm_59 ?_
      refine m_puti C0 hH f_4_1 kF_X7_83 rfl dX7_takesWarm_60 rfl rfl (fun H locs hH => ?_)
      refine lv_aload_n hx hb dX7_takesWarm_63 rfl (lv_at hl 0 rfl) ?_
      refine lv_iconst (v := 4) hx hb dX7_takesWarm_64 (by decide) ?_
      refine m_puti C0 hH f_3_1 kF_X7_18 rfl dX7_takesWarm_65 rfl rfl (fun H locs hH => ?_)
      refine lv_iconst (v := 1) hx hb dX7_takesWarm_68 (by decide) ?_
      exact hret (some (.int 1)) _ _ _ _ _ ⟨_, rfl, h⟩ hH ⟨dX7_takesWarm_69, .boolean, rfl, nb (Or.inr rfl)⟩
    · have h := h.2 hc2
      refine lv_iconst (v := 0) hx hb dX7_takesWarm_16 (by decide) ?_
      exact hret (some (.int 0)) _ _ _ _ _ ⟨_, rfl, h⟩ hH ⟨dX7_takesWarm_17, .boolean, rfl, nb (Or.inl rfl)⟩

def r_X7_takesWhom_0 (E : EE) (x1 : Int32) (σ : Mm) (Q : Int32 → Mm → Prop) : Prop := Rn E M_X7_takesWhom 0 [(0, .ref (Ad E 3)), (1, .int x1)] [] σ (qi Q)
set_option maxRecDepth 20000 in
set_option maxHeartbeats 4000000 in
theorem s_X7_takesWhom_0 (E : EE) (x1 : Int32) (σ : Mm) (Q : Int32 → Mm → Prop) (h : r_X2_hasPerson_4_0 E x1 σ (fun r2 τ1 => ((r2 = 0 → Q 0 τ1) ∧ (¬ r2 = 0 → ((8 ≤ (τ1 4 2) → Q 0 τ1) ∧ (¬ 8 ≤ (τ1 4 2) → (vp_in (τ1 4 2) 8 ∧ ((¬ x1 = (τ1 8 ((τ1 4 2).toNatClampNeg)) → (vp_in (τ1 4 2) 8 ∧ Q 1 (up (up τ1 9 ((τ1 4 2).toNatClampNeg) x1) 3 1 7))) ∧ (x1 = (τ1 8 ((τ1 4 2).toNatClampNeg)) → Q 0 τ1))))))))) : r_X7_takesWhom_0 E x1 σ Q := by
  intro p e R s m args below meth c Z cells slots H locs ls C0 hH hl hret
  have hx := C0.1
  have hb : c.code = cX7_takesWhom := C0.2.1
  have hl : lv_has ls 2 [(0, .ref (Ad E 3)), (1, .int x1)] := hl
  refine lv_aload_n hx hb dX7_takesWhom_0 rfl (lv_at hl 0 rfl) ?_
  refine m_getr C0 hH f_3_0 4 rfl kF_X7_12 dX7_takesWhom_1 ?_
  refine lv_iload_n hx hb dX7_takesWhom_4 rfl (lv_at hl 1 rfl) ?_
  refine m_cV (M2 := M_X2_hasPerson) (As := [.int x1]) (rest := []) h C0 hH hl kc_X2_hasPerson ki_X2_hasPerson kx_X2_hasPerson ob_4 kM_X7_95 rfl (Nat.le_of_ble_eq_true rfl) (Nat.le_of_ble_eq_true rfl) ⟨Nat.le_of_ble_eq_true rfl, Nat.le_of_ble_eq_true rfl⟩ dX7_takesWhom_5 rfl (fun r τ1 H locs hq hH => ?_)
  obtain ⟨r2, rfl, h⟩ := hq
  refine lv_if_eq (tgt := 42) hx hb dX7_takesWhom_8 (by decide) (fun hc3 => ?_) (fun hc3 => ?_)
  · have h := h.1 hc3
    refine lv_iconst (v := 0) hx hb dX7_takesWhom_42 (by decide) ?_
    exact hret (some (.int 0)) _ _ _ _ _ ⟨_, rfl, h⟩ hH ⟨dX7_takesWhom_43, .boolean, rfl, nb (Or.inl rfl)⟩
  · have h := h.2 hc3
    refine lv_aload_n hx hb dX7_takesWhom_11 rfl (lv_at hl 0 rfl) ?_
    refine m_getr C0 hH f_3_0 4 rfl kF_X7_12 dX7_takesWhom_12 ?_
    refine m_geti (x := τ1 4 2) C0 hH f_4_2 kF_X7_74 dX7_takesWhom_15 rfl ?_
    refine lv_bipush (v := 8) hx hb dX7_takesWhom_18 (by decide) ?_
    refine lv_icmp_ge (tgt := 42) hx hb dX7_takesWhom_20 (by decide) (fun hc4 => ?_) (fun hc4 => ?_)
    · have h := h.1 hc4
      refine lv_iconst (v := 0) hx hb dX7_takesWhom_42 (by decide) ?_
      exact hret (some (.int 0)) _ _ _ _ _ ⟨_, rfl, h⟩ hH ⟨dX7_takesWhom_43, .boolean, rfl, nb (Or.inl rfl)⟩
    · have h := h.2 hc4
      refine lv_iload_n hx hb dX7_takesWhom_23 rfl (lv_at hl 1 rfl) ?_
      refine lv_aload_n hx hb dX7_takesWhom_24 rfl (lv_at hl 0 rfl) ?_
      refine m_getr C0 hH f_3_0 4 rfl kF_X7_12 dX7_takesWhom_25 ?_
      refine m_getr C0 hH f_4_9 8 rfl kF_X7_98 dX7_takesWhom_28 ?_
      refine lv_aload_n hx hb dX7_takesWhom_31 rfl (lv_at hl 0 rfl) ?_
      refine m_getr C0 hH f_3_0 4 rfl kF_X7_12 dX7_takesWhom_32 ?_
      refine m_geti (x := τ1 4 2) C0 hH f_4_2 kF_X7_74 dX7_takesWhom_35 rfl ?_
      refine m_iald (x := τ1 8 ((τ1 4 2).toNatClampNeg)) C0 hH a_8 h.1 dX7_takesWhom_38 rfl ?_
      have h := h.2
      refine lv_icmp_ne (tgt := 44) hx hb dX7_takesWhom_39 (by decide) (fun hc5 => ?_) (fun hc5 => ?_)
      · have h := h.1 hc5
        refine lv_aload_n hx hb dX7_takesWhom_44 rfl (lv_at hl 0 rfl) ?_
        refine m_getr C0 hH f_3_0 4 rfl kF_X7_12 dX7_takesWhom_45 ?_
        refine m_getr C0 hH f_4_10 9 rfl kF_X7_101 dX7_takesWhom_48 ?_
        refine lv_aload_n hx hb dX7_takesWhom_51 rfl (lv_at hl 0 rfl) ?_
        refine m_getr C0 hH f_3_0 4 rfl kF_X7_12 dX7_takesWhom_52 ?_
        refine m_geti (x := τ1 4 2) C0 hH f_4_2 kF_X7_74 dX7_takesWhom_55 rfl ?_
        refine lv_iload_n hx hb dX7_takesWhom_58 rfl (lv_at hl 1 rfl) ?_
        refine m_iast (j := (τ1 4 2).toNatClampNeg) C0 hH a_9 h.1 rfl dX7_takesWhom_59 (fun H locs hH => ?_)
        have h := h.2
        refine lv_aload_n hx hb dX7_takesWhom_60 rfl (lv_at hl 0 rfl) ?_
        refine lv_bipush (v := 7) hx hb dX7_takesWhom_61 (by decide) ?_
        refine m_puti C0 hH f_3_1 kF_X7_18 rfl dX7_takesWhom_63 rfl rfl (fun H locs hH => ?_)
        refine lv_iconst (v := 1) hx hb dX7_takesWhom_66 (by decide) ?_
        exact hret (some (.int 1)) _ _ _ _ _ ⟨_, rfl, h⟩ hH ⟨dX7_takesWhom_67, .boolean, rfl, nb (Or.inr rfl)⟩
      · have h := h.2 hc5
        refine lv_iconst (v := 0) hx hb dX7_takesWhom_42 (by decide) ?_
        exact hret (some (.int 0)) _ _ _ _ _ ⟨_, rfl, h⟩ hH ⟨dX7_takesWhom_43, .boolean, rfl, nb (Or.inl rfl)⟩

def r_J0_isLatin1_aae02_0 (E : EE) (σ : Mm) (Q : Int32 → Mm → Prop) : Prop := Rn E M_J0_isLatin1_aae02 0 [(0, .ref (sK E 0))] [] σ (qi Q)
set_option maxRecDepth 20000 in
set_option maxHeartbeats 4000000 in
theorem s_J0_isLatin1_aae02_0 (E : EE) (σ : Mm) (Q : Int32 → Mm → Prop) (h : Q 1 σ) : r_J0_isLatin1_aae02_0 E σ Q := by
  intro p e R s m args below meth c Z cells slots H locs ls C0 hH hl hret
  have hx := C0.1
  have hb : c.code = cJ0_isLatin1_aae02 := C0.2.1
  have hl : lv_has ls 1 [(0, .ref (sK E 0))] := hl
  refine m_sstat C0 hH rfl dJ0_isLatin1_aae02_0 ?_
  refine lv_if_eq (tgt := 17) hx hb dJ0_isLatin1_aae02_3 (by decide) (fun hc => absurd hc (by decide)) (fun _ => ?_)
  refine lv_aload_n hx hb dJ0_isLatin1_aae02_6 rfl (lv_at hl 0 rfl) ?_
  refine m_scod C0 hH rfl dJ0_isLatin1_aae02_7 ?_
  refine lv_if_ne (tgt := 17) hx hb dJ0_isLatin1_aae02_10 (by decide) (fun hc => absurd hc (by decide)) (fun _ => ?_)
  refine lv_iconst (v := 1) hx hb dJ0_isLatin1_aae02_13 (by decide) ?_
  refine lv_goto (tgt := 18) hx hb dJ0_isLatin1_aae02_14 (by decide) ?_
  exact hret (some (.int 1)) _ _ _ _ _ ⟨_, rfl, h⟩ hH ⟨dJ0_isLatin1_aae02_18, .boolean, rfl, nb (Or.inr rfl)⟩

def r_J0_coder_7d493_0 (E : EE) (σ : Mm) (Q : Int32 → Mm → Prop) : Prop := Rn E M_J0_coder_7d493 0 [(0, .ref (sK E 0))] [] σ (qi Q)
set_option maxRecDepth 20000 in
set_option maxHeartbeats 4000000 in
theorem s_J0_coder_7d493_0 (E : EE) (σ : Mm) (Q : Int32 → Mm → Prop) (h : Q 0 σ) : r_J0_coder_7d493_0 E σ Q := by
  intro p e R s m args below meth c Z cells slots H locs ls C0 hH hl hret
  have hx := C0.1
  have hb : c.code = cJ0_coder_7d493 := C0.2.1
  have hl : lv_has ls 1 [(0, .ref (sK E 0))] := hl
  refine m_sstat C0 hH rfl dJ0_coder_7d493_0 ?_
  refine lv_if_eq (tgt := 13) hx hb dJ0_coder_7d493_3 (by decide) (fun hc => absurd hc (by decide)) (fun _ => ?_)
  refine lv_aload_n hx hb dJ0_coder_7d493_6 rfl (lv_at hl 0 rfl) ?_
  refine m_scod C0 hH rfl dJ0_coder_7d493_7 ?_
  refine lv_goto (tgt := 14) hx hb dJ0_coder_7d493_10 (by decide) ?_
  exact hret (some (.int 0)) _ _ _ _ _ ⟨_, rfl, h⟩ hH ⟨dJ0_coder_7d493_14, .byte, rfl, by decide⟩

def r_J0_length_8abf5_0 (E : EE) (σ : Mm) (Q : Int32 → Mm → Prop) : Prop := Rn E M_J0_length_8abf5 0 [(0, .ref (sK E 0))] [] σ (qi Q)
set_option maxRecDepth 20000 in
set_option maxHeartbeats 4000000 in
theorem s_J0_length_8abf5_0 (E : EE) (σ : Mm) (Q : Int32 → Mm → Prop) (h : r_J0_coder_7d493_0 E  σ (fun r2 τ1 => Q (5 >>> (r2 &&& 31)) τ1)) : r_J0_length_8abf5_0 E σ Q := by
  intro p e R s m args below meth c Z cells slots H locs ls C0 hH hl hret
  have hx := C0.1
  have hb : c.code = cJ0_length_8abf5 := C0.2.1
  have hl : lv_has ls 1 [(0, .ref (sK E 0))] := hl
  refine lv_aload_n hx hb dJ0_length_8abf5_0 rfl (lv_at hl 0 rfl) ?_
  refine m_sval C0 hH rfl dJ0_length_8abf5_1 ?_
  refine m_slen C0 hH dJ0_length_8abf5_4 ?_
  refine lv_aload_n hx hb dJ0_length_8abf5_5 rfl (lv_at hl 0 rfl) ?_
  refine m_cT (M2 := M_J0_coder_7d493) (As := []) (rest := [.int 5]) h C0 hH hl kc_J0_coder_7d493 ki_J0_coder_7d493 kx_J0_coder_7d493 kM_J0_335 rfl (Nat.le_of_ble_eq_true rfl) (Nat.le_of_ble_eq_true rfl) ⟨Nat.le_of_ble_eq_true rfl, Nat.le_of_ble_eq_true rfl⟩ dJ0_length_8abf5_6 rfl (fun r τ1 H locs hq hH => ?_)
  obtain ⟨r2, rfl, h⟩ := hq
  refine lv_ishr hx hb dJ0_length_8abf5_9 ?_
  exact hret (some (.int (5 >>> (r2 &&& 31)))) _ _ _ _ _ ⟨_, rfl, h⟩ hH ⟨dJ0_length_8abf5_10, .int, rfl, rfl⟩

def r_J1_canEncode_9a6ad_0 (E : EE) (x0 : Int32) (σ : Mm) (Q : Int32 → Mm → Prop) : Prop := Rn E M_J1_canEncode_9a6ad 0 [(0, .int x0)] [] σ (qi Q)
set_option maxRecDepth 20000 in
set_option maxHeartbeats 4000000 in
theorem s_J1_canEncode_9a6ad_0 (E : EE) (x0 : Int32) (σ : Mm) (Q : Int32 → Mm → Prop) (h : ((x0 < 0 → Q 0 σ) ∧ (¬ x0 < 0 → ((255 < x0 → Q 0 σ) ∧ (¬ 255 < x0 → Q 1 σ))))) : r_J1_canEncode_9a6ad_0 E x0 σ Q := by
  intro p e R s m args below meth c Z cells slots H locs ls C0 hH hl hret
  have hx := C0.1
  have hb : c.code = cJ1_canEncode_9a6ad := C0.2.1
  have hl : lv_has ls 1 [(0, .int x0)] := hl
  refine lv_iload_n hx hb dJ1_canEncode_9a6ad_0 rfl (lv_at hl 0 rfl) ?_
  refine lv_if_lt (tgt := 15) hx hb dJ1_canEncode_9a6ad_1 (by decide) (fun hc1 => ?_) (fun hc1 => ?_)
  · have h := h.1 hc1
    refine lv_iconst (v := 0) hx hb dJ1_canEncode_9a6ad_15 (by decide) ?_
    exact hret (some (.int 0)) _ _ _ _ _ ⟨_, rfl, h⟩ hH ⟨dJ1_canEncode_9a6ad_16, .boolean, rfl, nb (Or.inl rfl)⟩
  · have h := h.2 hc1
    refine lv_iload_n hx hb dJ1_canEncode_9a6ad_4 rfl (lv_at hl 0 rfl) ?_
    refine lv_sipush (v := 255) hx hb dJ1_canEncode_9a6ad_5 (by decide) ?_
    refine lv_icmp_gt (tgt := 15) hx hb dJ1_canEncode_9a6ad_8 (by decide) (fun hc2 => ?_) (fun hc2 => ?_)
    · have h := h.1 hc2
      refine lv_iconst (v := 0) hx hb dJ1_canEncode_9a6ad_15 (by decide) ?_
      exact hret (some (.int 0)) _ _ _ _ _ ⟨_, rfl, h⟩ hH ⟨dJ1_canEncode_9a6ad_16, .boolean, rfl, nb (Or.inl rfl)⟩
    · have h := h.2 hc2
      refine lv_iconst (v := 1) hx hb dJ1_canEncode_9a6ad_11 (by decide) ?_
      refine lv_goto (tgt := 16) hx hb dJ1_canEncode_9a6ad_12 (by decide) ?_
      exact hret (some (.int 1)) _ _ _ _ _ ⟨_, rfl, h⟩ hH ⟨dJ1_canEncode_9a6ad_16, .boolean, rfl, nb (Or.inr rfl)⟩

def r_J1_indexOfChar_4cfef_0 (E : EE) (x1 : Int32) (x2 : Int32) (x3 : Int32) (σ : Mm) (Q : Int32 → Mm → Prop) : Prop := Rn E M_J1_indexOfChar_4cfef 0 [(0, .ref (sV E 0)), (1, .int x1), (2, .int x2), (3, .int x3)] [] σ (qi Q)
def r_J1_indexOfChar_4cfef_7 (E : EE) (x1 : Int32) (x2 : Int32) (x3 : Int32) (x4 : Int32) (x5 : Int32) (σ : Mm) (Q : Int32 → Mm → Prop) : Prop := Rn E M_J1_indexOfChar_4cfef 7 [(0, .ref (sV E 0)), (1, .int x1), (2, .int x2), (3, .int x3), (4, .int x4), (5, .int x5)] [] σ (qi Q)
set_option maxRecDepth 20000 in
set_option maxHeartbeats 4000000 in
theorem s_J1_indexOfChar_4cfef_0 (E : EE) (x1 : Int32) (x2 : Int32) (x3 : Int32) (σ : Mm) (Q : Int32 → Mm → Prop) (h : r_J1_indexOfChar_4cfef_7 E x1 x2 x3 x1.toInt8.toInt32 x2 σ Q) : r_J1_indexOfChar_4cfef_0 E x1 x2 x3 σ Q := by
  intro p e R s m args below meth c Z cells slots H locs ls C0 hH hl hret
  have hx := C0.1
  have hb : c.code = cJ1_indexOfChar_4cfef := C0.2.1
  have hl : lv_has ls 6 [(0, .ref (sV E 0)), (1, .int x1), (2, .int x2), (3, .int x3)] := hl
  refine lv_iload_n hx hb dJ1_indexOfChar_4cfef_0 rfl (lv_at hl 1 rfl) ?_
  refine lv_i2b hx hb dJ1_indexOfChar_4cfef_1 rfl ?_
  refine lv_istore (lv' := [(4, .int x1.toInt8.toInt32), (0, .ref (sV E 0)), (1, .int x1), (2, .int x2), (3, .int x3)]) hx hb dJ1_indexOfChar_4cfef_2 hl (by decide) rfl (fun ls hl => ?_)
  refine lv_iload_n hx hb dJ1_indexOfChar_4cfef_4 rfl (lv_at hl 3 rfl) ?_
  refine lv_istore (lv' := [(5, .int x2), (4, .int x1.toInt8.toInt32), (0, .ref (sV E 0)), (1, .int x1), (2, .int x2), (3, .int x3)]) hx hb dJ1_indexOfChar_4cfef_5 hl (by decide) rfl (fun ls hl => ?_)
  exact h p e R s m args below meth c Z cells slots H locs ls C0 hH (lv_sub hl [2, 3, 4, 5, 1, 0] rfl) hret
set_option maxRecDepth 20000 in
set_option maxHeartbeats 4000000 in
theorem s_J1_indexOfChar_4cfef_7 (E : EE) (x1 : Int32) (x2 : Int32) (x3 : Int32) (x4 : Int32) (x5 : Int32) (σ : Mm) (Q : Int32 → Mm → Prop) (h : ((x3 ≤ x5 → Q (-1) σ) ∧ (¬ x3 ≤ x5 → (vp_in x5 5 ∧ ((¬ (byK x5.toNatClampNeg) = x4 → r_J1_indexOfChar_4cfef_7 E x1 x2 x3 x4 (x5 + 1) σ Q) ∧ ((byK x5.toNatClampNeg) = x4 → Q x5 σ)))))) : r_J1_indexOfChar_4cfef_7 E x1 x2 x3 x4 x5 σ Q := by
  intro p e R s m args below meth c Z cells slots H locs ls C0 hH hl hret
  have hx := C0.1
  have hb : c.code = cJ1_indexOfChar_4cfef := C0.2.1
  have hl : lv_has ls 6 [(0, .ref (sV E 0)), (1, .int x1), (2, .int x2), (3, .int x3), (4, .int x4), (5, .int x5)] := hl
  refine lv_iload hx hb dJ1_indexOfChar_4cfef_7 (lv_at hl 5 rfl) ?_
  refine lv_iload_n hx hb dJ1_indexOfChar_4cfef_9 rfl (lv_at hl 3 rfl) ?_
  refine lv_icmp_ge (tgt := 31) hx hb dJ1_indexOfChar_4cfef_10 (by decide) (fun hc1 => ?_) (fun hc1 => ?_)
  · have h := h.1 hc1
    refine lv_iconst (v := (-1)) hx hb dJ1_indexOfChar_4cfef_31 (by decide) ?_
    exact hret (some (.int (-1))) _ _ _ _ _ ⟨_, rfl, h⟩ hH ⟨dJ1_indexOfChar_4cfef_32, .int, rfl, rfl⟩
  · have h := h.2 hc1
    refine lv_aload_n hx hb dJ1_indexOfChar_4cfef_13 rfl (lv_at hl 0 rfl) ?_
    refine lv_iload hx hb dJ1_indexOfChar_4cfef_14 (lv_at hl 5 rfl) ?_
    refine m_sald C0 hH h.1 dJ1_indexOfChar_4cfef_16 ?_
    have h := h.2
    refine lv_iload hx hb dJ1_indexOfChar_4cfef_17 (lv_at hl 4 rfl) ?_
    refine lv_icmp_ne (tgt := 25) hx hb dJ1_indexOfChar_4cfef_19 (by decide) (fun hc2 => ?_) (fun hc2 => ?_)
    · have h := h.1 hc2
      refine lv_iinc (v := (x5 + 1)) (lv' := [(5, .int (x5 + 1)), (0, .ref (sV E 0)), (1, .int x1), (2, .int x2), (3, .int x3), (4, .int x4)]) hx hb dJ1_indexOfChar_4cfef_25 hl (k := 5) rfl rfl (by decide) rfl (fun ls hl => ?_)
      refine lv_goto (tgt := 7) hx hb dJ1_indexOfChar_4cfef_28 (by decide) ?_
      exact h p e R s m args below meth c Z cells slots H locs ls C0 hH (lv_sub hl [1, 2, 3, 4, 5, 0] rfl) hret
    · have h := h.2 hc2
      refine lv_iload hx hb dJ1_indexOfChar_4cfef_22 (lv_at hl 5 rfl) ?_
      exact hret (some (.int x5)) _ _ _ _ _ ⟨_, rfl, h⟩ hH ⟨dJ1_indexOfChar_4cfef_24, .int, rfl, rfl⟩

def r_J1_indexOf_4cfef_0 (E : EE) (x1 : Int32) (x2 : Int32) (x3 : Int32) (σ : Mm) (Q : Int32 → Mm → Prop) : Prop := Rn E M_J1_indexOf_4cfef 0 [(0, .ref (sV E 0)), (1, .int x1), (2, .int x2), (3, .int x3)] [] σ (qi Q)
set_option maxRecDepth 20000 in
set_option maxHeartbeats 4000000 in
theorem s_J1_indexOf_4cfef_0 (E : EE) (x1 : Int32) (x2 : Int32) (x3 : Int32) (σ : Mm) (Q : Int32 → Mm → Prop) (h : r_J1_canEncode_9a6ad_0 E x1 σ (fun r2 τ1 => ((¬ r2 = 0 → (((if x2 < 0 then 0 else x2) < (if 5 < x3 then 5 else x3) → r_J1_indexOfChar_4cfef_0 E x1 (if x2 < 0 then 0 else x2) (if 5 < x3 then 5 else x3) τ1 (fun r6 τ5 => Q r6 τ5)) ∧ (¬ (if x2 < 0 then 0 else x2) < (if 5 < x3 then 5 else x3) → Q (-1) τ1))) ∧ (r2 = 0 → Q (-1) τ1)))) : r_J1_indexOf_4cfef_0 E x1 x2 x3 σ Q := by
  intro p e R s m args below meth c Z cells slots H locs ls C0 hH hl hret
  have hx := C0.1
  have hb : c.code = cJ1_indexOf_4cfef := C0.2.1
  have hl : lv_has ls 4 [(0, .ref (sV E 0)), (1, .int x1), (2, .int x2), (3, .int x3)] := hl
  refine lv_iload_n hx hb dJ1_indexOf_4cfef_0 rfl (lv_at hl 1 rfl) ?_
  refine m_cS (M2 := M_J1_canEncode_9a6ad) (As := [.int x1]) (rest := []) h C0 hH hl kc_J1_canEncode_9a6ad ks_J1_canEncode_9a6ad kM_J1_88 rfl (Nat.le_of_ble_eq_true rfl) (Nat.le_of_ble_eq_true rfl) ⟨Nat.le_of_ble_eq_true rfl, Nat.le_of_ble_eq_true rfl⟩ dJ1_indexOf_4cfef_1 rfl (fun r τ1 H locs hq hH => ?_)
  obtain ⟨r2, rfl, h⟩ := hq
  refine lv_if_ne (tgt := 9) hx hb dJ1_indexOf_4cfef_4 (by decide) (fun hc3 => ?_) (fun hc3 => ?_)
  · have h := h.1 hc3
    refine lv_iload_n hx hb dJ1_indexOf_4cfef_9 rfl (lv_at hl 2 rfl) ?_
    refine lv_iconst (v := 0) hx hb dJ1_indexOf_4cfef_10 (by decide) ?_
    refine m_max (rest := []) C0 hl kM_J1_92 (Nat.le_of_ble_eq_true rfl) ⟨Nat.le_of_ble_eq_true rfl, Nat.le_of_ble_eq_true rfl⟩ dJ1_indexOf_4cfef_11 ?_
    refine lv_istore_n (lv' := [(2, .int (if x2 < 0 then 0 else x2)), (0, .ref (sV E 0)), (1, .int x1), (3, .int x3)]) hx hb dJ1_indexOf_4cfef_14 rfl hl (by decide) rfl (fun ls hl => ?_)
    refine lv_iload_n hx hb dJ1_indexOf_4cfef_15 rfl (lv_at hl 3 rfl) ?_
    refine lv_aload_n hx hb dJ1_indexOf_4cfef_16 rfl (lv_at hl 1 rfl) ?_
    refine m_slen C0 hH dJ1_indexOf_4cfef_17 ?_
    refine m_min (rest := []) C0 hl kM_J1_38 (Nat.le_of_ble_eq_true rfl) ⟨Nat.le_of_ble_eq_true rfl, Nat.le_of_ble_eq_true rfl⟩ dJ1_indexOf_4cfef_18 ?_
    refine lv_istore_n (lv' := [(3, .int (if 5 < x3 then 5 else x3)), (2, .int (if x2 < 0 then 0 else x2)), (0, .ref (sV E 0)), (1, .int x1)]) hx hb dJ1_indexOf_4cfef_21 rfl hl (by decide) rfl (fun ls hl => ?_)
    refine lv_iload_n hx hb dJ1_indexOf_4cfef_22 rfl (lv_at hl 1 rfl) ?_
    refine lv_iload_n hx hb dJ1_indexOf_4cfef_23 rfl (lv_at hl 0 rfl) ?_
    refine lv_icmp_lt (tgt := 29) hx hb dJ1_indexOf_4cfef_24 (by decide) (fun hc4 => ?_) (fun hc4 => ?_)
    · have h := h.1 hc4
      refine lv_aload_n hx hb dJ1_indexOf_4cfef_29 rfl (lv_at hl 2 rfl) ?_
      refine lv_iload_n hx hb dJ1_indexOf_4cfef_30 rfl (lv_at hl 3 rfl) ?_
      refine lv_iload_n hx hb dJ1_indexOf_4cfef_31 rfl (lv_at hl 1 rfl) ?_
      refine lv_iload_n hx hb dJ1_indexOf_4cfef_32 rfl (lv_at hl 0 rfl) ?_
      refine m_cS (M2 := M_J1_indexOfChar_4cfef) (As := [.ref (sV E 0), .int x1, .int (if x2 < 0 then 0 else x2), .int (if 5 < x3 then 5 else x3)]) (rest := []) h C0 hH hl kc_J1_indexOfChar_4cfef ks_J1_indexOfChar_4cfef kM_J1_95 rfl (Nat.le_of_ble_eq_true rfl) (Nat.le_of_ble_eq_true rfl) ⟨Nat.le_of_ble_eq_true rfl, Nat.le_of_ble_eq_true rfl⟩ dJ1_indexOf_4cfef_33 rfl (fun r τ5 H locs hq hH => ?_)
      obtain ⟨r6, rfl, h⟩ := hq
      exact hret (some (.int r6)) _ _ _ _ _ ⟨_, rfl, h⟩ hH ⟨dJ1_indexOf_4cfef_36, .int, rfl, rfl⟩
    · have h := h.2 hc4
      refine lv_iconst (v := (-1)) hx hb dJ1_indexOf_4cfef_27 (by decide) ?_
      exact hret (some (.int (-1))) _ _ _ _ _ ⟨_, rfl, h⟩ hH ⟨dJ1_indexOf_4cfef_28, .int, rfl, rfl⟩
  · have h := h.2 hc3
    refine lv_iconst (v := (-1)) hx hb dJ1_indexOf_4cfef_7 (by decide) ?_
    exact hret (some (.int (-1))) _ _ _ _ _ ⟨_, rfl, h⟩ hH ⟨dJ1_indexOf_4cfef_8, .int, rfl, rfl⟩

def r_J0_indexOf_7cf53_0 (E : EE) (x1 : Int32) (x2 : Int32) (σ : Mm) (Q : Int32 → Mm → Prop) : Prop := Rn E M_J0_indexOf_7cf53 0 [(0, .ref (sK E 0)), (1, .int x1), (2, .int x2)] [] σ (qi Q)
set_option maxRecDepth 20000 in
set_option maxHeartbeats 4000000 in
theorem s_J0_indexOf_7cf53_0 (E : EE) (x1 : Int32) (x2 : Int32) (σ : Mm) (Q : Int32 → Mm → Prop) (h : r_J0_isLatin1_aae02_0 E  σ (fun r2 τ1 => ((r2 = 0 → False) ∧ (¬ r2 = 0 → r_J0_length_8abf5_0 E  τ1 (fun r5 τ4 => r_J1_indexOf_4cfef_0 E x1 x2 r5 τ4 (fun r7 τ6 => Q r7 τ6)))))) : r_J0_indexOf_7cf53_0 E x1 x2 σ Q := by
  intro p e R s m args below meth c Z cells slots H locs ls C0 hH hl hret
  have hx := C0.1
  have hb : c.code = cJ0_indexOf_7cf53 := C0.2.1
  have hl : lv_has ls 3 [(0, .ref (sK E 0)), (1, .int x1), (2, .int x2)] := hl
  refine lv_aload_n hx hb dJ0_indexOf_7cf53_0 rfl (lv_at hl 0 rfl) ?_
  refine m_cT (M2 := M_J0_isLatin1_aae02) (As := []) (rest := []) h C0 hH hl kc_J0_isLatin1_aae02 ki_J0_isLatin1_aae02 kx_J0_isLatin1_aae02 kM_J0_492 rfl (Nat.le_of_ble_eq_true rfl) (Nat.le_of_ble_eq_true rfl) ⟨Nat.le_of_ble_eq_true rfl, Nat.le_of_ble_eq_true rfl⟩ dJ0_indexOf_7cf53_1 rfl (fun r τ1 H locs hq hH => ?_)
  obtain ⟨r2, rfl, h⟩ := hq
  refine lv_if_eq (tgt := 23) hx hb dJ0_indexOf_7cf53_4 (by decide) (fun hc3 => ?_) (fun hc3 => ?_)
  · have h := h.1 hc3
    exact h.elim
  · have h := h.2 hc3
    refine lv_aload_n hx hb dJ0_indexOf_7cf53_7 rfl (lv_at hl 0 rfl) ?_
    refine m_sval C0 hH rfl dJ0_indexOf_7cf53_8 ?_
    refine lv_iload_n hx hb dJ0_indexOf_7cf53_11 rfl (lv_at hl 1 rfl) ?_
    refine lv_iload_n hx hb dJ0_indexOf_7cf53_12 rfl (lv_at hl 2 rfl) ?_
    refine lv_aload_n hx hb dJ0_indexOf_7cf53_13 rfl (lv_at hl 0 rfl) ?_
    refine m_cT (M2 := M_J0_length_8abf5) (As := []) (rest := [.int x2, .int x1, .ref (sV E 0)]) h C0 hH hl kc_J0_length_8abf5 ki_J0_length_8abf5 kx_J0_length_8abf5 kM_J0_505 rfl (Nat.le_of_ble_eq_true rfl) (Nat.le_of_ble_eq_true rfl) ⟨Nat.le_of_ble_eq_true rfl, Nat.le_of_ble_eq_true rfl⟩ dJ0_indexOf_7cf53_14 rfl (fun r τ4 H locs hq hH => ?_)
    obtain ⟨r5, rfl, h⟩ := hq
    refine m_cS (M2 := M_J1_indexOf_4cfef) (As := [.ref (sV E 0), .int x1, .int x2, .int r5]) (rest := []) h C0 hH hl kc_J1_indexOf_4cfef ks_J1_indexOf_4cfef kM_J0_637 rfl (Nat.le_of_ble_eq_true rfl) (Nat.le_of_ble_eq_true rfl) ⟨Nat.le_of_ble_eq_true rfl, Nat.le_of_ble_eq_true rfl⟩ dJ0_indexOf_7cf53_17 rfl (fun r τ6 H locs hq hH => ?_)
    obtain ⟨r7, rfl, h⟩ := hq
    refine lv_goto (tgt := 36) hx hb dJ0_indexOf_7cf53_20 (by decide) ?_
    exact hret (some (.int r7)) _ _ _ _ _ ⟨_, rfl, h⟩ hH ⟨dJ0_indexOf_7cf53_36, .int, rfl, rfl⟩

def r_J0_indexOf_0f7a4_0 (E : EE) (x1 : Int32) (σ : Mm) (Q : Int32 → Mm → Prop) : Prop := Rn E M_J0_indexOf_0f7a4 0 [(0, .ref (sK E 0)), (1, .int x1)] [] σ (qi Q)
set_option maxRecDepth 20000 in
set_option maxHeartbeats 4000000 in
theorem s_J0_indexOf_0f7a4_0 (E : EE) (x1 : Int32) (σ : Mm) (Q : Int32 → Mm → Prop) (h : r_J0_indexOf_7cf53_0 E x1 0 σ (fun r2 τ1 => Q r2 τ1)) : r_J0_indexOf_0f7a4_0 E x1 σ Q := by
  intro p e R s m args below meth c Z cells slots H locs ls C0 hH hl hret
  have hx := C0.1
  have hb : c.code = cJ0_indexOf_0f7a4 := C0.2.1
  have hl : lv_has ls 2 [(0, .ref (sK E 0)), (1, .int x1)] := hl
  refine lv_aload_n hx hb dJ0_indexOf_0f7a4_0 rfl (lv_at hl 0 rfl) ?_
  refine lv_iload_n hx hb dJ0_indexOf_0f7a4_1 rfl (lv_at hl 1 rfl) ?_
  refine lv_iconst (v := 0) hx hb dJ0_indexOf_0f7a4_2 (by decide) ?_
  refine m_cT (M2 := M_J0_indexOf_7cf53) (As := [.int x1, .int 0]) (rest := []) h C0 hH hl kc_J0_indexOf_7cf53 ki_J0_indexOf_7cf53 kx_J0_indexOf_7cf53 kM_J0_633 rfl (Nat.le_of_ble_eq_true rfl) (Nat.le_of_ble_eq_true rfl) ⟨Nat.le_of_ble_eq_true rfl, Nat.le_of_ble_eq_true rfl⟩ dJ0_indexOf_0f7a4_3 rfl (fun r τ1 H locs hq hH => ?_)
  obtain ⟨r2, rfl, h⟩ := hq
  exact hret (some (.int r2)) _ _ _ _ _ ⟨_, rfl, h⟩ hH ⟨dJ0_indexOf_0f7a4_6, .int, rfl, rfl⟩

def r_X7_takes_0 (E : EE) (x1 : Int32) (σ : Mm) (Q : Int32 → Mm → Prop) : Prop := Rn E M_X7_takes 0 [(0, .ref (Ad E 3)), (1, .int x1)] [] σ (qi Q)
set_option maxRecDepth 20000 in
set_option maxHeartbeats 4000000 in
theorem s_X7_takes_0 (E : EE) (x1 : Int32) (σ : Mm) (Q : Int32 → Mm → Prop) (h : (((σ 3 1) = 0 → r_X9_digitOf_0 E x1 σ (fun r3 τ2 => r_X7_takesRoom_0 E r3 τ2 (fun r5 τ4 => ((r5 = 0 ∨ r5 = 1) ∧ Q r5 τ4)))) ∧ ((σ 3 1) = 1 → ((¬ x1 = 59 → r_X7_goesOn_0 E 0 2 σ (fun r9 τ8 => ((r9 = 0 ∨ r9 = 1) ∧ Q r9 τ8))) ∧ (x1 = 59 → r_X7_goesOn_0 E 1 2 σ (fun r11 τ10 => ((r11 = 0 ∨ r11 = 1) ∧ Q r11 τ10))))) ∧ ((σ 3 1) = 2 → r_J0_indexOf_0f7a4_0 E ((x1.toUInt32 % 65536).toInt32) σ (fun r14 τ13 => r_X7_takesKind_0 E r14 τ13 (fun r16 τ15 => ((r16 = 0 ∨ r16 = 1) ∧ Q r16 τ15)))) ∧ ((σ 3 1) = 3 → r_X9_digitOf_0 E x1 σ (fun r19 τ18 => r_X7_takesWarm_0 E r19 τ18 (fun r21 τ20 => ((r21 = 0 ∨ r21 = 1) ∧ Q r21 τ20)))) ∧ ((σ 3 1) = 4 → r_X7_takesMark_0 E x1 σ (fun r24 τ23 => ((r24 = 0 ∨ r24 = 1) ∧ Q r24 τ23))) ∧ ((σ 3 1) = 5 → r_X9_digitOf_0 E x1 σ (fun r27 τ26 => r_X7_takesDid_0 E r27 τ26 (fun r29 τ28 => ((r29 = 0 ∨ r29 = 1) ∧ Q r29 τ28)))) ∧ ((σ 3 1) = 6 → r_X9_digitOf_0 E x1 σ (fun r32 τ31 => r_X7_takesWhom_0 E r32 τ31 (fun r34 τ33 => ((r34 = 0 ∨ r34 = 1) ∧ Q r34 τ33)))) ∧ ((σ 3 1) = 7 → r_X9_digitOf_0 E x1 σ (fun r37 τ36 => r_X7_takesGrave_0 E r37 τ36 (fun r39 τ38 => ((r39 = 0 ∨ r39 = 1) ∧ Q r39 τ38)))) ∧ (¬ (σ 3 1) = 0 → ¬ (σ 3 1) = 1 → ¬ (σ 3 1) = 2 → ¬ (σ 3 1) = 3 → ¬ (σ 3 1) = 4 → ¬ (σ 3 1) = 5 → ¬ (σ 3 1) = 6 → ¬ (σ 3 1) = 7 → ((¬ x1 = 44 → r_X7_goesOn_0 E 0 5 σ (fun r42 τ41 => ((r42 = 0 ∨ r42 = 1) ∧ Q r42 τ41))) ∧ (x1 = 44 → ((8 ≤ (σ 4 2) → r_X7_goesOn_0 E 0 5 σ (fun r45 τ44 => ((r45 = 0 ∨ r45 = 1) ∧ Q r45 τ44))) ∧ (¬ 8 ≤ (σ 4 2) → r_X7_goesOn_0 E 1 5 σ (fun r47 τ46 => ((r47 = 0 ∨ r47 = 1) ∧ Q r47 τ46))))))))) : r_X7_takes_0 E x1 σ Q := by
  intro p e R s m args below meth c Z cells slots H locs ls C0 hH hl hret
  have hx := C0.1
  have hb : c.code = cX7_takes := C0.2.1
  have hl : lv_has ls 2 [(0, .ref (Ad E 3)), (1, .int x1)] := hl
  refine lv_aload_n hx hb dX7_takes_0 rfl (lv_at hl 0 rfl) ?_
  refine m_geti (x := σ 3 1) C0 hH f_3_1 kF_X7_18 dX7_takes_1 rfl ?_
  by_cases hs1 : (σ 3 1) = 0
  · have h := h.1 hs1
    refine m_tin (v := 0) (tgt := 52) C0 dX7_takes_4 hs1 (by decide) (by decide) rfl (by decide) ?_
    refine lv_aload_n hx hb dX7_takes_52 rfl (lv_at hl 0 rfl) ?_
    refine lv_iload_n hx hb dX7_takes_53 rfl (lv_at hl 1 rfl) ?_
    refine m_cN (M2 := M_X9_digitOf) (As := [.int x1]) (rest := [.ref (Ad E 3)]) h C0 hH hl kc_X9_digitOf ks_X9_digitOf kN_X7_38 rfl (Nat.le_of_ble_eq_true rfl) (Nat.le_of_ble_eq_true rfl) ⟨Nat.le_of_ble_eq_true rfl, Nat.le_of_ble_eq_true rfl⟩ dX7_takes_54 rfl (fun r τ2 H locs hq hH => ?_)
    obtain ⟨r3, rfl, h⟩ := hq
    refine m_cV (M2 := M_X7_takesRoom) (As := [.int r3]) (rest := []) h C0 hH hl kc_X7_takesRoom ki_X7_takesRoom kx_X7_takesRoom ob_3 kM_X7_42 rfl (Nat.le_of_ble_eq_true rfl) (Nat.le_of_ble_eq_true rfl) ⟨Nat.le_of_ble_eq_true rfl, Nat.le_of_ble_eq_true rfl⟩ dX7_takes_57 rfl (fun r τ4 H locs hq hH => ?_)
    obtain ⟨r5, rfl, h⟩ := hq
    exact hret (some (.int r5)) _ _ _ _ _ ⟨_, rfl, h.2⟩ hH ⟨dX7_takes_60, .boolean, rfl, nb h.1⟩
  have h := h.2
  by_cases hs6 : (σ 3 1) = 1
  · have h := h.1 hs6
    refine m_tin (v := 1) (tgt := 61) C0 dX7_takes_4 hs6 (by decide) (by decide) rfl (by decide) ?_
    refine lv_aload_n hx hb dX7_takes_61 rfl (lv_at hl 0 rfl) ?_
    refine lv_iload_n hx hb dX7_takes_62 rfl (lv_at hl 1 rfl) ?_
    refine lv_bipush (v := 59) hx hb dX7_takes_63 (by decide) ?_
    refine lv_icmp_ne (tgt := 72) hx hb dX7_takes_65 (by decide) (fun hc7 => ?_) (fun hc7 => ?_)
    · have h := h.1 hc7
      refine lv_iconst (v := 0) hx hb dX7_takes_72 (by decide) ?_
      refine lv_iconst (v := 2) hx hb dX7_takes_73 (by decide) ?_
      refine m_cV (M2 := M_X7_goesOn) (As := [.int 0, .int 2]) (rest := []) h C0 hH hl kc_X7_goesOn ki_X7_goesOn kx_X7_goesOn ob_3 kM_X7_45 rfl (Nat.le_of_ble_eq_true rfl) (Nat.le_of_ble_eq_true rfl) ⟨Nat.le_of_ble_eq_true rfl, Nat.le_of_ble_eq_true rfl⟩ dX7_takes_74 rfl (fun r τ8 H locs hq hH => ?_)
      obtain ⟨r9, rfl, h⟩ := hq
      exact hret (some (.int r9)) _ _ _ _ _ ⟨_, rfl, h.2⟩ hH ⟨dX7_takes_77, .boolean, rfl, nb h.1⟩
    · have h := h.2 hc7
      refine lv_iconst (v := 1) hx hb dX7_takes_68 (by decide) ?_
      refine lv_goto (tgt := 73) hx hb dX7_takes_69 (by decide) ?_
      refine lv_iconst (v := 2) hx hb dX7_takes_73 (by decide) ?_
      refine m_cV (M2 := M_X7_goesOn) (As := [.int 1, .int 2]) (rest := []) h C0 hH hl kc_X7_goesOn ki_X7_goesOn kx_X7_goesOn ob_3 kM_X7_45 rfl (Nat.le_of_ble_eq_true rfl) (Nat.le_of_ble_eq_true rfl) ⟨Nat.le_of_ble_eq_true rfl, Nat.le_of_ble_eq_true rfl⟩ dX7_takes_74 rfl (fun r τ10 H locs hq hH => ?_)
      obtain ⟨r11, rfl, h⟩ := hq
      exact hret (some (.int r11)) _ _ _ _ _ ⟨_, rfl, h.2⟩ hH ⟨dX7_takes_77, .boolean, rfl, nb h.1⟩
  have h := h.2
  by_cases hs12 : (σ 3 1) = 2
  · have h := h.1 hs12
    refine m_tin (v := 2) (tgt := 78) C0 dX7_takes_4 hs12 (by decide) (by decide) rfl (by decide) ?_
    refine lv_aload_n hx hb dX7_takes_78 rfl (lv_at hl 0 rfl) ?_
    refine m_ldcS C0 rfl dX7_takes_79 ?_
    refine lv_iload_n hx hb dX7_takes_81 rfl (lv_at hl 1 rfl) ?_
    refine lv_i2c hx hb dX7_takes_82 rfl ?_
    refine m_cT (M2 := M_J0_indexOf_0f7a4) (As := [.int (x1.toUInt32 % 65536).toInt32]) (rest := [.ref (Ad E 3)]) h C0 hH hl kc_J0_indexOf_0f7a4 ki_J0_indexOf_0f7a4 kx_J0_indexOf_0f7a4 kM_X7_51 rfl (Nat.le_of_ble_eq_true rfl) (Nat.le_of_ble_eq_true rfl) ⟨Nat.le_of_ble_eq_true rfl, Nat.le_of_ble_eq_true rfl⟩ dX7_takes_83 rfl (fun r τ13 H locs hq hH => ?_)
    obtain ⟨r14, rfl, h⟩ := hq
    refine m_cV (M2 := M_X7_takesKind) (As := [.int r14]) (rest := []) h C0 hH hl kc_X7_takesKind ki_X7_takesKind kx_X7_takesKind ob_3 kM_X7_56 rfl (Nat.le_of_ble_eq_true rfl) (Nat.le_of_ble_eq_true rfl) ⟨Nat.le_of_ble_eq_true rfl, Nat.le_of_ble_eq_true rfl⟩ dX7_takes_86 rfl (fun r τ15 H locs hq hH => ?_)
    obtain ⟨r16, rfl, h⟩ := hq
    exact hret (some (.int r16)) _ _ _ _ _ ⟨_, rfl, h.2⟩ hH ⟨dX7_takes_89, .boolean, rfl, nb h.1⟩
  have h := h.2
  by_cases hs17 : (σ 3 1) = 3
  · have h := h.1 hs17
    refine m_tin (v := 3) (tgt := 90) C0 dX7_takes_4 hs17 (by decide) (by decide) rfl (by decide) ?_
    refine lv_aload_n hx hb dX7_takes_90 rfl (lv_at hl 0 rfl) ?_
    refine lv_iload_n hx hb dX7_takes_91 rfl (lv_at hl 1 rfl) ?_
    refine m_cN (M2 := M_X9_digitOf) (As := [.int x1]) (rest := [.ref (Ad E 3)]) h C0 hH hl kc_X9_digitOf ks_X9_digitOf kN_X7_38 rfl (Nat.le_of_ble_eq_true rfl) (Nat.le_of_ble_eq_true rfl) ⟨Nat.le_of_ble_eq_true rfl, Nat.le_of_ble_eq_true rfl⟩ dX7_takes_92 rfl (fun r τ18 H locs hq hH => ?_)
    obtain ⟨r19, rfl, h⟩ := hq
    refine m_cV (M2 := M_X7_takesWarm) (As := [.int r19]) (rest := []) h C0 hH hl kc_X7_takesWarm ki_X7_takesWarm kx_X7_takesWarm ob_3 kM_X7_59 rfl (Nat.le_of_ble_eq_true rfl) (Nat.le_of_ble_eq_true rfl) ⟨Nat.le_of_ble_eq_true rfl, Nat.le_of_ble_eq_true rfl⟩ dX7_takes_95 rfl (fun r τ20 H locs hq hH => ?_)
    obtain ⟨r21, rfl, h⟩ := hq
    exact hret (some (.int r21)) _ _ _ _ _ ⟨_, rfl, h.2⟩ hH ⟨dX7_takes_98, .boolean, rfl, nb h.1⟩
  have h := h.2
  by_cases hs22 : (σ 3 1) = 4
  · have h := h.1 hs22
    refine m_tin (v := 4) (tgt := 99) C0 dX7_takes_4 hs22 (by decide) (by decide) rfl (by decide) ?_
    refine lv_aload_n hx hb dX7_takes_99 rfl (lv_at hl 0 rfl) ?_
    refine lv_iload_n hx hb dX7_takes_100 rfl (lv_at hl 1 rfl) ?_
    refine m_cV (M2 := M_X7_takesMark) (As := [.int x1]) (rest := []) h C0 hH hl kc_X7_takesMark ki_X7_takesMark kx_X7_takesMark ob_3 kM_X7_62 rfl (Nat.le_of_ble_eq_true rfl) (Nat.le_of_ble_eq_true rfl) ⟨Nat.le_of_ble_eq_true rfl, Nat.le_of_ble_eq_true rfl⟩ dX7_takes_101 rfl (fun r τ23 H locs hq hH => ?_)
    obtain ⟨r24, rfl, h⟩ := hq
    exact hret (some (.int r24)) _ _ _ _ _ ⟨_, rfl, h.2⟩ hH ⟨dX7_takes_104, .boolean, rfl, nb h.1⟩
  have h := h.2
  by_cases hs25 : (σ 3 1) = 5
  · have h := h.1 hs25
    refine m_tin (v := 5) (tgt := 105) C0 dX7_takes_4 hs25 (by decide) (by decide) rfl (by decide) ?_
    refine lv_aload_n hx hb dX7_takes_105 rfl (lv_at hl 0 rfl) ?_
    refine lv_iload_n hx hb dX7_takes_106 rfl (lv_at hl 1 rfl) ?_
    refine m_cN (M2 := M_X9_digitOf) (As := [.int x1]) (rest := [.ref (Ad E 3)]) h C0 hH hl kc_X9_digitOf ks_X9_digitOf kN_X7_38 rfl (Nat.le_of_ble_eq_true rfl) (Nat.le_of_ble_eq_true rfl) ⟨Nat.le_of_ble_eq_true rfl, Nat.le_of_ble_eq_true rfl⟩ dX7_takes_107 rfl (fun r τ26 H locs hq hH => ?_)
    obtain ⟨r27, rfl, h⟩ := hq
    refine m_cV (M2 := M_X7_takesDid) (As := [.int r27]) (rest := []) h C0 hH hl kc_X7_takesDid ki_X7_takesDid kx_X7_takesDid ob_3 kM_X7_65 rfl (Nat.le_of_ble_eq_true rfl) (Nat.le_of_ble_eq_true rfl) ⟨Nat.le_of_ble_eq_true rfl, Nat.le_of_ble_eq_true rfl⟩ dX7_takes_110 rfl (fun r τ28 H locs hq hH => ?_)
    obtain ⟨r29, rfl, h⟩ := hq
    exact hret (some (.int r29)) _ _ _ _ _ ⟨_, rfl, h.2⟩ hH ⟨dX7_takes_113, .boolean, rfl, nb h.1⟩
  have h := h.2
  by_cases hs30 : (σ 3 1) = 6
  · have h := h.1 hs30
    refine m_tin (v := 6) (tgt := 114) C0 dX7_takes_4 hs30 (by decide) (by decide) rfl (by decide) ?_
    refine lv_aload_n hx hb dX7_takes_114 rfl (lv_at hl 0 rfl) ?_
    refine lv_iload_n hx hb dX7_takes_115 rfl (lv_at hl 1 rfl) ?_
    refine m_cN (M2 := M_X9_digitOf) (As := [.int x1]) (rest := [.ref (Ad E 3)]) h C0 hH hl kc_X9_digitOf ks_X9_digitOf kN_X7_38 rfl (Nat.le_of_ble_eq_true rfl) (Nat.le_of_ble_eq_true rfl) ⟨Nat.le_of_ble_eq_true rfl, Nat.le_of_ble_eq_true rfl⟩ dX7_takes_116 rfl (fun r τ31 H locs hq hH => ?_)
    obtain ⟨r32, rfl, h⟩ := hq
    refine m_cV (M2 := M_X7_takesWhom) (As := [.int r32]) (rest := []) h C0 hH hl kc_X7_takesWhom ki_X7_takesWhom kx_X7_takesWhom ob_3 kM_X7_68 rfl (Nat.le_of_ble_eq_true rfl) (Nat.le_of_ble_eq_true rfl) ⟨Nat.le_of_ble_eq_true rfl, Nat.le_of_ble_eq_true rfl⟩ dX7_takes_119 rfl (fun r τ33 H locs hq hH => ?_)
    obtain ⟨r34, rfl, h⟩ := hq
    exact hret (some (.int r34)) _ _ _ _ _ ⟨_, rfl, h.2⟩ hH ⟨dX7_takes_122, .boolean, rfl, nb h.1⟩
  have h := h.2
  by_cases hs35 : (σ 3 1) = 7
  · have h := h.1 hs35
    refine m_tin (v := 7) (tgt := 123) C0 dX7_takes_4 hs35 (by decide) (by decide) rfl (by decide) ?_
    refine lv_aload_n hx hb dX7_takes_123 rfl (lv_at hl 0 rfl) ?_
    refine lv_iload_n hx hb dX7_takes_124 rfl (lv_at hl 1 rfl) ?_
    refine m_cN (M2 := M_X9_digitOf) (As := [.int x1]) (rest := [.ref (Ad E 3)]) h C0 hH hl kc_X9_digitOf ks_X9_digitOf kN_X7_38 rfl (Nat.le_of_ble_eq_true rfl) (Nat.le_of_ble_eq_true rfl) ⟨Nat.le_of_ble_eq_true rfl, Nat.le_of_ble_eq_true rfl⟩ dX7_takes_125 rfl (fun r τ36 H locs hq hH => ?_)
    obtain ⟨r37, rfl, h⟩ := hq
    refine m_cV (M2 := M_X7_takesGrave) (As := [.int r37]) (rest := []) h C0 hH hl kc_X7_takesGrave ki_X7_takesGrave kx_X7_takesGrave ob_3 kM_X7_71 rfl (Nat.le_of_ble_eq_true rfl) (Nat.le_of_ble_eq_true rfl) ⟨Nat.le_of_ble_eq_true rfl, Nat.le_of_ble_eq_true rfl⟩ dX7_takes_128 rfl (fun r τ38 H locs hq hH => ?_)
    obtain ⟨r39, rfl, h⟩ := hq
    exact hret (some (.int r39)) _ _ _ _ _ ⟨_, rfl, h.2⟩ hH ⟨dX7_takes_131, .boolean, rfl, nb h.1⟩
  have h := h.2
  have h := h hs1
  have h := h hs6
  have h := h hs12
  have h := h hs17
  have h := h hs22
  have h := h hs25
  have h := h hs30
  have h := h hs35
  refine m_tout (tgt := 132) C0 dX7_takes_4 (fun v h1 h2 => ?_) (by decide) ?_
  · rcases (show v = 0 ∨ v = 1 ∨ v = 2 ∨ v = 3 ∨ v = 4 ∨ v = 5 ∨ v = 6 ∨ v = 7 by omega) with rfl | rfl | rfl | rfl | rfl | rfl | rfl | rfl
    · exact fun q => hs1 (q.trans (by decide))
    · exact fun q => hs6 (q.trans (by decide))
    · exact fun q => hs12 (q.trans (by decide))
    · exact fun q => hs17 (q.trans (by decide))
    · exact fun q => hs22 (q.trans (by decide))
    · exact fun q => hs25 (q.trans (by decide))
    · exact fun q => hs30 (q.trans (by decide))
    · exact fun q => hs35 (q.trans (by decide))
  refine lv_aload_n hx hb dX7_takes_132 rfl (lv_at hl 0 rfl) ?_
  refine lv_iload_n hx hb dX7_takes_133 rfl (lv_at hl 1 rfl) ?_
  refine lv_bipush (v := 44) hx hb dX7_takes_134 (by decide) ?_
  refine lv_icmp_ne (tgt := 155) hx hb dX7_takes_136 (by decide) (fun hc40 => ?_) (fun hc40 => ?_)
  · have h := h.1 hc40
    refine lv_iconst (v := 0) hx hb dX7_takes_155 (by decide) ?_
    refine lv_iconst (v := 5) hx hb dX7_takes_156 (by decide) ?_
    refine m_cV (M2 := M_X7_goesOn) (As := [.int 0, .int 5]) (rest := []) h C0 hH hl kc_X7_goesOn ki_X7_goesOn kx_X7_goesOn ob_3 kM_X7_45 rfl (Nat.le_of_ble_eq_true rfl) (Nat.le_of_ble_eq_true rfl) ⟨Nat.le_of_ble_eq_true rfl, Nat.le_of_ble_eq_true rfl⟩ dX7_takes_157 rfl (fun r τ41 H locs hq hH => ?_)
    obtain ⟨r42, rfl, h⟩ := hq
    exact hret (some (.int r42)) _ _ _ _ _ ⟨_, rfl, h.2⟩ hH ⟨dX7_takes_160, .boolean, rfl, nb h.1⟩
  · have h := h.2 hc40
    refine lv_aload_n hx hb dX7_takes_139 rfl (lv_at hl 0 rfl) ?_
    refine m_getr C0 hH f_3_0 4 rfl kF_X7_12 dX7_takes_140 ?_
    refine m_geti (x := σ 4 2) C0 hH f_4_2 kF_X7_74 dX7_takes_143 rfl ?_
    refine lv_bipush (v := 8) hx hb dX7_takes_146 (by decide) ?_
    refine lv_icmp_ge (tgt := 155) hx hb dX7_takes_148 (by decide) (fun hc43 => ?_) (fun hc43 => ?_)
    · have h := h.1 hc43
      refine lv_iconst (v := 0) hx hb dX7_takes_155 (by decide) ?_
      refine lv_iconst (v := 5) hx hb dX7_takes_156 (by decide) ?_
      refine m_cV (M2 := M_X7_goesOn) (As := [.int 0, .int 5]) (rest := []) h C0 hH hl kc_X7_goesOn ki_X7_goesOn kx_X7_goesOn ob_3 kM_X7_45 rfl (Nat.le_of_ble_eq_true rfl) (Nat.le_of_ble_eq_true rfl) ⟨Nat.le_of_ble_eq_true rfl, Nat.le_of_ble_eq_true rfl⟩ dX7_takes_157 rfl (fun r τ44 H locs hq hH => ?_)
      obtain ⟨r45, rfl, h⟩ := hq
      exact hret (some (.int r45)) _ _ _ _ _ ⟨_, rfl, h.2⟩ hH ⟨dX7_takes_160, .boolean, rfl, nb h.1⟩
    · have h := h.2 hc43
      refine lv_iconst (v := 1) hx hb dX7_takes_151 (by decide) ?_
      refine lv_goto (tgt := 156) hx hb dX7_takes_152 (by decide) ?_
      refine lv_iconst (v := 5) hx hb dX7_takes_156 (by decide) ?_
      refine m_cV (M2 := M_X7_goesOn) (As := [.int 1, .int 5]) (rest := []) h C0 hH hl kc_X7_goesOn ki_X7_goesOn kx_X7_goesOn ob_3 kM_X7_45 rfl (Nat.le_of_ble_eq_true rfl) (Nat.le_of_ble_eq_true rfl) ⟨Nat.le_of_ble_eq_true rfl, Nat.le_of_ble_eq_true rfl⟩ dX7_takes_157 rfl (fun r τ46 H locs hq hH => ?_)
      obtain ⟨r47, rfl, h⟩ := hq
      exact hret (some (.int r47)) _ _ _ _ _ ⟨_, rfl, h.2⟩ hH ⟨dX7_takes_160, .boolean, rfl, nb h.1⟩

def r_X7_firstFault_0 (E : EE) (σ : Mm) (Q : Int32 → Mm → Prop) : Prop := Rn E M_X7_firstFault 0 [(0, .ref (Ad E 3)), (1, .ref (Ad E 1))] [] σ (qi Q)
def r_X7_firstFault_14 (E : EE) (x2 : Int32) (σ : Mm) (Q : Int32 → Mm → Prop) : Prop := Rn E M_X7_firstFault 14 [(0, .ref (Ad E 3)), (1, .ref (Ad E 1)), (2, .int x2)] [] σ (qi Q)
set_option maxRecDepth 20000 in
set_option maxHeartbeats 4000000 in
theorem s_X7_firstFault_0 (E : EE) (σ : Mm) (Q : Int32 → Mm → Prop) (h : r_X2_clear_0 E  σ (fun τ1 => r_X7_firstFault_14 E 0 (up τ1 3 1 0) Q)) : r_X7_firstFault_0 E σ Q := by
  intro p e R s m args below meth c Z cells slots H locs ls C0 hH hl hret
  have hx := C0.1
  have hb : c.code = cX7_firstFault := C0.2.1
  have hl : lv_has ls 3 [(0, .ref (Ad E 3)), (1, .ref (Ad E 1))] := hl
  refine lv_aload_n hx hb dX7_firstFault_0 rfl (lv_at hl 0 rfl) ?_
  refine m_getr C0 hH f_3_0 4 rfl kF_X7_12 dX7_firstFault_1 ?_
  refine m_cV (M2 := M_X2_clear) (As := []) (rest := []) h C0 hH hl kc_X2_clear ki_X2_clear kx_X2_clear ob_4 kM_X7_22 rfl (Nat.le_of_ble_eq_true rfl) (Nat.le_of_ble_eq_true rfl) ⟨Nat.le_of_ble_eq_true rfl, Nat.le_of_ble_eq_true rfl⟩ dX7_firstFault_4 rfl (fun r τ1 H locs hq hH => ?_)
  obtain ⟨rfl, h⟩ := hq
  refine lv_aload_n hx hb dX7_firstFault_7 rfl (lv_at hl 0 rfl) ?_
  refine lv_iconst (v := 0) hx hb dX7_firstFault_8 (by decide) ?_
  refine m_puti C0 hH f_3_1 kF_X7_18 rfl dX7_firstFault_9 rfl rfl (fun H locs hH => ?_)
  refine lv_iconst (v := 0) hx hb dX7_firstFault_12 (by decide) ?_
  refine lv_istore_n (lv' := [(2, .int 0), (0, .ref (Ad E 3)), (1, .ref (Ad E 1))]) hx hb dX7_firstFault_13 rfl hl (by decide) rfl (fun ls hl => ?_)
  exact h p e R s m args below meth c Z cells slots H locs ls C0 hH (lv_sub hl [1, 2, 0] rfl) hret
set_option maxRecDepth 20000 in
set_option maxHeartbeats 4000000 in
theorem s_X7_firstFault_14 (E : EE) (x2 : Int32) (σ : Mm) (Q : Int32 → Mm → Prop) (h : (((σ 1 1) ≤ x2 → Q (σ 1 1) σ) ∧ (¬ (σ 1 1) ≤ x2 → (vp_in x2 54 ∧ r_X7_takes_0 E (σ 2 x2.toNatClampNeg) σ (fun r3 τ2 => ((¬ r3 = 0 → r_X7_firstFault_14 E (x2 + 1) τ2 Q) ∧ (r3 = 0 → Q x2 τ2))))))) : r_X7_firstFault_14 E x2 σ Q := by
  intro p e R s m args below meth c Z cells slots H locs ls C0 hH hl hret
  have hx := C0.1
  have hb : c.code = cX7_firstFault := C0.2.1
  have hl : lv_has ls 3 [(0, .ref (Ad E 3)), (1, .ref (Ad E 1)), (2, .int x2)] := hl
  refine lv_iload_n hx hb dX7_firstFault_14 rfl (lv_at hl 2 rfl) ?_
  refine lv_aload_n hx hb dX7_firstFault_15 rfl (lv_at hl 1 rfl) ?_
  refine m_geti (x := σ 1 1) C0 hH f_1_1 kF_X7_25 dX7_firstFault_16 rfl ?_
  refine lv_icmp_ge (tgt := 43) hx hb dX7_firstFault_19 (by decide) (fun hc1 => ?_) (fun hc1 => ?_)
  · have h := h.1 hc1
    refine lv_aload_n hx hb dX7_firstFault_43 rfl (lv_at hl 1 rfl) ?_
    refine m_geti (x := σ 1 1) C0 hH f_1_1 kF_X7_25 dX7_firstFault_44 rfl ?_
    exact hret (some (.int (σ 1 1))) _ _ _ _ _ ⟨_, rfl, h⟩ hH ⟨dX7_firstFault_47, .int, rfl, rfl⟩
  · have h := h.2 hc1
    refine lv_aload_n hx hb dX7_firstFault_22 rfl (lv_at hl 0 rfl) ?_
    refine lv_aload_n hx hb dX7_firstFault_23 rfl (lv_at hl 1 rfl) ?_
    refine m_getr C0 hH f_1_0 2 rfl kF_X7_30 dX7_firstFault_24 ?_
    refine lv_iload_n hx hb dX7_firstFault_27 rfl (lv_at hl 2 rfl) ?_
    refine m_iald (x := σ 2 x2.toNatClampNeg) C0 hH a_2 h.1 dX7_firstFault_28 rfl ?_
    have h := h.2
    refine m_cV (M2 := M_X7_takes) (As := [.int (σ 2 x2.toNatClampNeg)]) (rest := []) h C0 hH hl kc_X7_takes ki_X7_takes kx_X7_takes ob_3 kM_X7_34 rfl (Nat.le_of_ble_eq_true rfl) (Nat.le_of_ble_eq_true rfl) ⟨Nat.le_of_ble_eq_true rfl, Nat.le_of_ble_eq_true rfl⟩ dX7_firstFault_29 rfl (fun r τ2 H locs hq hH => ?_)
    obtain ⟨r3, rfl, h⟩ := hq
    refine lv_if_ne (tgt := 37) hx hb dX7_firstFault_32 (by decide) (fun hc4 => ?_) (fun hc4 => ?_)
    · have h := h.1 hc4
      refine lv_iinc (v := (x2 + 1)) (lv' := [(2, .int (x2 + 1)), (0, .ref (Ad E 3)), (1, .ref (Ad E 1))]) hx hb dX7_firstFault_37 hl (k := 2) rfl rfl (by decide) rfl (fun ls hl => ?_)
      refine lv_goto (tgt := 14) hx hb dX7_firstFault_40 (by decide) ?_
      exact h p e R s m args below meth c Z cells slots H locs ls C0 hH (lv_sub hl [1, 2, 0] rfl) hret
    · have h := h.2 hc4
      refine lv_iload_n hx hb dX7_firstFault_35 rfl (lv_at hl 2 rfl) ?_
      exact hret (some (.int x2)) _ _ _ _ _ ⟨_, rfl, h⟩ hH ⟨dX7_firstFault_36, .int, rfl, rfl⟩

def r_X9_fault_0 (E : EE) (σ : Mm) (Q : Int32 → Mm → Prop) : Prop := Rn E M_X9_fault 0 [(0, .ref (Ad E 0))] [] σ (qi Q)
set_option maxRecDepth 20000 in
set_option maxHeartbeats 4000000 in
theorem s_X9_fault_0 (E : EE) (σ : Mm) (Q : Int32 → Mm → Prop) (h : r_X7_firstFault_0 E  σ (fun r2 τ1 => Q r2 τ1)) : r_X9_fault_0 E σ Q := by
  intro p e R s m args below meth c Z cells slots H locs ls C0 hH hl hret
  have hx := C0.1
  have hb : c.code = cX9_fault := C0.2.1
  have hl : lv_has ls 1 [(0, .ref (Ad E 0))] := hl
  refine lv_aload_n hx hb dX9_fault_0 rfl (lv_at hl 0 rfl) ?_
  refine m_getr C0 hH f_0_1 3 rfl kF_X9_19 dX9_fault_1 ?_
  refine lv_aload_n hx hb dX9_fault_4 rfl (lv_at hl 0 rfl) ?_
  refine m_getr C0 hH f_0_0 1 rfl kF_X9_10 dX9_fault_5 ?_
  refine m_cV (M2 := M_X7_firstFault) (As := [.ref (Ad E 1)]) (rest := []) h C0 hH hl kc_X7_firstFault ki_X7_firstFault kx_X7_firstFault ob_3 kM_X9_96 rfl (Nat.le_of_ble_eq_true rfl) (Nat.le_of_ble_eq_true rfl) ⟨Nat.le_of_ble_eq_true rfl, Nat.le_of_ble_eq_true rfl⟩ dX9_fault_8 rfl (fun r τ1 H locs hq hH => ?_)
  obtain ⟨r2, rfl, h⟩ := hq
  exact hret (some (.int r2)) _ _ _ _ _ ⟨_, rfl, h⟩ hH ⟨dX9_fault_11, .int, rfl, rfl⟩

def r_X2_copyFrom_14_4_0 (E : EE) (σ : Mm) (Q : Mm → Prop) : Prop := Rn E M_X2_copyFrom 0 [(0, .ref (Ad E 14)), (1, .ref (Ad E 4))] [] σ (qv Q)
def r_X2_copyFrom_14_4_50 (E : EE) (x2 : Int32) (σ : Mm) (Q : Mm → Prop) : Prop := Rn E M_X2_copyFrom 50 [(0, .ref (Ad E 14)), (1, .ref (Ad E 4)), (2, .int x2)] [] σ (qv Q)
def r_X2_copyFrom_14_4_102 (E : EE) (x2 : Int32) (σ : Mm) (Q : Mm → Prop) : Prop := Rn E M_X2_copyFrom 102 [(0, .ref (Ad E 14)), (1, .ref (Ad E 4)), (2, .int x2)] [] σ (qv Q)
def r_X2_copyFrom_14_4_154 (E : EE) (x2 : Int32) (σ : Mm) (Q : Mm → Prop) : Prop := Rn E M_X2_copyFrom 154 [(0, .ref (Ad E 14)), (1, .ref (Ad E 4)), (2, .int x2)] [] σ (qv Q)
set_option maxRecDepth 20000 in
set_option maxHeartbeats 4000000 in
theorem s_X2_copyFrom_14_4_0 (E : EE) (σ : Mm) (Q : Mm → Prop) (h : r_X2_copyFrom_14_4_50 E 0 (up (up (up (up (up (up σ 14 0 (σ 4 0)) 14 1 (σ 4 1)) 14 2 (σ 4 2)) 14 3 (σ 4 3)) 14 4 (σ 4 4)) 14 5 (σ 4 5)) Q) : r_X2_copyFrom_14_4_0 E σ Q := by
  intro p e R s m args below meth c Z cells slots H locs ls C0 hH hl hret
  have hx := C0.1
  have hb : c.code = cX2_copyFrom := C0.2.1
  have hl : lv_has ls 3 [(0, .ref (Ad E 14)), (1, .ref (Ad E 4))] := hl
  refine lv_aload_n hx hb dX2_copyFrom_0 rfl (lv_at hl 0 rfl) ?_
  refine lv_aload_n hx hb dX2_copyFrom_1 rfl (lv_at hl 1 rfl) ?_
  refine m_geti (x := σ 4 0) C0 hH f_4_0 kF_X2_9 dX2_copyFrom_2 rfl ?_
  refine m_puti C0 hH f_14_0 kF_X2_9 rfl dX2_copyFrom_5 rfl rfl (fun H locs hH => ?_)
  refine lv_aload_n hx hb dX2_copyFrom_8 rfl (lv_at hl 0 rfl) ?_
  refine lv_aload_n hx hb dX2_copyFrom_9 rfl (lv_at hl 1 rfl) ?_
  refine m_geti (x := σ 4 1) C0 hH f_4_1 kF_X2_15 dX2_copyFrom_10 rfl ?_
  refine m_puti C0 hH f_14_1 kF_X2_15 rfl dX2_copyFrom_13 rfl rfl (fun H locs hH => ?_)
  refine lv_aload_n hx hb dX2_copyFrom_16 rfl (lv_at hl 0 rfl) ?_
  refine lv_aload_n hx hb dX2_copyFrom_17 rfl (lv_at hl 1 rfl) ?_
  refine m_geti (x := σ 4 2) C0 hH f_4_2 kF_X2_18 dX2_copyFrom_18 rfl ?_
  refine m_puti C0 hH f_14_2 kF_X2_18 rfl dX2_copyFrom_21 rfl rfl (fun H locs hH => ?_)
  refine lv_aload_n hx hb dX2_copyFrom_24 rfl (lv_at hl 0 rfl) ?_
  refine lv_aload_n hx hb dX2_copyFrom_25 rfl (lv_at hl 1 rfl) ?_
  refine m_geti (x := σ 4 3) C0 hH f_4_3 kF_X2_21 dX2_copyFrom_26 rfl ?_
  refine m_puti C0 hH f_14_3 kF_X2_21 rfl dX2_copyFrom_29 rfl rfl (fun H locs hH => ?_)
  refine lv_aload_n hx hb dX2_copyFrom_32 rfl (lv_at hl 0 rfl) ?_
  refine lv_aload_n hx hb dX2_copyFrom_33 rfl (lv_at hl 1 rfl) ?_
  refine m_geti (x := σ 4 4) C0 hH f_4_4 kF_X2_24 dX2_copyFrom_34 rfl ?_
  refine m_puti C0 hH f_14_4 kF_X2_24 rfl dX2_copyFrom_37 rfl rfl (fun H locs hH => ?_)
  refine lv_aload_n hx hb dX2_copyFrom_40 rfl (lv_at hl 0 rfl) ?_
  refine lv_aload_n hx hb dX2_copyFrom_41 rfl (lv_at hl 1 rfl) ?_
  refine m_geti (x := σ 4 5) C0 hH f_4_5 kF_X2_27 dX2_copyFrom_42 rfl ?_
  refine m_puti C0 hH f_14_5 kF_X2_27 rfl dX2_copyFrom_45 rfl rfl (fun H locs hH => ?_)
  refine lv_iconst (v := 0) hx hb dX2_copyFrom_48 (by decide) ?_
  refine lv_istore_n (lv' := [(2, .int 0), (0, .ref (Ad E 14)), (1, .ref (Ad E 4))]) hx hb dX2_copyFrom_49 rfl hl (by decide) rfl (fun ls hl => ?_)
  exact h p e R s m args below meth c Z cells slots H locs ls C0 hH (lv_sub hl [1, 2, 0] rfl) hret
set_option maxRecDepth 20000 in
set_option maxHeartbeats 4000000 in
theorem s_X2_copyFrom_14_4_50 (E : EE) (x2 : Int32) (σ : Mm) (Q : Mm → Prop) (h : (((σ 14 1) ≤ x2 → r_X2_copyFrom_14_4_102 E 0 σ Q) ∧ (¬ (σ 14 1) ≤ x2 → (vp_in x2 6 ∧ (vp_in x2 6 ∧ (vp_in x2 6 ∧ (vp_in x2 6 ∧ (vp_in x2 6 ∧ (vp_in x2 6 ∧ r_X2_copyFrom_14_4_50 E (x2 + 1) (up (up (up σ 15 x2.toNatClampNeg (σ 5 x2.toNatClampNeg)) 16 x2.toNatClampNeg (σ 6 x2.toNatClampNeg)) 17 x2.toNatClampNeg (σ 7 x2.toNatClampNeg)) Q))))))))) : r_X2_copyFrom_14_4_50 E x2 σ Q := by
  intro p e R s m args below meth c Z cells slots H locs ls C0 hH hl hret
  have hx := C0.1
  have hb : c.code = cX2_copyFrom := C0.2.1
  have hl : lv_has ls 3 [(0, .ref (Ad E 14)), (1, .ref (Ad E 4)), (2, .int x2)] := hl
  refine lv_iload_n hx hb dX2_copyFrom_50 rfl (lv_at hl 2 rfl) ?_
  refine lv_aload_n hx hb dX2_copyFrom_51 rfl (lv_at hl 0 rfl) ?_
  refine m_geti (x := σ 14 1) C0 hH f_14_1 kF_X2_15 dX2_copyFrom_52 rfl ?_
  refine lv_icmp_ge (tgt := 100) hx hb dX2_copyFrom_55 (by decide) (fun hc1 => ?_) (fun hc1 => ?_)
  · have h := h.1 hc1
    refine lv_iconst (v := 0) hx hb dX2_copyFrom_100 (by decide) ?_
    refine lv_istore_n (lv' := [(2, .int 0), (0, .ref (Ad E 14)), (1, .ref (Ad E 4))]) hx hb dX2_copyFrom_101 rfl hl (by decide) rfl (fun ls hl => ?_)
    exact h p e R s m args below meth c Z cells slots H locs ls C0 hH (lv_sub hl [1, 2, 0] rfl) hret
  · have h := h.2 hc1
    refine lv_aload_n hx hb dX2_copyFrom_58 rfl (lv_at hl 0 rfl) ?_
    refine m_getr C0 hH f_14_6 15 rfl kF_X2_30 dX2_copyFrom_59 ?_
    refine lv_iload_n hx hb dX2_copyFrom_62 rfl (lv_at hl 2 rfl) ?_
    refine lv_aload_n hx hb dX2_copyFrom_63 rfl (lv_at hl 1 rfl) ?_
    refine m_getr C0 hH f_4_6 5 rfl kF_X2_30 dX2_copyFrom_64 ?_
    refine lv_iload_n hx hb dX2_copyFrom_67 rfl (lv_at hl 2 rfl) ?_
    refine m_iald (x := σ 5 x2.toNatClampNeg) C0 hH a_5 h.1 dX2_copyFrom_68 rfl ?_
    have h := h.2
    refine m_iast (j := x2.toNatClampNeg) C0 hH a_15 h.1 rfl dX2_copyFrom_69 (fun H locs hH => ?_)
    have h := h.2
    refine lv_aload_n hx hb dX2_copyFrom_70 rfl (lv_at hl 0 rfl) ?_
    refine m_getr C0 hH f_14_7 16 rfl kF_X2_34 dX2_copyFrom_71 ?_
    refine lv_iload_n hx hb dX2_copyFrom_74 rfl (lv_at hl 2 rfl) ?_
    refine lv_aload_n hx hb dX2_copyFrom_75 rfl (lv_at hl 1 rfl) ?_
    refine m_getr C0 hH f_4_7 6 rfl kF_X2_34 dX2_copyFrom_76 ?_
    refine lv_iload_n hx hb dX2_copyFrom_79 rfl (lv_at hl 2 rfl) ?_
    refine m_iald (x := σ 6 x2.toNatClampNeg) C0 hH a_6 h.1 dX2_copyFrom_80 rfl ?_
    have h := h.2
    refine m_iast (j := x2.toNatClampNeg) C0 hH a_16 h.1 rfl dX2_copyFrom_81 (fun H locs hH => ?_)
    have h := h.2
    refine lv_aload_n hx hb dX2_copyFrom_82 rfl (lv_at hl 0 rfl) ?_
    refine m_getr C0 hH f_14_8 17 rfl kF_X2_37 dX2_copyFrom_83 ?_
    refine lv_iload_n hx hb dX2_copyFrom_86 rfl (lv_at hl 2 rfl) ?_
    refine lv_aload_n hx hb dX2_copyFrom_87 rfl (lv_at hl 1 rfl) ?_
    refine m_getr C0 hH f_4_8 7 rfl kF_X2_37 dX2_copyFrom_88 ?_
    refine lv_iload_n hx hb dX2_copyFrom_91 rfl (lv_at hl 2 rfl) ?_
    refine m_iald (x := σ 7 x2.toNatClampNeg) C0 hH a_7 h.1 dX2_copyFrom_92 rfl ?_
    have h := h.2
    refine m_iast (j := x2.toNatClampNeg) C0 hH a_17 h.1 rfl dX2_copyFrom_93 (fun H locs hH => ?_)
    have h := h.2
    refine lv_iinc (v := (x2 + 1)) (lv' := [(2, .int (x2 + 1)), (0, .ref (Ad E 14)), (1, .ref (Ad E 4))]) hx hb dX2_copyFrom_94 hl (k := 2) rfl rfl (by decide) rfl (fun ls hl => ?_)
    refine lv_goto (tgt := 50) hx hb dX2_copyFrom_97 (by decide) ?_
    exact h p e R s m args below meth c Z cells slots H locs ls C0 hH (lv_sub hl [1, 2, 0] rfl) hret
set_option maxRecDepth 20000 in
set_option maxHeartbeats 4000000 in
theorem s_X2_copyFrom_14_4_102 (E : EE) (x2 : Int32) (σ : Mm) (Q : Mm → Prop) (h : (((σ 14 2) ≤ x2 → r_X2_copyFrom_14_4_154 E 0 σ Q) ∧ (¬ (σ 14 2) ≤ x2 → (vp_in x2 8 ∧ (vp_in x2 8 ∧ (vp_in x2 8 ∧ (vp_in x2 8 ∧ (vp_in x2 8 ∧ (vp_in x2 8 ∧ r_X2_copyFrom_14_4_102 E (x2 + 1) (up (up (up σ 18 x2.toNatClampNeg (σ 8 x2.toNatClampNeg)) 19 x2.toNatClampNeg (σ 9 x2.toNatClampNeg)) 20 x2.toNatClampNeg (σ 10 x2.toNatClampNeg)) Q))))))))) : r_X2_copyFrom_14_4_102 E x2 σ Q := by
  intro p e R s m args below meth c Z cells slots H locs ls C0 hH hl hret
  have hx := C0.1
  have hb : c.code = cX2_copyFrom := C0.2.1
  have hl : lv_has ls 3 [(0, .ref (Ad E 14)), (1, .ref (Ad E 4)), (2, .int x2)] := hl
  refine lv_iload_n hx hb dX2_copyFrom_102 rfl (lv_at hl 2 rfl) ?_
  refine lv_aload_n hx hb dX2_copyFrom_103 rfl (lv_at hl 0 rfl) ?_
  refine m_geti (x := σ 14 2) C0 hH f_14_2 kF_X2_18 dX2_copyFrom_104 rfl ?_
  refine lv_icmp_ge (tgt := 152) hx hb dX2_copyFrom_107 (by decide) (fun hc1 => ?_) (fun hc1 => ?_)
  · have h := h.1 hc1
    refine lv_iconst (v := 0) hx hb dX2_copyFrom_152 (by decide) ?_
    refine lv_istore_n (lv' := [(2, .int 0), (0, .ref (Ad E 14)), (1, .ref (Ad E 4))]) hx hb dX2_copyFrom_153 rfl hl (by decide) rfl (fun ls hl => ?_)
    exact h p e R s m args below meth c Z cells slots H locs ls C0 hH (lv_sub hl [1, 2, 0] rfl) hret
  · have h := h.2 hc1
    refine lv_aload_n hx hb dX2_copyFrom_110 rfl (lv_at hl 0 rfl) ?_
    refine m_getr C0 hH f_14_9 18 rfl kF_X2_40 dX2_copyFrom_111 ?_
    refine lv_iload_n hx hb dX2_copyFrom_114 rfl (lv_at hl 2 rfl) ?_
    refine lv_aload_n hx hb dX2_copyFrom_115 rfl (lv_at hl 1 rfl) ?_
    refine m_getr C0 hH f_4_9 8 rfl kF_X2_40 dX2_copyFrom_116 ?_
    refine lv_iload_n hx hb dX2_copyFrom_119 rfl (lv_at hl 2 rfl) ?_
    refine m_iald (x := σ 8 x2.toNatClampNeg) C0 hH a_8 h.1 dX2_copyFrom_120 rfl ?_
    have h := h.2
    refine m_iast (j := x2.toNatClampNeg) C0 hH a_18 h.1 rfl dX2_copyFrom_121 (fun H locs hH => ?_)
    have h := h.2
    refine lv_aload_n hx hb dX2_copyFrom_122 rfl (lv_at hl 0 rfl) ?_
    refine m_getr C0 hH f_14_10 19 rfl kF_X2_43 dX2_copyFrom_123 ?_
    refine lv_iload_n hx hb dX2_copyFrom_126 rfl (lv_at hl 2 rfl) ?_
    refine lv_aload_n hx hb dX2_copyFrom_127 rfl (lv_at hl 1 rfl) ?_
    refine m_getr C0 hH f_4_10 9 rfl kF_X2_43 dX2_copyFrom_128 ?_
    refine lv_iload_n hx hb dX2_copyFrom_131 rfl (lv_at hl 2 rfl) ?_
    refine m_iald (x := σ 9 x2.toNatClampNeg) C0 hH a_9 h.1 dX2_copyFrom_132 rfl ?_
    have h := h.2
    refine m_iast (j := x2.toNatClampNeg) C0 hH a_19 h.1 rfl dX2_copyFrom_133 (fun H locs hH => ?_)
    have h := h.2
    refine lv_aload_n hx hb dX2_copyFrom_134 rfl (lv_at hl 0 rfl) ?_
    refine m_getr C0 hH f_14_11 20 rfl kF_X2_46 dX2_copyFrom_135 ?_
    refine lv_iload_n hx hb dX2_copyFrom_138 rfl (lv_at hl 2 rfl) ?_
    refine lv_aload_n hx hb dX2_copyFrom_139 rfl (lv_at hl 1 rfl) ?_
    refine m_getr C0 hH f_4_11 10 rfl kF_X2_46 dX2_copyFrom_140 ?_
    refine lv_iload_n hx hb dX2_copyFrom_143 rfl (lv_at hl 2 rfl) ?_
    refine m_iald (x := σ 10 x2.toNatClampNeg) C0 hH a_10 h.1 dX2_copyFrom_144 rfl ?_
    have h := h.2
    refine m_iast (j := x2.toNatClampNeg) C0 hH a_20 h.1 rfl dX2_copyFrom_145 (fun H locs hH => ?_)
    have h := h.2
    refine lv_iinc (v := (x2 + 1)) (lv' := [(2, .int (x2 + 1)), (0, .ref (Ad E 14)), (1, .ref (Ad E 4))]) hx hb dX2_copyFrom_146 hl (k := 2) rfl rfl (by decide) rfl (fun ls hl => ?_)
    refine lv_goto (tgt := 102) hx hb dX2_copyFrom_149 (by decide) ?_
    exact h p e R s m args below meth c Z cells slots H locs ls C0 hH (lv_sub hl [1, 2, 0] rfl) hret
set_option maxRecDepth 20000 in
set_option maxHeartbeats 4000000 in
theorem s_X2_copyFrom_14_4_154 (E : EE) (x2 : Int32) (σ : Mm) (Q : Mm → Prop) (h : (((σ 14 5) ≤ x2 → Q σ) ∧ (¬ (σ 14 5) ≤ x2 → (vp_in x2 6 ∧ (vp_in x2 6 ∧ (vp_in x2 6 ∧ (vp_in x2 6 ∧ (vp_in x2 6 ∧ (vp_in x2 6 ∧ r_X2_copyFrom_14_4_154 E (x2 + 1) (up (up (up σ 21 x2.toNatClampNeg (σ 11 x2.toNatClampNeg)) 22 x2.toNatClampNeg (σ 12 x2.toNatClampNeg)) 23 x2.toNatClampNeg (vp_nar .boolean (σ 13 x2.toNatClampNeg))) Q))))))))) : r_X2_copyFrom_14_4_154 E x2 σ Q := by
  intro p e R s m args below meth c Z cells slots H locs ls C0 hH hl hret
  have hx := C0.1
  have hb : c.code = cX2_copyFrom := C0.2.1
  have hl : lv_has ls 3 [(0, .ref (Ad E 14)), (1, .ref (Ad E 4)), (2, .int x2)] := hl
  refine lv_iload_n hx hb dX2_copyFrom_154 rfl (lv_at hl 2 rfl) ?_
  refine lv_aload_n hx hb dX2_copyFrom_155 rfl (lv_at hl 0 rfl) ?_
  refine m_geti (x := σ 14 5) C0 hH f_14_5 kF_X2_27 dX2_copyFrom_156 rfl ?_
  refine lv_icmp_ge (tgt := 204) hx hb dX2_copyFrom_159 (by decide) (fun hc1 => ?_) (fun hc1 => ?_)
  · have h := h.1 hc1
    exact hret none _ _ _ _ _ ⟨rfl, h⟩ hH ⟨dX2_copyFrom_204, rfl⟩
  · have h := h.2 hc1
    refine lv_aload_n hx hb dX2_copyFrom_162 rfl (lv_at hl 0 rfl) ?_
    refine m_getr C0 hH f_14_12 21 rfl kF_X2_49 dX2_copyFrom_163 ?_
    refine lv_iload_n hx hb dX2_copyFrom_166 rfl (lv_at hl 2 rfl) ?_
    refine lv_aload_n hx hb dX2_copyFrom_167 rfl (lv_at hl 1 rfl) ?_
    refine m_getr C0 hH f_4_12 11 rfl kF_X2_49 dX2_copyFrom_168 ?_
    refine lv_iload_n hx hb dX2_copyFrom_171 rfl (lv_at hl 2 rfl) ?_
    refine m_iald (x := σ 11 x2.toNatClampNeg) C0 hH a_11 h.1 dX2_copyFrom_172 rfl ?_
    have h := h.2
    refine m_iast (j := x2.toNatClampNeg) C0 hH a_21 h.1 rfl dX2_copyFrom_173 (fun H locs hH => ?_)
    have h := h.2
    refine lv_aload_n hx hb dX2_copyFrom_174 rfl (lv_at hl 0 rfl) ?_
    refine m_getr C0 hH f_14_13 22 rfl kF_X2_52 dX2_copyFrom_175 ?_
    refine lv_iload_n hx hb dX2_copyFrom_178 rfl (lv_at hl 2 rfl) ?_
    refine lv_aload_n hx hb dX2_copyFrom_179 rfl (lv_at hl 1 rfl) ?_
    refine m_getr C0 hH f_4_13 12 rfl kF_X2_52 dX2_copyFrom_180 ?_
    refine lv_iload_n hx hb dX2_copyFrom_183 rfl (lv_at hl 2 rfl) ?_
    refine m_iald (x := σ 12 x2.toNatClampNeg) C0 hH a_12 h.1 dX2_copyFrom_184 rfl ?_
    have h := h.2
    refine m_iast (j := x2.toNatClampNeg) C0 hH a_22 h.1 rfl dX2_copyFrom_185 (fun H locs hH => ?_)
    have h := h.2
    refine lv_aload_n hx hb dX2_copyFrom_186 rfl (lv_at hl 0 rfl) ?_
    refine m_getr C0 hH f_14_14 23 rfl kF_X2_55 dX2_copyFrom_187 ?_
    refine lv_iload_n hx hb dX2_copyFrom_190 rfl (lv_at hl 2 rfl) ?_
    refine lv_aload_n hx hb dX2_copyFrom_191 rfl (lv_at hl 1 rfl) ?_
    refine m_getr C0 hH f_4_14 13 rfl kF_X2_55 dX2_copyFrom_192 ?_
    refine lv_iload_n hx hb dX2_copyFrom_195 rfl (lv_at hl 2 rfl) ?_
    refine m_zald (x := σ 13 x2.toNatClampNeg) C0 hH a_13 h.1 dX2_copyFrom_196 rfl ?_
    have h := h.2
    refine m_zast (j := x2.toNatClampNeg) C0 hH a_23 h.1 rfl dX2_copyFrom_197 (fun H locs hH => ?_)
    have h := h.2
    refine lv_iinc (v := (x2 + 1)) (lv' := [(2, .int (x2 + 1)), (0, .ref (Ad E 14)), (1, .ref (Ad E 4))]) hx hb dX2_copyFrom_198 hl (k := 2) rfl rfl (by decide) rfl (fun ls hl => ?_)
    refine lv_goto (tgt := 154) hx hb dX2_copyFrom_201 (by decide) ?_
    exact h p e R s m args below meth c Z cells slots H locs ls C0 hH (lv_sub hl [1, 2, 0] rfl) hret

def r_X7_isWhole_0 (E : EE) (σ : Mm) (Q : Int32 → Mm → Prop) : Prop := Rn E M_X7_isWhole 0 [(0, .ref (Ad E 3))] [] σ (qi Q)
set_option maxRecDepth 20000 in
set_option maxHeartbeats 4000000 in
theorem s_X7_isWhole_0 (E : EE) (σ : Mm) (Q : Int32 → Mm → Prop) (h : ((¬ (σ 3 1) = 8 → Q 0 σ) ∧ ((σ 3 1) = 8 → Q 1 σ))) : r_X7_isWhole_0 E σ Q := by
  intro p e R s m args below meth c Z cells slots H locs ls C0 hH hl hret
  have hx := C0.1
  have hb : c.code = cX7_isWhole := C0.2.1
  have hl : lv_has ls 1 [(0, .ref (Ad E 3))] := hl
  refine lv_aload_n hx hb dX7_isWhole_0 rfl (lv_at hl 0 rfl) ?_
  refine m_geti (x := σ 3 1) C0 hH f_3_1 kF_X7_18 dX7_isWhole_1 rfl ?_
  refine lv_bipush (v := 8) hx hb dX7_isWhole_4 (by decide) ?_
  refine lv_icmp_ne (tgt := 13) hx hb dX7_isWhole_6 (by decide) (fun hc1 => ?_) (fun hc1 => ?_)
  · have h := h.1 hc1
    refine lv_iconst (v := 0) hx hb dX7_isWhole_13 (by decide) ?_
    exact hret (some (.int 0)) _ _ _ _ _ ⟨_, rfl, h⟩ hH ⟨dX7_isWhole_14, .boolean, rfl, nb (Or.inl rfl)⟩
  · have h := h.2 hc1
    refine lv_iconst (v := 1) hx hb dX7_isWhole_9 (by decide) ?_
    refine lv_goto (tgt := 14) hx hb dX7_isWhole_10 (by decide) ?_
    exact hret (some (.int 1)) _ _ _ _ _ ⟨_, rfl, h⟩ hH ⟨dX7_isWhole_14, .boolean, rfl, nb (Or.inr rfl)⟩

def r_X9_chapel_0 (E : EE) (σ : Mm) (Q : Int32 → Mm → Prop) : Prop := Rn E M_X9_chapel 0 [(0, .ref (Ad E 0))] [] σ (qi Q)
set_option maxRecDepth 20000 in
set_option maxHeartbeats 4000000 in
theorem s_X9_chapel_0 (E : EE) (σ : Mm) (Q : Int32 → Mm → Prop) (h : r_X7_firstFault_0 E  σ (fun r2 τ1 => ((r2 < (τ1 1 1) → Q (-103) τ1) ∧ (¬ r2 < (τ1 1 1) → r_X7_isWhole_0 E  τ1 (fun r5 τ4 => ((¬ r5 = 0 → r_X2_copyFrom_14_4_0 E  τ4 (fun τ7 => Q (τ7 14 1) (up (up (up τ7 1 1 0) 0 11 0) 0 12 ((τ7 0 12) + 1)))) ∧ (r5 = 0 → Q (-103) τ4))))))) : r_X9_chapel_0 E σ Q := by
  intro p e R s m args below meth c Z cells slots H locs ls C0 hH hl hret
  have hx := C0.1
  have hb : c.code = cX9_chapel := C0.2.1
  have hl : lv_has ls 1 [(0, .ref (Ad E 0))] := hl
  refine lv_aload_n hx hb dX9_chapel_0 rfl (lv_at hl 0 rfl) ?_
  refine m_getr C0 hH f_0_1 3 rfl kF_X9_19 dX9_chapel_1 ?_
  refine lv_aload_n hx hb dX9_chapel_4 rfl (lv_at hl 0 rfl) ?_
  refine m_getr C0 hH f_0_0 1 rfl kF_X9_10 dX9_chapel_5 ?_
  refine m_cV (M2 := M_X7_firstFault) (As := [.ref (Ad E 1)]) (rest := []) h C0 hH hl kc_X7_firstFault ki_X7_firstFault kx_X7_firstFault ob_3 kM_X9_96 rfl (Nat.le_of_ble_eq_true rfl) (Nat.le_of_ble_eq_true rfl) ⟨Nat.le_of_ble_eq_true rfl, Nat.le_of_ble_eq_true rfl⟩ dX9_chapel_8 rfl (fun r τ1 H locs hq hH => ?_)
  obtain ⟨r2, rfl, h⟩ := hq
  refine lv_aload_n hx hb dX9_chapel_11 rfl (lv_at hl 0 rfl) ?_
  refine m_getr C0 hH f_0_0 1 rfl kF_X9_10 dX9_chapel_12 ?_
  refine m_geti (x := τ1 1 1) C0 hH f_1_1 kF_X9_89 dX9_chapel_15 rfl ?_
  refine lv_icmp_lt (tgt := 31) hx hb dX9_chapel_18 (by decide) (fun hc3 => ?_) (fun hc3 => ?_)
  · have h := h.1 hc3
    refine lv_bipush (v := (-103)) hx hb dX9_chapel_31 (by decide) ?_
    exact hret (some (.int (-103))) _ _ _ _ _ ⟨_, rfl, h⟩ hH ⟨dX9_chapel_33, .int, rfl, rfl⟩
  · have h := h.2 hc3
    refine lv_aload_n hx hb dX9_chapel_21 rfl (lv_at hl 0 rfl) ?_
    refine m_getr C0 hH f_0_1 3 rfl kF_X9_19 dX9_chapel_22 ?_
    refine m_cV (M2 := M_X7_isWhole) (As := []) (rest := []) h C0 hH hl kc_X7_isWhole ki_X7_isWhole kx_X7_isWhole ob_3 kM_X9_100 rfl (Nat.le_of_ble_eq_true rfl) (Nat.le_of_ble_eq_true rfl) ⟨Nat.le_of_ble_eq_true rfl, Nat.le_of_ble_eq_true rfl⟩ dX9_chapel_25 rfl (fun r τ4 H locs hq hH => ?_)
    obtain ⟨r5, rfl, h⟩ := hq
    refine lv_if_ne (tgt := 34) hx hb dX9_chapel_28 (by decide) (fun hc6 => ?_) (fun hc6 => ?_)
    · have h := h.1 hc6
      refine lv_aload_n hx hb dX9_chapel_34 rfl (lv_at hl 0 rfl) ?_
      refine m_getr C0 hH f_0_2 14 rfl kF_X9_26 dX9_chapel_35 ?_
      refine lv_aload_n hx hb dX9_chapel_38 rfl (lv_at hl 0 rfl) ?_
      refine m_getr C0 hH f_0_1 3 rfl kF_X9_19 dX9_chapel_39 ?_
      refine m_getr C0 hH f_3_0 4 rfl kF_X9_104 dX9_chapel_42 ?_
      refine m_cV (M2 := M_X2_copyFrom) (As := [.ref (Ad E 4)]) (rest := []) h C0 hH hl kc_X2_copyFrom ki_X2_copyFrom kx_X2_copyFrom ob_14 kM_X9_107 rfl (Nat.le_of_ble_eq_true rfl) (Nat.le_of_ble_eq_true rfl) ⟨Nat.le_of_ble_eq_true rfl, Nat.le_of_ble_eq_true rfl⟩ dX9_chapel_45 rfl (fun r τ7 H locs hq hH => ?_)
      obtain ⟨rfl, h⟩ := hq
      refine lv_aload_n hx hb dX9_chapel_48 rfl (lv_at hl 0 rfl) ?_
      refine m_getr C0 hH f_0_0 1 rfl kF_X9_10 dX9_chapel_49 ?_
      refine lv_iconst (v := 0) hx hb dX9_chapel_52 (by decide) ?_
      refine m_puti C0 hH f_1_1 kF_X9_89 rfl dX9_chapel_53 rfl rfl (fun H locs hH => ?_)
      refine lv_aload_n hx hb dX9_chapel_56 rfl (lv_at hl 0 rfl) ?_
      refine lv_iconst (v := 0) hx hb dX9_chapel_57 (by decide) ?_
      refine m_puti C0 hH f_0_11 kF_X9_78 rfl dX9_chapel_58 (nb (Or.inl rfl)) rfl (fun H locs hH => ?_)
      refine lv_aload_n hx hb dX9_chapel_61 rfl (lv_at hl 0 rfl) ?_
      refine lv_dup hx hb dX9_chapel_62 rfl ?_
      refine m_geti (x := τ7 0 12) C0 hH f_0_12 kF_X9_82 dX9_chapel_63 rfl ?_
      refine lv_iconst (v := 1) hx hb dX9_chapel_66 (by decide) ?_
      refine lv_iadd hx hb dX9_chapel_67 ?_
      refine m_puti C0 hH f_0_12 kF_X9_82 rfl dX9_chapel_68 rfl rfl (fun H locs hH => ?_)
      refine lv_aload_n hx hb dX9_chapel_71 rfl (lv_at hl 0 rfl) ?_
      refine m_getr C0 hH f_0_2 14 rfl kF_X9_26 dX9_chapel_72 ?_
      refine m_geti (x := τ7 14 1) C0 hH f_14_1 kF_X9_111 dX9_chapel_75 rfl ?_
      exact hret (some (.int (τ7 14 1))) _ _ _ _ _ ⟨_, rfl, h⟩ hH ⟨dX9_chapel_78, .int, rfl, rfl⟩
    · have h := h.2 hc6
      refine lv_bipush (v := (-103)) hx hb dX9_chapel_31 (by decide) ?_
      exact hret (some (.int (-103))) _ _ _ _ _ ⟨_, rfl, h⟩ hH ⟨dX9_chapel_33, .int, rfl, rfl⟩

def r_X9_hasBit_0 (E : EE) (x0 : Int32) (x1 : Int32) (σ : Mm) (Q : Int32 → Mm → Prop) : Prop := Rn E M_X9_hasBit 0 [(0, .int x0), (1, .int x1)] [] σ (qi Q)
set_option maxRecDepth 20000 in
set_option maxHeartbeats 4000000 in
theorem s_X9_hasBit_0 (E : EE) (x0 : Int32) (x1 : Int32) (σ : Mm) (Q : Int32 → Mm → Prop) (h : ((((x0 >>> (x1 &&& 31)) &&& 1) = 0 → Q 0 σ) ∧ (¬ ((x0 >>> (x1 &&& 31)) &&& 1) = 0 → Q 1 σ))) : r_X9_hasBit_0 E x0 x1 σ Q := by
  intro p e R s m args below meth c Z cells slots H locs ls C0 hH hl hret
  have hx := C0.1
  have hb : c.code = cX9_hasBit := C0.2.1
  have hl : lv_has ls 2 [(0, .int x0), (1, .int x1)] := hl
  refine lv_iload_n hx hb dX9_hasBit_0 rfl (lv_at hl 0 rfl) ?_
  refine lv_iload_n hx hb dX9_hasBit_1 rfl (lv_at hl 1 rfl) ?_
  refine lv_ishr hx hb dX9_hasBit_2 ?_
  refine lv_iconst (v := 1) hx hb dX9_hasBit_3 (by decide) ?_
  refine lv_iand hx hb dX9_hasBit_4 ?_
  refine lv_if_eq (tgt := 12) hx hb dX9_hasBit_5 (by decide) (fun hc1 => ?_) (fun hc1 => ?_)
  · have h := h.1 hc1
    refine lv_iconst (v := 0) hx hb dX9_hasBit_12 (by decide) ?_
    exact hret (some (.int 0)) _ _ _ _ _ ⟨_, rfl, h⟩ hH ⟨dX9_hasBit_13, .boolean, rfl, nb (Or.inl rfl)⟩
  · have h := h.2 hc1
    refine lv_iconst (v := 1) hx hb dX9_hasBit_8 (by decide) ?_
    refine lv_goto (tgt := 13) hx hb dX9_hasBit_9 (by decide) ?_
    exact hret (some (.int 1)) _ _ _ _ _ ⟨_, rfl, h⟩ hH ⟨dX9_hasBit_13, .boolean, rfl, nb (Or.inr rfl)⟩

def r_X0_guiltAs_0 (E : EE) (x0 : Int32) (x1 : Int32) (x2 : Int32) (σ : Mm) (Q : Int32 → Mm → Prop) : Prop := Rn E M_X0_guiltAs 0 [(0, .int x0), (1, .int x1), (2, .int x2)] [] σ (qi Q)
set_option maxRecDepth 20000 in
set_option maxHeartbeats 4000000 in
theorem s_X0_guiltAs_0 (E : EE) (x0 : Int32) (x1 : Int32) (x2 : Int32) (σ : Mm) (Q : Int32 → Mm → Prop) (h : ((x0 = 1 → Q (x1 / 2) σ) ∧ (x0 = 2 → Q (x1 + x2) σ) ∧ (x0 = 3 → Q (if 1 < x1 then x1 else 1) σ) ∧ (x0 = 4 → Q 0 σ) ∧ (¬ x0 = 1 → ¬ x0 = 2 → ¬ x0 = 3 → ¬ x0 = 4 → Q x1 σ))) : r_X0_guiltAs_0 E x0 x1 x2 σ Q := by
  intro p e R s m args below meth c Z cells slots H locs ls C0 hH hl hret
  have hx := C0.1
  have hb : c.code = cX0_guiltAs := C0.2.1
  have hl : lv_has ls 3 [(0, .int x0), (1, .int x1), (2, .int x2)] := hl
  refine lv_iload_n hx hb dX0_guiltAs_0 rfl (lv_at hl 0 rfl) ?_
  by_cases hs1 : x0 = 1
  · have h := h.1 hs1
    refine m_tin (v := 1) (tgt := 32) C0 dX0_guiltAs_1 hs1 (by decide) (by decide) rfl (by decide) ?_
    refine lv_iload_n hx hb dX0_guiltAs_32 rfl (lv_at hl 1 rfl) ?_
    refine lv_iconst (v := 2) hx hb dX0_guiltAs_33 (by decide) ?_
    refine lv_idiv hx hb dX0_guiltAs_34 (by decide) ?_
    exact hret (some (.int (x1 / 2))) _ _ _ _ _ ⟨_, rfl, h⟩ hH ⟨dX0_guiltAs_35, .int, rfl, rfl⟩
  have h := h.2
  by_cases hs2 : x0 = 2
  · have h := h.1 hs2
    refine m_tin (v := 2) (tgt := 36) C0 dX0_guiltAs_1 hs2 (by decide) (by decide) rfl (by decide) ?_
    refine lv_iload_n hx hb dX0_guiltAs_36 rfl (lv_at hl 1 rfl) ?_
    refine lv_iload_n hx hb dX0_guiltAs_37 rfl (lv_at hl 2 rfl) ?_
    refine lv_iadd hx hb dX0_guiltAs_38 ?_
    exact hret (some (.int (x1 + x2))) _ _ _ _ _ ⟨_, rfl, h⟩ hH ⟨dX0_guiltAs_39, .int, rfl, rfl⟩
  have h := h.2
  by_cases hs3 : x0 = 3
  · have h := h.1 hs3
    refine m_tin (v := 3) (tgt := 40) C0 dX0_guiltAs_1 hs3 (by decide) (by decide) rfl (by decide) ?_
    refine lv_iconst (v := 1) hx hb dX0_guiltAs_40 (by decide) ?_
    refine lv_iload_n hx hb dX0_guiltAs_41 rfl (lv_at hl 1 rfl) ?_
    refine m_max (rest := []) C0 hl kM_X0_45 (Nat.le_of_ble_eq_true rfl) ⟨Nat.le_of_ble_eq_true rfl, Nat.le_of_ble_eq_true rfl⟩ dX0_guiltAs_42 ?_
    exact hret (some (.int (if 1 < x1 then x1 else 1))) _ _ _ _ _ ⟨_, rfl, h⟩ hH ⟨dX0_guiltAs_45, .int, rfl, rfl⟩
  have h := h.2
  by_cases hs4 : x0 = 4
  · have h := h.1 hs4
    refine m_tin (v := 4) (tgt := 46) C0 dX0_guiltAs_1 hs4 (by decide) (by decide) rfl (by decide) ?_
    refine lv_iconst (v := 0) hx hb dX0_guiltAs_46 (by decide) ?_
    exact hret (some (.int 0)) _ _ _ _ _ ⟨_, rfl, h⟩ hH ⟨dX0_guiltAs_47, .int, rfl, rfl⟩
  have h := h.2
  have h := h hs1
  have h := h hs2
  have h := h hs3
  have h := h hs4
  refine m_tout (tgt := 48) C0 dX0_guiltAs_1 (fun v h1 h2 => ?_) (by decide) ?_
  · rcases (show v = 1 ∨ v = 2 ∨ v = 3 ∨ v = 4 by omega) with rfl | rfl | rfl | rfl
    · exact fun q => hs1 (q.trans (by decide))
    · exact fun q => hs2 (q.trans (by decide))
    · exact fun q => hs3 (q.trans (by decide))
    · exact fun q => hs4 (q.trans (by decide))
  refine lv_iload_n hx hb dX0_guiltAs_48 rfl (lv_at hl 1 rfl) ?_
  exact hret (some (.int x1)) _ _ _ _ _ ⟨_, rfl, h⟩ hH ⟨dX0_guiltAs_49, .int, rfl, rfl⟩

def r_X0_fill_14_0 (E : EE) (x2 : Int32) (σ : Mm) (Q : Mm → Prop) : Prop := Rn E M_X0_fill 0 [(0, .ref (Ad E 44)), (1, .ref (Ad E 14)), (2, .int x2)] [] σ (qv Q)
def r_X0_fill_14_10 (E : EE) (x2 : Int32) (x3 : Int32) (σ : Mm) (Q : Mm → Prop) : Prop := Rn E M_X0_fill 10 [(0, .ref (Ad E 44)), (1, .ref (Ad E 14)), (2, .int x2), (3, .int x3)] [] σ (qv Q)
def r_X0_fill_14_40 (E : EE) (x2 : Int32) (x3 : Int32) (σ : Mm) (Q : Mm → Prop) : Prop := Rn E M_X0_fill 40 [(0, .ref (Ad E 44)), (1, .ref (Ad E 14)), (2, .int x2), (3, .int x3)] [] σ (qv Q)
def r_X0_fill_14_102 (E : EE) (x2 : Int32) (x3 : Int32) (σ : Mm) (Q : Mm → Prop) : Prop := Rn E M_X0_fill 102 [(0, .ref (Ad E 44)), (1, .ref (Ad E 14)), (2, .int x2), (3, .int x3)] [] σ (qv Q)
set_option maxRecDepth 20000 in
set_option maxHeartbeats 4000000 in
theorem s_X0_fill_14_0 (E : EE) (x2 : Int32) (σ : Mm) (Q : Mm → Prop) (h : r_X0_fill_14_10 E x2 0 (up σ 44 2 (σ 14 1)) Q) : r_X0_fill_14_0 E x2 σ Q := by
  intro p e R s m args below meth c Z cells slots H locs ls C0 hH hl hret
  have hx := C0.1
  have hb : c.code = cX0_fill := C0.2.1
  have hl : lv_has ls 5 [(0, .ref (Ad E 44)), (1, .ref (Ad E 14)), (2, .int x2)] := hl
  refine lv_aload_n hx hb dX0_fill_0 rfl (lv_at hl 0 rfl) ?_
  refine lv_aload_n hx hb dX0_fill_1 rfl (lv_at hl 1 rfl) ?_
  refine m_geti (x := σ 14 1) C0 hH f_14_1 kF_X0_22 dX0_fill_2 rfl ?_
  refine m_puti C0 hH f_44_2 kF_X0_18 rfl dX0_fill_5 rfl rfl (fun H locs hH => ?_)
  refine lv_iconst (v := 0) hx hb dX0_fill_8 (by decide) ?_
  refine lv_istore_n (lv' := [(3, .int 0), (0, .ref (Ad E 44)), (1, .ref (Ad E 14)), (2, .int x2)]) hx hb dX0_fill_9 rfl hl (by decide) rfl (fun ls hl => ?_)
  exact h p e R s m args below meth c Z cells slots H locs ls C0 hH (lv_sub hl [1, 2, 3, 0] rfl) hret
set_option maxRecDepth 20000 in
set_option maxHeartbeats 4000000 in
theorem s_X0_fill_14_10 (E : EE) (x2 : Int32) (x3 : Int32) (σ : Mm) (Q : Mm → Prop) (h : (((σ 44 2) ≤ x3 → r_X0_fill_14_40 E x2 0 σ Q) ∧ (¬ (σ 44 2) ≤ x3 → (vp_in x3 6 ∧ (vp_in x3 6 ∧ r_X0_fill_14_10 E x2 (x3 + 1) (up (up σ 45 x3.toNatClampNeg 0) 46 x3.toNatClampNeg 0) Q))))) : r_X0_fill_14_10 E x2 x3 σ Q := by
  intro p e R s m args below meth c Z cells slots H locs ls C0 hH hl hret
  have hx := C0.1
  have hb : c.code = cX0_fill := C0.2.1
  have hl : lv_has ls 5 [(0, .ref (Ad E 44)), (1, .ref (Ad E 14)), (2, .int x2), (3, .int x3)] := hl
  refine lv_iload_n hx hb dX0_fill_10 rfl (lv_at hl 3 rfl) ?_
  refine lv_aload_n hx hb dX0_fill_11 rfl (lv_at hl 0 rfl) ?_
  refine m_geti (x := σ 44 2) C0 hH f_44_2 kF_X0_18 dX0_fill_12 rfl ?_
  refine lv_icmp_ge (tgt := 38) hx hb dX0_fill_15 (by decide) (fun hc1 => ?_) (fun hc1 => ?_)
  · have h := h.1 hc1
    refine lv_iconst (v := 0) hx hb dX0_fill_38 (by decide) ?_
    refine lv_istore_n (lv' := [(3, .int 0), (0, .ref (Ad E 44)), (1, .ref (Ad E 14)), (2, .int x2)]) hx hb dX0_fill_39 rfl hl (by decide) rfl (fun ls hl => ?_)
    exact h p e R s m args below meth c Z cells slots H locs ls C0 hH (lv_sub hl [1, 2, 3, 0] rfl) hret
  · have h := h.2 hc1
    refine lv_aload_n hx hb dX0_fill_18 rfl (lv_at hl 0 rfl) ?_
    refine m_getr C0 hH f_44_0 45 rfl kF_X0_9 dX0_fill_19 ?_
    refine lv_iload_n hx hb dX0_fill_22 rfl (lv_at hl 3 rfl) ?_
    refine lv_iconst (v := 0) hx hb dX0_fill_23 (by decide) ?_
    refine m_iast (j := x3.toNatClampNeg) C0 hH a_45 h.1 rfl dX0_fill_24 (fun H locs hH => ?_)
    have h := h.2
    refine lv_aload_n hx hb dX0_fill_25 rfl (lv_at hl 0 rfl) ?_
    refine m_getr C0 hH f_44_1 46 rfl kF_X0_15 dX0_fill_26 ?_
    refine lv_iload_n hx hb dX0_fill_29 rfl (lv_at hl 3 rfl) ?_
    refine lv_iconst (v := 0) hx hb dX0_fill_30 (by decide) ?_
    refine m_iast (j := x3.toNatClampNeg) C0 hH a_46 h.1 rfl dX0_fill_31 (fun H locs hH => ?_)
    have h := h.2
    refine lv_iinc (v := (x3 + 1)) (lv' := [(3, .int (x3 + 1)), (0, .ref (Ad E 44)), (1, .ref (Ad E 14)), (2, .int x2)]) hx hb dX0_fill_32 hl (k := 3) rfl rfl (by decide) rfl (fun ls hl => ?_)
    refine lv_goto (tgt := 10) hx hb dX0_fill_35 (by decide) ?_
    exact h p e R s m args below meth c Z cells slots H locs ls C0 hH (lv_sub hl [1, 2, 3, 0] rfl) hret
set_option maxRecDepth 20000 in
set_option maxHeartbeats 4000000 in
theorem s_X0_fill_14_40 (E : EE) (x2 : Int32) (x3 : Int32) (σ : Mm) (Q : Mm → Prop) (h : (((σ 14 2) ≤ x3 → r_X0_fill_14_102 E x2 0 σ Q) ∧ (¬ (σ 14 2) ≤ x3 → (vp_in x3 8 ∧ r_X9_hasBit_0 E x2 x3 σ (fun r3 τ2 => ((r3 = 0 → (vp_in (σ 18 x3.toNatClampNeg) 6 ∧ (vp_in x3 8 ∧ (vp_in (σ 18 x3.toNatClampNeg) 6 ∧ r_X0_fill_14_40 E x2 (x3 + 1) (up τ2 45 ((σ 18 x3.toNatClampNeg).toNatClampNeg) ((τ2 45 ((σ 18 x3.toNatClampNeg).toNatClampNeg)) + (τ2 20 x3.toNatClampNeg))) Q)))) ∧ (¬ r3 = 0 → (vp_in (σ 18 x3.toNatClampNeg) 6 ∧ (vp_in (σ 18 x3.toNatClampNeg) 6 ∧ r_X0_fill_14_40 E x2 (x3 + 1) (up τ2 46 ((σ 18 x3.toNatClampNeg).toNatClampNeg) ((τ2 46 ((σ 18 x3.toNatClampNeg).toNatClampNeg)) + 1)) Q))))))))) : r_X0_fill_14_40 E x2 x3 σ Q := by
  intro p e R s m args below meth c Z cells slots H locs ls C0 hH hl hret
  have hx := C0.1
  have hb : c.code = cX0_fill := C0.2.1
  have hl : lv_has ls 5 [(0, .ref (Ad E 44)), (1, .ref (Ad E 14)), (2, .int x2), (3, .int x3)] := hl
  refine lv_iload_n hx hb dX0_fill_40 rfl (lv_at hl 3 rfl) ?_
  refine lv_aload_n hx hb dX0_fill_41 rfl (lv_at hl 1 rfl) ?_
  refine m_geti (x := σ 14 2) C0 hH f_14_2 kF_X0_25 dX0_fill_42 rfl ?_
  refine lv_icmp_ge (tgt := 100) hx hb dX0_fill_45 (by decide) (fun hc1 => ?_) (fun hc1 => ?_)
  · have h := h.1 hc1
    refine lv_iconst (v := 0) hx hb dX0_fill_100 (by decide) ?_
    refine lv_istore_n (lv' := [(3, .int 0), (0, .ref (Ad E 44)), (1, .ref (Ad E 14)), (2, .int x2)]) hx hb dX0_fill_101 rfl hl (by decide) rfl (fun ls hl => ?_)
    exact h p e R s m args below meth c Z cells slots H locs ls C0 hH (lv_sub hl [1, 2, 3, 0] rfl) hret
  · have h := h.2 hc1
    refine lv_aload_n hx hb dX0_fill_48 rfl (lv_at hl 1 rfl) ?_
    refine m_getr C0 hH f_14_9 18 rfl kF_X0_28 dX0_fill_49 ?_
    refine lv_iload_n hx hb dX0_fill_52 rfl (lv_at hl 3 rfl) ?_
    refine m_iald (x := σ 18 x3.toNatClampNeg) C0 hH a_18 h.1 dX0_fill_53 rfl ?_
    have h := h.2
    refine lv_istore (lv' := [(4, .int (σ 18 x3.toNatClampNeg)), (0, .ref (Ad E 44)), (1, .ref (Ad E 14)), (2, .int x2), (3, .int x3)]) hx hb dX0_fill_54 hl (by decide) rfl (fun ls hl => ?_)
    refine lv_iload_n hx hb dX0_fill_56 rfl (lv_at hl 3 rfl) ?_
    refine lv_iload_n hx hb dX0_fill_57 rfl (lv_at hl 4 rfl) ?_
    refine m_cN (M2 := M_X9_hasBit) (As := [.int x2, .int x3]) (rest := []) h C0 hH hl kc_X9_hasBit ks_X9_hasBit kN_X0_31 rfl (Nat.le_of_ble_eq_true rfl) (Nat.le_of_ble_eq_true rfl) ⟨Nat.le_of_ble_eq_true rfl, Nat.le_of_ble_eq_true rfl⟩ dX0_fill_58 rfl (fun r τ2 H locs hq hH => ?_)
    obtain ⟨r3, rfl, h⟩ := hq
    refine lv_if_eq (tgt := 78) hx hb dX0_fill_61 (by decide) (fun hc4 => ?_) (fun hc4 => ?_)
    · have h := h.1 hc4
      refine lv_aload_n hx hb dX0_fill_78 rfl (lv_at hl 1 rfl) ?_
      refine m_getr C0 hH f_44_0 45 rfl kF_X0_9 dX0_fill_79 ?_
      refine lv_iload hx hb dX0_fill_82 (lv_at hl 0 rfl) ?_
      refine lv_dup2_11 hx hb dX0_fill_84 rfl rfl ?_
      refine m_iald (x := τ2 45 ((σ 18 x3.toNatClampNeg).toNatClampNeg)) C0 hH a_45 h.1 dX0_fill_85 rfl ?_
      have h := h.2
      refine lv_aload_n hx hb dX0_fill_86 rfl (lv_at hl 2 rfl) ?_
      refine m_getr C0 hH f_14_11 20 rfl kF_X0_35 dX0_fill_87 ?_
      refine lv_iload_n hx hb dX0_fill_90 rfl (lv_at hl 4 rfl) ?_
      refine m_iald (x := τ2 20 x3.toNatClampNeg) C0 hH a_20 h.1 dX0_fill_91 rfl ?_
      have h := h.2
      refine lv_iadd hx hb dX0_fill_92 ?_
      refine m_iast (j := (σ 18 x3.toNatClampNeg).toNatClampNeg) C0 hH a_45 h.1 rfl dX0_fill_93 (fun H locs hH => ?_)
      have h := h.2
      refine lv_iinc (v := (x3 + 1)) (lv' := [(3, .int (x3 + 1)), (4, .int (σ 18 x3.toNatClampNeg)), (0, .ref (Ad E 44)), (1, .ref (Ad E 14)), (2, .int x2)]) hx hb dX0_fill_94 hl (k := 4) rfl rfl (by decide) rfl (fun ls hl => ?_)
      refine lv_goto (tgt := 40) hx hb dX0_fill_97 (by decide) ?_
      exact h p e R s m args below meth c Z cells slots H locs ls C0 hH (lv_sub hl [2, 3, 4, 0] rfl) hret
    · have h := h.2 hc4
      refine lv_aload_n hx hb dX0_fill_64 rfl (lv_at hl 1 rfl) ?_
      refine m_getr C0 hH f_44_1 46 rfl kF_X0_15 dX0_fill_65 ?_
      refine lv_iload hx hb dX0_fill_68 (lv_at hl 0 rfl) ?_
      refine lv_dup2_11 hx hb dX0_fill_70 rfl rfl ?_
      refine m_iald (x := τ2 46 ((σ 18 x3.toNatClampNeg).toNatClampNeg)) C0 hH a_46 h.1 dX0_fill_71 rfl ?_
      have h := h.2
      refine lv_iconst (v := 1) hx hb dX0_fill_72 (by decide) ?_
      refine lv_iadd hx hb dX0_fill_73 ?_
      refine m_iast (j := (σ 18 x3.toNatClampNeg).toNatClampNeg) C0 hH a_46 h.1 rfl dX0_fill_74 (fun H locs hH => ?_)
      have h := h.2
      refine lv_goto (tgt := 94) hx hb dX0_fill_75 (by decide) ?_
      refine lv_iinc (v := (x3 + 1)) (lv' := [(3, .int (x3 + 1)), (4, .int (σ 18 x3.toNatClampNeg)), (0, .ref (Ad E 44)), (1, .ref (Ad E 14)), (2, .int x2)]) hx hb dX0_fill_94 hl (k := 4) rfl rfl (by decide) rfl (fun ls hl => ?_)
      refine lv_goto (tgt := 40) hx hb dX0_fill_97 (by decide) ?_
      exact h p e R s m args below meth c Z cells slots H locs ls C0 hH (lv_sub hl [2, 3, 4, 0] rfl) hret
set_option maxRecDepth 20000 in
set_option maxHeartbeats 4000000 in
theorem s_X0_fill_14_102 (E : EE) (x2 : Int32) (x3 : Int32) (σ : Mm) (Q : Mm → Prop) (h : (((σ 44 2) ≤ x3 → Q σ) ∧ (¬ (σ 44 2) ≤ x3 → (vp_in x3 6 ∧ (vp_in x3 6 ∧ (vp_in x3 6 ∧ r_X0_guiltAs_0 E (σ 15 x3.toNatClampNeg) (σ 45 x3.toNatClampNeg) (σ 46 x3.toNatClampNeg) σ (fun r3 τ2 => (vp_in x3 6 ∧ r_X0_fill_14_102 E x2 (x3 + 1) (up τ2 45 x3.toNatClampNeg r3) Q)))))))) : r_X0_fill_14_102 E x2 x3 σ Q := by
  intro p e R s m args below meth c Z cells slots H locs ls C0 hH hl hret
  have hx := C0.1
  have hb : c.code = cX0_fill := C0.2.1
  have hl : lv_has ls 5 [(0, .ref (Ad E 44)), (1, .ref (Ad E 14)), (2, .int x2), (3, .int x3)] := hl
  refine lv_iload_n hx hb dX0_fill_102 rfl (lv_at hl 3 rfl) ?_
  refine lv_aload_n hx hb dX0_fill_103 rfl (lv_at hl 0 rfl) ?_
  refine m_geti (x := σ 44 2) C0 hH f_44_2 kF_X0_18 dX0_fill_104 rfl ?_
  refine lv_icmp_ge (tgt := 143) hx hb dX0_fill_107 (by decide) (fun hc1 => ?_) (fun hc1 => ?_)
  · have h := h.1 hc1
    exact hret none _ _ _ _ _ ⟨rfl, h⟩ hH ⟨dX0_fill_143, rfl⟩
  · have h := h.2 hc1
    refine lv_aload_n hx hb dX0_fill_110 rfl (lv_at hl 0 rfl) ?_
    refine m_getr C0 hH f_44_0 45 rfl kF_X0_9 dX0_fill_111 ?_
    refine lv_iload_n hx hb dX0_fill_114 rfl (lv_at hl 3 rfl) ?_
    refine lv_aload_n hx hb dX0_fill_115 rfl (lv_at hl 1 rfl) ?_
    refine m_getr C0 hH f_14_6 15 rfl kF_X0_38 dX0_fill_116 ?_
    refine lv_iload_n hx hb dX0_fill_119 rfl (lv_at hl 3 rfl) ?_
    refine m_iald (x := σ 15 x3.toNatClampNeg) C0 hH a_15 h.1 dX0_fill_120 rfl ?_
    have h := h.2
    refine lv_aload_n hx hb dX0_fill_121 rfl (lv_at hl 0 rfl) ?_
    refine m_getr C0 hH f_44_0 45 rfl kF_X0_9 dX0_fill_122 ?_
    refine lv_iload_n hx hb dX0_fill_125 rfl (lv_at hl 3 rfl) ?_
    refine m_iald (x := σ 45 x3.toNatClampNeg) C0 hH a_45 h.1 dX0_fill_126 rfl ?_
    have h := h.2
    refine lv_aload_n hx hb dX0_fill_127 rfl (lv_at hl 0 rfl) ?_
    refine m_getr C0 hH f_44_1 46 rfl kF_X0_15 dX0_fill_128 ?_
    refine lv_iload_n hx hb dX0_fill_131 rfl (lv_at hl 3 rfl) ?_
    refine m_iald (x := σ 46 x3.toNatClampNeg) C0 hH a_46 h.1 dX0_fill_132 rfl ?_
    have h := h.2
    refine m_cS (M2 := M_X0_guiltAs) (As := [.int (σ 15 x3.toNatClampNeg), .int (σ 45 x3.toNatClampNeg), .int (σ 46 x3.toNatClampNeg)]) (rest := [.int x3, .ref (Ad E 45)]) h C0 hH hl kc_X0_guiltAs ks_X0_guiltAs kM_X0_41 rfl (Nat.le_of_ble_eq_true rfl) (Nat.le_of_ble_eq_true rfl) ⟨Nat.le_of_ble_eq_true rfl, Nat.le_of_ble_eq_true rfl⟩ dX0_fill_133 rfl (fun r τ2 H locs hq hH => ?_)
    obtain ⟨r3, rfl, h⟩ := hq
    refine m_iast (j := x3.toNatClampNeg) C0 hH a_45 h.1 rfl dX0_fill_136 (fun H locs hH => ?_)
    have h := h.2
    refine lv_iinc (v := (x3 + 1)) (lv' := [(3, .int (x3 + 1)), (0, .ref (Ad E 44)), (1, .ref (Ad E 14)), (2, .int x2)]) hx hb dX0_fill_137 hl (k := 3) rfl rfl (by decide) rfl (fun ls hl => ?_)
    refine lv_goto (tgt := 102) hx hb dX0_fill_140 (by decide) ?_
    exact h p e R s m args below meth c Z cells slots H locs ls C0 hH (lv_sub hl [1, 2, 3, 0] rfl) hret

def r_X9_guiltOf_0 (E : EE) (x1 : Int32) (σ : Mm) (Q : Int32 → Mm → Prop) : Prop := Rn E M_X9_guiltOf 0 [(0, .ref (Ad E 0)), (1, .int x1)] [] σ (qi Q)
set_option maxRecDepth 20000 in
set_option maxHeartbeats 4000000 in
theorem s_X9_guiltOf_0 (E : EE) (x1 : Int32) (σ : Mm) (Q : Int32 → Mm → Prop) (h : r_X0_fill_14_0 E (σ 14 3) σ (fun τ1 => (vp_in x1 6 ∧ Q (τ1 45 x1.toNatClampNeg) τ1))) : r_X9_guiltOf_0 E x1 σ Q := by
  intro p e R s m args below meth c Z cells slots H locs ls C0 hH hl hret
  have hx := C0.1
  have hb : c.code = cX9_guiltOf := C0.2.1
  have hl : lv_has ls 2 [(0, .ref (Ad E 0)), (1, .int x1)] := hl
  refine lv_aload_n hx hb dX9_guiltOf_0 rfl (lv_at hl 0 rfl) ?_
  refine m_getr C0 hH f_0_5 44 rfl kF_X9_39 dX9_guiltOf_1 ?_
  refine lv_aload_n hx hb dX9_guiltOf_4 rfl (lv_at hl 0 rfl) ?_
  refine m_getr C0 hH f_0_2 14 rfl kF_X9_26 dX9_guiltOf_5 ?_
  refine lv_aload_n hx hb dX9_guiltOf_8 rfl (lv_at hl 0 rfl) ?_
  refine m_getr C0 hH f_0_2 14 rfl kF_X9_26 dX9_guiltOf_9 ?_
  refine m_geti (x := σ 14 3) C0 hH f_14_3 kF_X9_140 dX9_guiltOf_12 rfl ?_
  refine m_cV (M2 := M_X0_fill) (As := [.ref (Ad E 14), .int (σ 14 3)]) (rest := []) h C0 hH hl kc_X0_fill ki_X0_fill kx_X0_fill ob_44 kM_X9_253 rfl (Nat.le_of_ble_eq_true rfl) (Nat.le_of_ble_eq_true rfl) ⟨Nat.le_of_ble_eq_true rfl, Nat.le_of_ble_eq_true rfl⟩ dX9_guiltOf_15 rfl (fun r τ1 H locs hq hH => ?_)
  obtain ⟨rfl, h⟩ := hq
  refine lv_aload_n hx hb dX9_guiltOf_18 rfl (lv_at hl 0 rfl) ?_
  refine m_getr C0 hH f_0_5 44 rfl kF_X9_39 dX9_guiltOf_19 ?_
  refine m_getr C0 hH f_44_0 45 rfl kF_X9_292 dX9_guiltOf_22 ?_
  refine lv_iload_n hx hb dX9_guiltOf_25 rfl (lv_at hl 1 rfl) ?_
  refine m_iald (x := τ1 45 x1.toNatClampNeg) C0 hH a_45 h.1 dX9_guiltOf_26 rfl ?_
  have h := h.2
  exact hret (some (.int (τ1 45 x1.toNatClampNeg))) _ _ _ _ _ ⟨_, rfl, h⟩ hH ⟨dX9_guiltOf_27, .int, rfl, rfl⟩

def r_X0_placeOf_0 (E : EE) (x1 : Int32) (σ : Mm) (Q : Int32 → Mm → Prop) : Prop := Rn E M_X0_placeOf 0 [(0, .ref (Ad E 44)), (1, .int x1)] [] σ (qi Q)
def r_X0_placeOf_20 (E : EE) (x1 : Int32) (x2 : Int32) (x3 : Int32) (x4 : Int32) (σ : Mm) (Q : Int32 → Mm → Prop) : Prop := Rn E M_X0_placeOf 20 [(0, .ref (Ad E 44)), (1, .int x1), (2, .int x2), (3, .int x3), (4, .int x4)] [] σ (qi Q)
set_option maxRecDepth 20000 in
set_option maxHeartbeats 4000000 in
theorem s_X0_placeOf_0 (E : EE) (x1 : Int32) (σ : Mm) (Q : Int32 → Mm → Prop) (h : (vp_in x1 6 ∧ ((1 ≤ (σ 45 x1.toNatClampNeg) → r_X0_placeOf_20 E x1 (σ 45 x1.toNatClampNeg) 0 0 σ Q) ∧ (¬ 1 ≤ (σ 45 x1.toNatClampNeg) → Q 6 σ)))) : r_X0_placeOf_0 E x1 σ Q := by
  intro p e R s m args below meth c Z cells slots H locs ls C0 hH hl hret
  have hx := C0.1
  have hb : c.code = cX0_placeOf := C0.2.1
  have hl : lv_has ls 5 [(0, .ref (Ad E 44)), (1, .int x1)] := hl
  refine lv_aload_n hx hb dX0_placeOf_0 rfl (lv_at hl 0 rfl) ?_
  refine m_getr C0 hH f_44_0 45 rfl kF_X0_9 dX0_placeOf_1 ?_
  refine lv_iload_n hx hb dX0_placeOf_4 rfl (lv_at hl 1 rfl) ?_
  refine m_iald (x := σ 45 x1.toNatClampNeg) C0 hH a_45 h.1 dX0_placeOf_5 rfl ?_
  have h := h.2
  refine lv_istore_n (lv' := [(2, .int (σ 45 x1.toNatClampNeg)), (0, .ref (Ad E 44)), (1, .int x1)]) hx hb dX0_placeOf_6 rfl hl (by decide) rfl (fun ls hl => ?_)
  refine lv_iload_n hx hb dX0_placeOf_7 rfl (lv_at hl 0 rfl) ?_
  refine lv_iconst (v := 1) hx hb dX0_placeOf_8 (by decide) ?_
  refine lv_icmp_ge (tgt := 15) hx hb dX0_placeOf_9 (by decide) (fun hc1 => ?_) (fun hc1 => ?_)
  · have h := h.1 hc1
    refine lv_iconst (v := 0) hx hb dX0_placeOf_15 (by decide) ?_
    refine lv_istore_n (lv' := [(3, .int 0), (2, .int (σ 45 x1.toNatClampNeg)), (0, .ref (Ad E 44)), (1, .int x1)]) hx hb dX0_placeOf_16 rfl hl (by decide) rfl (fun ls hl => ?_)
    refine lv_iconst (v := 0) hx hb dX0_placeOf_17 (by decide) ?_
    refine lv_istore (lv' := [(4, .int 0), (3, .int 0), (2, .int (σ 45 x1.toNatClampNeg)), (0, .ref (Ad E 44)), (1, .int x1)]) hx hb dX0_placeOf_18 hl (by decide) rfl (fun ls hl => ?_)
    exact h p e R s m args below meth c Z cells slots H locs ls C0 hH (lv_sub hl [3, 4, 2, 1, 0] rfl) hret
  · have h := h.2 hc1
    refine lv_bipush (v := 6) hx hb dX0_placeOf_12 (by decide) ?_
    exact hret (some (.int 6)) _ _ _ _ _ ⟨_, rfl, h⟩ hH ⟨dX0_placeOf_14, .int, rfl, rfl⟩
set_option maxRecDepth 20000 in
set_option maxHeartbeats 4000000 in
theorem s_X0_placeOf_20 (E : EE) (x1 : Int32) (x2 : Int32) (x3 : Int32) (x4 : Int32) (σ : Mm) (Q : Int32 → Mm → Prop) (h : (((σ 44 2) ≤ x4 → Q x3 σ) ∧ (¬ (σ 44 2) ≤ x4 → (vp_in x4 6 ∧ ((x2 < (σ 45 x4.toNatClampNeg) → r_X0_placeOf_20 E x1 x2 (x3 + 1) (x4 + 1) σ Q) ∧ (¬ x2 < (σ 45 x4.toNatClampNeg) → (vp_in x4 6 ∧ ((¬ (σ 45 x4.toNatClampNeg) = x2 → r_X0_placeOf_20 E x1 x2 x3 (x4 + 1) σ Q) ∧ ((σ 45 x4.toNatClampNeg) = x2 → ((x1 ≤ x4 → r_X0_placeOf_20 E x1 x2 x3 (x4 + 1) σ Q) ∧ (¬ x1 ≤ x4 → r_X0_placeOf_20 E x1 x2 (x3 + 1) (x4 + 1) σ Q))))))))))) : r_X0_placeOf_20 E x1 x2 x3 x4 σ Q := by
  intro p e R s m args below meth c Z cells slots H locs ls C0 hH hl hret
  have hx := C0.1
  have hb : c.code = cX0_placeOf := C0.2.1
  have hl : lv_has ls 5 [(0, .ref (Ad E 44)), (1, .int x1), (2, .int x2), (3, .int x3), (4, .int x4)] := hl
  refine lv_iload hx hb dX0_placeOf_20 (lv_at hl 4 rfl) ?_
  refine lv_aload_n hx hb dX0_placeOf_22 rfl (lv_at hl 0 rfl) ?_
  refine m_geti (x := σ 44 2) C0 hH f_44_2 kF_X0_18 dX0_placeOf_23 rfl ?_
  refine lv_icmp_ge (tgt := 66) hx hb dX0_placeOf_26 (by decide) (fun hc1 => ?_) (fun hc1 => ?_)
  · have h := h.1 hc1
    refine lv_iload_n hx hb dX0_placeOf_66 rfl (lv_at hl 3 rfl) ?_
    exact hret (some (.int x3)) _ _ _ _ _ ⟨_, rfl, h⟩ hH ⟨dX0_placeOf_67, .int, rfl, rfl⟩
  · have h := h.2 hc1
    refine lv_aload_n hx hb dX0_placeOf_29 rfl (lv_at hl 0 rfl) ?_
    refine m_getr C0 hH f_44_0 45 rfl kF_X0_9 dX0_placeOf_30 ?_
    refine lv_iload hx hb dX0_placeOf_33 (lv_at hl 4 rfl) ?_
    refine m_iald (x := σ 45 x4.toNatClampNeg) C0 hH a_45 h.1 dX0_placeOf_35 rfl ?_
    have h := h.2
    refine lv_iload_n hx hb dX0_placeOf_36 rfl (lv_at hl 2 rfl) ?_
    refine lv_icmp_gt (tgt := 57) hx hb dX0_placeOf_37 (by decide) (fun hc2 => ?_) (fun hc2 => ?_)
    · have h := h.1 hc2
      refine lv_iinc (v := (x3 + 1)) (lv' := [(3, .int (x3 + 1)), (0, .ref (Ad E 44)), (1, .int x1), (2, .int x2), (4, .int x4)]) hx hb dX0_placeOf_57 hl (k := 3) rfl rfl (by decide) rfl (fun ls hl => ?_)
      refine lv_iinc (v := (x4 + 1)) (lv' := [(4, .int (x4 + 1)), (3, .int (x3 + 1)), (0, .ref (Ad E 44)), (1, .int x1), (2, .int x2)]) hx hb dX0_placeOf_60 hl (k := 4) rfl rfl (by decide) rfl (fun ls hl => ?_)
      refine lv_goto (tgt := 20) hx hb dX0_placeOf_63 (by decide) ?_
      exact h p e R s m args below meth c Z cells slots H locs ls C0 hH (lv_sub hl [2, 3, 4, 1, 0] rfl) hret
    · have h := h.2 hc2
      refine lv_aload_n hx hb dX0_placeOf_40 rfl (lv_at hl 0 rfl) ?_
      refine m_getr C0 hH f_44_0 45 rfl kF_X0_9 dX0_placeOf_41 ?_
      refine lv_iload hx hb dX0_placeOf_44 (lv_at hl 4 rfl) ?_
      refine m_iald (x := σ 45 x4.toNatClampNeg) C0 hH a_45 h.1 dX0_placeOf_46 rfl ?_
      have h := h.2
      refine lv_iload_n hx hb dX0_placeOf_47 rfl (lv_at hl 2 rfl) ?_
      refine lv_icmp_ne (tgt := 60) hx hb dX0_placeOf_48 (by decide) (fun hc3 => ?_) (fun hc3 => ?_)
      · have h := h.1 hc3
        refine lv_iinc (v := (x4 + 1)) (lv' := [(4, .int (x4 + 1)), (0, .ref (Ad E 44)), (1, .int x1), (2, .int x2), (3, .int x3)]) hx hb dX0_placeOf_60 hl (k := 4) rfl rfl (by decide) rfl (fun ls hl => ?_)
        refine lv_goto (tgt := 20) hx hb dX0_placeOf_63 (by decide) ?_
        exact h p e R s m args below meth c Z cells slots H locs ls C0 hH (lv_sub hl [1, 2, 3, 4, 0] rfl) hret
      · have h := h.2 hc3
        refine lv_iload hx hb dX0_placeOf_51 (lv_at hl 4 rfl) ?_
        refine lv_iload_n hx hb dX0_placeOf_53 rfl (lv_at hl 1 rfl) ?_
        refine lv_icmp_ge (tgt := 60) hx hb dX0_placeOf_54 (by decide) (fun hc4 => ?_) (fun hc4 => ?_)
        · have h := h.1 hc4
          refine lv_iinc (v := (x4 + 1)) (lv' := [(4, .int (x4 + 1)), (0, .ref (Ad E 44)), (1, .int x1), (2, .int x2), (3, .int x3)]) hx hb dX0_placeOf_60 hl (k := 4) rfl rfl (by decide) rfl (fun ls hl => ?_)
          refine lv_goto (tgt := 20) hx hb dX0_placeOf_63 (by decide) ?_
          exact h p e R s m args below meth c Z cells slots H locs ls C0 hH (lv_sub hl [1, 2, 3, 4, 0] rfl) hret
        · have h := h.2 hc4
          refine lv_iinc (v := (x3 + 1)) (lv' := [(3, .int (x3 + 1)), (0, .ref (Ad E 44)), (1, .int x1), (2, .int x2), (4, .int x4)]) hx hb dX0_placeOf_57 hl (k := 3) rfl rfl (by decide) rfl (fun ls hl => ?_)
          refine lv_iinc (v := (x4 + 1)) (lv' := [(4, .int (x4 + 1)), (3, .int (x3 + 1)), (0, .ref (Ad E 44)), (1, .int x1), (2, .int x2)]) hx hb dX0_placeOf_60 hl (k := 4) rfl rfl (by decide) rfl (fun ls hl => ?_)
          refine lv_goto (tgt := 20) hx hb dX0_placeOf_63 (by decide) ?_
          exact h p e R s m args below meth c Z cells slots H locs ls C0 hH (lv_sub hl [2, 3, 4, 1, 0] rfl) hret

def r_X0_sitters_0 (E : EE) (x1 : Int32) (σ : Mm) (Q : Int32 → Mm → Prop) : Prop := Rn E M_X0_sitters 0 [(0, .ref (Ad E 44)), (1, .int x1)] [] σ (qi Q)
def r_X0_sitters_4 (E : EE) (x1 : Int32) (x2 : Int32) (x3 : Int32) (σ : Mm) (Q : Int32 → Mm → Prop) : Prop := Rn E M_X0_sitters 4 [(0, .ref (Ad E 44)), (1, .int x1), (2, .int x2), (3, .int x3)] [] σ (qi Q)
set_option maxRecDepth 20000 in
set_option maxHeartbeats 4000000 in
theorem s_X0_sitters_0 (E : EE) (x1 : Int32) (σ : Mm) (Q : Int32 → Mm → Prop) (h : r_X0_sitters_4 E x1 0 0 σ Q) : r_X0_sitters_0 E x1 σ Q := by
  intro p e R s m args below meth c Z cells slots H locs ls C0 hH hl hret
  have hx := C0.1
  have hb : c.code = cX0_sitters := C0.2.1
  have hl : lv_has ls 4 [(0, .ref (Ad E 44)), (1, .int x1)] := hl
  refine lv_iconst (v := 0) hx hb dX0_sitters_0 (by decide) ?_
  refine lv_istore_n (lv' := [(2, .int 0), (0, .ref (Ad E 44)), (1, .int x1)]) hx hb dX0_sitters_1 rfl hl (by decide) rfl (fun ls hl => ?_)
  refine lv_iconst (v := 0) hx hb dX0_sitters_2 (by decide) ?_
  refine lv_istore_n (lv' := [(3, .int 0), (2, .int 0), (0, .ref (Ad E 44)), (1, .int x1)]) hx hb dX0_sitters_3 rfl hl (by decide) rfl (fun ls hl => ?_)
  exact h p e R s m args below meth c Z cells slots H locs ls C0 hH (lv_sub hl [2, 3, 1, 0] rfl) hret
set_option maxRecDepth 20000 in
set_option maxHeartbeats 4000000 in
theorem s_X0_sitters_4 (E : EE) (x1 : Int32) (x2 : Int32) (x3 : Int32) (σ : Mm) (Q : Int32 → Mm → Prop) (h : (((σ 44 2) ≤ x3 → Q x2 σ) ∧ (¬ (σ 44 2) ≤ x3 → r_X0_placeOf_0 E x3 σ (fun r3 τ2 => ((x1 ≤ r3 → r_X0_sitters_4 E x1 x2 (x3 + 1) τ2 Q) ∧ (¬ x1 ≤ r3 → r_X0_sitters_4 E x1 (x2 ||| (1 <<< (x3 &&& 31))) (x3 + 1) τ2 Q)))))) : r_X0_sitters_4 E x1 x2 x3 σ Q := by
  intro p e R s m args below meth c Z cells slots H locs ls C0 hH hl hret
  have hx := C0.1
  have hb : c.code = cX0_sitters := C0.2.1
  have hl : lv_has ls 4 [(0, .ref (Ad E 44)), (1, .int x1), (2, .int x2), (3, .int x3)] := hl
  refine lv_iload_n hx hb dX0_sitters_4 rfl (lv_at hl 3 rfl) ?_
  refine lv_aload_n hx hb dX0_sitters_5 rfl (lv_at hl 0 rfl) ?_
  refine m_geti (x := σ 44 2) C0 hH f_44_2 kF_X0_18 dX0_sitters_6 rfl ?_
  refine lv_icmp_ge (tgt := 33) hx hb dX0_sitters_9 (by decide) (fun hc1 => ?_) (fun hc1 => ?_)
  · have h := h.1 hc1
    refine lv_iload_n hx hb dX0_sitters_33 rfl (lv_at hl 2 rfl) ?_
    exact hret (some (.int x2)) _ _ _ _ _ ⟨_, rfl, h⟩ hH ⟨dX0_sitters_34, .int, rfl, rfl⟩
  · have h := h.2 hc1
    refine lv_aload_n hx hb dX0_sitters_12 rfl (lv_at hl 0 rfl) ?_
    refine lv_iload_n hx hb dX0_sitters_13 rfl (lv_at hl 3 rfl) ?_
    refine m_cV (M2 := M_X0_placeOf) (As := [.int x3]) (rest := []) h C0 hH hl kc_X0_placeOf ki_X0_placeOf kx_X0_placeOf ob_44 kM_X0_51 rfl (Nat.le_of_ble_eq_true rfl) (Nat.le_of_ble_eq_true rfl) ⟨Nat.le_of_ble_eq_true rfl, Nat.le_of_ble_eq_true rfl⟩ dX0_sitters_14 rfl (fun r τ2 H locs hq hH => ?_)
    obtain ⟨r3, rfl, h⟩ := hq
    refine lv_iload_n hx hb dX0_sitters_17 rfl (lv_at hl 1 rfl) ?_
    refine lv_icmp_ge (tgt := 27) hx hb dX0_sitters_18 (by decide) (fun hc4 => ?_) (fun hc4 => ?_)
    · have h := h.1 hc4
      refine lv_iinc (v := (x3 + 1)) (lv' := [(3, .int (x3 + 1)), (0, .ref (Ad E 44)), (1, .int x1), (2, .int x2)]) hx hb dX0_sitters_27 hl (k := 3) rfl rfl (by decide) rfl (fun ls hl => ?_)
      refine lv_goto (tgt := 4) hx hb dX0_sitters_30 (by decide) ?_
      exact h p e R s m args below meth c Z cells slots H locs ls C0 hH (lv_sub hl [1, 2, 3, 0] rfl) hret
    · have h := h.2 hc4
      refine lv_iload_n hx hb dX0_sitters_21 rfl (lv_at hl 2 rfl) ?_
      refine lv_iconst (v := 1) hx hb dX0_sitters_22 (by decide) ?_
      refine lv_iload_n hx hb dX0_sitters_23 rfl (lv_at hl 3 rfl) ?_
      refine lv_ishl hx hb dX0_sitters_24 ?_
      refine lv_ior hx hb dX0_sitters_25 ?_
      refine lv_istore_n (lv' := [(2, .int (x2 ||| (1 <<< (x3 &&& 31)))), (0, .ref (Ad E 44)), (1, .int x1), (3, .int x3)]) hx hb dX0_sitters_26 rfl hl (by decide) rfl (fun ls hl => ?_)
      refine lv_iinc (v := (x3 + 1)) (lv' := [(3, .int (x3 + 1)), (2, .int (x2 ||| (1 <<< (x3 &&& 31)))), (0, .ref (Ad E 44)), (1, .int x1)]) hx hb dX0_sitters_27 hl (k := 3) rfl rfl (by decide) rfl (fun ls hl => ?_)
      refine lv_goto (tgt := 4) hx hb dX0_sitters_30 (by decide) ?_
      exact h p e R s m args below meth c Z cells slots H locs ls C0 hH (lv_sub hl [2, 3, 1, 0] rfl) hret

def r_X9_sittersNow_0 (E : EE) (σ : Mm) (Q : Int32 → Mm → Prop) : Prop := Rn E M_X9_sittersNow 0 [(0, .ref (Ad E 0))] [] σ (qi Q)
set_option maxRecDepth 20000 in
set_option maxHeartbeats 4000000 in
theorem s_X9_sittersNow_0 (E : EE) (σ : Mm) (Q : Int32 → Mm → Prop) (h : r_X0_fill_14_0 E (σ 14 3) σ (fun τ1 => r_X0_sitters_0 E (τ1 14 0) τ1 (fun r3 τ2 => Q r3 τ2))) : r_X9_sittersNow_0 E σ Q := by
  intro p e R s m args below meth c Z cells slots H locs ls C0 hH hl hret
  have hx := C0.1
  have hb : c.code = cX9_sittersNow := C0.2.1
  have hl : lv_has ls 1 [(0, .ref (Ad E 0))] := hl
  refine lv_aload_n hx hb dX9_sittersNow_0 rfl (lv_at hl 0 rfl) ?_
  refine m_getr C0 hH f_0_5 44 rfl kF_X9_39 dX9_sittersNow_1 ?_
  refine lv_aload_n hx hb dX9_sittersNow_4 rfl (lv_at hl 0 rfl) ?_
  refine m_getr C0 hH f_0_2 14 rfl kF_X9_26 dX9_sittersNow_5 ?_
  refine lv_aload_n hx hb dX9_sittersNow_8 rfl (lv_at hl 0 rfl) ?_
  refine m_getr C0 hH f_0_2 14 rfl kF_X9_26 dX9_sittersNow_9 ?_
  refine m_geti (x := σ 14 3) C0 hH f_14_3 kF_X9_140 dX9_sittersNow_12 rfl ?_
  refine m_cV (M2 := M_X0_fill) (As := [.ref (Ad E 14), .int (σ 14 3)]) (rest := []) h C0 hH hl kc_X0_fill ki_X0_fill kx_X0_fill ob_44 kM_X9_253 rfl (Nat.le_of_ble_eq_true rfl) (Nat.le_of_ble_eq_true rfl) ⟨Nat.le_of_ble_eq_true rfl, Nat.le_of_ble_eq_true rfl⟩ dX9_sittersNow_15 rfl (fun r τ1 H locs hq hH => ?_)
  obtain ⟨rfl, h⟩ := hq
  refine lv_aload_n hx hb dX9_sittersNow_18 rfl (lv_at hl 0 rfl) ?_
  refine m_getr C0 hH f_0_5 44 rfl kF_X9_39 dX9_sittersNow_19 ?_
  refine lv_aload_n hx hb dX9_sittersNow_22 rfl (lv_at hl 0 rfl) ?_
  refine m_getr C0 hH f_0_2 14 rfl kF_X9_26 dX9_sittersNow_23 ?_
  refine m_geti (x := τ1 14 0) C0 hH f_14_0 kF_X9_196 dX9_sittersNow_26 rfl ?_
  refine m_cV (M2 := M_X0_sitters) (As := [.int (τ1 14 0)]) (rest := []) h C0 hH hl kc_X0_sitters ki_X0_sitters kx_X0_sitters ob_44 kM_X9_295 rfl (Nat.le_of_ble_eq_true rfl) (Nat.le_of_ble_eq_true rfl) ⟨Nat.le_of_ble_eq_true rfl, Nat.le_of_ble_eq_true rfl⟩ dX9_sittersNow_29 rfl (fun r τ2 H locs hq hH => ?_)
  obtain ⟨r3, rfl, h⟩ := hq
  exact hret (some (.int r3)) _ _ _ _ _ ⟨_, rfl, h⟩ hH ⟨dX9_sittersNow_32, .int, rfl, rfl⟩
