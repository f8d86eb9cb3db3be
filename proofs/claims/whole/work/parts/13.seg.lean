def r_X9_again_0 (E : EE) (x1 : Int32) (x2 : Int32) (σ : Mm) (Q : Int32 → Mm → Prop) : Prop := Rn E M_X9_again 0 [(0, .ref (Ad E 0)), (1, .int x1), (2, .int x2)] [] σ (qi Q)
set_option maxRecDepth 20000 in
set_option maxHeartbeats 4000000 in
theorem s_X9_again_0 (E : EE) (x1 : Int32) (x2 : Int32) (σ : Mm) (Q : Int32 → Mm → Prop) (h : r_X2_hasWrong_0 E x1 σ (fun r2 τ1 => ((¬ r2 = 0 → ((x2 < 1 → Q (-102) τ1) ∧ (¬ x2 < 1 → ((x2 ≤ 9 → (vp_in x1 8 ∧ (vp_in x1 8 ∧ r_X9_guiltOf_0 E (τ1 18 x1.toNatClampNeg) (up (up τ1 20 x1.toNatClampNeg x2) 14 3 ((τ1 14 3) &&& ((1 <<< (x1 &&& 31)) ^^^ (-1)))) (fun r7 τ6 => Q r7 τ6)))) ∧ (¬ x2 ≤ 9 → Q (-102) τ1))))) ∧ (r2 = 0 → Q (-101) τ1)))) : r_X9_again_0 E x1 x2 σ Q := by
  intro p e R s m args below meth c Z cells slots H locs ls C0 hH hl hret
  have hx := C0.1
  have hb : c.code = cX9_again := C0.2.1
  have hl : lv_has ls 3 [(0, .ref (Ad E 0)), (1, .int x1), (2, .int x2)] := hl
  refine lv_aload_n hx hb dX9_again_0 rfl (lv_at hl 0 rfl) ?_
  refine m_getr C0 hH f_0_2 14 rfl kF_X9_26 dX9_again_1 ?_
  refine lv_iload_n hx hb dX9_again_4 rfl (lv_at hl 1 rfl) ?_
  refine m_cV (M2 := M_X2_hasWrong) (As := [.int x1]) (rest := []) h C0 hH hl kc_X2_hasWrong ki_X2_hasWrong kx_X2_hasWrong ob_14 kM_X9_156 rfl (Nat.le_of_ble_eq_true rfl) (Nat.le_of_ble_eq_true rfl) ⟨Nat.le_of_ble_eq_true rfl, Nat.le_of_ble_eq_true rfl⟩ dX9_again_5 rfl (fun r τ1 H locs hq hH => ?_)
  obtain ⟨r2, rfl, h⟩ := hq
  refine lv_if_ne (tgt := 14) hx hb dX9_again_8 (by decide) (fun hc3 => ?_) (fun hc3 => ?_)
  · have h := h.1 hc3
    refine lv_iload_n hx hb dX9_again_14 rfl (lv_at hl 2 rfl) ?_
    refine lv_iconst (v := 1) hx hb dX9_again_15 (by decide) ?_
    refine lv_icmp_lt (tgt := 25) hx hb dX9_again_16 (by decide) (fun hc4 => ?_) (fun hc4 => ?_)
    · have h := h.1 hc4
      refine lv_bipush (v := (-102)) hx hb dX9_again_25 (by decide) ?_
      exact hret (some (.int (-102))) _ _ _ _ _ ⟨_, rfl, h⟩ hH ⟨dX9_again_27, .int, rfl, rfl⟩
    · have h := h.2 hc4
      refine lv_iload_n hx hb dX9_again_19 rfl (lv_at hl 2 rfl) ?_
      refine lv_bipush (v := 9) hx hb dX9_again_20 (by decide) ?_
      refine lv_icmp_le (tgt := 28) hx hb dX9_again_22 (by decide) (fun hc5 => ?_) (fun hc5 => ?_)
      · have h := h.1 hc5
        refine lv_aload_n hx hb dX9_again_28 rfl (lv_at hl 0 rfl) ?_
        refine m_getr C0 hH f_0_2 14 rfl kF_X9_26 dX9_again_29 ?_
        refine m_getr C0 hH f_14_11 20 rfl kF_X9_165 dX9_again_32 ?_
        refine lv_iload_n hx hb dX9_again_35 rfl (lv_at hl 1 rfl) ?_
        refine lv_iload_n hx hb dX9_again_36 rfl (lv_at hl 2 rfl) ?_
        refine m_iast (j := x1.toNatClampNeg) C0 hH a_20 h.1 rfl dX9_again_37 (fun H locs hH => ?_)
        have h := h.2
        refine lv_aload_n hx hb dX9_again_38 rfl (lv_at hl 0 rfl) ?_
        refine m_getr C0 hH f_0_2 14 rfl kF_X9_26 dX9_again_39 ?_
        refine lv_dup hx hb dX9_again_42 rfl ?_
        refine m_geti (x := τ1 14 3) C0 hH f_14_3 kF_X9_140 dX9_again_43 rfl ?_
        refine lv_iconst (v := 1) hx hb dX9_again_46 (by decide) ?_
        refine lv_iload_n hx hb dX9_again_47 rfl (lv_at hl 1 rfl) ?_
        refine lv_ishl hx hb dX9_again_48 ?_
        refine lv_iconst (v := (-1)) hx hb dX9_again_49 (by decide) ?_
        refine lv_ixor hx hb dX9_again_50 ?_
        refine lv_iand hx hb dX9_again_51 ?_
        refine m_puti C0 hH f_14_3 kF_X9_140 rfl dX9_again_52 rfl rfl (fun H locs hH => ?_)
        refine lv_aload_n hx hb dX9_again_55 rfl (lv_at hl 0 rfl) ?_
        refine lv_aload_n hx hb dX9_again_56 rfl (lv_at hl 0 rfl) ?_
        refine m_getr C0 hH f_0_2 14 rfl kF_X9_26 dX9_again_57 ?_
        refine m_getr C0 hH f_14_9 18 rfl kF_X9_159 dX9_again_60 ?_
        refine lv_iload_n hx hb dX9_again_63 rfl (lv_at hl 1 rfl) ?_
        refine m_iald (x := τ1 18 x1.toNatClampNeg) C0 hH a_18 h.1 dX9_again_64 rfl ?_
        have h := h.2
        refine m_cV (M2 := M_X9_guiltOf) (As := [.int (τ1 18 x1.toNatClampNeg)]) (rest := []) h C0 hH hl kc_X9_guiltOf ki_X9_guiltOf kx_X9_guiltOf ob_0 kM_X9_125 rfl (Nat.le_of_ble_eq_true rfl) (Nat.le_of_ble_eq_true rfl) ⟨Nat.le_of_ble_eq_true rfl, Nat.le_of_ble_eq_true rfl⟩ dX9_again_65 rfl (fun r τ6 H locs hq hH => ?_)
        obtain ⟨r7, rfl, h⟩ := hq
        exact hret (some (.int r7)) _ _ _ _ _ ⟨_, rfl, h⟩ hH ⟨dX9_again_68, .int, rfl, rfl⟩
      · have h := h.2 hc5
        refine lv_bipush (v := (-102)) hx hb dX9_again_25 (by decide) ?_
        exact hret (some (.int (-102))) _ _ _ _ _ ⟨_, rfl, h⟩ hH ⟨dX9_again_27, .int, rfl, rfl⟩
  · have h := h.2 hc3
    refine lv_bipush (v := (-101)) hx hb dX9_again_11 (by decide) ?_
    exact hret (some (.int (-101))) _ _ _ _ _ ⟨_, rfl, h⟩ hH ⟨dX9_again_13, .int, rfl, rfl⟩

def r_X9_room_0 (E : EE) (x1 : Int32) (σ : Mm) (Q : Int32 → Mm → Prop) : Prop := Rn E M_X9_room 0 [(0, .ref (Ad E 0)), (1, .int x1)] [] σ (qi Q)
set_option maxRecDepth 20000 in
set_option maxHeartbeats 4000000 in
theorem s_X9_room_0 (E : EE) (x1 : Int32) (σ : Mm) (Q : Int32 → Mm → Prop) (h : r_X9_isRoom_0 E x1 σ (fun r2 τ1 => ((¬ r2 = 0 → r_X2_isThere_0 E  τ1 (fun r5 τ4 => ((¬ r5 = 0 → Q (τ4 14 0) (up τ4 14 0 x1)) ∧ (r5 = 0 → Q (-103) τ4)))) ∧ (r2 = 0 → Q (-102) τ1)))) : r_X9_room_0 E x1 σ Q := by
  intro p e R s m args below meth c Z cells slots H locs ls C0 hH hl hret
  have hx := C0.1
  have hb : c.code = cX9_room := C0.2.1
  have hl : lv_has ls 3 [(0, .ref (Ad E 0)), (1, .int x1)] := hl
  refine lv_iload_n hx hb dX9_room_0 rfl (lv_at hl 1 rfl) ?_
  refine m_cS (M2 := M_X9_isRoom) (As := [.int x1]) (rest := []) h C0 hH hl kc_X9_isRoom ks_X9_isRoom kM_X9_193 rfl (Nat.le_of_ble_eq_true rfl) (Nat.le_of_ble_eq_true rfl) ⟨Nat.le_of_ble_eq_true rfl, Nat.le_of_ble_eq_true rfl⟩ dX9_room_1 rfl (fun r τ1 H locs hq hH => ?_)
  obtain ⟨r2, rfl, h⟩ := hq
  refine lv_if_ne (tgt := 10) hx hb dX9_room_4 (by decide) (fun hc3 => ?_) (fun hc3 => ?_)
  · have h := h.1 hc3
    refine lv_aload_n hx hb dX9_room_10 rfl (lv_at hl 0 rfl) ?_
    refine m_getr C0 hH f_0_2 14 rfl kF_X9_26 dX9_room_11 ?_
    refine m_cV (M2 := M_X2_isThere) (As := []) (rest := []) h C0 hH hl kc_X2_isThere ki_X2_isThere kx_X2_isThere ob_14 kM_X9_184 rfl (Nat.le_of_ble_eq_true rfl) (Nat.le_of_ble_eq_true rfl) ⟨Nat.le_of_ble_eq_true rfl, Nat.le_of_ble_eq_true rfl⟩ dX9_room_14 rfl (fun r τ4 H locs hq hH => ?_)
    obtain ⟨r5, rfl, h⟩ := hq
    refine lv_if_ne (tgt := 23) hx hb dX9_room_17 (by decide) (fun hc6 => ?_) (fun hc6 => ?_)
    · have h := h.1 hc6
      refine lv_aload_n hx hb dX9_room_23 rfl (lv_at hl 0 rfl) ?_
      refine m_getr C0 hH f_0_2 14 rfl kF_X9_26 dX9_room_24 ?_
      refine m_geti (x := τ4 14 0) C0 hH f_14_0 kF_X9_196 dX9_room_27 rfl ?_
      refine lv_istore_n (lv' := [(2, .int (τ4 14 0)), (0, .ref (Ad E 0)), (1, .int x1)]) hx hb dX9_room_30 rfl hl (by decide) rfl (fun ls hl => ?_)
      refine lv_aload_n hx hb dX9_room_31 rfl (lv_at hl 1 rfl) ?_
      refine m_getr C0 hH f_0_2 14 rfl kF_X9_26 dX9_room_32 ?_
      refine lv_iload_n hx hb dX9_room_35 rfl (lv_at hl 2 rfl) ?_
      refine m_puti C0 hH f_14_0 kF_X9_196 rfl dX9_room_36 rfl rfl (fun H locs hH => ?_)
      refine lv_iload_n hx hb dX9_room_39 rfl (lv_at hl 0 rfl) ?_
      exact hret (some (.int (τ4 14 0))) _ _ _ _ _ ⟨_, rfl, h⟩ hH ⟨dX9_room_40, .int, rfl, rfl⟩
    · have h := h.2 hc6
      refine lv_bipush (v := (-103)) hx hb dX9_room_20 (by decide) ?_
      exact hret (some (.int (-103))) _ _ _ _ _ ⟨_, rfl, h⟩ hH ⟨dX9_room_22, .int, rfl, rfl⟩
  · have h := h.2 hc3
    refine lv_bipush (v := (-102)) hx hb dX9_room_7 (by decide) ?_
    exact hret (some (.int (-102))) _ _ _ _ _ ⟨_, rfl, h⟩ hH ⟨dX9_room_9, .int, rfl, rfl⟩

def r_X9_change_0 (E : EE) (x1 : Int32) (x2 : Int32) (x3 : Int32) (σ : Mm) (Q : Int32 → Mm → Prop) : Prop := Rn E M_X9_change 0 [(0, .ref (Ad E 0)), (1, .int x1), (2, .int x2), (3, .int x3)] [] σ (qi Q)
set_option maxRecDepth 20000 in
set_option maxHeartbeats 4000000 in
theorem s_X9_change_0 (E : EE) (x1 : Int32) (x2 : Int32) (x3 : Int32) (σ : Mm) (Q : Int32 → Mm → Prop) (h : r_X2_hasPerson_14_0 E x1 σ (fun r2 τ1 => ((¬ r2 = 0 → r_X9_isKind_0 E x2 τ1 (fun r5 τ4 => ((r5 = 0 → Q (-102) τ4) ∧ (¬ r5 = 0 → ((x3 < 0 → Q (-102) τ4) ∧ (¬ x3 < 0 → ((x3 ≤ 20 → (vp_in x1 6 ∧ (vp_in x1 6 ∧ (vp_in x1 6 ∧ Q (τ4 15 x1.toNatClampNeg) (up (up τ4 15 x1.toNatClampNeg x2) 16 x1.toNatClampNeg x3))))) ∧ (¬ x3 ≤ 20 → Q (-102) τ4)))))))) ∧ (r2 = 0 → Q (-101) τ1)))) : r_X9_change_0 E x1 x2 x3 σ Q := by
  intro p e R s m args below meth c Z cells slots H locs ls C0 hH hl hret
  have hx := C0.1
  have hb : c.code = cX9_change := C0.2.1
  have hl : lv_has ls 5 [(0, .ref (Ad E 0)), (1, .int x1), (2, .int x2), (3, .int x3)] := hl
  refine lv_aload_n hx hb dX9_change_0 rfl (lv_at hl 0 rfl) ?_
  refine m_getr C0 hH f_0_2 14 rfl kF_X9_26 dX9_change_1 ?_
  refine lv_iload_n hx hb dX9_change_4 rfl (lv_at hl 1 rfl) ?_
  refine m_cV (M2 := M_X2_hasPerson) (As := [.int x1]) (rest := []) h C0 hH hl kc_X2_hasPerson ki_X2_hasPerson kx_X2_hasPerson ob_14 kM_X9_114 rfl (Nat.le_of_ble_eq_true rfl) (Nat.le_of_ble_eq_true rfl) ⟨Nat.le_of_ble_eq_true rfl, Nat.le_of_ble_eq_true rfl⟩ dX9_change_5 rfl (fun r τ1 H locs hq hH => ?_)
  obtain ⟨r2, rfl, h⟩ := hq
  refine lv_if_ne (tgt := 14) hx hb dX9_change_8 (by decide) (fun hc3 => ?_) (fun hc3 => ?_)
  · have h := h.1 hc3
    refine lv_iload_n hx hb dX9_change_14 rfl (lv_at hl 2 rfl) ?_
    refine m_cS (M2 := M_X9_isKind) (As := [.int x2]) (rest := []) h C0 hH hl kc_X9_isKind ks_X9_isKind kM_X9_150 rfl (Nat.le_of_ble_eq_true rfl) (Nat.le_of_ble_eq_true rfl) ⟨Nat.le_of_ble_eq_true rfl, Nat.le_of_ble_eq_true rfl⟩ dX9_change_15 rfl (fun r τ4 H locs hq hH => ?_)
    obtain ⟨r5, rfl, h⟩ := hq
    refine lv_if_eq (tgt := 31) hx hb dX9_change_18 (by decide) (fun hc6 => ?_) (fun hc6 => ?_)
    · have h := h.1 hc6
      refine lv_bipush (v := (-102)) hx hb dX9_change_31 (by decide) ?_
      exact hret (some (.int (-102))) _ _ _ _ _ ⟨_, rfl, h⟩ hH ⟨dX9_change_33, .int, rfl, rfl⟩
    · have h := h.2 hc6
      refine lv_iload_n hx hb dX9_change_21 rfl (lv_at hl 3 rfl) ?_
      refine lv_if_lt (tgt := 31) hx hb dX9_change_22 (by decide) (fun hc7 => ?_) (fun hc7 => ?_)
      · have h := h.1 hc7
        refine lv_bipush (v := (-102)) hx hb dX9_change_31 (by decide) ?_
        exact hret (some (.int (-102))) _ _ _ _ _ ⟨_, rfl, h⟩ hH ⟨dX9_change_33, .int, rfl, rfl⟩
      · have h := h.2 hc7
        refine lv_iload_n hx hb dX9_change_25 rfl (lv_at hl 3 rfl) ?_
        refine lv_bipush (v := 20) hx hb dX9_change_26 (by decide) ?_
        refine lv_icmp_le (tgt := 34) hx hb dX9_change_28 (by decide) (fun hc8 => ?_) (fun hc8 => ?_)
        · have h := h.1 hc8
          refine lv_aload_n hx hb dX9_change_34 rfl (lv_at hl 0 rfl) ?_
          refine m_getr C0 hH f_0_2 14 rfl kF_X9_26 dX9_change_35 ?_
          refine m_getr C0 hH f_14_6 15 rfl kF_X9_118 dX9_change_38 ?_
          refine lv_iload_n hx hb dX9_change_41 rfl (lv_at hl 1 rfl) ?_
          refine m_iald (x := τ4 15 x1.toNatClampNeg) C0 hH a_15 h.1 dX9_change_42 rfl ?_
          have h := h.2
          refine lv_istore (lv' := [(4, .int (τ4 15 x1.toNatClampNeg)), (0, .ref (Ad E 0)), (1, .int x1), (2, .int x2), (3, .int x3)]) hx hb dX9_change_43 hl (by decide) rfl (fun ls hl => ?_)
          refine lv_aload_n hx hb dX9_change_45 rfl (lv_at hl 1 rfl) ?_
          refine m_getr C0 hH f_0_2 14 rfl kF_X9_26 dX9_change_46 ?_
          refine m_getr C0 hH f_14_6 15 rfl kF_X9_118 dX9_change_49 ?_
          refine lv_iload_n hx hb dX9_change_52 rfl (lv_at hl 2 rfl) ?_
          refine lv_iload_n hx hb dX9_change_53 rfl (lv_at hl 3 rfl) ?_
          refine m_iast (j := x1.toNatClampNeg) C0 hH a_15 h.1 rfl dX9_change_54 (fun H locs hH => ?_)
          have h := h.2
          refine lv_aload_n hx hb dX9_change_55 rfl (lv_at hl 1 rfl) ?_
          refine m_getr C0 hH f_0_2 14 rfl kF_X9_26 dX9_change_56 ?_
          refine m_getr C0 hH f_14_7 16 rfl kF_X9_122 dX9_change_59 ?_
          refine lv_iload_n hx hb dX9_change_62 rfl (lv_at hl 2 rfl) ?_
          refine lv_iload_n hx hb dX9_change_63 rfl (lv_at hl 4 rfl) ?_
          refine m_iast (j := x1.toNatClampNeg) C0 hH a_16 h.1 rfl dX9_change_64 (fun H locs hH => ?_)
          have h := h.2
          refine lv_iload hx hb dX9_change_65 (lv_at hl 0 rfl) ?_
          exact hret (some (.int (τ4 15 x1.toNatClampNeg))) _ _ _ _ _ ⟨_, rfl, h⟩ hH ⟨dX9_change_67, .int, rfl, rfl⟩
        · have h := h.2 hc8
          refine lv_bipush (v := (-102)) hx hb dX9_change_31 (by decide) ?_
          exact hret (some (.int (-102))) _ _ _ _ _ ⟨_, rfl, h⟩ hH ⟨dX9_change_33, .int, rfl, rfl⟩
  · have h := h.2 hc3
    refine lv_bipush (v := (-101)) hx hb dX9_change_11 (by decide) ?_
    exact hret (some (.int (-101))) _ _ _ _ _ ⟨_, rfl, h⟩ hH ⟨dX9_change_13, .int, rfl, rfl⟩

def r_X5_lookAhead_0 (E : EE) (x2 : Int32) (x3 : Int32) (σ : Mm) (Q : Mm → Prop) : Prop := Rn E M_X5_lookAhead 0 [(0, .ref (Ad E 49)), (1, .ref (Ad E 14)), (2, .int x2), (3, .int x3)] [] σ (qv Q)
def r_X5_lookAhead_3 (E : EE) (x2 : Int32) (x3 : Int32) (x4 : Int32) (σ : Mm) (Q : Mm → Prop) : Prop := Rn E M_X5_lookAhead 3 [(0, .ref (Ad E 49)), (1, .ref (Ad E 14)), (2, .int x2), (3, .int x3), (4, .int x4)] [] σ (qv Q)
def r_X5_lookAhead_27 (E : EE) (x2 : Int32) (x3 : Int32) (x4 : Int32) (x5 : Int32) (x6 : Int32) (x7 : Int32) (σ : Mm) (Q : Mm → Prop) : Prop := Rn E M_X5_lookAhead 27 [(0, .ref (Ad E 49)), (1, .ref (Ad E 14)), (2, .int x2), (3, .int x3), (4, .int x4), (5, .int x5), (6, .int x6), (7, .int x7)] [] σ (qv Q)
set_option maxRecDepth 20000 in
set_option maxHeartbeats 4000000 in
theorem s_X5_lookAhead_0 (E : EE) (x2 : Int32) (x3 : Int32) (σ : Mm) (Q : Mm → Prop) (h : r_X5_lookAhead_3 E x2 x3 0 σ Q) : r_X5_lookAhead_0 E x2 x3 σ Q := by
  intro p e R s m args below meth c Z cells slots H locs ls C0 hH hl hret
  have hx := C0.1
  have hb : c.code = cX5_lookAhead := C0.2.1
  have hl : lv_has ls 8 [(0, .ref (Ad E 49)), (1, .ref (Ad E 14)), (2, .int x2), (3, .int x3)] := hl
  refine lv_iconst (v := 0) hx hb dX5_lookAhead_0 (by decide) ?_
  refine lv_istore (lv' := [(4, .int 0), (0, .ref (Ad E 49)), (1, .ref (Ad E 14)), (2, .int x2), (3, .int x3)]) hx hb dX5_lookAhead_1 hl (by decide) rfl (fun ls hl => ?_)
  exact h p e R s m args below meth c Z cells slots H locs ls C0 hH (lv_sub hl [1, 2, 3, 4, 0] rfl) hret
set_option maxRecDepth 20000 in
set_option maxHeartbeats 4000000 in
theorem s_X5_lookAhead_3 (E : EE) (x2 : Int32) (x3 : Int32) (x4 : Int32) (σ : Mm) (Q : Mm → Prop) (h : (((σ 14 1) ≤ x4 → Q σ) ∧ (¬ (σ 14 1) ≤ x4 → (vp_in x4 6 ∧ r_X5_lookAhead_27 E x2 x3 x4 (σ 16 x4.toNatClampNeg) 0 0 σ Q)))) : r_X5_lookAhead_3 E x2 x3 x4 σ Q := by
  intro p e R s m args below meth c Z cells slots H locs ls C0 hH hl hret
  have hx := C0.1
  have hb : c.code = cX5_lookAhead := C0.2.1
  have hl : lv_has ls 8 [(0, .ref (Ad E 49)), (1, .ref (Ad E 14)), (2, .int x2), (3, .int x3), (4, .int x4)] := hl
  refine lv_iload hx hb dX5_lookAhead_3 (lv_at hl 4 rfl) ?_
  refine lv_aload_n hx hb dX5_lookAhead_5 rfl (lv_at hl 1 rfl) ?_
  refine m_geti (x := σ 14 1) C0 hH f_14_1 kF_X5_44 dX5_lookAhead_6 rfl ?_
  refine lv_icmp_ge (tgt := 92) hx hb dX5_lookAhead_9 (by decide) (fun hc1 => ?_) (fun hc1 => ?_)
  · have h := h.1 hc1
    exact hret none _ _ _ _ _ ⟨rfl, h⟩ hH ⟨dX5_lookAhead_92, rfl⟩
  · have h := h.2 hc1
    refine lv_aload_n hx hb dX5_lookAhead_12 rfl (lv_at hl 1 rfl) ?_
    refine m_getr C0 hH f_14_7 16 rfl kF_X5_58 dX5_lookAhead_13 ?_
    refine lv_iload hx hb dX5_lookAhead_16 (lv_at hl 4 rfl) ?_
    refine m_iald (x := σ 16 x4.toNatClampNeg) C0 hH a_16 h.1 dX5_lookAhead_18 rfl ?_
    have h := h.2
    refine lv_istore (lv' := [(5, .int (σ 16 x4.toNatClampNeg)), (0, .ref (Ad E 49)), (1, .ref (Ad E 14)), (2, .int x2), (3, .int x3), (4, .int x4)]) hx hb dX5_lookAhead_19 hl (by decide) rfl (fun ls hl => ?_)
    refine lv_iconst (v := 0) hx hb dX5_lookAhead_21 (by decide) ?_
    refine lv_istore (lv' := [(6, .int 0), (5, .int (σ 16 x4.toNatClampNeg)), (0, .ref (Ad E 49)), (1, .ref (Ad E 14)), (2, .int x2), (3, .int x3), (4, .int x4)]) hx hb dX5_lookAhead_22 hl (by decide) rfl (fun ls hl => ?_)
    refine lv_iconst (v := 0) hx hb dX5_lookAhead_24 (by decide) ?_
    refine lv_istore (lv' := [(7, .int 0), (6, .int 0), (5, .int (σ 16 x4.toNatClampNeg)), (0, .ref (Ad E 49)), (1, .ref (Ad E 14)), (2, .int x2), (3, .int x3), (4, .int x4)]) hx hb dX5_lookAhead_25 hl (by decide) rfl (fun ls hl => ?_)
    exact h p e R s m args below meth c Z cells slots H locs ls C0 hH (lv_sub hl [3, 4, 5, 6, 7, 2, 1, 0] rfl) hret
set_option maxRecDepth 20000 in
set_option maxHeartbeats 4000000 in
theorem s_X5_lookAhead_27 (E : EE) (x2 : Int32) (x3 : Int32) (x4 : Int32) (x5 : Int32) (x6 : Int32) (x7 : Int32) (σ : Mm) (Q : Mm → Prop) (h : ((x2 ≤ x7 → ((x3 = 0 → (vp_in x4 6 ∧ ((x3 = 0 → (vp_in x4 6 ∧ r_X5_lookAhead_3 E x2 x3 (x4 + 1) (up (up σ 51 x4.toNatClampNeg x6) 54 x4.toNatClampNeg x5) Q)) ∧ (x3 = 1 → (vp_in x4 6 ∧ r_X5_lookAhead_3 E x2 x3 (x4 + 1) (up (up σ 51 x4.toNatClampNeg x6) 55 x4.toNatClampNeg x5) Q)) ∧ (x3 = 0 ∨ x3 = 1)))) ∧ (x3 = 1 → (vp_in x4 6 ∧ ((x3 = 0 → (vp_in x4 6 ∧ r_X5_lookAhead_3 E x2 x3 (x4 + 1) (up (up σ 52 x4.toNatClampNeg x6) 54 x4.toNatClampNeg x5) Q)) ∧ (x3 = 1 → (vp_in x4 6 ∧ r_X5_lookAhead_3 E x2 x3 (x4 + 1) (up (up σ 52 x4.toNatClampNeg x6) 55 x4.toNatClampNeg x5) Q)) ∧ (x3 = 0 ∨ x3 = 1)))) ∧ (x3 = 0 ∨ x3 = 1))) ∧ (¬ x2 ≤ x7 → ((¬ x3 = 1 → r_X9_nextWarm_0 E x5 0 σ (fun r10 τ9 => ((¬ r10 = 0 → r_X5_lookAhead_27 E x2 x3 x4 r10 x6 (x7 + 1) τ9 Q) ∧ (r10 = 0 → r_X5_lookAhead_27 E x2 x3 x4 r10 (x6 + 1) (x7 + 1) τ9 Q)))) ∧ (x3 = 1 → r_X9_nextWarm_0 E x5 1 σ (fun r13 τ12 => ((¬ r13 = 0 → r_X5_lookAhead_27 E x2 x3 x4 r13 x6 (x7 + 1) τ12 Q) ∧ (r13 = 0 → r_X5_lookAhead_27 E x2 x3 x4 r13 (x6 + 1) (x7 + 1) τ12 Q)))))))) : r_X5_lookAhead_27 E x2 x3 x4 x5 x6 x7 σ Q := by
  intro p e R s m args below meth c Z cells slots H locs ls C0 hH hl hret
  have hx := C0.1
  have hb : c.code = cX5_lookAhead := C0.2.1
  have hl : lv_has ls 8 [(0, .ref (Ad E 49)), (1, .ref (Ad E 14)), (2, .int x2), (3, .int x3), (4, .int x4), (5, .int x5), (6, .int x6), (7, .int x7)] := hl
  refine lv_iload hx hb dX5_lookAhead_27 (lv_at hl 7 rfl) ?_
  refine lv_iload_n hx hb dX5_lookAhead_29 rfl (lv_at hl 2 rfl) ?_
  refine lv_icmp_ge (tgt := 64) hx hb dX5_lookAhead_30 (by decide) (fun hc1 => ?_) (fun hc1 => ?_)
  · have h := h.1 hc1
    refine lv_aload_n hx hb dX5_lookAhead_64 rfl (lv_at hl 0 rfl) ?_
    refine m_getr C0 hH f_49_0 50 rfl kF_X5_11 dX5_lookAhead_65 ?_
    refine lv_iload_n hx hb dX5_lookAhead_68 rfl (lv_at hl 3 rfl) ?_
    by_cases ha2 : x3 = 0
    · have h := h.1 ha2
      refine m_aald (r := 51) C0 hH a_50 (by rw [ha2]; exact vin (by decide)) dX5_lookAhead_69 (by rw [ha2]; rfl) ?_
      refine lv_iload hx hb dX5_lookAhead_70 (lv_at hl 4 rfl) ?_
      refine lv_iload hx hb dX5_lookAhead_72 (lv_at hl 6 rfl) ?_
      refine m_iast (j := x4.toNatClampNeg) C0 hH a_51 h.1 rfl dX5_lookAhead_74 (fun H locs hH => ?_)
      have h := h.2
      refine lv_aload_n hx hb dX5_lookAhead_75 rfl (lv_at hl 0 rfl) ?_
      refine m_getr C0 hH f_49_1 53 rfl kF_X5_16 dX5_lookAhead_76 ?_
      refine lv_iload_n hx hb dX5_lookAhead_79 rfl (lv_at hl 3 rfl) ?_
      by_cases ha3 : x3 = 0
      · have h := h.1 ha3
        refine m_aald (r := 54) C0 hH a_53 (by rw [ha3]; exact vin (by decide)) dX5_lookAhead_80 (by rw [ha3]; rfl) ?_
        refine lv_iload hx hb dX5_lookAhead_81 (lv_at hl 4 rfl) ?_
        refine lv_iload hx hb dX5_lookAhead_83 (lv_at hl 5 rfl) ?_
        refine m_iast (j := x4.toNatClampNeg) C0 hH a_54 h.1 rfl dX5_lookAhead_85 (fun H locs hH => ?_)
        have h := h.2
        refine lv_iinc (v := (x4 + 1)) (lv' := [(4, .int (x4 + 1)), (0, .ref (Ad E 49)), (1, .ref (Ad E 14)), (2, .int x2), (3, .int x3), (5, .int x5), (6, .int x6), (7, .int x7)]) hx hb dX5_lookAhead_86 hl (k := 4) rfl rfl (by decide) rfl (fun ls hl => ?_)
        refine lv_goto (tgt := 3) hx hb dX5_lookAhead_89 (by decide) ?_
        exact h p e R s m args below meth c Z cells slots H locs ls C0 hH (lv_sub hl [1, 2, 3, 4, 0] rfl) hret
      have h := h.2
      by_cases ha4 : x3 = 1
      · have h := h.1 ha4
        refine m_aald (r := 55) C0 hH a_53 (by rw [ha4]; exact vin (by decide)) dX5_lookAhead_80 (by rw [ha4]; rfl) ?_
        refine lv_iload hx hb dX5_lookAhead_81 (lv_at hl 4 rfl) ?_
        refine lv_iload hx hb dX5_lookAhead_83 (lv_at hl 5 rfl) ?_
        refine m_iast (j := x4.toNatClampNeg) C0 hH a_55 h.1 rfl dX5_lookAhead_85 (fun H locs hH => ?_)
        have h := h.2
        refine lv_iinc (v := (x4 + 1)) (lv' := [(4, .int (x4 + 1)), (0, .ref (Ad E 49)), (1, .ref (Ad E 14)), (2, .int x2), (3, .int x3), (5, .int x5), (6, .int x6), (7, .int x7)]) hx hb dX5_lookAhead_86 hl (k := 4) rfl rfl (by decide) rfl (fun ls hl => ?_)
        refine lv_goto (tgt := 3) hx hb dX5_lookAhead_89 (by decide) ?_
        exact h p e R s m args below meth c Z cells slots H locs ls C0 hH (lv_sub hl [1, 2, 3, 4, 0] rfl) hret
      have h := h.2
      exact absurd h (by rintro (q | q) <;> contradiction)
    have h := h.2
    by_cases ha5 : x3 = 1
    · have h := h.1 ha5
      refine m_aald (r := 52) C0 hH a_50 (by rw [ha5]; exact vin (by decide)) dX5_lookAhead_69 (by rw [ha5]; rfl) ?_
      refine lv_iload hx hb dX5_lookAhead_70 (lv_at hl 4 rfl) ?_
      refine lv_iload hx hb dX5_lookAhead_72 (lv_at hl 6 rfl) ?_
      refine m_iast (j := x4.toNatClampNeg) C0 hH a_52 h.1 rfl dX5_lookAhead_74 (fun H locs hH => ?_)
      have h := h.2
      refine lv_aload_n hx hb dX5_lookAhead_75 rfl (lv_at hl 0 rfl) ?_
      refine m_getr C0 hH f_49_1 53 rfl kF_X5_16 dX5_lookAhead_76 ?_
      refine lv_iload_n hx hb dX5_lookAhead_79 rfl (lv_at hl 3 rfl) ?_
      by_cases ha6 : x3 = 0
      · have h := h.1 ha6
        refine m_aald (r := 54) C0 hH a_53 (by rw [ha6]; exact vin (by decide)) dX5_lookAhead_80 (by rw [ha6]; rfl) ?_
        refine lv_iload hx hb dX5_lookAhead_81 (lv_at hl 4 rfl) ?_
        refine lv_iload hx hb dX5_lookAhead_83 (lv_at hl 5 rfl) ?_
        refine m_iast (j := x4.toNatClampNeg) C0 hH a_54 h.1 rfl dX5_lookAhead_85 (fun H locs hH => ?_)
        have h := h.2
        refine lv_iinc (v := (x4 + 1)) (lv' := [(4, .int (x4 + 1)), (0, .ref (Ad E 49)), (1, .ref (Ad E 14)), (2, .int x2), (3, .int x3), (5, .int x5), (6, .int x6), (7, .int x7)]) hx hb dX5_lookAhead_86 hl (k := 4) rfl rfl (by decide) rfl (fun ls hl => ?_)
        refine lv_goto (tgt := 3) hx hb dX5_lookAhead_89 (by decide) ?_
        exact h p e R s m args below meth c Z cells slots H locs ls C0 hH (lv_sub hl [1, 2, 3, 4, 0] rfl) hret
      have h := h.2
      by_cases ha7 : x3 = 1
      · have h := h.1 ha7
        refine m_aald (r := 55) C0 hH a_53 (by rw [ha7]; exact vin (by decide)) dX5_lookAhead_80 (by rw [ha7]; rfl) ?_
        refine lv_iload hx hb dX5_lookAhead_81 (lv_at hl 4 rfl) ?_
        refine lv_iload hx hb dX5_lookAhead_83 (lv_at hl 5 rfl) ?_
        refine m_iast (j := x4.toNatClampNeg) C0 hH a_55 h.1 rfl dX5_lookAhead_85 (fun H locs hH => ?_)
        have h := h.2
        refine lv_iinc (v := (x4 + 1)) (lv' := [(4, .int (x4 + 1)), (0, .ref (Ad E 49)), (1, .ref (Ad E 14)), (2, .int x2), (3, .int x3), (5, .int x5), (6, .int x6), (7, .int x7)]) hx hb dX5_lookAhead_86 hl (k := 4) rfl rfl (by decide) rfl (fun ls hl => ?_)
        refine lv_goto (tgt := 3) hx hb dX5_lookAhead_89 (by decide) ?_
        exact h p e R s m args below meth c Z cells slots H locs ls C0 hH (lv_sub hl [1, 2, 3, 4, 0] rfl) hret
      have h := h.2
      exact absurd h (by rintro (q | q) <;> contradiction)
    have h := h.2
    exact absurd h (by rintro (q | q) <;> contradiction)
  · have h := h.2 hc1
    refine lv_iload hx hb dX5_lookAhead_33 (lv_at hl 5 rfl) ?_
    refine lv_iload_n hx hb dX5_lookAhead_35 rfl (lv_at hl 3 rfl) ?_
    refine lv_iconst (v := 1) hx hb dX5_lookAhead_36 (by decide) ?_
    refine lv_icmp_ne (tgt := 44) hx hb dX5_lookAhead_37 (by decide) (fun hc8 => ?_) (fun hc8 => ?_)
    · have h := h.1 hc8
      refine lv_iconst (v := 0) hx hb dX5_lookAhead_44 (by decide) ?_
      refine m_cN (M2 := M_X9_nextWarm) (As := [.int x5, .int 0]) (rest := []) h C0 hH hl kc_X9_nextWarm ks_X9_nextWarm kN_X5_62 rfl (Nat.le_of_ble_eq_true rfl) (Nat.le_of_ble_eq_true rfl) ⟨Nat.le_of_ble_eq_true rfl, Nat.le_of_ble_eq_true rfl⟩ dX5_lookAhead_45 rfl (fun r τ9 H locs hq hH => ?_)
      obtain ⟨r10, rfl, h⟩ := hq
      refine lv_istore (lv' := [(5, .int r10), (0, .ref (Ad E 49)), (1, .ref (Ad E 14)), (2, .int x2), (3, .int x3), (4, .int x4), (6, .int x6), (7, .int x7)]) hx hb dX5_lookAhead_48 hl (by decide) rfl (fun ls hl => ?_)
      refine lv_iload hx hb dX5_lookAhead_50 (lv_at hl 0 rfl) ?_
      refine lv_if_ne (tgt := 58) hx hb dX5_lookAhead_52 (by decide) (fun hc11 => ?_) (fun hc11 => ?_)
      · have h := h.1 hc11
        refine lv_iinc (v := (x7 + 1)) (lv' := [(7, .int (x7 + 1)), (5, .int r10), (0, .ref (Ad E 49)), (1, .ref (Ad E 14)), (2, .int x2), (3, .int x3), (4, .int x4), (6, .int x6)]) hx hb dX5_lookAhead_58 hl (k := 7) rfl rfl (by decide) rfl (fun ls hl => ?_)
        refine lv_goto (tgt := 27) hx hb dX5_lookAhead_61 (by decide) ?_
        exact h p e R s m args below meth c Z cells slots H locs ls C0 hH (lv_sub hl [2, 3, 4, 5, 6, 1, 7, 0] rfl) hret
      · have h := h.2 hc11
        refine lv_iinc (v := (x6 + 1)) (lv' := [(6, .int (x6 + 1)), (5, .int r10), (0, .ref (Ad E 49)), (1, .ref (Ad E 14)), (2, .int x2), (3, .int x3), (4, .int x4), (7, .int x7)]) hx hb dX5_lookAhead_55 hl (k := 6) rfl rfl (by decide) rfl (fun ls hl => ?_)
        refine lv_iinc (v := (x7 + 1)) (lv' := [(7, .int (x7 + 1)), (6, .int (x6 + 1)), (5, .int r10), (0, .ref (Ad E 49)), (1, .ref (Ad E 14)), (2, .int x2), (3, .int x3), (4, .int x4)]) hx hb dX5_lookAhead_58 hl (k := 7) rfl rfl (by decide) rfl (fun ls hl => ?_)
        refine lv_goto (tgt := 27) hx hb dX5_lookAhead_61 (by decide) ?_
        exact h p e R s m args below meth c Z cells slots H locs ls C0 hH (lv_sub hl [3, 4, 5, 6, 7, 2, 1, 0] rfl) hret
    · have h := h.2 hc8
      refine lv_iconst (v := 1) hx hb dX5_lookAhead_40 (by decide) ?_
      refine lv_goto (tgt := 45) hx hb dX5_lookAhead_41 (by decide) ?_
      refine m_cN (M2 := M_X9_nextWarm) (As := [.int x5, .int 1]) (rest := []) h C0 hH hl kc_X9_nextWarm ks_X9_nextWarm kN_X5_62 rfl (Nat.le_of_ble_eq_true rfl) (Nat.le_of_ble_eq_true rfl) ⟨Nat.le_of_ble_eq_true rfl, Nat.le_of_ble_eq_true rfl⟩ dX5_lookAhead_45 rfl (fun r τ12 H locs hq hH => ?_)
      obtain ⟨r13, rfl, h⟩ := hq
      refine lv_istore (lv' := [(5, .int r13), (0, .ref (Ad E 49)), (1, .ref (Ad E 14)), (2, .int x2), (3, .int x3), (4, .int x4), (6, .int x6), (7, .int x7)]) hx hb dX5_lookAhead_48 hl (by decide) rfl (fun ls hl => ?_)
      refine lv_iload hx hb dX5_lookAhead_50 (lv_at hl 0 rfl) ?_
      refine lv_if_ne (tgt := 58) hx hb dX5_lookAhead_52 (by decide) (fun hc14 => ?_) (fun hc14 => ?_)
      · have h := h.1 hc14
        refine lv_iinc (v := (x7 + 1)) (lv' := [(7, .int (x7 + 1)), (5, .int r13), (0, .ref (Ad E 49)), (1, .ref (Ad E 14)), (2, .int x2), (3, .int x3), (4, .int x4), (6, .int x6)]) hx hb dX5_lookAhead_58 hl (k := 7) rfl rfl (by decide) rfl (fun ls hl => ?_)
        refine lv_goto (tgt := 27) hx hb dX5_lookAhead_61 (by decide) ?_
        exact h p e R s m args below meth c Z cells slots H locs ls C0 hH (lv_sub hl [2, 3, 4, 5, 6, 1, 7, 0] rfl) hret
      · have h := h.2 hc14
        refine lv_iinc (v := (x6 + 1)) (lv' := [(6, .int (x6 + 1)), (5, .int r13), (0, .ref (Ad E 49)), (1, .ref (Ad E 14)), (2, .int x2), (3, .int x3), (4, .int x4), (7, .int x7)]) hx hb dX5_lookAhead_55 hl (k := 6) rfl rfl (by decide) rfl (fun ls hl => ?_)
        refine lv_iinc (v := (x7 + 1)) (lv' := [(7, .int (x7 + 1)), (6, .int (x6 + 1)), (5, .int r13), (0, .ref (Ad E 49)), (1, .ref (Ad E 14)), (2, .int x2), (3, .int x3), (4, .int x4)]) hx hb dX5_lookAhead_58 hl (k := 7) rfl rfl (by decide) rfl (fun ls hl => ?_)
        refine lv_goto (tgt := 27) hx hb dX5_lookAhead_61 (by decide) ?_
        exact h p e R s m args below meth c Z cells slots H locs ls C0 hH (lv_sub hl [3, 4, 5, 6, 7, 2, 1, 0] rfl) hret

def r_X5_isBetter_0 (E : EE) (x1 : Int32) (x2 : Int32) (x3 : Int32) (σ : Mm) (Q : Int32 → Mm → Prop) : Prop := Rn E M_X5_isBetter 0 [(0, .ref (Ad E 49)), (1, .int x1), (2, .int x2), (3, .int x3)] [] σ (qi Q)
set_option maxRecDepth 20000 in
set_option maxHeartbeats 4000000 in
theorem s_X5_isBetter_0 (E : EE) (x1 : Int32) (x2 : Int32) (x3 : Int32) (σ : Mm) (Q : Int32 → Mm → Prop) (h : ((x1 = (σ 49 2) → ((x2 = (σ 49 3) → r_J6_bitCount_0f7a4_0 E x3 σ (fun r4 τ3 => r_J6_bitCount_0f7a4_0 E (τ3 49 4) τ3 (fun r6 τ5 => ((r6 ≤ r4 → Q 0 τ5) ∧ (¬ r6 ≤ r4 → Q 1 τ5))))) ∧ (¬ x2 = (σ 49 3) → ((x2 ≤ (σ 49 3) → Q 0 σ) ∧ (¬ x2 ≤ (σ 49 3) → Q 1 σ))))) ∧ (¬ x1 = (σ 49 2) → (((σ 49 2) ≤ x1 → Q 0 σ) ∧ (¬ (σ 49 2) ≤ x1 → Q 1 σ))))) : r_X5_isBetter_0 E x1 x2 x3 σ Q := by
  intro p e R s m args below meth c Z cells slots H locs ls C0 hH hl hret
  have hx := C0.1
  have hb : c.code = cX5_isBetter := C0.2.1
  have hl : lv_has ls 4 [(0, .ref (Ad E 49)), (1, .int x1), (2, .int x2), (3, .int x3)] := hl
  refine lv_iload_n hx hb dX5_isBetter_0 rfl (lv_at hl 1 rfl) ?_
  refine lv_aload_n hx hb dX5_isBetter_1 rfl (lv_at hl 0 rfl) ?_
  refine m_geti (x := σ 49 2) C0 hH f_49_2 kF_X5_19 dX5_isBetter_2 rfl ?_
  refine lv_icmp_eq (tgt := 22) hx hb dX5_isBetter_5 (by decide) (fun hc1 => ?_) (fun hc1 => ?_)
  · have h := h.1 hc1
    refine lv_iload_n hx hb dX5_isBetter_22 rfl (lv_at hl 2 rfl) ?_
    refine lv_aload_n hx hb dX5_isBetter_23 rfl (lv_at hl 0 rfl) ?_
    refine m_geti (x := σ 49 3) C0 hH f_49_3 kF_X5_23 dX5_isBetter_24 rfl ?_
    refine lv_icmp_eq (tgt := 44) hx hb dX5_isBetter_27 (by decide) (fun hc2 => ?_) (fun hc2 => ?_)
    · have h := h.1 hc2
      refine lv_iload_n hx hb dX5_isBetter_44 rfl (lv_at hl 3 rfl) ?_
      refine m_cS (M2 := M_J6_bitCount_0f7a4) (As := [.int x3]) (rest := []) h C0 hH hl kc_J6_bitCount_0f7a4 ks_J6_bitCount_0f7a4 kM_X5_80 rfl (Nat.le_of_ble_eq_true rfl) (Nat.le_of_ble_eq_true rfl) ⟨Nat.le_of_ble_eq_true rfl, Nat.le_of_ble_eq_true rfl⟩ dX5_isBetter_45 rfl (fun r τ3 H locs hq hH => ?_)
      obtain ⟨r4, rfl, h⟩ := hq
      refine lv_aload_n hx hb dX5_isBetter_48 rfl (lv_at hl 0 rfl) ?_
      refine m_geti (x := τ3 49 4) C0 hH f_49_4 kF_X5_26 dX5_isBetter_49 rfl ?_
      refine m_cS (M2 := M_J6_bitCount_0f7a4) (As := [.int (τ3 49 4)]) (rest := [.int r4]) h C0 hH hl kc_J6_bitCount_0f7a4 ks_J6_bitCount_0f7a4 kM_X5_80 rfl (Nat.le_of_ble_eq_true rfl) (Nat.le_of_ble_eq_true rfl) ⟨Nat.le_of_ble_eq_true rfl, Nat.le_of_ble_eq_true rfl⟩ dX5_isBetter_52 rfl (fun r τ5 H locs hq hH => ?_)
      obtain ⟨r6, rfl, h⟩ := hq
      refine lv_icmp_ge (tgt := 62) hx hb dX5_isBetter_55 (by decide) (fun hc7 => ?_) (fun hc7 => ?_)
      · have h := h.1 hc7
        refine lv_iconst (v := 0) hx hb dX5_isBetter_62 (by decide) ?_
        exact hret (some (.int 0)) _ _ _ _ _ ⟨_, rfl, h⟩ hH ⟨dX5_isBetter_63, .boolean, rfl, nb (Or.inl rfl)⟩
      · have h := h.2 hc7
        refine lv_iconst (v := 1) hx hb dX5_isBetter_58 (by decide) ?_
        refine lv_goto (tgt := 63) hx hb dX5_isBetter_59 (by decide) ?_
        exact hret (some (.int 1)) _ _ _ _ _ ⟨_, rfl, h⟩ hH ⟨dX5_isBetter_63, .boolean, rfl, nb (Or.inr rfl)⟩
    · have h := h.2 hc2
      refine lv_iload_n hx hb dX5_isBetter_30 rfl (lv_at hl 2 rfl) ?_
      refine lv_aload_n hx hb dX5_isBetter_31 rfl (lv_at hl 0 rfl) ?_
      refine m_geti (x := σ 49 3) C0 hH f_49_3 kF_X5_23 dX5_isBetter_32 rfl ?_
      refine lv_icmp_le (tgt := 42) hx hb dX5_isBetter_35 (by decide) (fun hc8 => ?_) (fun hc8 => ?_)
      · have h := h.1 hc8
        refine lv_iconst (v := 0) hx hb dX5_isBetter_42 (by decide) ?_
        exact hret (some (.int 0)) _ _ _ _ _ ⟨_, rfl, h⟩ hH ⟨dX5_isBetter_43, .boolean, rfl, nb (Or.inl rfl)⟩
      · have h := h.2 hc8
        refine lv_iconst (v := 1) hx hb dX5_isBetter_38 (by decide) ?_
        refine lv_goto (tgt := 43) hx hb dX5_isBetter_39 (by decide) ?_
        exact hret (some (.int 1)) _ _ _ _ _ ⟨_, rfl, h⟩ hH ⟨dX5_isBetter_43, .boolean, rfl, nb (Or.inr rfl)⟩
  · have h := h.2 hc1
    refine lv_iload_n hx hb dX5_isBetter_8 rfl (lv_at hl 1 rfl) ?_
    refine lv_aload_n hx hb dX5_isBetter_9 rfl (lv_at hl 0 rfl) ?_
    refine m_geti (x := σ 49 2) C0 hH f_49_2 kF_X5_19 dX5_isBetter_10 rfl ?_
    refine lv_icmp_ge (tgt := 20) hx hb dX5_isBetter_13 (by decide) (fun hc9 => ?_) (fun hc9 => ?_)
    · have h := h.1 hc9
      refine lv_iconst (v := 0) hx hb dX5_isBetter_20 (by decide) ?_
      exact hret (some (.int 0)) _ _ _ _ _ ⟨_, rfl, h⟩ hH ⟨dX5_isBetter_21, .boolean, rfl, nb (Or.inl rfl)⟩
    · have h := h.2 hc9
      refine lv_iconst (v := 1) hx hb dX5_isBetter_16 (by decide) ?_
      refine lv_goto (tgt := 21) hx hb dX5_isBetter_17 (by decide) ?_
      exact hret (some (.int 1)) _ _ _ _ _ ⟨_, rfl, h⟩ hH ⟨dX5_isBetter_21, .boolean, rfl, nb (Or.inr rfl)⟩

def r_X5_weigh_0 (E : EE) (x1 : Int32) (x2 : Int32) (x3 : Int32) (σ : Mm) (Q : Mm → Prop) : Prop := Rn E M_X5_weigh 0 [(0, .ref (Ad E 49)), (1, .int x1), (2, .int x2), (3, .int x3)] [] σ (qv Q)
def r_X5_weigh_10 (E : EE) (x1 : Int32) (x2 : Int32) (x3 : Int32) (x4 : Int32) (x5 : Int32) (x6 : Int32) (σ : Mm) (Q : Mm → Prop) : Prop := Rn E M_X5_weigh 10 [(0, .ref (Ad E 49)), (1, .int x1), (2, .int x2), (3, .int x3), (4, .int x4), (5, .int x5), (6, .int x6)] [] σ (qv Q)
set_option maxRecDepth 20000 in
set_option maxHeartbeats 4000000 in
theorem s_X5_weigh_0 (E : EE) (x1 : Int32) (x2 : Int32) (x3 : Int32) (σ : Mm) (Q : Mm → Prop) (h : r_X5_weigh_10 E x1 x2 x3 0 20 0 σ Q) : r_X5_weigh_0 E x1 x2 x3 σ Q := by
  intro p e R s m args below meth c Z cells slots H locs ls C0 hH hl hret
  have hx := C0.1
  have hb : c.code = cX5_weigh := C0.2.1
  have hl : lv_has ls 8 [(0, .ref (Ad E 49)), (1, .int x1), (2, .int x2), (3, .int x3)] := hl
  refine lv_iconst (v := 0) hx hb dX5_weigh_0 (by decide) ?_
  refine lv_istore (lv' := [(4, .int 0), (0, .ref (Ad E 49)), (1, .int x1), (2, .int x2), (3, .int x3)]) hx hb dX5_weigh_1 hl (by decide) rfl (fun ls hl => ?_)
  refine lv_bipush (v := 20) hx hb dX5_weigh_3 (by decide) ?_
  refine lv_istore (lv' := [(5, .int 20), (4, .int 0), (0, .ref (Ad E 49)), (1, .int x1), (2, .int x2), (3, .int x3)]) hx hb dX5_weigh_5 hl (by decide) rfl (fun ls hl => ?_)
  refine lv_iconst (v := 0) hx hb dX5_weigh_7 (by decide) ?_
  refine lv_istore (lv' := [(6, .int 0), (5, .int 20), (4, .int 0), (0, .ref (Ad E 49)), (1, .int x1), (2, .int x2), (3, .int x3)]) hx hb dX5_weigh_8 hl (by decide) rfl (fun ls hl => ?_)
  exact h p e R s m args below meth c Z cells slots H locs ls C0 hH (lv_sub hl [3, 4, 5, 6, 2, 1, 0] rfl) hret
set_option maxRecDepth 20000 in
set_option maxHeartbeats 4000000 in
theorem s_X5_weigh_10 (E : EE) (x1 : Int32) (x2 : Int32) (x3 : Int32) (x4 : Int32) (x5 : Int32) (x6 : Int32) (σ : Mm) (Q : Mm → Prop) (h : ((x1 ≤ x6 → ((x3 = 0 → Q (up (up (up σ 49 2 x4) 49 3 x5) 49 4 x3)) ∧ (¬ x3 = 0 → r_X5_isBetter_0 E x4 x5 x3 σ (fun r4 τ3 => ((r4 = 0 → Q τ3) ∧ (¬ r4 = 0 → Q (up (up (up τ3 49 2 x4) 49 3 x5) 49 4 x3))))))) ∧ (¬ x1 ≤ x6 → r_X9_hasBit_0 E x2 x6 σ (fun r7 τ6 => ((r7 = 0 → (vp_in x6 6 ∧ (vp_in x6 6 ∧ r_X5_weigh_10 E x1 x2 x3 (x4 + (τ6 51 x6.toNatClampNeg)) (if (τ6 54 x6.toNatClampNeg) < x5 then (τ6 54 x6.toNatClampNeg) else x5) (x6 + 1) τ6 Q))) ∧ (¬ r7 = 0 → (vp_in x6 6 ∧ (vp_in x6 6 ∧ r_X5_weigh_10 E x1 x2 x3 (x4 + (τ6 52 x6.toNatClampNeg)) (if (τ6 55 x6.toNatClampNeg) < x5 then (τ6 55 x6.toNatClampNeg) else x5) (x6 + 1) τ6 Q)))))))) : r_X5_weigh_10 E x1 x2 x3 x4 x5 x6 σ Q := by
  intro p e R s m args below meth c Z cells slots H locs ls C0 hH hl hret
  have hx := C0.1
  have hb : c.code = cX5_weigh := C0.2.1
  have hl : lv_has ls 8 [(0, .ref (Ad E 49)), (1, .int x1), (2, .int x2), (3, .int x3), (4, .int x4), (5, .int x5), (6, .int x6)] := hl
  refine lv_iload hx hb dX5_weigh_10 (lv_at hl 6 rfl) ?_
  refine lv_iload_n hx hb dX5_weigh_12 rfl (lv_at hl 1 rfl) ?_
  refine lv_icmp_ge (tgt := 70) hx hb dX5_weigh_13 (by decide) (fun hc1 => ?_) (fun hc1 => ?_)
  · have h := h.1 hc1
    refine lv_iload_n hx hb dX5_weigh_70 rfl (lv_at hl 3 rfl) ?_
    refine lv_if_eq (tgt := 86) hx hb dX5_weigh_71 (by decide) (fun hc2 => ?_) (fun hc2 => ?_)
    · have h := h.1 hc2
      refine lv_aload_n hx hb dX5_weigh_86 rfl (lv_at hl 0 rfl) ?_
      refine lv_iload hx hb dX5_weigh_87 (lv_at hl 4 rfl) ?_
      refine m_puti C0 hH f_49_2 kF_X5_19 rfl dX5_weigh_89 rfl rfl (fun H locs hH => ?_)
      refine lv_aload_n hx hb dX5_weigh_92 rfl (lv_at hl 0 rfl) ?_
      refine lv_iload hx hb dX5_weigh_93 (lv_at hl 5 rfl) ?_
      refine m_puti C0 hH f_49_3 kF_X5_23 rfl dX5_weigh_95 rfl rfl (fun H locs hH => ?_)
      refine lv_aload_n hx hb dX5_weigh_98 rfl (lv_at hl 0 rfl) ?_
      refine lv_iload_n hx hb dX5_weigh_99 rfl (lv_at hl 3 rfl) ?_
      refine m_puti C0 hH f_49_4 kF_X5_26 rfl dX5_weigh_100 rfl rfl (fun H locs hH => ?_)
      exact hret none _ _ _ _ _ ⟨rfl, h⟩ hH ⟨dX5_weigh_103, rfl⟩
    · have h := h.2 hc2
      refine lv_aload_n hx hb dX5_weigh_74 rfl (lv_at hl 0 rfl) ?_
      refine lv_iload hx hb dX5_weigh_75 (lv_at hl 4 rfl) ?_
      refine lv_iload hx hb dX5_weigh_77 (lv_at hl 5 rfl) ?_
      refine lv_iload_n hx hb dX5_weigh_79 rfl (lv_at hl 3 rfl) ?_
      refine m_cV (M2 := M_X5_isBetter) (As := [.int x4, .int x5, .int x3]) (rest := []) h C0 hH hl kc_X5_isBetter ki_X5_isBetter kx_X5_isBetter ob_49 kM_X5_76 rfl (Nat.le_of_ble_eq_true rfl) (Nat.le_of_ble_eq_true rfl) ⟨Nat.le_of_ble_eq_true rfl, Nat.le_of_ble_eq_true rfl⟩ dX5_weigh_80 rfl (fun r τ3 H locs hq hH => ?_)
      obtain ⟨r4, rfl, h⟩ := hq
      refine lv_if_eq (tgt := 103) hx hb dX5_weigh_83 (by decide) (fun hc5 => ?_) (fun hc5 => ?_)
      · have h := h.1 hc5
        exact hret none _ _ _ _ _ ⟨rfl, h⟩ hH ⟨dX5_weigh_103, rfl⟩
      · have h := h.2 hc5
        refine lv_aload_n hx hb dX5_weigh_86 rfl (lv_at hl 0 rfl) ?_
        refine lv_iload hx hb dX5_weigh_87 (lv_at hl 4 rfl) ?_
        refine m_puti C0 hH f_49_2 kF_X5_19 rfl dX5_weigh_89 rfl rfl (fun H locs hH => ?_)
        refine lv_aload_n hx hb dX5_weigh_92 rfl (lv_at hl 0 rfl) ?_
        refine lv_iload hx hb dX5_weigh_93 (lv_at hl 5 rfl) ?_
        refine m_puti C0 hH f_49_3 kF_X5_23 rfl dX5_weigh_95 rfl rfl (fun H locs hH => ?_)
        refine lv_aload_n hx hb dX5_weigh_98 rfl (lv_at hl 0 rfl) ?_
        refine lv_iload_n hx hb dX5_weigh_99 rfl (lv_at hl 3 rfl) ?_
        refine m_puti C0 hH f_49_4 kF_X5_26 rfl dX5_weigh_100 rfl rfl (fun H locs hH => ?_)
        exact hret none _ _ _ _ _ ⟨rfl, h⟩ hH ⟨dX5_weigh_103, rfl⟩
  · have h := h.2 hc1
    refine lv_iload_n hx hb dX5_weigh_16 rfl (lv_at hl 2 rfl) ?_
    refine lv_iload hx hb dX5_weigh_17 (lv_at hl 6 rfl) ?_
    refine m_cN (M2 := M_X9_hasBit) (As := [.int x2, .int x6]) (rest := []) h C0 hH hl kc_X9_hasBit ks_X9_hasBit kN_X5_66 rfl (Nat.le_of_ble_eq_true rfl) (Nat.le_of_ble_eq_true rfl) ⟨Nat.le_of_ble_eq_true rfl, Nat.le_of_ble_eq_true rfl⟩ dX5_weigh_19 rfl (fun r τ6 H locs hq hH => ?_)
    obtain ⟨r7, rfl, h⟩ := hq
    refine lv_if_eq (tgt := 29) hx hb dX5_weigh_22 (by decide) (fun hc8 => ?_) (fun hc8 => ?_)
    · have h := h.1 hc8
      refine lv_iconst (v := 0) hx hb dX5_weigh_29 (by decide) ?_
      refine lv_istore (lv' := [(7, .int 0), (0, .ref (Ad E 49)), (1, .int x1), (2, .int x2), (3, .int x3), (4, .int x4), (5, .int x5), (6, .int x6)]) hx hb dX5_weigh_30 hl (by decide) rfl (fun ls hl => ?_)
      refine lv_iload hx hb dX5_weigh_32 (lv_at hl 5 rfl) ?_
      refine lv_aload_n hx hb dX5_weigh_34 rfl (lv_at hl 1 rfl) ?_
      refine m_getr C0 hH f_49_0 50 rfl kF_X5_11 dX5_weigh_35 ?_
      refine lv_iload hx hb dX5_weigh_38 (lv_at hl 0 rfl) ?_
      refine m_aald (r := 51) C0 hH a_50 (vin (by decide)) dX5_weigh_40 rfl ?_
      refine lv_iload hx hb dX5_weigh_41 (lv_at hl 7 rfl) ?_
      refine m_iald (x := τ6 51 x6.toNatClampNeg) C0 hH a_51 h.1 dX5_weigh_43 rfl ?_
      have h := h.2
      refine lv_iadd hx hb dX5_weigh_44 ?_
      refine lv_istore (lv' := [(4, .int (x4 + (τ6 51 x6.toNatClampNeg))), (7, .int 0), (0, .ref (Ad E 49)), (1, .int x1), (2, .int x2), (3, .int x3), (5, .int x5), (6, .int x6)]) hx hb dX5_weigh_45 hl (by decide) rfl (fun ls hl => ?_)
      refine lv_iload hx hb dX5_weigh_47 (lv_at hl 6 rfl) ?_
      refine lv_aload_n hx hb dX5_weigh_49 rfl (lv_at hl 2 rfl) ?_
      refine m_getr C0 hH f_49_1 53 rfl kF_X5_16 dX5_weigh_50 ?_
      refine lv_iload hx hb dX5_weigh_53 (lv_at hl 1 rfl) ?_
      refine m_aald (r := 54) C0 hH a_53 (vin (by decide)) dX5_weigh_55 rfl ?_
      refine lv_iload hx hb dX5_weigh_56 (lv_at hl 7 rfl) ?_
      refine m_iald (x := τ6 54 x6.toNatClampNeg) C0 hH a_54 h.1 dX5_weigh_58 rfl ?_
      have h := h.2
      refine m_min (rest := []) C0 hl kM_X5_70 (Nat.le_of_ble_eq_true rfl) ⟨Nat.le_of_ble_eq_true rfl, Nat.le_of_ble_eq_true rfl⟩ dX5_weigh_59 ?_
      refine lv_istore (lv' := [(5, .int (if (τ6 54 x6.toNatClampNeg) < x5 then (τ6 54 x6.toNatClampNeg) else x5)), (4, .int (x4 + (τ6 51 x6.toNatClampNeg))), (7, .int 0), (0, .ref (Ad E 49)), (1, .int x1), (2, .int x2), (3, .int x3), (6, .int x6)]) hx hb dX5_weigh_62 hl (by decide) rfl (fun ls hl => ?_)
      refine lv_iinc (v := (x6 + 1)) (lv' := [(6, .int (x6 + 1)), (5, .int (if (τ6 54 x6.toNatClampNeg) < x5 then (τ6 54 x6.toNatClampNeg) else x5)), (4, .int (x4 + (τ6 51 x6.toNatClampNeg))), (7, .int 0), (0, .ref (Ad E 49)), (1, .int x1), (2, .int x2), (3, .int x3)]) hx hb dX5_weigh_64 hl (k := 7) rfl rfl (by decide) rfl (fun ls hl => ?_)
      refine lv_goto (tgt := 10) hx hb dX5_weigh_67 (by decide) ?_
      exact h p e R s m args below meth c Z cells slots H locs ls C0 hH (lv_sub hl [4, 5, 6, 7, 2, 1, 0] rfl) hret
    · have h := h.2 hc8
      refine lv_iconst (v := 1) hx hb dX5_weigh_25 (by decide) ?_
      refine lv_goto (tgt := 30) hx hb dX5_weigh_26 (by decide) ?_
      refine lv_istore (lv' := [(7, .int 1), (0, .ref (Ad E 49)), (1, .int x1), (2, .int x2), (3, .int x3), (4, .int x4), (5, .int x5), (6, .int x6)]) hx hb dX5_weigh_30 hl (by decide) rfl (fun ls hl => ?_)
      refine lv_iload hx hb dX5_weigh_32 (lv_at hl 5 rfl) ?_
      refine lv_aload_n hx hb dX5_weigh_34 rfl (lv_at hl 1 rfl) ?_
      refine m_getr C0 hH f_49_0 50 rfl kF_X5_11 dX5_weigh_35 ?_
      refine lv_iload hx hb dX5_weigh_38 (lv_at hl 0 rfl) ?_
      refine m_aald (r := 52) C0 hH a_50 (vin (by decide)) dX5_weigh_40 rfl ?_
      refine lv_iload hx hb dX5_weigh_41 (lv_at hl 7 rfl) ?_
      refine m_iald (x := τ6 52 x6.toNatClampNeg) C0 hH a_52 h.1 dX5_weigh_43 rfl ?_
      have h := h.2
      refine lv_iadd hx hb dX5_weigh_44 ?_
      refine lv_istore (lv' := [(4, .int (x4 + (τ6 52 x6.toNatClampNeg))), (7, .int 1), (0, .ref (Ad E 49)), (1, .int x1), (2, .int x2), (3, .int x3), (5, .int x5), (6, .int x6)]) hx hb dX5_weigh_45 hl (by decide) rfl (fun ls hl => ?_)
      refine lv_iload hx hb dX5_weigh_47 (lv_at hl 6 rfl) ?_
      refine lv_aload_n hx hb dX5_weigh_49 rfl (lv_at hl 2 rfl) ?_
      refine m_getr C0 hH f_49_1 53 rfl kF_X5_16 dX5_weigh_50 ?_
      refine lv_iload hx hb dX5_weigh_53 (lv_at hl 1 rfl) ?_
      refine m_aald (r := 55) C0 hH a_53 (vin (by decide)) dX5_weigh_55 rfl ?_
      refine lv_iload hx hb dX5_weigh_56 (lv_at hl 7 rfl) ?_
      refine m_iald (x := τ6 55 x6.toNatClampNeg) C0 hH a_55 h.1 dX5_weigh_58 rfl ?_
      have h := h.2
      refine m_min (rest := []) C0 hl kM_X5_70 (Nat.le_of_ble_eq_true rfl) ⟨Nat.le_of_ble_eq_true rfl, Nat.le_of_ble_eq_true rfl⟩ dX5_weigh_59 ?_
      refine lv_istore (lv' := [(5, .int (if (τ6 55 x6.toNatClampNeg) < x5 then (τ6 55 x6.toNatClampNeg) else x5)), (4, .int (x4 + (τ6 52 x6.toNatClampNeg))), (7, .int 1), (0, .ref (Ad E 49)), (1, .int x1), (2, .int x2), (3, .int x3), (6, .int x6)]) hx hb dX5_weigh_62 hl (by decide) rfl (fun ls hl => ?_)
      refine lv_iinc (v := (x6 + 1)) (lv' := [(6, .int (x6 + 1)), (5, .int (if (τ6 55 x6.toNatClampNeg) < x5 then (τ6 55 x6.toNatClampNeg) else x5)), (4, .int (x4 + (τ6 52 x6.toNatClampNeg))), (7, .int 1), (0, .ref (Ad E 49)), (1, .int x1), (2, .int x2), (3, .int x3)]) hx hb dX5_weigh_64 hl (k := 7) rfl rfl (by decide) rfl (fun ls hl => ?_)
      refine lv_goto (tgt := 10) hx hb dX5_weigh_67 (by decide) ?_
      exact h p e R s m args below meth c Z cells slots H locs ls C0 hH (lv_sub hl [4, 5, 6, 7, 2, 1, 0] rfl) hret

def r_X5_choose_0 (E : EE) (x2 : Int32) (σ : Mm) (Q : Mm → Prop) : Prop := Rn E M_X5_choose 0 [(0, .ref (Ad E 49)), (1, .ref (Ad E 14)), (2, .int x2), (3, .ref (Ad E 44))] [] σ (qv Q)
def r_X5_choose_27 (E : EE) (x2 : Int32) (x4 : Int32) (x5 : Int32) (σ : Mm) (Q : Mm → Prop) : Prop := Rn E M_X5_choose 27 [(0, .ref (Ad E 49)), (1, .ref (Ad E 14)), (2, .int x2), (3, .ref (Ad E 44)), (4, .int x4), (5, .int x5)] [] σ (qv Q)
set_option maxRecDepth 20000 in
set_option maxHeartbeats 4000000 in
theorem s_X5_choose_0 (E : EE) (x2 : Int32) (σ : Mm) (Q : Mm → Prop) (h : r_X5_lookAhead_0 E x2 0 σ (fun τ1 => r_X5_lookAhead_0 E x2 1 τ1 (fun τ2 => r_X5_choose_27 E x2 ((1 <<< ((τ2 14 2) &&& 31)) - 1) 0 τ2 Q))) : r_X5_choose_0 E x2 σ Q := by
  intro p e R s m args below meth c Z cells slots H locs ls C0 hH hl hret
  have hx := C0.1
  have hb : c.code = cX5_choose := C0.2.1
  have hl : lv_has ls 6 [(0, .ref (Ad E 49)), (1, .ref (Ad E 14)), (2, .int x2), (3, .ref (Ad E 44))] := hl
  refine lv_aload_n hx hb dX5_choose_0 rfl (lv_at hl 0 rfl) ?_
  refine lv_aload_n hx hb dX5_choose_1 rfl (lv_at hl 1 rfl) ?_
  refine lv_iload_n hx hb dX5_choose_2 rfl (lv_at hl 2 rfl) ?_
  refine lv_iconst (v := 0) hx hb dX5_choose_3 (by decide) ?_
  refine m_cV (M2 := M_X5_lookAhead) (As := [.ref (Ad E 14), .int x2, .int 0]) (rest := []) h C0 hH hl kc_X5_lookAhead ki_X5_lookAhead kx_X5_lookAhead ob_49 kM_X5_29 rfl (Nat.le_of_ble_eq_true rfl) (Nat.le_of_ble_eq_true rfl) ⟨Nat.le_of_ble_eq_true rfl, Nat.le_of_ble_eq_true rfl⟩ dX5_choose_4 rfl (fun r τ1 H locs hq hH => ?_)
  obtain ⟨rfl, h⟩ := hq
  refine lv_aload_n hx hb dX5_choose_7 rfl (lv_at hl 0 rfl) ?_
  refine lv_aload_n hx hb dX5_choose_8 rfl (lv_at hl 1 rfl) ?_
  refine lv_iload_n hx hb dX5_choose_9 rfl (lv_at hl 2 rfl) ?_
  refine lv_iconst (v := 1) hx hb dX5_choose_10 (by decide) ?_
  refine m_cV (M2 := M_X5_lookAhead) (As := [.ref (Ad E 14), .int x2, .int 1]) (rest := []) h C0 hH hl kc_X5_lookAhead ki_X5_lookAhead kx_X5_lookAhead ob_49 kM_X5_29 rfl (Nat.le_of_ble_eq_true rfl) (Nat.le_of_ble_eq_true rfl) ⟨Nat.le_of_ble_eq_true rfl, Nat.le_of_ble_eq_true rfl⟩ dX5_choose_11 rfl (fun r τ2 H locs hq hH => ?_)
  obtain ⟨rfl, h⟩ := hq
  refine lv_iconst (v := 1) hx hb dX5_choose_14 (by decide) ?_
  refine lv_aload_n hx hb dX5_choose_15 rfl (lv_at hl 1 rfl) ?_
  refine m_geti (x := τ2 14 2) C0 hH f_14_2 kF_X5_33 dX5_choose_16 rfl ?_
  refine lv_ishl hx hb dX5_choose_19 ?_
  refine lv_iconst (v := 1) hx hb dX5_choose_20 (by decide) ?_
  refine lv_isub hx hb dX5_choose_21 ?_
  refine lv_istore (lv' := [(4, .int ((1 <<< ((τ2 14 2) &&& 31)) - 1)), (0, .ref (Ad E 49)), (1, .ref (Ad E 14)), (2, .int x2), (3, .ref (Ad E 44))]) hx hb dX5_choose_22 hl (by decide) rfl (fun ls hl => ?_)
  refine lv_iconst (v := 0) hx hb dX5_choose_24 (by decide) ?_
  refine lv_istore (lv' := [(5, .int 0), (4, .int ((1 <<< ((τ2 14 2) &&& 31)) - 1)), (0, .ref (Ad E 49)), (1, .ref (Ad E 14)), (2, .int x2), (3, .ref (Ad E 44))]) hx hb dX5_choose_25 hl (by decide) rfl (fun ls hl => ?_)
  exact h p e R s m args below meth c Z cells slots H locs ls C0 hH (lv_sub hl [2, 3, 4, 5, 1, 0] rfl) hret
set_option maxRecDepth 20000 in
set_option maxHeartbeats 4000000 in
theorem s_X5_choose_27 (E : EE) (x2 : Int32) (x4 : Int32) (x5 : Int32) (σ : Mm) (Q : Mm → Prop) (h : ((x4 < x5 → Q σ) ∧ (¬ x4 < x5 → r_X0_fill_14_0 E (x4 &&& (x5 ^^^ (-1))) σ (fun τ2 => r_X0_sitters_0 E (τ2 14 0) τ2 (fun r4 τ3 => r_X5_weigh_0 E (τ2 14 1) r4 x5 τ3 (fun τ5 => r_X5_choose_27 E x2 x4 (x5 + 1) τ5 Q)))))) : r_X5_choose_27 E x2 x4 x5 σ Q := by
  intro p e R s m args below meth c Z cells slots H locs ls C0 hH hl hret
  have hx := C0.1
  have hb : c.code = cX5_choose := C0.2.1
  have hl : lv_has ls 6 [(0, .ref (Ad E 49)), (1, .ref (Ad E 14)), (2, .int x2), (3, .ref (Ad E 44)), (4, .int x4), (5, .int x5)] := hl
  refine lv_iload hx hb dX5_choose_27 (lv_at hl 5 rfl) ?_
  refine lv_iload hx hb dX5_choose_29 (lv_at hl 4 rfl) ?_
  refine lv_icmp_gt (tgt := 70) hx hb dX5_choose_31 (by decide) (fun hc1 => ?_) (fun hc1 => ?_)
  · have h := h.1 hc1
    exact hret none _ _ _ _ _ ⟨rfl, h⟩ hH ⟨dX5_choose_70, rfl⟩
  · have h := h.2 hc1
    refine lv_aload_n hx hb dX5_choose_34 rfl (lv_at hl 3 rfl) ?_
    refine lv_aload_n hx hb dX5_choose_35 rfl (lv_at hl 1 rfl) ?_
    refine lv_iload hx hb dX5_choose_36 (lv_at hl 4 rfl) ?_
    refine lv_iload hx hb dX5_choose_38 (lv_at hl 5 rfl) ?_
    refine lv_iconst (v := (-1)) hx hb dX5_choose_40 (by decide) ?_
    refine lv_ixor hx hb dX5_choose_41 ?_
    refine lv_iand hx hb dX5_choose_42 ?_
    refine m_cV (M2 := M_X0_fill) (As := [.ref (Ad E 14), .int (x4 &&& (x5 ^^^ (-1)))]) (rest := []) h C0 hH hl kc_X0_fill ki_X0_fill kx_X0_fill ob_44 kM_X5_38 rfl (Nat.le_of_ble_eq_true rfl) (Nat.le_of_ble_eq_true rfl) ⟨Nat.le_of_ble_eq_true rfl, Nat.le_of_ble_eq_true rfl⟩ dX5_choose_43 rfl (fun r τ2 H locs hq hH => ?_)
    obtain ⟨rfl, h⟩ := hq
    refine lv_aload_n hx hb dX5_choose_46 rfl (lv_at hl 0 rfl) ?_
    refine lv_aload_n hx hb dX5_choose_47 rfl (lv_at hl 1 rfl) ?_
    refine m_geti (x := τ2 14 1) C0 hH f_14_1 kF_X5_44 dX5_choose_48 rfl ?_
    refine lv_aload_n hx hb dX5_choose_51 rfl (lv_at hl 3 rfl) ?_
    refine lv_aload_n hx hb dX5_choose_52 rfl (lv_at hl 1 rfl) ?_
    refine m_geti (x := τ2 14 0) C0 hH f_14_0 kF_X5_47 dX5_choose_53 rfl ?_
    refine m_cV (M2 := M_X0_sitters) (As := [.int (τ2 14 0)]) (rest := [.int (τ2 14 1), .ref (Ad E 49)]) h C0 hH hl kc_X0_sitters ki_X0_sitters kx_X0_sitters ob_44 kM_X5_50 rfl (Nat.le_of_ble_eq_true rfl) (Nat.le_of_ble_eq_true rfl) ⟨Nat.le_of_ble_eq_true rfl, Nat.le_of_ble_eq_true rfl⟩ dX5_choose_56 rfl (fun r τ3 H locs hq hH => ?_)
    obtain ⟨r4, rfl, h⟩ := hq
    refine lv_iload hx hb dX5_choose_59 (lv_at hl 5 rfl) ?_
    refine m_cV (M2 := M_X5_weigh) (As := [.int (τ2 14 1), .int r4, .int x5]) (rest := []) h C0 hH hl kc_X5_weigh ki_X5_weigh kx_X5_weigh ob_49 kM_X5_54 rfl (Nat.le_of_ble_eq_true rfl) (Nat.le_of_ble_eq_true rfl) ⟨Nat.le_of_ble_eq_true rfl, Nat.le_of_ble_eq_true rfl⟩ dX5_choose_61 rfl (fun r τ5 H locs hq hH => ?_)
    obtain ⟨rfl, h⟩ := hq
    refine lv_iinc (v := (x5 + 1)) (lv' := [(5, .int (x5 + 1)), (0, .ref (Ad E 49)), (1, .ref (Ad E 14)), (2, .int x2), (3, .ref (Ad E 44)), (4, .int x4)]) hx hb dX5_choose_64 hl (k := 5) rfl rfl (by decide) rfl (fun ls hl => ?_)
    refine lv_goto (tgt := 27) hx hb dX5_choose_67 (by decide) ?_
    exact h p e R s m args below meth c Z cells slots H locs ls C0 hH (lv_sub hl [1, 2, 3, 4, 5, 0] rfl) hret

def r_X9_leave_0 (E : EE) (x1 : Int32) (x2 : Int32) (σ : Mm) (Q : Int32 → Mm → Prop) : Prop := Rn E M_X9_leave 0 [(0, .ref (Ad E 0)), (1, .int x1), (2, .int x2)] [] σ (qi Q)
set_option maxRecDepth 20000 in
set_option maxHeartbeats 4000000 in
theorem s_X9_leave_0 (E : EE) (x1 : Int32) (x2 : Int32) (σ : Mm) (Q : Int32 → Mm → Prop) (h : ((x1 < 1 → Q (-102) σ) ∧ (¬ x1 < 1 → ((6 < x1 → Q (-102) σ) ∧ (¬ 6 < x1 → ((x2 < 0 → Q (-102) σ) ∧ (¬ x2 < 0 → ((x2 ≤ 2 → r_X2_isThere_0 E  σ (fun r6 τ5 => ((r6 = 0 → Q (-103) τ5) ∧ (¬ r6 = 0 → (((τ5 0 13) < 20 → r_X5_choose_0 E x1 (up τ5 0 13 ((τ5 0 13) + 1)) (fun τ9 => ((¬ x2 = 0 → ((¬ x2 = 1 → Q (τ9 49 4) τ9) ∧ (x2 = 1 → Q (τ9 49 3) τ9))) ∧ (x2 = 0 → Q (τ9 49 2) τ9)))) ∧ (¬ (τ5 0 13) < 20 → Q (-103) τ5)))))) ∧ (¬ x2 ≤ 2 → Q (-102) σ))))))))) : r_X9_leave_0 E x1 x2 σ Q := by
  intro p e R s m args below meth c Z cells slots H locs ls C0 hH hl hret
  have hx := C0.1
  have hb : c.code = cX9_leave := C0.2.1
  have hl : lv_has ls 3 [(0, .ref (Ad E 0)), (1, .int x1), (2, .int x2)] := hl
  refine lv_iload_n hx hb dX9_leave_0 rfl (lv_at hl 1 rfl) ?_
  refine lv_iconst (v := 1) hx hb dX9_leave_1 (by decide) ?_
  refine lv_icmp_lt (tgt := 20) hx hb dX9_leave_2 (by decide) (fun hc1 => ?_) (fun hc1 => ?_)
  · have h := h.1 hc1
    refine lv_bipush (v := (-102)) hx hb dX9_leave_20 (by decide) ?_
    exact hret (some (.int (-102))) _ _ _ _ _ ⟨_, rfl, h⟩ hH ⟨dX9_leave_22, .int, rfl, rfl⟩
  · have h := h.2 hc1
    refine lv_iload_n hx hb dX9_leave_5 rfl (lv_at hl 1 rfl) ?_
    refine lv_bipush (v := 6) hx hb dX9_leave_6 (by decide) ?_
    refine lv_icmp_gt (tgt := 20) hx hb dX9_leave_8 (by decide) (fun hc2 => ?_) (fun hc2 => ?_)
    · have h := h.1 hc2
      refine lv_bipush (v := (-102)) hx hb dX9_leave_20 (by decide) ?_
      exact hret (some (.int (-102))) _ _ _ _ _ ⟨_, rfl, h⟩ hH ⟨dX9_leave_22, .int, rfl, rfl⟩
    · have h := h.2 hc2
      refine lv_iload_n hx hb dX9_leave_11 rfl (lv_at hl 2 rfl) ?_
      refine lv_if_lt (tgt := 20) hx hb dX9_leave_12 (by decide) (fun hc3 => ?_) (fun hc3 => ?_)
      · have h := h.1 hc3
        refine lv_bipush (v := (-102)) hx hb dX9_leave_20 (by decide) ?_
        exact hret (some (.int (-102))) _ _ _ _ _ ⟨_, rfl, h⟩ hH ⟨dX9_leave_22, .int, rfl, rfl⟩
      · have h := h.2 hc3
        refine lv_iload_n hx hb dX9_leave_15 rfl (lv_at hl 2 rfl) ?_
        refine lv_iconst (v := 2) hx hb dX9_leave_16 (by decide) ?_
        refine lv_icmp_le (tgt := 23) hx hb dX9_leave_17 (by decide) (fun hc4 => ?_) (fun hc4 => ?_)
        · have h := h.1 hc4
          refine lv_aload_n hx hb dX9_leave_23 rfl (lv_at hl 0 rfl) ?_
          refine m_getr C0 hH f_0_2 14 rfl kF_X9_26 dX9_leave_24 ?_
          refine m_cV (M2 := M_X2_isThere) (As := []) (rest := []) h C0 hH hl kc_X2_isThere ki_X2_isThere kx_X2_isThere ob_14 kM_X9_184 rfl (Nat.le_of_ble_eq_true rfl) (Nat.le_of_ble_eq_true rfl) ⟨Nat.le_of_ble_eq_true rfl, Nat.le_of_ble_eq_true rfl⟩ dX9_leave_27 rfl (fun r τ5 H locs hq hH => ?_)
          obtain ⟨r6, rfl, h⟩ := hq
          refine lv_if_eq (tgt := 42) hx hb dX9_leave_30 (by decide) (fun hc7 => ?_) (fun hc7 => ?_)
          · have h := h.1 hc7
            refine lv_bipush (v := (-103)) hx hb dX9_leave_42 (by decide) ?_
            exact hret (some (.int (-103))) _ _ _ _ _ ⟨_, rfl, h⟩ hH ⟨dX9_leave_44, .int, rfl, rfl⟩
          · have h := h.2 hc7
            refine lv_aload_n hx hb dX9_leave_33 rfl (lv_at hl 0 rfl) ?_
            refine m_geti (x := τ5 0 13) C0 hH f_0_13 kF_X9_86 dX9_leave_34 rfl ?_
            refine lv_bipush (v := 20) hx hb dX9_leave_37 (by decide) ?_
            refine lv_icmp_lt (tgt := 45) hx hb dX9_leave_39 (by decide) (fun hc8 => ?_) (fun hc8 => ?_)
            · have h := h.1 hc8
              refine lv_aload_n hx hb dX9_leave_45 rfl (lv_at hl 0 rfl) ?_
              refine lv_dup hx hb dX9_leave_46 rfl ?_
              refine m_geti (x := τ5 0 13) C0 hH f_0_13 kF_X9_86 dX9_leave_47 rfl ?_
              refine lv_iconst (v := 1) hx hb dX9_leave_50 (by decide) ?_
              refine lv_iadd hx hb dX9_leave_51 ?_
              refine m_puti C0 hH f_0_13 kF_X9_86 rfl dX9_leave_52 rfl rfl (fun H locs hH => ?_)
              refine lv_aload_n hx hb dX9_leave_55 rfl (lv_at hl 0 rfl) ?_
              refine m_getr C0 hH f_0_7 49 rfl kF_X9_53 dX9_leave_56 ?_
              refine lv_aload_n hx hb dX9_leave_59 rfl (lv_at hl 0 rfl) ?_
              refine m_getr C0 hH f_0_2 14 rfl kF_X9_26 dX9_leave_60 ?_
              refine lv_iload_n hx hb dX9_leave_63 rfl (lv_at hl 1 rfl) ?_
              refine lv_aload_n hx hb dX9_leave_64 rfl (lv_at hl 0 rfl) ?_
              refine m_getr C0 hH f_0_5 44 rfl kF_X9_39 dX9_leave_65 ?_
              refine m_cV (M2 := M_X5_choose) (As := [.ref (Ad E 14), .int x1, .ref (Ad E 44)]) (rest := []) h C0 hH hl kc_X5_choose ki_X5_choose kx_X5_choose ob_49 kM_X9_199 rfl (Nat.le_of_ble_eq_true rfl) (Nat.le_of_ble_eq_true rfl) ⟨Nat.le_of_ble_eq_true rfl, Nat.le_of_ble_eq_true rfl⟩ dX9_leave_68 rfl (fun r τ9 H locs hq hH => ?_)
              obtain ⟨rfl, h⟩ := hq
              refine lv_iload_n hx hb dX9_leave_71 rfl (lv_at hl 2 rfl) ?_
              refine lv_if_ne (tgt := 83) hx hb dX9_leave_72 (by decide) (fun hc10 => ?_) (fun hc10 => ?_)
              · have h := h.1 hc10
                refine lv_iload_n hx hb dX9_leave_83 rfl (lv_at hl 2 rfl) ?_
                refine lv_iconst (v := 1) hx hb dX9_leave_84 (by decide) ?_
                refine lv_icmp_ne (tgt := 98) hx hb dX9_leave_85 (by decide) (fun hc11 => ?_) (fun hc11 => ?_)
                · have h := h.1 hc11
                  refine lv_aload_n hx hb dX9_leave_98 rfl (lv_at hl 0 rfl) ?_
                  refine m_getr C0 hH f_0_7 49 rfl kF_X9_53 dX9_leave_99 ?_
                  refine m_geti (x := τ9 49 4) C0 hH f_49_4 kF_X9_209 dX9_leave_102 rfl ?_
                  exact hret (some (.int (τ9 49 4))) _ _ _ _ _ ⟨_, rfl, h⟩ hH ⟨dX9_leave_105, .int, rfl, rfl⟩
                · have h := h.2 hc11
                  refine lv_aload_n hx hb dX9_leave_88 rfl (lv_at hl 0 rfl) ?_
                  refine m_getr C0 hH f_0_7 49 rfl kF_X9_53 dX9_leave_89 ?_
                  refine m_geti (x := τ9 49 3) C0 hH f_49_3 kF_X9_206 dX9_leave_92 rfl ?_
                  refine lv_goto (tgt := 105) hx hb dX9_leave_95 (by decide) ?_
                  exact hret (some (.int (τ9 49 3))) _ _ _ _ _ ⟨_, rfl, h⟩ hH ⟨dX9_leave_105, .int, rfl, rfl⟩
              · have h := h.2 hc10
                refine lv_aload_n hx hb dX9_leave_75 rfl (lv_at hl 0 rfl) ?_
                refine m_getr C0 hH f_0_7 49 rfl kF_X9_53 dX9_leave_76 ?_
                refine m_geti (x := τ9 49 2) C0 hH f_49_2 kF_X9_203 dX9_leave_79 rfl ?_
                exact hret (some (.int (τ9 49 2))) _ _ _ _ _ ⟨_, rfl, h⟩ hH ⟨dX9_leave_82, .int, rfl, rfl⟩
            · have h := h.2 hc8
              refine lv_bipush (v := (-103)) hx hb dX9_leave_42 (by decide) ?_
              exact hret (some (.int (-103))) _ _ _ _ _ ⟨_, rfl, h⟩ hH ⟨dX9_leave_44, .int, rfl, rfl⟩
        · have h := h.2 hc4
          refine lv_bipush (v := (-102)) hx hb dX9_leave_20 (by decide) ?_
          exact hret (some (.int (-102))) _ _ _ _ _ ⟨_, rfl, h⟩ hH ⟨dX9_leave_22, .int, rfl, rfl⟩

def r_X4_shortestRing_0 (E : EE) (σ : Mm) (Q : Int32 → Mm → Prop) : Prop := Rn E M_X4_shortestRing 0 [(0, .ref (Ad E 47))] [] σ (qi Q)
def r_X4_shortestRing_4 (E : EE) (x1 : Int32) (x2 : Int32) (σ : Mm) (Q : Int32 → Mm → Prop) : Prop := Rn E M_X4_shortestRing 4 [(0, .ref (Ad E 47)), (1, .int x1), (2, .int x2)] [] σ (qi Q)
set_option maxRecDepth 20000 in
set_option maxHeartbeats 4000000 in
theorem s_X4_shortestRing_0 (E : EE) (σ : Mm) (Q : Int32 → Mm → Prop) (h : r_X4_shortestRing_4 E (-1) 0 σ Q) : r_X4_shortestRing_0 E σ Q := by
  intro p e R s m args below meth c Z cells slots H locs ls C0 hH hl hret
  have hx := C0.1
  have hb : c.code = cX4_shortestRing := C0.2.1
  have hl : lv_has ls 4 [(0, .ref (Ad E 47))] := hl
  refine lv_iconst (v := (-1)) hx hb dX4_shortestRing_0 (by decide) ?_
  refine lv_istore_n (lv' := [(1, .int (-1)), (0, .ref (Ad E 47))]) hx hb dX4_shortestRing_1 rfl hl (by decide) rfl (fun ls hl => ?_)
  refine lv_iconst (v := 0) hx hb dX4_shortestRing_2 (by decide) ?_
  refine lv_istore_n (lv' := [(2, .int 0), (1, .int (-1)), (0, .ref (Ad E 47))]) hx hb dX4_shortestRing_3 rfl hl (by decide) rfl (fun ls hl => ?_)
  exact h p e R s m args below meth c Z cells slots H locs ls C0 hH (lv_sub hl [2, 1, 0] rfl) hret
set_option maxRecDepth 20000 in
set_option maxHeartbeats 4000000 in
theorem s_X4_shortestRing_4 (E : EE) (x1 : Int32) (x2 : Int32) (σ : Mm) (Q : Int32 → Mm → Prop) (h : (((σ 47 1) ≤ x2 → Q x1 σ) ∧ (¬ (σ 47 1) ≤ x2 → r_X4_fewest_0 E x2 x2 σ (fun r3 τ2 => ((r3 = (-1) → r_X4_shortestRing_4 E x1 (x2 + 1) τ2 Q) ∧ (¬ r3 = (-1) → ((x1 = (-1) → r_X4_shortestRing_4 E r3 (x2 + 1) τ2 Q) ∧ (¬ x1 = (-1) → ((x1 ≤ r3 → r_X4_shortestRing_4 E x1 (x2 + 1) τ2 Q) ∧ (¬ x1 ≤ r3 → r_X4_shortestRing_4 E r3 (x2 + 1) τ2 Q)))))))))) : r_X4_shortestRing_4 E x1 x2 σ Q := by
  intro p e R s m args below meth c Z cells slots H locs ls C0 hH hl hret
  have hx := C0.1
  have hb : c.code = cX4_shortestRing := C0.2.1
  have hl : lv_has ls 4 [(0, .ref (Ad E 47)), (1, .int x1), (2, .int x2)] := hl
  refine lv_iload_n hx hb dX4_shortestRing_4 rfl (lv_at hl 2 rfl) ?_
  refine lv_aload_n hx hb dX4_shortestRing_5 rfl (lv_at hl 0 rfl) ?_
  refine m_geti (x := σ 47 1) C0 hH f_47_1 kF_X4_15 dX4_shortestRing_6 rfl ?_
  refine lv_icmp_ge (tgt := 42) hx hb dX4_shortestRing_9 (by decide) (fun hc1 => ?_) (fun hc1 => ?_)
  · have h := h.1 hc1
    refine lv_iload_n hx hb dX4_shortestRing_42 rfl (lv_at hl 1 rfl) ?_
    exact hret (some (.int x1)) _ _ _ _ _ ⟨_, rfl, h⟩ hH ⟨dX4_shortestRing_43, .int, rfl, rfl⟩
  · have h := h.2 hc1
    refine lv_aload_n hx hb dX4_shortestRing_12 rfl (lv_at hl 0 rfl) ?_
    refine lv_iload_n hx hb dX4_shortestRing_13 rfl (lv_at hl 2 rfl) ?_
    refine lv_iload_n hx hb dX4_shortestRing_14 rfl (lv_at hl 2 rfl) ?_
    refine m_cV (M2 := M_X4_fewest) (As := [.int x2, .int x2]) (rest := []) h C0 hH hl kc_X4_fewest ki_X4_fewest kx_X4_fewest ob_47 kM_X4_39 rfl (Nat.le_of_ble_eq_true rfl) (Nat.le_of_ble_eq_true rfl) ⟨Nat.le_of_ble_eq_true rfl, Nat.le_of_ble_eq_true rfl⟩ dX4_shortestRing_15 rfl (fun r τ2 H locs hq hH => ?_)
    obtain ⟨r3, rfl, h⟩ := hq
    refine lv_istore_n (lv' := [(3, .int r3), (0, .ref (Ad E 47)), (1, .int x1), (2, .int x2)]) hx hb dX4_shortestRing_18 rfl hl (by decide) rfl (fun ls hl => ?_)
    refine lv_iload_n hx hb dX4_shortestRing_19 rfl (lv_at hl 0 rfl) ?_
    refine lv_iconst (v := (-1)) hx hb dX4_shortestRing_20 (by decide) ?_
    refine lv_icmp_eq (tgt := 36) hx hb dX4_shortestRing_21 (by decide) (fun hc4 => ?_) (fun hc4 => ?_)
    · have h := h.1 hc4
      refine lv_iinc (v := (x2 + 1)) (lv' := [(2, .int (x2 + 1)), (3, .int r3), (0, .ref (Ad E 47)), (1, .int x1)]) hx hb dX4_shortestRing_36 hl (k := 3) rfl rfl (by decide) rfl (fun ls hl => ?_)
      refine lv_goto (tgt := 4) hx hb dX4_shortestRing_39 (by decide) ?_
      exact h p e R s m args below meth c Z cells slots H locs ls C0 hH (lv_sub hl [2, 3, 0] rfl) hret
    · have h := h.2 hc4
      refine lv_iload_n hx hb dX4_shortestRing_24 rfl (lv_at hl 2 rfl) ?_
      refine lv_iconst (v := (-1)) hx hb dX4_shortestRing_25 (by decide) ?_
      refine lv_icmp_eq (tgt := 34) hx hb dX4_shortestRing_26 (by decide) (fun hc5 => ?_) (fun hc5 => ?_)
      · have h := h.1 hc5
        refine lv_iload_n hx hb dX4_shortestRing_34 rfl (lv_at hl 0 rfl) ?_
        refine lv_istore_n (lv' := [(1, .int r3), (3, .int r3), (0, .ref (Ad E 47)), (2, .int x2)]) hx hb dX4_shortestRing_35 rfl hl (by decide) rfl (fun ls hl => ?_)
        refine lv_iinc (v := (x2 + 1)) (lv' := [(2, .int (x2 + 1)), (1, .int r3), (3, .int r3), (0, .ref (Ad E 47))]) hx hb dX4_shortestRing_36 hl (k := 3) rfl rfl (by decide) rfl (fun ls hl => ?_)
        refine lv_goto (tgt := 4) hx hb dX4_shortestRing_39 (by decide) ?_
        exact h p e R s m args below meth c Z cells slots H locs ls C0 hH (lv_sub hl [3, 1, 0] rfl) hret
      · have h := h.2 hc5
        refine lv_iload_n hx hb dX4_shortestRing_29 rfl (lv_at hl 0 rfl) ?_
        refine lv_iload_n hx hb dX4_shortestRing_30 rfl (lv_at hl 2 rfl) ?_
        refine lv_icmp_ge (tgt := 36) hx hb dX4_shortestRing_31 (by decide) (fun hc6 => ?_) (fun hc6 => ?_)
        · have h := h.1 hc6
          refine lv_iinc (v := (x2 + 1)) (lv' := [(2, .int (x2 + 1)), (3, .int r3), (0, .ref (Ad E 47)), (1, .int x1)]) hx hb dX4_shortestRing_36 hl (k := 3) rfl rfl (by decide) rfl (fun ls hl => ?_)
          refine lv_goto (tgt := 4) hx hb dX4_shortestRing_39 (by decide) ?_
          exact h p e R s m args below meth c Z cells slots H locs ls C0 hH (lv_sub hl [2, 3, 0] rfl) hret
        · have h := h.2 hc6
          refine lv_iload_n hx hb dX4_shortestRing_34 rfl (lv_at hl 0 rfl) ?_
          refine lv_istore_n (lv' := [(1, .int r3), (3, .int r3), (0, .ref (Ad E 47)), (2, .int x2)]) hx hb dX4_shortestRing_35 rfl hl (by decide) rfl (fun ls hl => ?_)
          refine lv_iinc (v := (x2 + 1)) (lv' := [(2, .int (x2 + 1)), (1, .int r3), (3, .int r3), (0, .ref (Ad E 47))]) hx hb dX4_shortestRing_36 hl (k := 3) rfl rfl (by decide) rfl (fun ls hl => ?_)
          refine lv_goto (tgt := 4) hx hb dX4_shortestRing_39 (by decide) ?_
          exact h p e R s m args below meth c Z cells slots H locs ls C0 hH (lv_sub hl [3, 1, 0] rfl) hret

def r_X9_ring_0 (E : EE) (σ : Mm) (Q : Int32 → Mm → Prop) : Prop := Rn E M_X9_ring 0 [(0, .ref (Ad E 0))] [] σ (qi Q)
set_option maxRecDepth 20000 in
set_option maxHeartbeats 4000000 in
theorem s_X9_ring_0 (E : EE) (σ : Mm) (Q : Int32 → Mm → Prop) (h : r_X2_isThere_0 E  σ (fun r2 τ1 => ((¬ r2 = 0 → r_X4_fill_0 E (τ1 14 3) τ1 (fun τ4 => r_X4_shortestRing_0 E  τ4 (fun r6 τ5 => Q r6 τ5))) ∧ (r2 = 0 → Q (-103) τ1)))) : r_X9_ring_0 E σ Q := by
  intro p e R s m args below meth c Z cells slots H locs ls C0 hH hl hret
  have hx := C0.1
  have hb : c.code = cX9_ring := C0.2.1
  have hl : lv_has ls 1 [(0, .ref (Ad E 0))] := hl
  refine lv_aload_n hx hb dX9_ring_0 rfl (lv_at hl 0 rfl) ?_
  refine m_getr C0 hH f_0_2 14 rfl kF_X9_26 dX9_ring_1 ?_
  refine m_cV (M2 := M_X2_isThere) (As := []) (rest := []) h C0 hH hl kc_X2_isThere ki_X2_isThere kx_X2_isThere ob_14 kM_X9_184 rfl (Nat.le_of_ble_eq_true rfl) (Nat.le_of_ble_eq_true rfl) ⟨Nat.le_of_ble_eq_true rfl, Nat.le_of_ble_eq_true rfl⟩ dX9_ring_4 rfl (fun r τ1 H locs hq hH => ?_)
  obtain ⟨r2, rfl, h⟩ := hq
  refine lv_if_ne (tgt := 13) hx hb dX9_ring_7 (by decide) (fun hc3 => ?_) (fun hc3 => ?_)
  · have h := h.1 hc3
    refine lv_aload_n hx hb dX9_ring_13 rfl (lv_at hl 0 rfl) ?_
    refine m_getr C0 hH f_0_6 47 rfl kF_X9_46 dX9_ring_14 ?_
    refine lv_aload_n hx hb dX9_ring_17 rfl (lv_at hl 0 rfl) ?_
    refine m_getr C0 hH f_0_2 14 rfl kF_X9_26 dX9_ring_18 ?_
    refine lv_aload_n hx hb dX9_ring_21 rfl (lv_at hl 0 rfl) ?_
    refine m_getr C0 hH f_0_2 14 rfl kF_X9_26 dX9_ring_22 ?_
    refine m_geti (x := τ1 14 3) C0 hH f_14_3 kF_X9_140 dX9_ring_25 rfl ?_
    refine m_cV (M2 := M_X4_fill) (As := [.ref (Ad E 14), .int (τ1 14 3)]) (rest := []) h C0 hH hl kc_X4_fill ki_X4_fill kx_X4_fill ob_47 kM_X9_143 rfl (Nat.le_of_ble_eq_true rfl) (Nat.le_of_ble_eq_true rfl) ⟨Nat.le_of_ble_eq_true rfl, Nat.le_of_ble_eq_true rfl⟩ dX9_ring_28 rfl (fun r τ4 H locs hq hH => ?_)
    obtain ⟨rfl, h⟩ := hq
    refine lv_aload_n hx hb dX9_ring_31 rfl (lv_at hl 0 rfl) ?_
    refine m_getr C0 hH f_0_6 47 rfl kF_X9_46 dX9_ring_32 ?_
    refine m_cV (M2 := M_X4_shortestRing) (As := []) (rest := []) h C0 hH hl kc_X4_shortestRing ki_X4_shortestRing kx_X4_shortestRing ob_47 kM_X9_212 rfl (Nat.le_of_ble_eq_true rfl) (Nat.le_of_ble_eq_true rfl) ⟨Nat.le_of_ble_eq_true rfl, Nat.le_of_ble_eq_true rfl⟩ dX9_ring_35 rfl (fun r τ5 H locs hq hH => ?_)
    obtain ⟨r6, rfl, h⟩ := hq
    exact hret (some (.int r6)) _ _ _ _ _ ⟨_, rfl, h⟩ hH ⟨dX9_ring_38, .int, rfl, rfl⟩
  · have h := h.2 hc3
    refine lv_bipush (v := (-103)) hx hb dX9_ring_10 (by decide) ?_
    exact hret (some (.int (-103))) _ _ _ _ _ ⟨_, rfl, h⟩ hH ⟨dX9_ring_12, .int, rfl, rfl⟩

def r_X4_hasRing_0 (E : EE) (σ : Mm) (Q : Int32 → Mm → Prop) : Prop := Rn E M_X4_hasRing 0 [(0, .ref (Ad E 47))] [] σ (qi Q)
def r_X4_hasRing_11 (E : EE) (x1 : Int32) (x2 : Int32) (σ : Mm) (Q : Int32 → Mm → Prop) : Prop := Rn E M_X4_hasRing 11 [(0, .ref (Ad E 47)), (1, .int x1), (2, .int x2)] [] σ (qi Q)
def r_X4_hasRing_21 (E : EE) (x1 : Int32) (x2 : Int32) (x3 : Int32) (σ : Mm) (Q : Int32 → Mm → Prop) : Prop := Rn E M_X4_hasRing 21 [(0, .ref (Ad E 47)), (1, .int x1), (2, .int x2), (3, .int x3)] [] σ (qi Q)
set_option maxRecDepth 20000 in
set_option maxHeartbeats 4000000 in
theorem s_X4_hasRing_0 (E : EE) (σ : Mm) (Q : Int32 → Mm → Prop) (h : r_X4_hasRing_11 E ((1 <<< ((σ 47 1) &&& 31)) - 1) 0 σ Q) : r_X4_hasRing_0 E σ Q := by
  intro p e R s m args below meth c Z cells slots H locs ls C0 hH hl hret
  have hx := C0.1
  have hb : c.code = cX4_hasRing := C0.2.1
  have hl : lv_has ls 4 [(0, .ref (Ad E 47))] := hl
  refine lv_iconst (v := 1) hx hb dX4_hasRing_0 (by decide) ?_
  refine lv_aload_n hx hb dX4_hasRing_1 rfl (lv_at hl 0 rfl) ?_
  refine m_geti (x := σ 47 1) C0 hH f_47_1 kF_X4_15 dX4_hasRing_2 rfl ?_
  refine lv_ishl hx hb dX4_hasRing_5 ?_
  refine lv_iconst (v := 1) hx hb dX4_hasRing_6 (by decide) ?_
  refine lv_isub hx hb dX4_hasRing_7 ?_
  refine lv_istore_n (lv' := [(1, .int ((1 <<< ((σ 47 1) &&& 31)) - 1)), (0, .ref (Ad E 47))]) hx hb dX4_hasRing_8 rfl hl (by decide) rfl (fun ls hl => ?_)
  refine lv_iconst (v := 0) hx hb dX4_hasRing_9 (by decide) ?_
  refine lv_istore_n (lv' := [(2, .int 0), (1, .int ((1 <<< ((σ 47 1) &&& 31)) - 1)), (0, .ref (Ad E 47))]) hx hb dX4_hasRing_10 rfl hl (by decide) rfl (fun ls hl => ?_)
  exact h p e R s m args below meth c Z cells slots H locs ls C0 hH (lv_sub hl [2, 1, 0] rfl) hret
set_option maxRecDepth 20000 in
set_option maxHeartbeats 4000000 in
theorem s_X4_hasRing_11 (E : EE) (x1 : Int32) (x2 : Int32) (σ : Mm) (Q : Int32 → Mm → Prop) (h : (((σ 47 1) ≤ x2 → ((x1 = 0 → Q 0 σ) ∧ (¬ x1 = 0 → Q 1 σ))) ∧ (¬ (σ 47 1) ≤ x2 → r_X4_hasRing_21 E x1 x2 0 σ Q))) : r_X4_hasRing_11 E x1 x2 σ Q := by
  intro p e R s m args below meth c Z cells slots H locs ls C0 hH hl hret
  have hx := C0.1
  have hb : c.code = cX4_hasRing := C0.2.1
  have hl : lv_has ls 4 [(0, .ref (Ad E 47)), (1, .int x1), (2, .int x2)] := hl
  refine lv_iload_n hx hb dX4_hasRing_11 rfl (lv_at hl 2 rfl) ?_
  refine lv_aload_n hx hb dX4_hasRing_12 rfl (lv_at hl 0 rfl) ?_
  refine m_geti (x := σ 47 1) C0 hH f_47_1 kF_X4_15 dX4_hasRing_13 rfl ?_
  refine lv_icmp_ge (tgt := 60) hx hb dX4_hasRing_16 (by decide) (fun hc1 => ?_) (fun hc1 => ?_)
  · have h := h.1 hc1
    refine lv_iload_n hx hb dX4_hasRing_60 rfl (lv_at hl 1 rfl) ?_
    refine lv_if_eq (tgt := 68) hx hb dX4_hasRing_61 (by decide) (fun hc2 => ?_) (fun hc2 => ?_)
    · have h := h.1 hc2
      refine lv_iconst (v := 0) hx hb dX4_hasRing_68 (by decide) ?_
      exact hret (some (.int 0)) _ _ _ _ _ ⟨_, rfl, h⟩ hH ⟨dX4_hasRing_69, .boolean, rfl, nb (Or.inl rfl)⟩
    · have h := h.2 hc2
      refine lv_iconst (v := 1) hx hb dX4_hasRing_64 (by decide) ?_
      refine lv_goto (tgt := 69) hx hb dX4_hasRing_65 (by decide) ?_
      exact hret (some (.int 1)) _ _ _ _ _ ⟨_, rfl, h⟩ hH ⟨dX4_hasRing_69, .boolean, rfl, nb (Or.inr rfl)⟩
  · have h := h.2 hc1
    refine lv_iconst (v := 0) hx hb dX4_hasRing_19 (by decide) ?_
    refine lv_istore_n (lv' := [(3, .int 0), (0, .ref (Ad E 47)), (1, .int x1), (2, .int x2)]) hx hb dX4_hasRing_20 rfl hl (by decide) rfl (fun ls hl => ?_)
    exact h p e R s m args below meth c Z cells slots H locs ls C0 hH (lv_sub hl [1, 2, 3, 0] rfl) hret
set_option maxRecDepth 20000 in
set_option maxHeartbeats 4000000 in
theorem s_X4_hasRing_21 (E : EE) (x1 : Int32) (x2 : Int32) (x3 : Int32) (σ : Mm) (Q : Int32 → Mm → Prop) (h : (((σ 47 1) ≤ x3 → r_X4_hasRing_11 E x1 (x2 + 1) σ Q) ∧ (¬ (σ 47 1) ≤ x3 → (vp_in x3 6 ∧ ((¬ ((σ 48 x3.toNatClampNeg) &&& x1) = 0 → r_X4_hasRing_21 E x1 x2 (x3 + 1) σ Q) ∧ (((σ 48 x3.toNatClampNeg) &&& x1) = 0 → r_X4_hasRing_21 E (x1 &&& ((1 <<< (x3 &&& 31)) ^^^ (-1))) x2 (x3 + 1) σ Q)))))) : r_X4_hasRing_21 E x1 x2 x3 σ Q := by
  intro p e R s m args below meth c Z cells slots H locs ls C0 hH hl hret
  have hx := C0.1
  have hb : c.code = cX4_hasRing := C0.2.1
  have hl : lv_has ls 4 [(0, .ref (Ad E 47)), (1, .int x1), (2, .int x2), (3, .int x3)] := hl
  refine lv_iload_n hx hb dX4_hasRing_21 rfl (lv_at hl 3 rfl) ?_
  refine lv_aload_n hx hb dX4_hasRing_22 rfl (lv_at hl 0 rfl) ?_
  refine m_geti (x := σ 47 1) C0 hH f_47_1 kF_X4_15 dX4_hasRing_23 rfl ?_
  refine lv_icmp_ge (tgt := 54) hx hb dX4_hasRing_26 (by decide) (fun hc1 => ?_) (fun hc1 => ?_)
  · have h := h.1 hc1
    refine lv_iinc (v := (x2 + 1)) (lv' := [(2, .int (x2 + 1)), (0, .ref (Ad E 47)), (1, .int x1), (3, .int x3)]) hx hb dX4_hasRing_54 hl (k := 2) rfl rfl (by decide) rfl (fun ls hl => ?_)
    refine lv_goto (tgt := 11) hx hb dX4_hasRing_57 (by decide) ?_
    exact h p e R s m args below meth c Z cells slots H locs ls C0 hH (lv_sub hl [1, 2, 0] rfl) hret
  · have h := h.2 hc1
    refine lv_aload_n hx hb dX4_hasRing_29 rfl (lv_at hl 0 rfl) ?_
    refine m_getr C0 hH f_47_0 48 rfl kF_X4_9 dX4_hasRing_30 ?_
    refine lv_iload_n hx hb dX4_hasRing_33 rfl (lv_at hl 3 rfl) ?_
    refine m_iald (x := σ 48 x3.toNatClampNeg) C0 hH a_48 h.1 dX4_hasRing_34 rfl ?_
    have h := h.2
    refine lv_iload_n hx hb dX4_hasRing_35 rfl (lv_at hl 1 rfl) ?_
    refine lv_iand hx hb dX4_hasRing_36 ?_
    refine lv_if_ne (tgt := 48) hx hb dX4_hasRing_37 (by decide) (fun hc2 => ?_) (fun hc2 => ?_)
    · have h := h.1 hc2
      refine lv_iinc (v := (x3 + 1)) (lv' := [(3, .int (x3 + 1)), (0, .ref (Ad E 47)), (1, .int x1), (2, .int x2)]) hx hb dX4_hasRing_48 hl (k := 3) rfl rfl (by decide) rfl (fun ls hl => ?_)
      refine lv_goto (tgt := 21) hx hb dX4_hasRing_51 (by decide) ?_
      exact h p e R s m args below meth c Z cells slots H locs ls C0 hH (lv_sub hl [1, 2, 3, 0] rfl) hret
    · have h := h.2 hc2
      refine lv_iload_n hx hb dX4_hasRing_40 rfl (lv_at hl 1 rfl) ?_
      refine lv_iconst (v := 1) hx hb dX4_hasRing_41 (by decide) ?_
      refine lv_iload_n hx hb dX4_hasRing_42 rfl (lv_at hl 3 rfl) ?_
      refine lv_ishl hx hb dX4_hasRing_43 ?_
      refine lv_iconst (v := (-1)) hx hb dX4_hasRing_44 (by decide) ?_
      refine lv_ixor hx hb dX4_hasRing_45 ?_
      refine lv_iand hx hb dX4_hasRing_46 ?_
      refine lv_istore_n (lv' := [(1, .int (x1 &&& ((1 <<< (x3 &&& 31)) ^^^ (-1)))), (0, .ref (Ad E 47)), (2, .int x2), (3, .int x3)]) hx hb dX4_hasRing_47 rfl hl (by decide) rfl (fun ls hl => ?_)
      refine lv_iinc (v := (x3 + 1)) (lv' := [(3, .int (x3 + 1)), (1, .int (x1 &&& ((1 <<< (x3 &&& 31)) ^^^ (-1)))), (0, .ref (Ad E 47)), (2, .int x2)]) hx hb dX4_hasRing_48 hl (k := 3) rfl rfl (by decide) rfl (fun ls hl => ?_)
      refine lv_goto (tgt := 21) hx hb dX4_hasRing_51 (by decide) ?_
      exact h p e R s m args below meth c Z cells slots H locs ls C0 hH (lv_sub hl [2, 1, 3, 0] rfl) hret

def r_X4_fewestToForgive_0 (E : EE) (σ : Mm) (Q : Int32 → Mm → Prop) : Prop := Rn E M_X4_fewestToForgive 0 [(0, .ref (Ad E 47)), (1, .ref (Ad E 14))] [] σ (qi Q)
def r_X4_fewestToForgive_18 (E : EE) (x2 : Int32) (x3 : Int32) (x4 : Int32) (x5 : Int32) (σ : Mm) (Q : Int32 → Mm → Prop) : Prop := Rn E M_X4_fewestToForgive 18 [(0, .ref (Ad E 47)), (1, .ref (Ad E 14)), (2, .int x2), (3, .int x3), (4, .int x4), (5, .int x5)] [] σ (qi Q)
set_option maxRecDepth 20000 in
set_option maxHeartbeats 4000000 in
theorem s_X4_fewestToForgive_0 (E : EE) (σ : Mm) (Q : Int32 → Mm → Prop) (h : r_X4_fewestToForgive_18 E ((1 <<< ((σ 14 2) &&& 31)) - 1) ((1 <<< ((σ 14 2) &&& 31)) - 1) 9 0 σ Q) : r_X4_fewestToForgive_0 E σ Q := by
  intro p e R s m args below meth c Z cells slots H locs ls C0 hH hl hret
  have hx := C0.1
  have hb : c.code = cX4_fewestToForgive := C0.2.1
  have hl : lv_has ls 6 [(0, .ref (Ad E 47)), (1, .ref (Ad E 14))] := hl
  refine lv_iconst (v := 1) hx hb dX4_fewestToForgive_0 (by decide) ?_
  refine lv_aload_n hx hb dX4_fewestToForgive_1 rfl (lv_at hl 1 rfl) ?_
  refine m_geti (x := σ 14 2) C0 hH f_14_2 kF_X4_22 dX4_fewestToForgive_2 rfl ?_
  refine lv_ishl hx hb dX4_fewestToForgive_5 ?_
  refine lv_iconst (v := 1) hx hb dX4_fewestToForgive_6 (by decide) ?_
  refine lv_isub hx hb dX4_fewestToForgive_7 ?_
  refine lv_istore_n (lv' := [(2, .int ((1 <<< ((σ 14 2) &&& 31)) - 1)), (0, .ref (Ad E 47)), (1, .ref (Ad E 14))]) hx hb dX4_fewestToForgive_8 rfl hl (by decide) rfl (fun ls hl => ?_)
  refine lv_iload_n hx hb dX4_fewestToForgive_9 rfl (lv_at hl 0 rfl) ?_
  refine lv_istore_n (lv' := [(3, .int ((1 <<< ((σ 14 2) &&& 31)) - 1)), (2, .int ((1 <<< ((σ 14 2) &&& 31)) - 1)), (0, .ref (Ad E 47)), (1, .ref (Ad E 14))]) hx hb dX4_fewestToForgive_10 rfl hl (by decide) rfl (fun ls hl => ?_)
  refine lv_bipush (v := 9) hx hb dX4_fewestToForgive_11 (by decide) ?_
  refine lv_istore (lv' := [(4, .int 9), (3, .int ((1 <<< ((σ 14 2) &&& 31)) - 1)), (2, .int ((1 <<< ((σ 14 2) &&& 31)) - 1)), (0, .ref (Ad E 47)), (1, .ref (Ad E 14))]) hx hb dX4_fewestToForgive_13 hl (by decide) rfl (fun ls hl => ?_)
  refine lv_iconst (v := 0) hx hb dX4_fewestToForgive_15 (by decide) ?_
  refine lv_istore (lv' := [(5, .int 0), (4, .int 9), (3, .int ((1 <<< ((σ 14 2) &&& 31)) - 1)), (2, .int ((1 <<< ((σ 14 2) &&& 31)) - 1)), (0, .ref (Ad E 47)), (1, .ref (Ad E 14))]) hx hb dX4_fewestToForgive_16 hl (by decide) rfl (fun ls hl => ?_)
  exact h p e R s m args below meth c Z cells slots H locs ls C0 hH (lv_sub hl [4, 5, 3, 2, 1, 0] rfl) hret
set_option maxRecDepth 20000 in
set_option maxHeartbeats 4000000 in
theorem s_X4_fewestToForgive_18 (E : EE) (x2 : Int32) (x3 : Int32) (x4 : Int32) (x5 : Int32) (σ : Mm) (Q : Int32 → Mm → Prop) (h : ((x2 < x5 → Q x3 σ) ∧ (¬ x2 < x5 → ((¬ (x5 &&& (σ 14 3)) = 0 → r_X4_fewestToForgive_18 E x2 x3 x4 (x5 + 1) σ Q) ∧ ((x5 &&& (σ 14 3)) = 0 → r_J6_bitCount_0f7a4_0 E x5 σ (fun r4 τ3 => ((x4 ≤ r4 → r_X4_fewestToForgive_18 E x2 x3 x4 (x5 + 1) τ3 Q) ∧ (¬ x4 ≤ r4 → r_X4_fill_0 E ((τ3 14 3) ||| x5) τ3 (fun τ6 => r_X4_hasRing_0 E  τ6 (fun r8 τ7 => ((¬ r8 = 0 → r_X4_fewestToForgive_18 E x2 x3 x4 (x5 + 1) τ7 Q) ∧ (r8 = 0 → r_J6_bitCount_0f7a4_0 E x5 τ7 (fun r11 τ10 => r_X4_fewestToForgive_18 E x2 x5 r11 (x5 + 1) τ10 Q))))))))))))) : r_X4_fewestToForgive_18 E x2 x3 x4 x5 σ Q := by
  intro p e R s m args below meth c Z cells slots H locs ls C0 hH hl hret
  have hx := C0.1
  have hb : c.code = cX4_fewestToForgive := C0.2.1
  have hl : lv_has ls 6 [(0, .ref (Ad E 47)), (1, .ref (Ad E 14)), (2, .int x2), (3, .int x3), (4, .int x4), (5, .int x5)] := hl
  refine lv_iload hx hb dX4_fewestToForgive_18 (lv_at hl 5 rfl) ?_
  refine lv_iload_n hx hb dX4_fewestToForgive_20 rfl (lv_at hl 2 rfl) ?_
  refine lv_icmp_gt (tgt := 79) hx hb dX4_fewestToForgive_21 (by decide) (fun hc1 => ?_) (fun hc1 => ?_)
  · have h := h.1 hc1
    refine lv_iload_n hx hb dX4_fewestToForgive_79 rfl (lv_at hl 3 rfl) ?_
    exact hret (some (.int x3)) _ _ _ _ _ ⟨_, rfl, h⟩ hH ⟨dX4_fewestToForgive_80, .int, rfl, rfl⟩
  · have h := h.2 hc1
    refine lv_iload hx hb dX4_fewestToForgive_24 (lv_at hl 5 rfl) ?_
    refine lv_aload_n hx hb dX4_fewestToForgive_26 rfl (lv_at hl 1 rfl) ?_
    refine m_geti (x := σ 14 3) C0 hH f_14_3 kF_X4_43 dX4_fewestToForgive_27 rfl ?_
    refine lv_iand hx hb dX4_fewestToForgive_30 ?_
    refine lv_if_ne (tgt := 73) hx hb dX4_fewestToForgive_31 (by decide) (fun hc2 => ?_) (fun hc2 => ?_)
    · have h := h.1 hc2
      refine lv_iinc (v := (x5 + 1)) (lv' := [(5, .int (x5 + 1)), (0, .ref (Ad E 47)), (1, .ref (Ad E 14)), (2, .int x2), (3, .int x3), (4, .int x4)]) hx hb dX4_fewestToForgive_73 hl (k := 5) rfl rfl (by decide) rfl (fun ls hl => ?_)
      refine lv_goto (tgt := 18) hx hb dX4_fewestToForgive_76 (by decide) ?_
      exact h p e R s m args below meth c Z cells slots H locs ls C0 hH (lv_sub hl [1, 2, 3, 4, 5, 0] rfl) hret
    · have h := h.2 hc2
      refine lv_iload hx hb dX4_fewestToForgive_34 (lv_at hl 5 rfl) ?_
      refine m_cS (M2 := M_J6_bitCount_0f7a4) (As := [.int x5]) (rest := []) h C0 hH hl kc_J6_bitCount_0f7a4 ks_J6_bitCount_0f7a4 kM_X4_46 rfl (Nat.le_of_ble_eq_true rfl) (Nat.le_of_ble_eq_true rfl) ⟨Nat.le_of_ble_eq_true rfl, Nat.le_of_ble_eq_true rfl⟩ dX4_fewestToForgive_36 rfl (fun r τ3 H locs hq hH => ?_)
      obtain ⟨r4, rfl, h⟩ := hq
      refine lv_iload hx hb dX4_fewestToForgive_39 (lv_at hl 4 rfl) ?_
      refine lv_icmp_ge (tgt := 73) hx hb dX4_fewestToForgive_41 (by decide) (fun hc5 => ?_) (fun hc5 => ?_)
      · have h := h.1 hc5
        refine lv_iinc (v := (x5 + 1)) (lv' := [(5, .int (x5 + 1)), (0, .ref (Ad E 47)), (1, .ref (Ad E 14)), (2, .int x2), (3, .int x3), (4, .int x4)]) hx hb dX4_fewestToForgive_73 hl (k := 5) rfl rfl (by decide) rfl (fun ls hl => ?_)
        refine lv_goto (tgt := 18) hx hb dX4_fewestToForgive_76 (by decide) ?_
        exact h p e R s m args below meth c Z cells slots H locs ls C0 hH (lv_sub hl [1, 2, 3, 4, 5, 0] rfl) hret
      · have h := h.2 hc5
        refine lv_aload_n hx hb dX4_fewestToForgive_44 rfl (lv_at hl 0 rfl) ?_
        refine lv_aload_n hx hb dX4_fewestToForgive_45 rfl (lv_at hl 1 rfl) ?_
        refine lv_aload_n hx hb dX4_fewestToForgive_46 rfl (lv_at hl 1 rfl) ?_
        refine m_geti (x := τ3 14 3) C0 hH f_14_3 kF_X4_43 dX4_fewestToForgive_47 rfl ?_
        refine lv_iload hx hb dX4_fewestToForgive_50 (lv_at hl 5 rfl) ?_
        refine lv_ior hx hb dX4_fewestToForgive_52 ?_
        refine m_cV (M2 := M_X4_fill) (As := [.ref (Ad E 14), .int ((τ3 14 3) ||| x5)]) (rest := []) h C0 hH hl kc_X4_fill ki_X4_fill kx_X4_fill ob_47 kM_X4_51 rfl (Nat.le_of_ble_eq_true rfl) (Nat.le_of_ble_eq_true rfl) ⟨Nat.le_of_ble_eq_true rfl, Nat.le_of_ble_eq_true rfl⟩ dX4_fewestToForgive_53 rfl (fun r τ6 H locs hq hH => ?_)
        obtain ⟨rfl, h⟩ := hq
        refine lv_aload_n hx hb dX4_fewestToForgive_56 rfl (lv_at hl 0 rfl) ?_
        refine m_cV (M2 := M_X4_hasRing) (As := []) (rest := []) h C0 hH hl kc_X4_hasRing ki_X4_hasRing kx_X4_hasRing ob_47 kM_X4_55 rfl (Nat.le_of_ble_eq_true rfl) (Nat.le_of_ble_eq_true rfl) ⟨Nat.le_of_ble_eq_true rfl, Nat.le_of_ble_eq_true rfl⟩ dX4_fewestToForgive_57 rfl (fun r τ7 H locs hq hH => ?_)
        obtain ⟨r8, rfl, h⟩ := hq
        refine lv_if_ne (tgt := 73) hx hb dX4_fewestToForgive_60 (by decide) (fun hc9 => ?_) (fun hc9 => ?_)
        · have h := h.1 hc9
          refine lv_iinc (v := (x5 + 1)) (lv' := [(5, .int (x5 + 1)), (0, .ref (Ad E 47)), (1, .ref (Ad E 14)), (2, .int x2), (3, .int x3), (4, .int x4)]) hx hb dX4_fewestToForgive_73 hl (k := 5) rfl rfl (by decide) rfl (fun ls hl => ?_)
          refine lv_goto (tgt := 18) hx hb dX4_fewestToForgive_76 (by decide) ?_
          exact h p e R s m args below meth c Z cells slots H locs ls C0 hH (lv_sub hl [1, 2, 3, 4, 5, 0] rfl) hret
        · have h := h.2 hc9
          refine lv_iload hx hb dX4_fewestToForgive_63 (lv_at hl 5 rfl) ?_
          refine lv_istore_n (lv' := [(3, .int x5), (0, .ref (Ad E 47)), (1, .ref (Ad E 14)), (2, .int x2), (4, .int x4), (5, .int x5)]) hx hb dX4_fewestToForgive_65 rfl hl (by decide) rfl (fun ls hl => ?_)
          refine lv_iload hx hb dX4_fewestToForgive_66 (lv_at hl 5 rfl) ?_
          refine m_cS (M2 := M_J6_bitCount_0f7a4) (As := [.int x5]) (rest := []) h C0 hH hl kc_J6_bitCount_0f7a4 ks_J6_bitCount_0f7a4 kM_X4_46 rfl (Nat.le_of_ble_eq_true rfl) (Nat.le_of_ble_eq_true rfl) ⟨Nat.le_of_ble_eq_true rfl, Nat.le_of_ble_eq_true rfl⟩ dX4_fewestToForgive_68 rfl (fun r τ10 H locs hq hH => ?_)
          obtain ⟨r11, rfl, h⟩ := hq
          refine lv_istore (lv' := [(4, .int r11), (3, .int x5), (0, .ref (Ad E 47)), (1, .ref (Ad E 14)), (2, .int x2), (5, .int x5)]) hx hb dX4_fewestToForgive_71 hl (by decide) rfl (fun ls hl => ?_)
          refine lv_iinc (v := (x5 + 1)) (lv' := [(5, .int (x5 + 1)), (4, .int r11), (3, .int x5), (0, .ref (Ad E 47)), (1, .ref (Ad E 14)), (2, .int x2)]) hx hb dX4_fewestToForgive_73 hl (k := 5) rfl rfl (by decide) rfl (fun ls hl => ?_)
          refine lv_goto (tgt := 18) hx hb dX4_fewestToForgive_76 (by decide) ?_
          exact h p e R s m args below meth c Z cells slots H locs ls C0 hH (lv_sub hl [3, 4, 5, 2, 1, 0] rfl) hret

def r_X9_peace_0 (E : EE) (x1 : Int32) (σ : Mm) (Q : Int32 → Mm → Prop) : Prop := Rn E M_X9_peace 0 [(0, .ref (Ad E 0)), (1, .int x1)] [] σ (qi Q)
set_option maxRecDepth 20000 in
set_option maxHeartbeats 4000000 in
theorem s_X9_peace_0 (E : EE) (x1 : Int32) (σ : Mm) (Q : Int32 → Mm → Prop) (h : ((x1 < 0 → Q (-102) σ) ∧ (¬ x1 < 0 → ((x1 ≤ 1 → r_X2_isThere_0 E  σ (fun r4 τ3 => ((¬ r4 = 0 → r_X4_fewestToForgive_0 E  τ3 (fun r7 τ6 => ((¬ x1 = 0 → Q r7 τ6) ∧ (x1 = 0 → r_J6_bitCount_0f7a4_0 E r7 τ6 (fun r10 τ9 => Q r10 τ9))))) ∧ (r4 = 0 → Q (-103) τ3)))) ∧ (¬ x1 ≤ 1 → Q (-102) σ))))) : r_X9_peace_0 E x1 σ Q := by
  intro p e R s m args below meth c Z cells slots H locs ls C0 hH hl hret
  have hx := C0.1
  have hb : c.code = cX9_peace := C0.2.1
  have hl : lv_has ls 3 [(0, .ref (Ad E 0)), (1, .int x1)] := hl
  refine lv_iload_n hx hb dX9_peace_0 rfl (lv_at hl 1 rfl) ?_
  refine lv_if_lt (tgt := 9) hx hb dX9_peace_1 (by decide) (fun hc1 => ?_) (fun hc1 => ?_)
  · have h := h.1 hc1
    refine lv_bipush (v := (-102)) hx hb dX9_peace_9 (by decide) ?_
    exact hret (some (.int (-102))) _ _ _ _ _ ⟨_, rfl, h⟩ hH ⟨dX9_peace_11, .int, rfl, rfl⟩
  · have h := h.2 hc1
    refine lv_iload_n hx hb dX9_peace_4 rfl (lv_at hl 1 rfl) ?_
    refine lv_iconst (v := 1) hx hb dX9_peace_5 (by decide) ?_
    refine lv_icmp_le (tgt := 12) hx hb dX9_peace_6 (by decide) (fun hc2 => ?_) (fun hc2 => ?_)
    · have h := h.1 hc2
      refine lv_aload_n hx hb dX9_peace_12 rfl (lv_at hl 0 rfl) ?_
      refine m_getr C0 hH f_0_2 14 rfl kF_X9_26 dX9_peace_13 ?_
      refine m_cV (M2 := M_X2_isThere) (As := []) (rest := []) h C0 hH hl kc_X2_isThere ki_X2_isThere kx_X2_isThere ob_14 kM_X9_184 rfl (Nat.le_of_ble_eq_true rfl) (Nat.le_of_ble_eq_true rfl) ⟨Nat.le_of_ble_eq_true rfl, Nat.le_of_ble_eq_true rfl⟩ dX9_peace_16 rfl (fun r τ3 H locs hq hH => ?_)
      obtain ⟨r4, rfl, h⟩ := hq
      refine lv_if_ne (tgt := 25) hx hb dX9_peace_19 (by decide) (fun hc5 => ?_) (fun hc5 => ?_)
      · have h := h.1 hc5
        refine lv_aload_n hx hb dX9_peace_25 rfl (lv_at hl 0 rfl) ?_
        refine m_getr C0 hH f_0_6 47 rfl kF_X9_46 dX9_peace_26 ?_
        refine lv_aload_n hx hb dX9_peace_29 rfl (lv_at hl 0 rfl) ?_
        refine m_getr C0 hH f_0_2 14 rfl kF_X9_26 dX9_peace_30 ?_
        refine m_cV (M2 := M_X4_fewestToForgive) (As := [.ref (Ad E 14)]) (rest := []) h C0 hH hl kc_X4_fewestToForgive ki_X4_fewestToForgive kx_X4_fewestToForgive ob_47 kM_X9_215 rfl (Nat.le_of_ble_eq_true rfl) (Nat.le_of_ble_eq_true rfl) ⟨Nat.le_of_ble_eq_true rfl, Nat.le_of_ble_eq_true rfl⟩ dX9_peace_33 rfl (fun r τ6 H locs hq hH => ?_)
        obtain ⟨r7, rfl, h⟩ := hq
        refine lv_istore_n (lv' := [(2, .int r7), (0, .ref (Ad E 0)), (1, .int x1)]) hx hb dX9_peace_36 rfl hl (by decide) rfl (fun ls hl => ?_)
        refine lv_iload_n hx hb dX9_peace_37 rfl (lv_at hl 2 rfl) ?_
        refine lv_if_ne (tgt := 48) hx hb dX9_peace_38 (by decide) (fun hc8 => ?_) (fun hc8 => ?_)
        · have h := h.1 hc8
          refine lv_iload_n hx hb dX9_peace_48 rfl (lv_at hl 0 rfl) ?_
          exact hret (some (.int r7)) _ _ _ _ _ ⟨_, rfl, h⟩ hH ⟨dX9_peace_49, .int, rfl, rfl⟩
        · have h := h.2 hc8
          refine lv_iload_n hx hb dX9_peace_41 rfl (lv_at hl 0 rfl) ?_
          refine m_cS (M2 := M_J6_bitCount_0f7a4) (As := [.int r7]) (rest := []) h C0 hH hl kc_J6_bitCount_0f7a4 ks_J6_bitCount_0f7a4 kM_X9_219 rfl (Nat.le_of_ble_eq_true rfl) (Nat.le_of_ble_eq_true rfl) ⟨Nat.le_of_ble_eq_true rfl, Nat.le_of_ble_eq_true rfl⟩ dX9_peace_42 rfl (fun r τ9 H locs hq hH => ?_)
          obtain ⟨r10, rfl, h⟩ := hq
          refine lv_goto (tgt := 49) hx hb dX9_peace_45 (by decide) ?_
          exact hret (some (.int r10)) _ _ _ _ _ ⟨_, rfl, h⟩ hH ⟨dX9_peace_49, .int, rfl, rfl⟩
      · have h := h.2 hc5
        refine lv_bipush (v := (-103)) hx hb dX9_peace_22 (by decide) ?_
        exact hret (some (.int (-103))) _ _ _ _ _ ⟨_, rfl, h⟩ hH ⟨dX9_peace_24, .int, rfl, rfl⟩
    · have h := h.2 hc2
      refine lv_bipush (v := (-102)) hx hb dX9_peace_9 (by decide) ?_
      exact hret (some (.int (-102))) _ _ _ _ _ ⟨_, rfl, h⟩ hH ⟨dX9_peace_11, .int, rfl, rfl⟩

def r_X1_commonPart_0 (E : EE) (x0 : Int32) (x1 : Int32) (σ : Mm) (Q : Int32 → Mm → Prop) : Prop := Rn E M_X1_commonPart 0 [(0, .int x0), (1, .int x1)] [] σ (qi Q)
def r_X1_commonPart_7 (E : EE) (x0 : Int32) (x1 : Int32) (x2 : Int32) (x3 : Int32) (x4 : Int32) (σ : Mm) (Q : Int32 → Mm → Prop) : Prop := Rn E M_X1_commonPart 7 [(0, .int x0), (1, .int x1), (2, .int x2), (3, .int x3), (4, .int x4)] [] σ (qi Q)
set_option maxRecDepth 20000 in
set_option maxHeartbeats 4000000 in
theorem s_X1_commonPart_0 (E : EE) (x0 : Int32) (x1 : Int32) (σ : Mm) (Q : Int32 → Mm → Prop) (h : r_X1_commonPart_7 E x0 x1 x0 x1 0 σ Q) : r_X1_commonPart_0 E x0 x1 σ Q := by
  intro p e R s m args below meth c Z cells slots H locs ls C0 hH hl hret
  have hx := C0.1
  have hb : c.code = cX1_commonPart := C0.2.1
  have hl : lv_has ls 6 [(0, .int x0), (1, .int x1)] := hl
  refine lv_iload_n hx hb dX1_commonPart_0 rfl (lv_at hl 0 rfl) ?_
  refine lv_istore_n (lv' := [(2, .int x0), (0, .int x0), (1, .int x1)]) hx hb dX1_commonPart_1 rfl hl (by decide) rfl (fun ls hl => ?_)
  refine lv_iload_n hx hb dX1_commonPart_2 rfl (lv_at hl 2 rfl) ?_
  refine lv_istore_n (lv' := [(3, .int x1), (2, .int x0), (0, .int x0), (1, .int x1)]) hx hb dX1_commonPart_3 rfl hl (by decide) rfl (fun ls hl => ?_)
  refine lv_iconst (v := 0) hx hb dX1_commonPart_4 (by decide) ?_
  refine lv_istore (lv' := [(4, .int 0), (3, .int x1), (2, .int x0), (0, .int x0), (1, .int x1)]) hx hb dX1_commonPart_5 hl (by decide) rfl (fun ls hl => ?_)
  exact h p e R s m args below meth c Z cells slots H locs ls C0 hH (lv_sub hl [3, 4, 2, 1, 0] rfl) hret
set_option maxRecDepth 20000 in
set_option maxHeartbeats 4000000 in
theorem s_X1_commonPart_7 (E : EE) (x0 : Int32) (x1 : Int32) (x2 : Int32) (x3 : Int32) (x4 : Int32) (σ : Mm) (Q : Int32 → Mm → Prop) (h : ((64 ≤ x4 → Q (if 1 < x2 then x2 else 1) σ) ∧ (¬ 64 ≤ x4 → ((x3 ≤ 0 → Q (if 1 < x2 then x2 else 1) σ) ∧ (¬ x3 ≤ 0 → (¬ x3 = 0 ∧ r_X1_commonPart_7 E x0 x1 x3 (x2 - (x2 / x3) * x3) (x4 + 1) σ Q)))))) : r_X1_commonPart_7 E x0 x1 x2 x3 x4 σ Q := by
  intro p e R s m args below meth c Z cells slots H locs ls C0 hH hl hret
  have hx := C0.1
  have hb : c.code = cX1_commonPart := C0.2.1
  have hl : lv_has ls 6 [(0, .int x0), (1, .int x1), (2, .int x2), (3, .int x3), (4, .int x4)] := hl
  refine lv_iload hx hb dX1_commonPart_7 (lv_at hl 4 rfl) ?_
  refine lv_bipush (v := 64) hx hb dX1_commonPart_9 (by decide) ?_
  refine lv_icmp_ge (tgt := 34) hx hb dX1_commonPart_11 (by decide) (fun hc1 => ?_) (fun hc1 => ?_)
  · have h := h.1 hc1
    refine lv_iconst (v := 1) hx hb dX1_commonPart_34 (by decide) ?_
    refine lv_iload_n hx hb dX1_commonPart_35 rfl (lv_at hl 2 rfl) ?_
    refine m_max (rest := []) C0 hl kM_X1_70 (Nat.le_of_ble_eq_true rfl) ⟨Nat.le_of_ble_eq_true rfl, Nat.le_of_ble_eq_true rfl⟩ dX1_commonPart_36 ?_
    exact hret (some (.int (if 1 < x2 then x2 else 1))) _ _ _ _ _ ⟨_, rfl, h⟩ hH ⟨dX1_commonPart_39, .int, rfl, rfl⟩
  · have h := h.2 hc1
    refine lv_iload_n hx hb dX1_commonPart_14 rfl (lv_at hl 3 rfl) ?_
    refine lv_if_le (tgt := 34) hx hb dX1_commonPart_15 (by decide) (fun hc2 => ?_) (fun hc2 => ?_)
    · have h := h.1 hc2
      refine lv_iconst (v := 1) hx hb dX1_commonPart_34 (by decide) ?_
      refine lv_iload_n hx hb dX1_commonPart_35 rfl (lv_at hl 2 rfl) ?_
      refine m_max (rest := []) C0 hl kM_X1_70 (Nat.le_of_ble_eq_true rfl) ⟨Nat.le_of_ble_eq_true rfl, Nat.le_of_ble_eq_true rfl⟩ dX1_commonPart_36 ?_
      exact hret (some (.int (if 1 < x2 then x2 else 1))) _ _ _ _ _ ⟨_, rfl, h⟩ hH ⟨dX1_commonPart_39, .int, rfl, rfl⟩
    · have h := h.2 hc2
      refine lv_iload_n hx hb dX1_commonPart_18 rfl (lv_at hl 2 rfl) ?_
      refine lv_iload_n hx hb dX1_commonPart_19 rfl (lv_at hl 3 rfl) ?_
      refine lv_irem hx hb dX1_commonPart_20 h.1 ?_
      have h := h.2
      refine lv_istore (lv' := [(5, .int (x2 - (x2 / x3) * x3)), (0, .int x0), (1, .int x1), (2, .int x2), (3, .int x3), (4, .int x4)]) hx hb dX1_commonPart_21 hl (by decide) rfl (fun ls hl => ?_)
      refine lv_iload_n hx hb dX1_commonPart_23 rfl (lv_at hl 4 rfl) ?_
      refine lv_istore_n (lv' := [(2, .int x3), (5, .int (x2 - (x2 / x3) * x3)), (0, .int x0), (1, .int x1), (3, .int x3), (4, .int x4)]) hx hb dX1_commonPart_24 rfl hl (by decide) rfl (fun ls hl => ?_)
      refine lv_iload hx hb dX1_commonPart_25 (lv_at hl 1 rfl) ?_
      refine lv_istore_n (lv' := [(3, .int (x2 - (x2 / x3) * x3)), (2, .int x3), (5, .int (x2 - (x2 / x3) * x3)), (0, .int x0), (1, .int x1), (4, .int x4)]) hx hb dX1_commonPart_27 rfl hl (by decide) rfl (fun ls hl => ?_)
      refine lv_iinc (v := (x4 + 1)) (lv' := [(4, .int (x4 + 1)), (3, .int (x2 - (x2 / x3) * x3)), (2, .int x3), (5, .int (x2 - (x2 / x3) * x3)), (0, .int x0), (1, .int x1)]) hx hb dX1_commonPart_28 hl (k := 5) rfl rfl (by decide) rfl (fun ls hl => ?_)
      refine lv_goto (tgt := 7) hx hb dX1_commonPart_31 (by decide) ?_
      exact h p e R s m args below meth c Z cells slots H locs ls C0 hH (lv_sub hl [4, 5, 2, 1, 0] rfl) hret

def r_X1_above_0 (E : EE) (x1 : Int32) (σ : Mm) (Q : Int32 → Mm → Prop) : Prop := Rn E M_X1_above 0 [(0, .ref (Ad E 56)), (1, .int x1)] [] σ (qi Q)
set_option maxRecDepth 20000 in
set_option maxHeartbeats 4000000 in
theorem s_X1_above_0 (E : EE) (x1 : Int32) (σ : Mm) (Q : Int32 → Mm → Prop) (h : (vp_in x1 6 ∧ (vp_in x1 6 ∧ r_X1_commonPart_0 E (σ 56 3) (σ 57 x1.toNatClampNeg) σ (fun r2 τ1 => (¬ r2 = 0 ∧ Q ((σ 57 x1.toNatClampNeg) / r2) τ1))))) : r_X1_above_0 E x1 σ Q := by
  intro p e R s m args below meth c Z cells slots H locs ls C0 hH hl hret
  have hx := C0.1
  have hb : c.code = cX1_above := C0.2.1
  have hl : lv_has ls 2 [(0, .ref (Ad E 56)), (1, .int x1)] := hl
  refine lv_aload_n hx hb dX1_above_0 rfl (lv_at hl 0 rfl) ?_
  refine m_getr C0 hH f_56_0 57 rfl kF_X1_9 dX1_above_1 ?_
  refine lv_iload_n hx hb dX1_above_4 rfl (lv_at hl 1 rfl) ?_
  refine m_iald (x := σ 57 x1.toNatClampNeg) C0 hH a_57 h.1 dX1_above_5 rfl ?_
  have h := h.2
  refine lv_aload_n hx hb dX1_above_6 rfl (lv_at hl 0 rfl) ?_
  refine m_geti (x := σ 56 3) C0 hH f_56_3 kF_X1_21 dX1_above_7 rfl ?_
  refine lv_aload_n hx hb dX1_above_10 rfl (lv_at hl 0 rfl) ?_
  refine m_getr C0 hH f_56_0 57 rfl kF_X1_9 dX1_above_11 ?_
  refine lv_iload_n hx hb dX1_above_14 rfl (lv_at hl 1 rfl) ?_
  refine m_iald (x := σ 57 x1.toNatClampNeg) C0 hH a_57 h.1 dX1_above_15 rfl ?_
  have h := h.2
  refine m_cS (M2 := M_X1_commonPart) (As := [.int (σ 56 3), .int (σ 57 x1.toNatClampNeg)]) (rest := [.int (σ 57 x1.toNatClampNeg)]) h C0 hH hl kc_X1_commonPart ks_X1_commonPart kM_X1_66 rfl (Nat.le_of_ble_eq_true rfl) (Nat.le_of_ble_eq_true rfl) ⟨Nat.le_of_ble_eq_true rfl, Nat.le_of_ble_eq_true rfl⟩ dX1_above_16 rfl (fun r τ1 H locs hq hH => ?_)
  obtain ⟨r2, rfl, h⟩ := hq
  refine lv_idiv hx hb dX1_above_19 h.1 ?_
  have h := h.2
  exact hret (some (.int ((σ 57 x1.toNatClampNeg) / r2))) _ _ _ _ _ ⟨_, rfl, h⟩ hH ⟨dX1_above_20, .int, rfl, rfl⟩

def r_X1_below_0 (E : EE) (x1 : Int32) (σ : Mm) (Q : Int32 → Mm → Prop) : Prop := Rn E M_X1_below 0 [(0, .ref (Ad E 56)), (1, .int x1)] [] σ (qi Q)
set_option maxRecDepth 20000 in
set_option maxHeartbeats 4000000 in
theorem s_X1_below_0 (E : EE) (x1 : Int32) (σ : Mm) (Q : Int32 → Mm → Prop) (h : (vp_in x1 6 ∧ r_X1_commonPart_0 E (σ 56 3) (σ 57 x1.toNatClampNeg) σ (fun r2 τ1 => (¬ r2 = 0 ∧ Q ((σ 56 3) / r2) τ1)))) : r_X1_below_0 E x1 σ Q := by
  intro p e R s m args below meth c Z cells slots H locs ls C0 hH hl hret
  have hx := C0.1
  have hb : c.code = cX1_below := C0.2.1
  have hl : lv_has ls 2 [(0, .ref (Ad E 56)), (1, .int x1)] := hl
  refine lv_aload_n hx hb dX1_below_0 rfl (lv_at hl 0 rfl) ?_
  refine m_geti (x := σ 56 3) C0 hH f_56_3 kF_X1_21 dX1_below_1 rfl ?_
  refine lv_aload_n hx hb dX1_below_4 rfl (lv_at hl 0 rfl) ?_
  refine m_geti (x := σ 56 3) C0 hH f_56_3 kF_X1_21 dX1_below_5 rfl ?_
  refine lv_aload_n hx hb dX1_below_8 rfl (lv_at hl 0 rfl) ?_
  refine m_getr C0 hH f_56_0 57 rfl kF_X1_9 dX1_below_9 ?_
  refine lv_iload_n hx hb dX1_below_12 rfl (lv_at hl 1 rfl) ?_
  refine m_iald (x := σ 57 x1.toNatClampNeg) C0 hH a_57 h.1 dX1_below_13 rfl ?_
  have h := h.2
  refine m_cS (M2 := M_X1_commonPart) (As := [.int (σ 56 3), .int (σ 57 x1.toNatClampNeg)]) (rest := [.int (σ 56 3)]) h C0 hH hl kc_X1_commonPart ks_X1_commonPart kM_X1_66 rfl (Nat.le_of_ble_eq_true rfl) (Nat.le_of_ble_eq_true rfl) ⟨Nat.le_of_ble_eq_true rfl, Nat.le_of_ble_eq_true rfl⟩ dX1_below_14 rfl (fun r τ1 H locs hq hH => ?_)
  obtain ⟨r2, rfl, h⟩ := hq
  refine lv_idiv hx hb dX1_below_17 h.1 ?_
  have h := h.2
  exact hret (some (.int ((σ 56 3) / r2))) _ _ _ _ _ ⟨_, rfl, h⟩ hH ⟨dX1_below_18, .int, rfl, rfl⟩

def r_X1_addTo_0 (E : EE) (x1 : Int32) (x2 : Int32) (x3 : Int32) (σ : Mm) (Q : Mm → Prop) : Prop := Rn E M_X1_addTo 0 [(0, .ref (Ad E 56)), (1, .int x1), (2, .int x2), (3, .int x3)] [] σ (qv Q)
def r_X1_addTo_3 (E : EE) (x1 : Int32) (x2 : Int32) (x3 : Int32) (x4 : Int32) (σ : Mm) (Q : Mm → Prop) : Prop := Rn E M_X1_addTo 3 [(0, .ref (Ad E 56)), (1, .int x1), (2, .int x2), (3, .int x3), (4, .int x4)] [] σ (qv Q)
set_option maxRecDepth 20000 in
set_option maxHeartbeats 4000000 in
theorem s_X1_addTo_0 (E : EE) (x1 : Int32) (x2 : Int32) (x3 : Int32) (σ : Mm) (Q : Mm → Prop) (h : r_X1_addTo_3 E x1 x2 x3 0 σ Q) : r_X1_addTo_0 E x1 x2 x3 σ Q := by
  intro p e R s m args below meth c Z cells slots H locs ls C0 hH hl hret
  have hx := C0.1
  have hb : c.code = cX1_addTo := C0.2.1
  have hl : lv_has ls 5 [(0, .ref (Ad E 56)), (1, .int x1), (2, .int x2), (3, .int x3)] := hl
  refine lv_iconst (v := 0) hx hb dX1_addTo_0 (by decide) ?_
  refine lv_istore (lv' := [(4, .int 0), (0, .ref (Ad E 56)), (1, .int x1), (2, .int x2), (3, .int x3)]) hx hb dX1_addTo_1 hl (by decide) rfl (fun ls hl => ?_)
  exact h p e R s m args below meth c Z cells slots H locs ls C0 hH (lv_sub hl [1, 2, 3, 4, 0] rfl) hret
set_option maxRecDepth 20000 in
set_option maxHeartbeats 4000000 in
theorem s_X1_addTo_3 (E : EE) (x1 : Int32) (x2 : Int32) (x3 : Int32) (x4 : Int32) (σ : Mm) (Q : Mm → Prop) (h : ((x3 ≤ x4 → Q σ) ∧ (¬ x3 ≤ x4 → r_X9_hasBit_0 E x1 x4 σ (fun r3 τ2 => ((r3 = 0 → r_X1_addTo_3 E x1 x2 x3 (x4 + 1) τ2 Q) ∧ (¬ r3 = 0 → (vp_in x4 6 ∧ (vp_in x4 6 ∧ r_X1_addTo_3 E x1 x2 x3 (x4 + 1) (up τ2 57 x4.toNatClampNeg ((τ2 57 x4.toNatClampNeg) + x2)) Q)))))))) : r_X1_addTo_3 E x1 x2 x3 x4 σ Q := by
  intro p e R s m args below meth c Z cells slots H locs ls C0 hH hl hret
  have hx := C0.1
  have hb : c.code = cX1_addTo := C0.2.1
  have hl : lv_has ls 5 [(0, .ref (Ad E 56)), (1, .int x1), (2, .int x2), (3, .int x3), (4, .int x4)] := hl
  refine lv_iload hx hb dX1_addTo_3 (lv_at hl 4 rfl) ?_
  refine lv_iload_n hx hb dX1_addTo_5 rfl (lv_at hl 3 rfl) ?_
  refine lv_icmp_ge (tgt := 35) hx hb dX1_addTo_6 (by decide) (fun hc1 => ?_) (fun hc1 => ?_)
  · have h := h.1 hc1
    exact hret none _ _ _ _ _ ⟨rfl, h⟩ hH ⟨dX1_addTo_35, rfl⟩
  · have h := h.2 hc1
    refine lv_iload_n hx hb dX1_addTo_9 rfl (lv_at hl 1 rfl) ?_
    refine lv_iload hx hb dX1_addTo_10 (lv_at hl 4 rfl) ?_
    refine m_cN (M2 := M_X9_hasBit) (As := [.int x1, .int x4]) (rest := []) h C0 hH hl kc_X9_hasBit ks_X9_hasBit kN_X1_62 rfl (Nat.le_of_ble_eq_true rfl) (Nat.le_of_ble_eq_true rfl) ⟨Nat.le_of_ble_eq_true rfl, Nat.le_of_ble_eq_true rfl⟩ dX1_addTo_12 rfl (fun r τ2 H locs hq hH => ?_)
    obtain ⟨r3, rfl, h⟩ := hq
    refine lv_if_eq (tgt := 29) hx hb dX1_addTo_15 (by decide) (fun hc4 => ?_) (fun hc4 => ?_)
    · have h := h.1 hc4
      refine lv_iinc (v := (x4 + 1)) (lv' := [(4, .int (x4 + 1)), (0, .ref (Ad E 56)), (1, .int x1), (2, .int x2), (3, .int x3)]) hx hb dX1_addTo_29 hl (k := 4) rfl rfl (by decide) rfl (fun ls hl => ?_)
      refine lv_goto (tgt := 3) hx hb dX1_addTo_32 (by decide) ?_
      exact h p e R s m args below meth c Z cells slots H locs ls C0 hH (lv_sub hl [1, 2, 3, 4, 0] rfl) hret
    · have h := h.2 hc4
      refine lv_aload_n hx hb dX1_addTo_18 rfl (lv_at hl 0 rfl) ?_
      refine m_getr C0 hH f_56_0 57 rfl kF_X1_9 dX1_addTo_19 ?_
      refine lv_iload hx hb dX1_addTo_22 (lv_at hl 4 rfl) ?_
      refine lv_dup2_11 hx hb dX1_addTo_24 rfl rfl ?_
      refine m_iald (x := τ2 57 x4.toNatClampNeg) C0 hH a_57 h.1 dX1_addTo_25 rfl ?_
      have h := h.2
      refine lv_iload_n hx hb dX1_addTo_26 rfl (lv_at hl 2 rfl) ?_
      refine lv_iadd hx hb dX1_addTo_27 ?_
      refine m_iast (j := x4.toNatClampNeg) C0 hH a_57 h.1 rfl dX1_addTo_28 (fun H locs hH => ?_)
      have h := h.2
      refine lv_iinc (v := (x4 + 1)) (lv' := [(4, .int (x4 + 1)), (0, .ref (Ad E 56)), (1, .int x1), (2, .int x2), (3, .int x3)]) hx hb dX1_addTo_29 hl (k := 4) rfl rfl (by decide) rfl (fun ls hl => ?_)
      refine lv_goto (tgt := 3) hx hb dX1_addTo_32 (by decide) ?_
      exact h p e R s m args below meth c Z cells slots H locs ls C0 hH (lv_sub hl [1, 2, 3, 4, 0] rfl) hret

def r_X1_fillParts_58_0 (E : EE) (x1 : Int32) (σ : Mm) (Q : Mm → Prop) : Prop := Rn E M_X1_fillParts 0 [(0, .ref (Ad E 58)), (1, .int x1)] [] σ (qv Q)
def r_X1_fillParts_58_6 (E : EE) (x1 : Int32) (x2 : Int32) (σ : Mm) (Q : Mm → Prop) : Prop := Rn E M_X1_fillParts 6 [(0, .ref (Ad E 58)), (1, .int x1), (2, .int x2)] [] σ (qv Q)
set_option maxRecDepth 20000 in
set_option maxHeartbeats 4000000 in
theorem s_X1_fillParts_58_0 (E : EE) (x1 : Int32) (σ : Mm) (Q : Mm → Prop) (h : r_X1_fillParts_58_6 E x1 1 (up σ 58 0 1) Q) : r_X1_fillParts_58_0 E x1 σ Q := by
  intro p e R s m args below meth c Z cells slots H locs ls C0 hH hl hret
  have hx := C0.1
  have hb : c.code = cX1_fillParts := C0.2.1
  have hl : lv_has ls 3 [(0, .ref (Ad E 58)), (1, .int x1)] := hl
  refine lv_aload_n hx hb dX1_fillParts_0 rfl (lv_at hl 0 rfl) ?_
  refine lv_iconst (v := 0) hx hb dX1_fillParts_1 (by decide) ?_
  refine lv_iconst (v := 1) hx hb dX1_fillParts_2 (by decide) ?_
  refine m_iast (j := 0) C0 hH a_58 (vin (by decide)) rfl dX1_fillParts_3 (fun H locs hH => ?_)
  refine lv_iconst (v := 1) hx hb dX1_fillParts_4 (by decide) ?_
  refine lv_istore_n (lv' := [(2, .int 1), (0, .ref (Ad E 58)), (1, .int x1)]) hx hb dX1_fillParts_5 rfl hl (by decide) rfl (fun ls hl => ?_)
  exact h p e R s m args below meth c Z cells slots H locs ls C0 hH (lv_sub hl [1, 2, 0] rfl) hret
set_option maxRecDepth 20000 in
set_option maxHeartbeats 4000000 in
theorem s_X1_fillParts_58_6 (E : EE) (x1 : Int32) (x2 : Int32) (σ : Mm) (Q : Mm → Prop) (h : ((9 ≤ x2 → Q σ) ∧ (¬ 9 ≤ x2 → (vp_in (x2 - 1) 9 ∧ (vp_in x2 9 ∧ r_X1_fillParts_58_6 E x1 (x2 + 1) (up σ 58 x2.toNatClampNeg ((σ 58 ((x2 - 1).toNatClampNeg)) * x1)) Q))))) : r_X1_fillParts_58_6 E x1 x2 σ Q := by
  intro p e R s m args below meth c Z cells slots H locs ls C0 hH hl hret
  have hx := C0.1
  have hb : c.code = cX1_fillParts := C0.2.1
  have hl : lv_has ls 3 [(0, .ref (Ad E 58)), (1, .int x1), (2, .int x2)] := hl
  refine lv_iload_n hx hb dX1_fillParts_6 rfl (lv_at hl 2 rfl) ?_
  refine lv_aload_n hx hb dX1_fillParts_7 rfl (lv_at hl 0 rfl) ?_
  refine m_alen (x := 9) C0 hH a_58 dX1_fillParts_8 (by decide) ?_
  refine lv_icmp_ge (tgt := 28) hx hb dX1_fillParts_9 (by decide) (fun hc1 => ?_) (fun hc1 => ?_)
  · have h := h.1 hc1
    exact hret none _ _ _ _ _ ⟨rfl, h⟩ hH ⟨dX1_fillParts_28, rfl⟩
  · have h := h.2 hc1
    refine lv_aload_n hx hb dX1_fillParts_12 rfl (lv_at hl 0 rfl) ?_
    refine lv_iload_n hx hb dX1_fillParts_13 rfl (lv_at hl 2 rfl) ?_
    refine lv_aload_n hx hb dX1_fillParts_14 rfl (lv_at hl 0 rfl) ?_
    refine lv_iload_n hx hb dX1_fillParts_15 rfl (lv_at hl 2 rfl) ?_
    refine lv_iconst (v := 1) hx hb dX1_fillParts_16 (by decide) ?_
    refine lv_isub hx hb dX1_fillParts_17 ?_
    refine m_iald (x := σ 58 ((x2 - 1).toNatClampNeg)) C0 hH a_58 h.1 dX1_fillParts_18 rfl ?_
    have h := h.2
    refine lv_iload_n hx hb dX1_fillParts_19 rfl (lv_at hl 1 rfl) ?_
    refine lv_imul hx hb dX1_fillParts_20 ?_
    refine m_iast (j := x2.toNatClampNeg) C0 hH a_58 h.1 rfl dX1_fillParts_21 (fun H locs hH => ?_)
    have h := h.2
    refine lv_iinc (v := (x2 + 1)) (lv' := [(2, .int (x2 + 1)), (0, .ref (Ad E 58)), (1, .int x1)]) hx hb dX1_fillParts_22 hl (k := 2) rfl rfl (by decide) rfl (fun ls hl => ?_)
    refine lv_goto (tgt := 6) hx hb dX1_fillParts_25 (by decide) ?_
    exact h p e R s m args below meth c Z cells slots H locs ls C0 hH (lv_sub hl [1, 2, 0] rfl) hret

def r_X1_fillParts_59_0 (E : EE) (x1 : Int32) (σ : Mm) (Q : Mm → Prop) : Prop := Rn E M_X1_fillParts 0 [(0, .ref (Ad E 59)), (1, .int x1)] [] σ (qv Q)
def r_X1_fillParts_59_6 (E : EE) (x1 : Int32) (x2 : Int32) (σ : Mm) (Q : Mm → Prop) : Prop := Rn E M_X1_fillParts 6 [(0, .ref (Ad E 59)), (1, .int x1), (2, .int x2)] [] σ (qv Q)
set_option maxRecDepth 20000 in
set_option maxHeartbeats 4000000 in
theorem s_X1_fillParts_59_0 (E : EE) (x1 : Int32) (σ : Mm) (Q : Mm → Prop) (h : r_X1_fillParts_59_6 E x1 1 (up σ 59 0 1) Q) : r_X1_fillParts_59_0 E x1 σ Q := by
  intro p e R s m args below meth c Z cells slots H locs ls C0 hH hl hret
  have hx := C0.1
  have hb : c.code = cX1_fillParts := C0.2.1
  have hl : lv_has ls 3 [(0, .ref (Ad E 59)), (1, .int x1)] := hl
  refine lv_aload_n hx hb dX1_fillParts_0 rfl (lv_at hl 0 rfl) ?_
  refine lv_iconst (v := 0) hx hb dX1_fillParts_1 (by decide) ?_
  refine lv_iconst (v := 1) hx hb dX1_fillParts_2 (by decide) ?_
  refine m_iast (j := 0) C0 hH a_59 (vin (by decide)) rfl dX1_fillParts_3 (fun H locs hH => ?_)
  refine lv_iconst (v := 1) hx hb dX1_fillParts_4 (by decide) ?_
  refine lv_istore_n (lv' := [(2, .int 1), (0, .ref (Ad E 59)), (1, .int x1)]) hx hb dX1_fillParts_5 rfl hl (by decide) rfl (fun ls hl => ?_)
  exact h p e R s m args below meth c Z cells slots H locs ls C0 hH (lv_sub hl [1, 2, 0] rfl) hret
set_option maxRecDepth 20000 in
set_option maxHeartbeats 4000000 in
theorem s_X1_fillParts_59_6 (E : EE) (x1 : Int32) (x2 : Int32) (σ : Mm) (Q : Mm → Prop) (h : ((9 ≤ x2 → Q σ) ∧ (¬ 9 ≤ x2 → (vp_in (x2 - 1) 9 ∧ (vp_in x2 9 ∧ r_X1_fillParts_59_6 E x1 (x2 + 1) (up σ 59 x2.toNatClampNeg ((σ 59 ((x2 - 1).toNatClampNeg)) * x1)) Q))))) : r_X1_fillParts_59_6 E x1 x2 σ Q := by
  intro p e R s m args below meth c Z cells slots H locs ls C0 hH hl hret
  have hx := C0.1
  have hb : c.code = cX1_fillParts := C0.2.1
  have hl : lv_has ls 3 [(0, .ref (Ad E 59)), (1, .int x1), (2, .int x2)] := hl
  refine lv_iload_n hx hb dX1_fillParts_6 rfl (lv_at hl 2 rfl) ?_
  refine lv_aload_n hx hb dX1_fillParts_7 rfl (lv_at hl 0 rfl) ?_
  refine m_alen (x := 9) C0 hH a_59 dX1_fillParts_8 (by decide) ?_
  refine lv_icmp_ge (tgt := 28) hx hb dX1_fillParts_9 (by decide) (fun hc1 => ?_) (fun hc1 => ?_)
  · have h := h.1 hc1
    exact hret none _ _ _ _ _ ⟨rfl, h⟩ hH ⟨dX1_fillParts_28, rfl⟩
  · have h := h.2 hc1
    refine lv_aload_n hx hb dX1_fillParts_12 rfl (lv_at hl 0 rfl) ?_
    refine lv_iload_n hx hb dX1_fillParts_13 rfl (lv_at hl 2 rfl) ?_
    refine lv_aload_n hx hb dX1_fillParts_14 rfl (lv_at hl 0 rfl) ?_
    refine lv_iload_n hx hb dX1_fillParts_15 rfl (lv_at hl 2 rfl) ?_
    refine lv_iconst (v := 1) hx hb dX1_fillParts_16 (by decide) ?_
    refine lv_isub hx hb dX1_fillParts_17 ?_
    refine m_iald (x := σ 59 ((x2 - 1).toNatClampNeg)) C0 hH a_59 h.1 dX1_fillParts_18 rfl ?_
    have h := h.2
    refine lv_iload_n hx hb dX1_fillParts_19 rfl (lv_at hl 1 rfl) ?_
    refine lv_imul hx hb dX1_fillParts_20 ?_
    refine m_iast (j := x2.toNatClampNeg) C0 hH a_59 h.1 rfl dX1_fillParts_21 (fun H locs hH => ?_)
    have h := h.2
    refine lv_iinc (v := (x2 + 1)) (lv' := [(2, .int (x2 + 1)), (0, .ref (Ad E 59)), (1, .int x1)]) hx hb dX1_fillParts_22 hl (k := 2) rfl rfl (by decide) rfl (fun ls hl => ?_)
    refine lv_goto (tgt := 6) hx hb dX1_fillParts_25 (by decide) ?_
    exact h p e R s m args below meth c Z cells slots H locs ls C0 hH (lv_sub hl [1, 2, 0] rfl) hret

def r_X1_fill_0 (E : EE) (x2 : Int32) (σ : Mm) (Q : Mm → Prop) : Prop := Rn E M_X1_fill 0 [(0, .ref (Ad E 56)), (1, .ref (Ad E 14)), (2, .int x2), (3, .ref (Ad E 44))] [] σ (qv Q)
def r_X1_fill_36 (E : EE) (x2 : Int32) (x4 : Int32) (x5 : Int32) (x6 : Int32) (x7 : Int32) (σ : Mm) (Q : Mm → Prop) : Prop := Rn E M_X1_fill 36 [(0, .ref (Ad E 56)), (1, .ref (Ad E 14)), (2, .int x2), (3, .ref (Ad E 44)), (4, .int x4), (5, .int x5), (6, .int x6), (7, .int x7)] [] σ (qv Q)
def r_X1_fill_82 (E : EE) (x2 : Int32) (x4 : Int32) (x5 : Int32) (x6 : Int32) (x7 : Int32) (σ : Mm) (Q : Mm → Prop) : Prop := Rn E M_X1_fill 82 [(0, .ref (Ad E 56)), (1, .ref (Ad E 14)), (2, .int x2), (3, .ref (Ad E 44)), (4, .int x4), (5, .int x5), (6, .int x6), (7, .int x7)] [] σ (qv Q)
def r_X1_fill_108 (E : EE) (x2 : Int32) (x4 : Int32) (x5 : Int32) (x6 : Int32) (x7 : Int32) (σ : Mm) (Q : Mm → Prop) : Prop := Rn E M_X1_fill 108 [(0, .ref (Ad E 56)), (1, .ref (Ad E 14)), (2, .int x2), (3, .ref (Ad E 44)), (4, .int x4), (5, .int x5), (6, .int x6), (7, .int x7)] [] σ (qv Q)
set_option maxRecDepth 20000 in
set_option maxHeartbeats 4000000 in
theorem s_X1_fill_0 (E : EE) (x2 : Int32) (σ : Mm) (Q : Mm → Prop) (h : r_J6_bitCount_0f7a4_0 E (((1 <<< ((σ 14 2) &&& 31)) - 1) &&& ((σ 14 3) ^^^ (-1))) σ (fun r2 τ1 => r_X1_fill_36 E x2 ((1 <<< ((σ 14 2) &&& 31)) - 1) (((1 <<< ((σ 14 2) &&& 31)) - 1) &&& ((σ 14 3) ^^^ (-1))) r2 0 (up τ1 56 3 1) Q)) : r_X1_fill_0 E x2 σ Q := by
  intro p e R s m args below meth c Z cells slots H locs ls C0 hH hl hret
  have hx := C0.1
  have hb : c.code = cX1_fill := C0.2.1
  have hl : lv_has ls 10 [(0, .ref (Ad E 56)), (1, .ref (Ad E 14)), (2, .int x2), (3, .ref (Ad E 44))] := hl
  refine lv_iconst (v := 1) hx hb dX1_fill_0 (by decide) ?_
  refine lv_aload_n hx hb dX1_fill_1 rfl (lv_at hl 1 rfl) ?_
  refine m_geti (x := σ 14 2) C0 hH f_14_2 kF_X1_25 dX1_fill_2 rfl ?_
  refine lv_ishl hx hb dX1_fill_5 ?_
  refine lv_iconst (v := 1) hx hb dX1_fill_6 (by decide) ?_
  refine lv_isub hx hb dX1_fill_7 ?_
  refine lv_istore (lv' := [(4, .int ((1 <<< ((σ 14 2) &&& 31)) - 1)), (0, .ref (Ad E 56)), (1, .ref (Ad E 14)), (2, .int x2), (3, .ref (Ad E 44))]) hx hb dX1_fill_8 hl (by decide) rfl (fun ls hl => ?_)
  refine lv_iload hx hb dX1_fill_10 (lv_at hl 0 rfl) ?_
  refine lv_aload_n hx hb dX1_fill_12 rfl (lv_at hl 2 rfl) ?_
  refine m_geti (x := σ 14 3) C0 hH f_14_3 kF_X1_30 dX1_fill_13 rfl ?_
  refine lv_iconst (v := (-1)) hx hb dX1_fill_16 (by decide) ?_
  refine lv_ixor hx hb dX1_fill_17 ?_
  refine lv_iand hx hb dX1_fill_18 ?_
  refine lv_istore (lv' := [(5, .int (((1 <<< ((σ 14 2) &&& 31)) - 1) &&& ((σ 14 3) ^^^ (-1)))), (4, .int ((1 <<< ((σ 14 2) &&& 31)) - 1)), (0, .ref (Ad E 56)), (1, .ref (Ad E 14)), (2, .int x2), (3, .ref (Ad E 44))]) hx hb dX1_fill_19 hl (by decide) rfl (fun ls hl => ?_)
  refine lv_iload hx hb dX1_fill_21 (lv_at hl 0 rfl) ?_
  refine m_cS (M2 := M_J6_bitCount_0f7a4) (As := [.int (((1 <<< ((σ 14 2) &&& 31)) - 1) &&& ((σ 14 3) ^^^ (-1)))]) (rest := []) h C0 hH hl kc_J6_bitCount_0f7a4 ks_J6_bitCount_0f7a4 kM_X1_33 rfl (Nat.le_of_ble_eq_true rfl) (Nat.le_of_ble_eq_true rfl) ⟨Nat.le_of_ble_eq_true rfl, Nat.le_of_ble_eq_true rfl⟩ dX1_fill_23 rfl (fun r τ1 H locs hq hH => ?_)
  obtain ⟨r2, rfl, h⟩ := hq
  refine lv_istore (lv' := [(6, .int r2), (5, .int (((1 <<< ((σ 14 2) &&& 31)) - 1) &&& ((σ 14 3) ^^^ (-1)))), (4, .int ((1 <<< ((σ 14 2) &&& 31)) - 1)), (0, .ref (Ad E 56)), (1, .ref (Ad E 14)), (2, .int x2), (3, .ref (Ad E 44))]) hx hb dX1_fill_26 hl (by decide) rfl (fun ls hl => ?_)
  refine lv_aload_n hx hb dX1_fill_28 rfl (lv_at hl 3 rfl) ?_
  refine lv_iconst (v := 1) hx hb dX1_fill_29 (by decide) ?_
  refine m_puti C0 hH f_56_3 kF_X1_21 rfl dX1_fill_30 rfl rfl (fun H locs hH => ?_)
  refine lv_iconst (v := 0) hx hb dX1_fill_33 (by decide) ?_
  refine lv_istore (lv' := [(7, .int 0), (6, .int r2), (5, .int (((1 <<< ((σ 14 2) &&& 31)) - 1) &&& ((σ 14 3) ^^^ (-1)))), (4, .int ((1 <<< ((σ 14 2) &&& 31)) - 1)), (0, .ref (Ad E 56)), (1, .ref (Ad E 14)), (2, .int x2), (3, .ref (Ad E 44))]) hx hb dX1_fill_34 hl (by decide) rfl (fun ls hl => ?_)
  exact h p e R s m args below meth c Z cells slots H locs ls C0 hH (lv_sub hl [4, 5, 6, 7, 3, 2, 1, 0] rfl) hret
set_option maxRecDepth 20000 in
set_option maxHeartbeats 4000000 in
theorem s_X1_fill_36 (E : EE) (x2 : Int32) (x4 : Int32) (x5 : Int32) (x6 : Int32) (x7 : Int32) (σ : Mm) (Q : Mm → Prop) (h : ((x6 ≤ x7 → r_X1_fillParts_58_0 E x2 σ (fun τ2 => r_X1_fillParts_59_0 E (10 - x2) τ2 (fun τ3 => r_X1_fill_82 E x2 x4 x5 x6 0 τ3 Q))) ∧ (¬ x6 ≤ x7 → r_X1_fill_36 E x2 x4 x5 x6 (x7 + 1) (up σ 56 3 ((σ 56 3) * 10)) Q))) : r_X1_fill_36 E x2 x4 x5 x6 x7 σ Q := by
  intro p e R s m args below meth c Z cells slots H locs ls C0 hH hl hret
  have hx := C0.1
  have hb : c.code = cX1_fill := C0.2.1
  have hl : lv_has ls 10 [(0, .ref (Ad E 56)), (1, .ref (Ad E 14)), (2, .int x2), (3, .ref (Ad E 44)), (4, .int x4), (5, .int x5), (6, .int x6), (7, .int x7)] := hl
  refine lv_iload hx hb dX1_fill_36 (lv_at hl 7 rfl) ?_
  refine lv_iload hx hb dX1_fill_38 (lv_at hl 6 rfl) ?_
  refine lv_icmp_ge (tgt := 60) hx hb dX1_fill_40 (by decide) (fun hc1 => ?_) (fun hc1 => ?_)
  · have h := h.1 hc1
    refine lv_aload_n hx hb dX1_fill_60 rfl (lv_at hl 0 rfl) ?_
    refine m_getr C0 hH f_56_1 58 rfl kF_X1_15 dX1_fill_61 ?_
    refine lv_iload_n hx hb dX1_fill_64 rfl (lv_at hl 2 rfl) ?_
    refine m_cS (M2 := M_X1_fillParts) (As := [.ref (Ad E 58), .int x2]) (rest := []) h C0 hH hl kc_X1_fillParts ks_X1_fillParts kM_X1_39 rfl (Nat.le_of_ble_eq_true rfl) (Nat.le_of_ble_eq_true rfl) ⟨Nat.le_of_ble_eq_true rfl, Nat.le_of_ble_eq_true rfl⟩ dX1_fill_65 rfl (fun r τ2 H locs hq hH => ?_)
    obtain ⟨rfl, h⟩ := hq
    refine lv_aload_n hx hb dX1_fill_68 rfl (lv_at hl 0 rfl) ?_
    refine m_getr C0 hH f_56_2 59 rfl kF_X1_18 dX1_fill_69 ?_
    refine lv_bipush (v := 10) hx hb dX1_fill_72 (by decide) ?_
    refine lv_iload_n hx hb dX1_fill_74 rfl (lv_at hl 2 rfl) ?_
    refine lv_isub hx hb dX1_fill_75 ?_
    refine m_cS (M2 := M_X1_fillParts) (As := [.ref (Ad E 59), .int (10 - x2)]) (rest := []) h C0 hH hl kc_X1_fillParts ks_X1_fillParts kM_X1_39 rfl (Nat.le_of_ble_eq_true rfl) (Nat.le_of_ble_eq_true rfl) ⟨Nat.le_of_ble_eq_true rfl, Nat.le_of_ble_eq_true rfl⟩ dX1_fill_76 rfl (fun r τ3 H locs hq hH => ?_)
    obtain ⟨rfl, h⟩ := hq
    refine lv_iconst (v := 0) hx hb dX1_fill_79 (by decide) ?_
    refine lv_istore (lv' := [(7, .int 0), (0, .ref (Ad E 56)), (1, .ref (Ad E 14)), (2, .int x2), (3, .ref (Ad E 44)), (4, .int x4), (5, .int x5), (6, .int x6)]) hx hb dX1_fill_80 hl (by decide) rfl (fun ls hl => ?_)
    exact h p e R s m args below meth c Z cells slots H locs ls C0 hH (lv_sub hl [1, 2, 3, 4, 5, 6, 7, 0] rfl) hret
  · have h := h.2 hc1
    refine lv_aload_n hx hb dX1_fill_43 rfl (lv_at hl 0 rfl) ?_
    refine lv_dup hx hb dX1_fill_44 rfl ?_
    refine m_geti (x := σ 56 3) C0 hH f_56_3 kF_X1_21 dX1_fill_45 rfl ?_
    refine lv_bipush (v := 10) hx hb dX1_fill_48 (by decide) ?_
    refine lv_imul hx hb dX1_fill_50 ?_
    refine m_puti C0 hH f_56_3 kF_X1_21 rfl dX1_fill_51 rfl rfl (fun H locs hH => ?_)
    refine lv_iinc (v := (x7 + 1)) (lv' := [(7, .int (x7 + 1)), (0, .ref (Ad E 56)), (1, .ref (Ad E 14)), (2, .int x2), (3, .ref (Ad E 44)), (4, .int x4), (5, .int x5), (6, .int x6)]) hx hb dX1_fill_54 hl (k := 7) rfl rfl (by decide) rfl (fun ls hl => ?_)
    refine lv_goto (tgt := 36) hx hb dX1_fill_57 (by decide) ?_
    exact h p e R s m args below meth c Z cells slots H locs ls C0 hH (lv_sub hl [1, 2, 3, 4, 5, 6, 7, 0] rfl) hret
set_option maxRecDepth 20000 in
set_option maxHeartbeats 4000000 in
theorem s_X1_fill_82 (E : EE) (x2 : Int32) (x4 : Int32) (x5 : Int32) (x6 : Int32) (x7 : Int32) (σ : Mm) (Q : Mm → Prop) (h : (((σ 14 1) ≤ x7 → r_X1_fill_108 E x2 x4 x5 x6 0 σ Q) ∧ (¬ (σ 14 1) ≤ x7 → (vp_in x7 6 ∧ r_X1_fill_82 E x2 x4 x5 x6 (x7 + 1) (up σ 57 x7.toNatClampNeg 0) Q)))) : r_X1_fill_82 E x2 x4 x5 x6 x7 σ Q := by
  intro p e R s m args below meth c Z cells slots H locs ls C0 hH hl hret
  have hx := C0.1
  have hb : c.code = cX1_fill := C0.2.1
  have hl : lv_has ls 10 [(0, .ref (Ad E 56)), (1, .ref (Ad E 14)), (2, .int x2), (3, .ref (Ad E 44)), (4, .int x4), (5, .int x5), (6, .int x6), (7, .int x7)] := hl
  refine lv_iload hx hb dX1_fill_82 (lv_at hl 7 rfl) ?_
  refine lv_aload_n hx hb dX1_fill_84 rfl (lv_at hl 1 rfl) ?_
  refine m_geti (x := σ 14 1) C0 hH f_14_1 kF_X1_43 dX1_fill_85 rfl ?_
  refine lv_icmp_ge (tgt := 105) hx hb dX1_fill_88 (by decide) (fun hc1 => ?_) (fun hc1 => ?_)
  · have h := h.1 hc1
    refine lv_iconst (v := 0) hx hb dX1_fill_105 (by decide) ?_
    refine lv_istore (lv' := [(7, .int 0), (0, .ref (Ad E 56)), (1, .ref (Ad E 14)), (2, .int x2), (3, .ref (Ad E 44)), (4, .int x4), (5, .int x5), (6, .int x6)]) hx hb dX1_fill_106 hl (by decide) rfl (fun ls hl => ?_)
    exact h p e R s m args below meth c Z cells slots H locs ls C0 hH (lv_sub hl [1, 2, 3, 4, 5, 6, 7, 0] rfl) hret
  · have h := h.2 hc1
    refine lv_aload_n hx hb dX1_fill_91 rfl (lv_at hl 0 rfl) ?_
    refine m_getr C0 hH f_56_0 57 rfl kF_X1_9 dX1_fill_92 ?_
    refine lv_iload hx hb dX1_fill_95 (lv_at hl 7 rfl) ?_
    refine lv_iconst (v := 0) hx hb dX1_fill_97 (by decide) ?_
    refine m_iast (j := x7.toNatClampNeg) C0 hH a_57 h.1 rfl dX1_fill_98 (fun H locs hH => ?_)
    have h := h.2
    refine lv_iinc (v := (x7 + 1)) (lv' := [(7, .int (x7 + 1)), (0, .ref (Ad E 56)), (1, .ref (Ad E 14)), (2, .int x2), (3, .ref (Ad E 44)), (4, .int x4), (5, .int x5), (6, .int x6)]) hx hb dX1_fill_99 hl (k := 7) rfl rfl (by decide) rfl (fun ls hl => ?_)
    refine lv_goto (tgt := 82) hx hb dX1_fill_102 (by decide) ?_
    exact h p e R s m args below meth c Z cells slots H locs ls C0 hH (lv_sub hl [1, 2, 3, 4, 5, 6, 7, 0] rfl) hret
set_option maxRecDepth 20000 in
set_option maxHeartbeats 4000000 in
theorem s_X1_fill_108 (E : EE) (x2 : Int32) (x4 : Int32) (x5 : Int32) (x6 : Int32) (x7 : Int32) (σ : Mm) (Q : Mm → Prop) (h : ((x4 < x7 → Q σ) ∧ (¬ x4 < x7 → ((¬ (x7 &&& (x5 ^^^ (-1))) = 0 → r_X1_fill_108 E x2 x4 x5 x6 (x7 + 1) σ Q) ∧ ((x7 &&& (x5 ^^^ (-1))) = 0 → r_J6_bitCount_0f7a4_0 E x7 σ (fun r4 τ3 => (vp_in r4 9 ∧ (vp_in (x6 - r4) 9 ∧ ((((τ3 58 r4.toNatClampNeg) * (τ3 59 ((x6 - r4).toNatClampNeg))) ≤ 0 → r_X1_fill_108 E x2 x4 x5 x6 (x7 + 1) τ3 Q) ∧ (¬ ((τ3 58 r4.toNatClampNeg) * (τ3 59 ((x6 - r4).toNatClampNeg))) ≤ 0 → r_X0_fill_14_0 E ((τ3 14 3) ||| x7) τ3 (fun τ6 => r_X0_sitters_0 E (τ6 14 0) τ6 (fun r8 τ7 => r_X1_addTo_0 E r8 ((τ3 58 r4.toNatClampNeg) * (τ3 59 ((x6 - r4).toNatClampNeg))) (τ7 14 1) τ7 (fun τ9 => r_X1_fill_108 E x2 x4 x5 x6 (x7 + 1) τ9 Q))))))))))))) : r_X1_fill_108 E x2 x4 x5 x6 x7 σ Q := by
  intro p e R s m args below meth c Z cells slots H locs ls C0 hH hl hret
  have hx := C0.1
  have hb : c.code = cX1_fill := C0.2.1
  have hl : lv_has ls 10 [(0, .ref (Ad E 56)), (1, .ref (Ad E 14)), (2, .int x2), (3, .ref (Ad E 44)), (4, .int x4), (5, .int x5), (6, .int x6), (7, .int x7)] := hl
  refine lv_iload hx hb dX1_fill_108 (lv_at hl 7 rfl) ?_
  refine lv_iload hx hb dX1_fill_110 (lv_at hl 4 rfl) ?_
  refine lv_icmp_gt (tgt := 193) hx hb dX1_fill_112 (by decide) (fun hc1 => ?_) (fun hc1 => ?_)
  · have h := h.1 hc1
    exact hret none _ _ _ _ _ ⟨rfl, h⟩ hH ⟨dX1_fill_193, rfl⟩
  · have h := h.2 hc1
    refine lv_iload hx hb dX1_fill_115 (lv_at hl 7 rfl) ?_
    refine lv_iload hx hb dX1_fill_117 (lv_at hl 5 rfl) ?_
    refine lv_iconst (v := (-1)) hx hb dX1_fill_119 (by decide) ?_
    refine lv_ixor hx hb dX1_fill_120 ?_
    refine lv_iand hx hb dX1_fill_121 ?_
    refine lv_if_ne (tgt := 187) hx hb dX1_fill_122 (by decide) (fun hc2 => ?_) (fun hc2 => ?_)
    · have h := h.1 hc2
      refine lv_iinc (v := (x7 + 1)) (lv' := [(7, .int (x7 + 1)), (0, .ref (Ad E 56)), (1, .ref (Ad E 14)), (2, .int x2), (3, .ref (Ad E 44)), (4, .int x4), (5, .int x5), (6, .int x6)]) hx hb dX1_fill_187 hl (k := 7) rfl rfl (by decide) rfl (fun ls hl => ?_)
      refine lv_goto (tgt := 108) hx hb dX1_fill_190 (by decide) ?_
      exact h p e R s m args below meth c Z cells slots H locs ls C0 hH (lv_sub hl [1, 2, 3, 4, 5, 6, 7, 0] rfl) hret
    · have h := h.2 hc2
      refine lv_iload hx hb dX1_fill_125 (lv_at hl 7 rfl) ?_
      refine m_cS (M2 := M_J6_bitCount_0f7a4) (As := [.int x7]) (rest := []) h C0 hH hl kc_J6_bitCount_0f7a4 ks_J6_bitCount_0f7a4 kM_X1_33 rfl (Nat.le_of_ble_eq_true rfl) (Nat.le_of_ble_eq_true rfl) ⟨Nat.le_of_ble_eq_true rfl, Nat.le_of_ble_eq_true rfl⟩ dX1_fill_127 rfl (fun r τ3 H locs hq hH => ?_)
      obtain ⟨r4, rfl, h⟩ := hq
      refine lv_istore (lv' := [(8, .int r4), (0, .ref (Ad E 56)), (1, .ref (Ad E 14)), (2, .int x2), (3, .ref (Ad E 44)), (4, .int x4), (5, .int x5), (6, .int x6), (7, .int x7)]) hx hb dX1_fill_130 hl (by decide) rfl (fun ls hl => ?_)
      refine lv_aload_n hx hb dX1_fill_132 rfl (lv_at hl 1 rfl) ?_
      refine m_getr C0 hH f_56_1 58 rfl kF_X1_15 dX1_fill_133 ?_
      refine lv_iload hx hb dX1_fill_136 (lv_at hl 0 rfl) ?_
      refine m_iald (x := τ3 58 r4.toNatClampNeg) C0 hH a_58 h.1 dX1_fill_138 rfl ?_
      have h := h.2
      refine lv_aload_n hx hb dX1_fill_139 rfl (lv_at hl 1 rfl) ?_
      refine m_getr C0 hH f_56_2 59 rfl kF_X1_18 dX1_fill_140 ?_
      refine lv_iload hx hb dX1_fill_143 (lv_at hl 7 rfl) ?_
      refine lv_iload hx hb dX1_fill_145 (lv_at hl 0 rfl) ?_
      refine lv_isub hx hb dX1_fill_147 ?_
      refine m_iald (x := τ3 59 ((x6 - r4).toNatClampNeg)) C0 hH a_59 h.1 dX1_fill_148 rfl ?_
      have h := h.2
      refine lv_imul hx hb dX1_fill_149 ?_
      refine lv_istore (lv' := [(9, .int ((τ3 58 r4.toNatClampNeg) * (τ3 59 ((x6 - r4).toNatClampNeg)))), (8, .int r4), (0, .ref (Ad E 56)), (1, .ref (Ad E 14)), (2, .int x2), (3, .ref (Ad E 44)), (4, .int x4), (5, .int x5), (6, .int x6), (7, .int x7)]) hx hb dX1_fill_150 hl (by decide) rfl (fun ls hl => ?_)
      refine lv_iload hx hb dX1_fill_152 (lv_at hl 0 rfl) ?_
      refine lv_if_le (tgt := 187) hx hb dX1_fill_154 (by decide) (fun hc5 => ?_) (fun hc5 => ?_)
      · have h := h.1 hc5
        refine lv_iinc (v := (x7 + 1)) (lv' := [(7, .int (x7 + 1)), (9, .int ((τ3 58 r4.toNatClampNeg) * (τ3 59 ((x6 - r4).toNatClampNeg)))), (8, .int r4), (0, .ref (Ad E 56)), (1, .ref (Ad E 14)), (2, .int x2), (3, .ref (Ad E 44)), (4, .int x4), (5, .int x5), (6, .int x6)]) hx hb dX1_fill_187 hl (k := 9) rfl rfl (by decide) rfl (fun ls hl => ?_)
        refine lv_goto (tgt := 108) hx hb dX1_fill_190 (by decide) ?_
        exact h p e R s m args below meth c Z cells slots H locs ls C0 hH (lv_sub hl [3, 4, 5, 6, 7, 8, 9, 0] rfl) hret
      · have h := h.2 hc5
        refine lv_aload_n hx hb dX1_fill_157 rfl (lv_at hl 5 rfl) ?_
        refine lv_aload_n hx hb dX1_fill_158 rfl (lv_at hl 3 rfl) ?_
        refine lv_aload_n hx hb dX1_fill_159 rfl (lv_at hl 3 rfl) ?_
        refine m_geti (x := τ3 14 3) C0 hH f_14_3 kF_X1_30 dX1_fill_160 rfl ?_
        refine lv_iload hx hb dX1_fill_163 (lv_at hl 9 rfl) ?_
        refine lv_ior hx hb dX1_fill_165 ?_
        refine m_cV (M2 := M_X0_fill) (As := [.ref (Ad E 14), .int ((τ3 14 3) ||| x7)]) (rest := []) h C0 hH hl kc_X0_fill ki_X0_fill kx_X0_fill ob_44 kM_X1_46 rfl (Nat.le_of_ble_eq_true rfl) (Nat.le_of_ble_eq_true rfl) ⟨Nat.le_of_ble_eq_true rfl, Nat.le_of_ble_eq_true rfl⟩ dX1_fill_166 rfl (fun r τ6 H locs hq hH => ?_)
        obtain ⟨rfl, h⟩ := hq
        refine lv_aload_n hx hb dX1_fill_169 rfl (lv_at hl 2 rfl) ?_
        refine lv_aload_n hx hb dX1_fill_170 rfl (lv_at hl 5 rfl) ?_
        refine lv_aload_n hx hb dX1_fill_171 rfl (lv_at hl 3 rfl) ?_
        refine m_geti (x := τ6 14 0) C0 hH f_14_0 kF_X1_52 dX1_fill_172 rfl ?_
        refine m_cV (M2 := M_X0_sitters) (As := [.int (τ6 14 0)]) (rest := [.ref (Ad E 56)]) h C0 hH hl kc_X0_sitters ki_X0_sitters kx_X0_sitters ob_44 kM_X1_55 rfl (Nat.le_of_ble_eq_true rfl) (Nat.le_of_ble_eq_true rfl) ⟨Nat.le_of_ble_eq_true rfl, Nat.le_of_ble_eq_true rfl⟩ dX1_fill_175 rfl (fun r τ7 H locs hq hH => ?_)
        obtain ⟨r8, rfl, h⟩ := hq
        refine lv_iload hx hb dX1_fill_178 (lv_at hl 0 rfl) ?_
        refine lv_aload_n hx hb dX1_fill_180 rfl (lv_at hl 3 rfl) ?_
        refine m_geti (x := τ7 14 1) C0 hH f_14_1 kF_X1_43 dX1_fill_181 rfl ?_
        refine m_cV (M2 := M_X1_addTo) (As := [.int r8, .int ((τ3 58 r4.toNatClampNeg) * (τ3 59 ((x6 - r4).toNatClampNeg))), .int (τ7 14 1)]) (rest := []) h C0 hH hl kc_X1_addTo ki_X1_addTo kx_X1_addTo ob_56 kM_X1_58 rfl (Nat.le_of_ble_eq_true rfl) (Nat.le_of_ble_eq_true rfl) ⟨Nat.le_of_ble_eq_true rfl, Nat.le_of_ble_eq_true rfl⟩ dX1_fill_184 rfl (fun r τ9 H locs hq hH => ?_)
        obtain ⟨rfl, h⟩ := hq
        refine lv_iinc (v := (x7 + 1)) (lv' := [(7, .int (x7 + 1)), (9, .int ((τ3 58 r4.toNatClampNeg) * (τ3 59 ((x6 - r4).toNatClampNeg)))), (8, .int r4), (0, .ref (Ad E 56)), (1, .ref (Ad E 14)), (2, .int x2), (3, .ref (Ad E 44)), (4, .int x4), (5, .int x5), (6, .int x6)]) hx hb dX1_fill_187 hl (k := 9) rfl rfl (by decide) rfl (fun ls hl => ?_)
        refine lv_goto (tgt := 108) hx hb dX1_fill_190 (by decide) ?_
        exact h p e R s m args below meth c Z cells slots H locs ls C0 hH (lv_sub hl [3, 4, 5, 6, 7, 8, 9, 0] rfl) hret

def r_X9_odds_0 (E : EE) (x1 : Int32) (x2 : Int32) (x3 : Int32) (σ : Mm) (Q : Int32 → Mm → Prop) : Prop := Rn E M_X9_odds 0 [(0, .ref (Ad E 0)), (1, .int x1), (2, .int x2), (3, .int x3)] [] σ (qi Q)
set_option maxRecDepth 20000 in
set_option maxHeartbeats 4000000 in
theorem s_X9_odds_0 (E : EE) (x1 : Int32) (x2 : Int32) (x3 : Int32) (σ : Mm) (Q : Int32 → Mm → Prop) (h : r_X2_hasPerson_14_0 E x1 σ (fun r2 τ1 => ((¬ r2 = 0 → ((x2 < 0 → Q (-102) τ1) ∧ (¬ x2 < 0 → ((10 < x2 → Q (-102) τ1) ∧ (¬ 10 < x2 → ((x3 < 0 → Q (-102) τ1) ∧ (¬ x3 < 0 → ((x3 ≤ 1 → r_X1_fill_0 E x2 τ1 (fun τ8 => ((¬ x3 = 0 → r_X1_below_0 E x1 τ8 (fun r11 τ10 => Q r11 τ10)) ∧ (x3 = 0 → r_X1_above_0 E x1 τ8 (fun r13 τ12 => Q r13 τ12))))) ∧ (¬ x3 ≤ 1 → Q (-102) τ1))))))))) ∧ (r2 = 0 → Q (-101) τ1)))) : r_X9_odds_0 E x1 x2 x3 σ Q := by
  intro p e R s m args below meth c Z cells slots H locs ls C0 hH hl hret
  have hx := C0.1
  have hb : c.code = cX9_odds := C0.2.1
  have hl : lv_has ls 4 [(0, .ref (Ad E 0)), (1, .int x1), (2, .int x2), (3, .int x3)] := hl
  refine lv_aload_n hx hb dX9_odds_0 rfl (lv_at hl 0 rfl) ?_
  refine m_getr C0 hH f_0_2 14 rfl kF_X9_26 dX9_odds_1 ?_
  refine lv_iload_n hx hb dX9_odds_4 rfl (lv_at hl 1 rfl) ?_
  refine m_cV (M2 := M_X2_hasPerson) (As := [.int x1]) (rest := []) h C0 hH hl kc_X2_hasPerson ki_X2_hasPerson kx_X2_hasPerson ob_14 kM_X9_114 rfl (Nat.le_of_ble_eq_true rfl) (Nat.le_of_ble_eq_true rfl) ⟨Nat.le_of_ble_eq_true rfl, Nat.le_of_ble_eq_true rfl⟩ dX9_odds_5 rfl (fun r τ1 H locs hq hH => ?_)
  obtain ⟨r2, rfl, h⟩ := hq
  refine lv_if_ne (tgt := 14) hx hb dX9_odds_8 (by decide) (fun hc3 => ?_) (fun hc3 => ?_)
  · have h := h.1 hc3
    refine lv_iload_n hx hb dX9_odds_14 rfl (lv_at hl 2 rfl) ?_
    refine lv_if_lt (tgt := 33) hx hb dX9_odds_15 (by decide) (fun hc4 => ?_) (fun hc4 => ?_)
    · have h := h.1 hc4
      refine lv_bipush (v := (-102)) hx hb dX9_odds_33 (by decide) ?_
      exact hret (some (.int (-102))) _ _ _ _ _ ⟨_, rfl, h⟩ hH ⟨dX9_odds_35, .int, rfl, rfl⟩
    · have h := h.2 hc4
      refine lv_iload_n hx hb dX9_odds_18 rfl (lv_at hl 2 rfl) ?_
      refine lv_bipush (v := 10) hx hb dX9_odds_19 (by decide) ?_
      refine lv_icmp_gt (tgt := 33) hx hb dX9_odds_21 (by decide) (fun hc5 => ?_) (fun hc5 => ?_)
      · have h := h.1 hc5
        refine lv_bipush (v := (-102)) hx hb dX9_odds_33 (by decide) ?_
        exact hret (some (.int (-102))) _ _ _ _ _ ⟨_, rfl, h⟩ hH ⟨dX9_odds_35, .int, rfl, rfl⟩
      · have h := h.2 hc5
        refine lv_iload_n hx hb dX9_odds_24 rfl (lv_at hl 3 rfl) ?_
        refine lv_if_lt (tgt := 33) hx hb dX9_odds_25 (by decide) (fun hc6 => ?_) (fun hc6 => ?_)
        · have h := h.1 hc6
          refine lv_bipush (v := (-102)) hx hb dX9_odds_33 (by decide) ?_
          exact hret (some (.int (-102))) _ _ _ _ _ ⟨_, rfl, h⟩ hH ⟨dX9_odds_35, .int, rfl, rfl⟩
        · have h := h.2 hc6
          refine lv_iload_n hx hb dX9_odds_28 rfl (lv_at hl 3 rfl) ?_
          refine lv_iconst (v := 1) hx hb dX9_odds_29 (by decide) ?_
          refine lv_icmp_le (tgt := 36) hx hb dX9_odds_30 (by decide) (fun hc7 => ?_) (fun hc7 => ?_)
          · have h := h.1 hc7
            refine lv_aload_n hx hb dX9_odds_36 rfl (lv_at hl 0 rfl) ?_
            refine m_getr C0 hH f_0_8 56 rfl kF_X9_60 dX9_odds_37 ?_
            refine lv_aload_n hx hb dX9_odds_40 rfl (lv_at hl 0 rfl) ?_
            refine m_getr C0 hH f_0_2 14 rfl kF_X9_26 dX9_odds_41 ?_
            refine lv_iload_n hx hb dX9_odds_44 rfl (lv_at hl 2 rfl) ?_
            refine lv_aload_n hx hb dX9_odds_45 rfl (lv_at hl 0 rfl) ?_
            refine m_getr C0 hH f_0_5 44 rfl kF_X9_39 dX9_odds_46 ?_
            refine m_cV (M2 := M_X1_fill) (As := [.ref (Ad E 14), .int x2, .ref (Ad E 44)]) (rest := []) h C0 hH hl kc_X1_fill ki_X1_fill kx_X1_fill ob_56 kM_X9_224 rfl (Nat.le_of_ble_eq_true rfl) (Nat.le_of_ble_eq_true rfl) ⟨Nat.le_of_ble_eq_true rfl, Nat.le_of_ble_eq_true rfl⟩ dX9_odds_49 rfl (fun r τ8 H locs hq hH => ?_)
            obtain ⟨rfl, h⟩ := hq
            refine lv_iload_n hx hb dX9_odds_52 rfl (lv_at hl 3 rfl) ?_
            refine lv_if_ne (tgt := 67) hx hb dX9_odds_53 (by decide) (fun hc9 => ?_) (fun hc9 => ?_)
            · have h := h.1 hc9
              refine lv_aload_n hx hb dX9_odds_67 rfl (lv_at hl 0 rfl) ?_
              refine m_getr C0 hH f_0_8 56 rfl kF_X9_60 dX9_odds_68 ?_
              refine lv_iload_n hx hb dX9_odds_71 rfl (lv_at hl 1 rfl) ?_
              refine m_cV (M2 := M_X1_below) (As := [.int x1]) (rest := []) h C0 hH hl kc_X1_below ki_X1_below kx_X1_below ob_56 kM_X9_229 rfl (Nat.le_of_ble_eq_true rfl) (Nat.le_of_ble_eq_true rfl) ⟨Nat.le_of_ble_eq_true rfl, Nat.le_of_ble_eq_true rfl⟩ dX9_odds_72 rfl (fun r τ10 H locs hq hH => ?_)
              obtain ⟨r11, rfl, h⟩ := hq
              exact hret (some (.int r11)) _ _ _ _ _ ⟨_, rfl, h⟩ hH ⟨dX9_odds_75, .int, rfl, rfl⟩
            · have h := h.2 hc9
              refine lv_aload_n hx hb dX9_odds_56 rfl (lv_at hl 0 rfl) ?_
              refine m_getr C0 hH f_0_8 56 rfl kF_X9_60 dX9_odds_57 ?_
              refine lv_iload_n hx hb dX9_odds_60 rfl (lv_at hl 1 rfl) ?_
              refine m_cV (M2 := M_X1_above) (As := [.int x1]) (rest := []) h C0 hH hl kc_X1_above ki_X1_above kx_X1_above ob_56 kM_X9_226 rfl (Nat.le_of_ble_eq_true rfl) (Nat.le_of_ble_eq_true rfl) ⟨Nat.le_of_ble_eq_true rfl, Nat.le_of_ble_eq_true rfl⟩ dX9_odds_61 rfl (fun r τ12 H locs hq hH => ?_)
              obtain ⟨r13, rfl, h⟩ := hq
              refine lv_goto (tgt := 75) hx hb dX9_odds_64 (by decide) ?_
              exact hret (some (.int r13)) _ _ _ _ _ ⟨_, rfl, h⟩ hH ⟨dX9_odds_75, .int, rfl, rfl⟩
          · have h := h.2 hc7
            refine lv_bipush (v := (-102)) hx hb dX9_odds_33 (by decide) ?_
            exact hret (some (.int (-102))) _ _ _ _ _ ⟨_, rfl, h⟩ hH ⟨dX9_odds_35, .int, rfl, rfl⟩
  · have h := h.2 hc3
    refine lv_bipush (v := (-101)) hx hb dX9_odds_11 (by decide) ?_
    exact hret (some (.int (-101))) _ _ _ _ _ ⟨_, rfl, h⟩ hH ⟨dX9_odds_13, .int, rfl, rfl⟩
