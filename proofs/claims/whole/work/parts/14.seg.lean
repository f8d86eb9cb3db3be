def r_X2_addSeen_0 (E : EE) (x1 : Int32) (x2 : Int32) (x3 : Int32) (σ : Mm) (Q : Mm → Prop) : Prop := Rn E M_X2_addSeen 0 [(0, .ref (Ad E 14)), (1, .int x1), (2, .int x2), (3, .int x3)] [] σ (qv Q)
set_option maxRecDepth 20000 in
set_option maxHeartbeats 4000000 in
theorem s_X2_addSeen_0 (E : EE) (x1 : Int32) (x2 : Int32) (x3 : Int32) (σ : Mm) (Q : Mm → Prop) (h : ((6 ≤ (σ 14 5) → Q σ) ∧ (¬ 6 ≤ (σ 14 5) → (vp_in (σ 14 5) 6 ∧ (vp_in (σ 14 5) 6 ∧ (vp_in (σ 14 5) 6 ∧ Q (up (up (up (up σ 21 ((σ 14 5).toNatClampNeg) x1) 22 ((σ 14 5).toNatClampNeg) x2) 23 ((σ 14 5).toNatClampNeg) (vp_nar .boolean x3)) 14 5 ((σ 14 5) + 1)))))))) : r_X2_addSeen_0 E x1 x2 x3 σ Q := by
  intro p e R s m args below meth c Z cells slots H locs ls C0 hH hl hret
  have hx := C0.1
  have hb : c.code = cX2_addSeen := C0.2.1
  have hl : lv_has ls 4 [(0, .ref (Ad E 14)), (1, .int x1), (2, .int x2), (3, .int x3)] := hl
  refine lv_aload_n hx hb dX2_addSeen_0 rfl (lv_at hl 0 rfl) ?_
  refine m_geti (x := σ 14 5) C0 hH f_14_5 kF_X2_27 dX2_addSeen_1 rfl ?_
  refine lv_bipush (v := 6) hx hb dX2_addSeen_4 (by decide) ?_
  refine lv_icmp_ge (tgt := 49) hx hb dX2_addSeen_6 (by decide) (fun hc1 => ?_) (fun hc1 => ?_)
  · have h := h.1 hc1
    exact hret none _ _ _ _ _ ⟨rfl, h⟩ hH ⟨dX2_addSeen_49, rfl⟩
  · have h := h.2 hc1
    refine lv_aload_n hx hb dX2_addSeen_9 rfl (lv_at hl 0 rfl) ?_
    refine m_getr C0 hH f_14_12 21 rfl kF_X2_49 dX2_addSeen_10 ?_
    refine lv_aload_n hx hb dX2_addSeen_13 rfl (lv_at hl 0 rfl) ?_
    refine m_geti (x := σ 14 5) C0 hH f_14_5 kF_X2_27 dX2_addSeen_14 rfl ?_
    refine lv_iload_n hx hb dX2_addSeen_17 rfl (lv_at hl 1 rfl) ?_
    refine m_iast (j := (σ 14 5).toNatClampNeg) C0 hH a_21 h.1 rfl dX2_addSeen_18 (fun H locs hH => ?_)
    have h := h.2
    refine lv_aload_n hx hb dX2_addSeen_19 rfl (lv_at hl 0 rfl) ?_
    refine m_getr C0 hH f_14_13 22 rfl kF_X2_52 dX2_addSeen_20 ?_
    refine lv_aload_n hx hb dX2_addSeen_23 rfl (lv_at hl 0 rfl) ?_
    refine m_geti (x := σ 14 5) C0 hH f_14_5 kF_X2_27 dX2_addSeen_24 rfl ?_
    refine lv_iload_n hx hb dX2_addSeen_27 rfl (lv_at hl 2 rfl) ?_
    refine m_iast (j := (σ 14 5).toNatClampNeg) C0 hH a_22 h.1 rfl dX2_addSeen_28 (fun H locs hH => ?_)
    have h := h.2
    refine lv_aload_n hx hb dX2_addSeen_29 rfl (lv_at hl 0 rfl) ?_
    refine m_getr C0 hH f_14_14 23 rfl kF_X2_55 dX2_addSeen_30 ?_
    refine lv_aload_n hx hb dX2_addSeen_33 rfl (lv_at hl 0 rfl) ?_
    refine m_geti (x := σ 14 5) C0 hH f_14_5 kF_X2_27 dX2_addSeen_34 rfl ?_
    refine lv_iload_n hx hb dX2_addSeen_37 rfl (lv_at hl 3 rfl) ?_
    refine m_zast (j := (σ 14 5).toNatClampNeg) C0 hH a_23 h.1 rfl dX2_addSeen_38 (fun H locs hH => ?_)
    have h := h.2
    refine lv_aload_n hx hb dX2_addSeen_39 rfl (lv_at hl 0 rfl) ?_
    refine lv_dup hx hb dX2_addSeen_40 rfl ?_
    refine m_geti (x := σ 14 5) C0 hH f_14_5 kF_X2_27 dX2_addSeen_41 rfl ?_
    refine lv_iconst (v := 1) hx hb dX2_addSeen_44 (by decide) ?_
    refine lv_iadd hx hb dX2_addSeen_45 ?_
    refine m_puti C0 hH f_14_5 kF_X2_27 rfl dX2_addSeen_46 rfl rfl (fun H locs hH => ?_)
    exact hret none _ _ _ _ _ ⟨rfl, h⟩ hH ⟨dX2_addSeen_49, rfl⟩

def r_X9_see_0 (E : EE) (x1 : Int32) (x2 : Int32) (x3 : Int32) (σ : Mm) (Q : Int32 → Mm → Prop) : Prop := Rn E M_X9_see 0 [(0, .ref (Ad E 0)), (1, .int x1), (2, .int x2), (3, .int x3)] [] σ (qi Q)
set_option maxRecDepth 20000 in
set_option maxHeartbeats 4000000 in
theorem s_X9_see_0 (E : EE) (x1 : Int32) (x2 : Int32) (x3 : Int32) (σ : Mm) (Q : Int32 → Mm → Prop) (h : r_X2_hasWrong_0 E x1 σ (fun r2 τ1 => ((¬ r2 = 0 → r_X9_isRoom_0 E x2 τ1 (fun r5 τ4 => ((¬ r5 = 0 → (((τ4 14 5) < 6 → r_X2_addSeen_0 E x1 x2 x3 τ4 (fun τ8 => Q (τ8 14 5) τ8)) ∧ (¬ (τ4 14 5) < 6 → Q (-104) τ4))) ∧ (r5 = 0 → Q (-102) τ4)))) ∧ (r2 = 0 → Q (-101) τ1)))) : r_X9_see_0 E x1 x2 x3 σ Q := by
  intro p e R s m args below meth c Z cells slots H locs ls C0 hH hl hret
  have hx := C0.1
  have hb : c.code = cX9_see := C0.2.1
  have hl : lv_has ls 4 [(0, .ref (Ad E 0)), (1, .int x1), (2, .int x2), (3, .int x3)] := hl
  refine lv_aload_n hx hb dX9_see_0 rfl (lv_at hl 0 rfl) ?_
  refine m_getr C0 hH f_0_2 14 rfl kF_X9_26 dX9_see_1 ?_
  refine lv_iload_n hx hb dX9_see_4 rfl (lv_at hl 1 rfl) ?_
  refine m_cV (M2 := M_X2_hasWrong) (As := [.int x1]) (rest := []) h C0 hH hl kc_X2_hasWrong ki_X2_hasWrong kx_X2_hasWrong ob_14 kM_X9_156 rfl (Nat.le_of_ble_eq_true rfl) (Nat.le_of_ble_eq_true rfl) ⟨Nat.le_of_ble_eq_true rfl, Nat.le_of_ble_eq_true rfl⟩ dX9_see_5 rfl (fun r τ1 H locs hq hH => ?_)
  obtain ⟨r2, rfl, h⟩ := hq
  refine lv_if_ne (tgt := 14) hx hb dX9_see_8 (by decide) (fun hc3 => ?_) (fun hc3 => ?_)
  · have h := h.1 hc3
    refine lv_iload_n hx hb dX9_see_14 rfl (lv_at hl 2 rfl) ?_
    refine m_cS (M2 := M_X9_isRoom) (As := [.int x2]) (rest := []) h C0 hH hl kc_X9_isRoom ks_X9_isRoom kM_X9_193 rfl (Nat.le_of_ble_eq_true rfl) (Nat.le_of_ble_eq_true rfl) ⟨Nat.le_of_ble_eq_true rfl, Nat.le_of_ble_eq_true rfl⟩ dX9_see_15 rfl (fun r τ4 H locs hq hH => ?_)
    obtain ⟨r5, rfl, h⟩ := hq
    refine lv_if_ne (tgt := 24) hx hb dX9_see_18 (by decide) (fun hc6 => ?_) (fun hc6 => ?_)
    · have h := h.1 hc6
      refine lv_aload_n hx hb dX9_see_24 rfl (lv_at hl 0 rfl) ?_
      refine m_getr C0 hH f_0_2 14 rfl kF_X9_26 dX9_see_25 ?_
      refine m_geti (x := τ4 14 5) C0 hH f_14_5 kF_X9_232 dX9_see_28 rfl ?_
      refine lv_bipush (v := 6) hx hb dX9_see_31 (by decide) ?_
      refine lv_icmp_lt (tgt := 39) hx hb dX9_see_33 (by decide) (fun hc7 => ?_) (fun hc7 => ?_)
      · have h := h.1 hc7
        refine lv_aload_n hx hb dX9_see_39 rfl (lv_at hl 0 rfl) ?_
        refine m_getr C0 hH f_0_2 14 rfl kF_X9_26 dX9_see_40 ?_
        refine lv_iload_n hx hb dX9_see_43 rfl (lv_at hl 1 rfl) ?_
        refine lv_iload_n hx hb dX9_see_44 rfl (lv_at hl 2 rfl) ?_
        refine lv_iload_n hx hb dX9_see_45 rfl (lv_at hl 3 rfl) ?_
        refine m_cV (M2 := M_X2_addSeen) (As := [.int x1, .int x2, .int x3]) (rest := []) h C0 hH hl kc_X2_addSeen ki_X2_addSeen kx_X2_addSeen ob_14 kM_X9_235 rfl (Nat.le_of_ble_eq_true rfl) (Nat.le_of_ble_eq_true rfl) ⟨Nat.le_of_ble_eq_true rfl, Nat.le_of_ble_eq_true rfl⟩ dX9_see_46 rfl (fun r τ8 H locs hq hH => ?_)
        obtain ⟨rfl, h⟩ := hq
        refine lv_aload_n hx hb dX9_see_49 rfl (lv_at hl 0 rfl) ?_
        refine m_getr C0 hH f_0_2 14 rfl kF_X9_26 dX9_see_50 ?_
        refine m_geti (x := τ8 14 5) C0 hH f_14_5 kF_X9_232 dX9_see_53 rfl ?_
        exact hret (some (.int (τ8 14 5))) _ _ _ _ _ ⟨_, rfl, h⟩ hH ⟨dX9_see_56, .int, rfl, rfl⟩
      · have h := h.2 hc7
        refine lv_bipush (v := (-104)) hx hb dX9_see_36 (by decide) ?_
        exact hret (some (.int (-104))) _ _ _ _ _ ⟨_, rfl, h⟩ hH ⟨dX9_see_38, .int, rfl, rfl⟩
    · have h := h.2 hc6
      refine lv_bipush (v := (-102)) hx hb dX9_see_21 (by decide) ?_
      exact hret (some (.int (-102))) _ _ _ _ _ ⟨_, rfl, h⟩ hH ⟨dX9_see_23, .int, rfl, rfl⟩
  · have h := h.2 hc3
    refine lv_bipush (v := (-101)) hx hb dX9_see_11 (by decide) ?_
    exact hret (some (.int (-101))) _ _ _ _ _ ⟨_, rfl, h⟩ hH ⟨dX9_see_13, .int, rfl, rfl⟩

def r_X9_forget_0 (E : EE) (σ : Mm) (Q : Int32 → Mm → Prop) : Prop := Rn E M_X9_forget 0 [(0, .ref (Ad E 0))] [] σ (qi Q)
set_option maxRecDepth 20000 in
set_option maxHeartbeats 4000000 in
theorem s_X9_forget_0 (E : EE) (σ : Mm) (Q : Int32 → Mm → Prop) (h : Q (σ 14 5) (up σ 14 5 0)) : r_X9_forget_0 E σ Q := by
  intro p e R s m args below meth c Z cells slots H locs ls C0 hH hl hret
  have hx := C0.1
  have hb : c.code = cX9_forget := C0.2.1
  have hl : lv_has ls 2 [(0, .ref (Ad E 0))] := hl
  refine lv_aload_n hx hb dX9_forget_0 rfl (lv_at hl 0 rfl) ?_
  refine m_getr C0 hH f_0_2 14 rfl kF_X9_26 dX9_forget_1 ?_
  refine m_geti (x := σ 14 5) C0 hH f_14_5 kF_X9_232 dX9_forget_4 rfl ?_
  refine lv_istore_n (lv' := [(1, .int (σ 14 5)), (0, .ref (Ad E 0))]) hx hb dX9_forget_7 rfl hl (by decide) rfl (fun ls hl => ?_)
  refine lv_aload_n hx hb dX9_forget_8 rfl (lv_at hl 1 rfl) ?_
  refine m_getr C0 hH f_0_2 14 rfl kF_X9_26 dX9_forget_9 ?_
  refine lv_iconst (v := 0) hx hb dX9_forget_12 (by decide) ?_
  refine m_puti C0 hH f_14_5 kF_X9_232 rfl dX9_forget_13 rfl rfl (fun H locs hH => ?_)
  refine lv_iload_n hx hb dX9_forget_16 rfl (lv_at hl 0 rfl) ?_
  exact hret (some (.int (σ 14 5))) _ _ _ _ _ ⟨_, rfl, h⟩ hH ⟨dX9_forget_17, .int, rfl, rfl⟩

def r_X2_allWarm_34_0 (E : EE) (σ : Mm) (Q : Int32 → Mm → Prop) : Prop := Rn E M_X2_allWarm 0 [(0, .ref (Ad E 34))] [] σ (qi Q)
def r_X2_allWarm_34_4 (E : EE) (x1 : Int32) (x2 : Int32) (σ : Mm) (Q : Int32 → Mm → Prop) : Prop := Rn E M_X2_allWarm 4 [(0, .ref (Ad E 34)), (1, .int x1), (2, .int x2)] [] σ (qi Q)
set_option maxRecDepth 20000 in
set_option maxHeartbeats 4000000 in
theorem s_X2_allWarm_34_0 (E : EE) (σ : Mm) (Q : Int32 → Mm → Prop) (h : r_X2_allWarm_34_4 E 0 0 σ Q) : r_X2_allWarm_34_0 E σ Q := by
  intro p e R s m args below meth c Z cells slots H locs ls C0 hH hl hret
  have hx := C0.1
  have hb : c.code = cX2_allWarm := C0.2.1
  have hl : lv_has ls 3 [(0, .ref (Ad E 34))] := hl
  refine lv_iconst (v := 0) hx hb dX2_allWarm_0 (by decide) ?_
  refine lv_istore_n (lv' := [(1, .int 0), (0, .ref (Ad E 34))]) hx hb dX2_allWarm_1 rfl hl (by decide) rfl (fun ls hl => ?_)
  refine lv_iconst (v := 0) hx hb dX2_allWarm_2 (by decide) ?_
  refine lv_istore_n (lv' := [(2, .int 0), (1, .int 0), (0, .ref (Ad E 34))]) hx hb dX2_allWarm_3 rfl hl (by decide) rfl (fun ls hl => ?_)
  exact h p e R s m args below meth c Z cells slots H locs ls C0 hH (lv_sub hl [2, 1, 0] rfl) hret
set_option maxRecDepth 20000 in
set_option maxHeartbeats 4000000 in
theorem s_X2_allWarm_34_4 (E : EE) (x1 : Int32) (x2 : Int32) (σ : Mm) (Q : Int32 → Mm → Prop) (h : (((σ 34 1) ≤ x2 → Q x1 σ) ∧ (¬ (σ 34 1) ≤ x2 → (vp_in x2 6 ∧ r_X2_allWarm_34_4 E (x1 + (σ 36 x2.toNatClampNeg)) (x2 + 1) σ Q)))) : r_X2_allWarm_34_4 E x1 x2 σ Q := by
  intro p e R s m args below meth c Z cells slots H locs ls C0 hH hl hret
  have hx := C0.1
  have hb : c.code = cX2_allWarm := C0.2.1
  have hl : lv_has ls 3 [(0, .ref (Ad E 34)), (1, .int x1), (2, .int x2)] := hl
  refine lv_iload_n hx hb dX2_allWarm_4 rfl (lv_at hl 2 rfl) ?_
  refine lv_aload_n hx hb dX2_allWarm_5 rfl (lv_at hl 0 rfl) ?_
  refine m_geti (x := σ 34 1) C0 hH f_34_1 kF_X2_15 dX2_allWarm_6 rfl ?_
  refine lv_icmp_ge (tgt := 27) hx hb dX2_allWarm_9 (by decide) (fun hc1 => ?_) (fun hc1 => ?_)
  · have h := h.1 hc1
    refine lv_iload_n hx hb dX2_allWarm_27 rfl (lv_at hl 1 rfl) ?_
    exact hret (some (.int x1)) _ _ _ _ _ ⟨_, rfl, h⟩ hH ⟨dX2_allWarm_28, .int, rfl, rfl⟩
  · have h := h.2 hc1
    refine lv_iload_n hx hb dX2_allWarm_12 rfl (lv_at hl 1 rfl) ?_
    refine lv_aload_n hx hb dX2_allWarm_13 rfl (lv_at hl 0 rfl) ?_
    refine m_getr C0 hH f_34_7 36 rfl kF_X2_34 dX2_allWarm_14 ?_
    refine lv_iload_n hx hb dX2_allWarm_17 rfl (lv_at hl 2 rfl) ?_
    refine m_iald (x := σ 36 x2.toNatClampNeg) C0 hH a_36 h.1 dX2_allWarm_18 rfl ?_
    have h := h.2
    refine lv_iadd hx hb dX2_allWarm_19 ?_
    refine lv_istore_n (lv' := [(1, .int (x1 + (σ 36 x2.toNatClampNeg))), (0, .ref (Ad E 34)), (2, .int x2)]) hx hb dX2_allWarm_20 rfl hl (by decide) rfl (fun ls hl => ?_)
    refine lv_iinc (v := (x2 + 1)) (lv' := [(2, .int (x2 + 1)), (1, .int (x1 + (σ 36 x2.toNatClampNeg))), (0, .ref (Ad E 34))]) hx hb dX2_allWarm_21 hl (k := 2) rfl rfl (by decide) rfl (fun ls hl => ?_)
    refine lv_goto (tgt := 4) hx hb dX2_allWarm_24 (by decide) ?_
    exact h p e R s m args below meth c Z cells slots H locs ls C0 hH (lv_sub hl [2, 1, 0] rfl) hret

def r_X2_passSunday_34_0 (E : EE) (x1 : Int32) (σ : Mm) (Q : Int32 → Mm → Prop) : Prop := Rn E M_X2_passSunday 0 [(0, .ref (Ad E 34)), (1, .int x1)] [] σ (qi Q)
def r_X2_passSunday_34_14 (E : EE) (x1 : Int32) (x2 : Int32) (x3 : Int32) (σ : Mm) (Q : Int32 → Mm → Prop) : Prop := Rn E M_X2_passSunday 14 [(0, .ref (Ad E 34)), (1, .int x1), (2, .int x2), (3, .int x3)] [] σ (qi Q)
set_option maxRecDepth 20000 in
set_option maxHeartbeats 4000000 in
theorem s_X2_passSunday_34_0 (E : EE) (x1 : Int32) (σ : Mm) (Q : Int32 → Mm → Prop) (h : r_X2_passSunday_34_14 E x1 0 0 (up σ 34 4 ((σ 34 4) + 1)) Q) : r_X2_passSunday_34_0 E x1 σ Q := by
  intro p e R s m args below meth c Z cells slots H locs ls C0 hH hl hret
  have hx := C0.1
  have hb : c.code = cX2_passSunday := C0.2.1
  have hl : lv_has ls 4 [(0, .ref (Ad E 34)), (1, .int x1)] := hl
  refine lv_iconst (v := 0) hx hb dX2_passSunday_0 (by decide) ?_
  refine lv_istore_n (lv' := [(2, .int 0), (0, .ref (Ad E 34)), (1, .int x1)]) hx hb dX2_passSunday_1 rfl hl (by decide) rfl (fun ls hl => ?_)
  refine lv_aload_n hx hb dX2_passSunday_2 rfl (lv_at hl 1 rfl) ?_
  refine lv_dup hx hb dX2_passSunday_3 rfl ?_
  refine m_geti (x := σ 34 4) C0 hH f_34_4 kF_X2_24 dX2_passSunday_4 rfl ?_
  refine lv_iconst (v := 1) hx hb dX2_passSunday_7 (by decide) ?_
  refine lv_iadd hx hb dX2_passSunday_8 ?_
  refine m_puti C0 hH f_34_4 kF_X2_24 rfl dX2_passSunday_9 rfl rfl (fun H locs hH => ?_)
  refine lv_iconst (v := 0) hx hb dX2_passSunday_12 (by decide) ?_
  refine lv_istore_n (lv' := [(3, .int 0), (2, .int 0), (0, .ref (Ad E 34)), (1, .int x1)]) hx hb dX2_passSunday_13 rfl hl (by decide) rfl (fun ls hl => ?_)
  exact h p e R s m args below meth c Z cells slots H locs ls C0 hH (lv_sub hl [2, 3, 1, 0] rfl) hret
set_option maxRecDepth 20000 in
set_option maxHeartbeats 4000000 in
theorem s_X2_passSunday_34_14 (E : EE) (x1 : Int32) (x2 : Int32) (x3 : Int32) (σ : Mm) (Q : Int32 → Mm → Prop) (h : (((σ 34 1) ≤ x3 → Q x2 σ) ∧ (¬ (σ 34 1) ≤ x3 → (vp_in x3 6 ∧ r_X9_hasBit_0 E x1 x3 σ (fun r3 τ2 => r_X9_nextWarm_0 E (σ 36 x3.toNatClampNeg) r3 τ2 (fun r5 τ4 => (vp_in x3 6 ∧ (vp_in x3 6 ∧ ((¬ r5 = 0 → r_X2_passSunday_34_14 E x1 x2 (x3 + 1) (up τ4 36 x3.toNatClampNeg r5) Q) ∧ (r5 = 0 → (vp_in x3 6 ∧ (vp_in x3 6 ∧ r_X2_passSunday_34_14 E x1 (x2 + 1) (x3 + 1) (up (up τ4 36 x3.toNatClampNeg r5) 37 x3.toNatClampNeg ((τ4 37 x3.toNatClampNeg) + 1)) Q)))))))))))) : r_X2_passSunday_34_14 E x1 x2 x3 σ Q := by
  intro p e R s m args below meth c Z cells slots H locs ls C0 hH hl hret
  have hx := C0.1
  have hb : c.code = cX2_passSunday := C0.2.1
  have hl : lv_has ls 4 [(0, .ref (Ad E 34)), (1, .int x1), (2, .int x2), (3, .int x3)] := hl
  refine lv_iload_n hx hb dX2_passSunday_14 rfl (lv_at hl 3 rfl) ?_
  refine lv_aload_n hx hb dX2_passSunday_15 rfl (lv_at hl 0 rfl) ?_
  refine m_geti (x := σ 34 1) C0 hH f_34_1 kF_X2_15 dX2_passSunday_16 rfl ?_
  refine lv_icmp_ge (tgt := 70) hx hb dX2_passSunday_19 (by decide) (fun hc1 => ?_) (fun hc1 => ?_)
  · have h := h.1 hc1
    refine lv_iload_n hx hb dX2_passSunday_70 rfl (lv_at hl 2 rfl) ?_
    exact hret (some (.int x2)) _ _ _ _ _ ⟨_, rfl, h⟩ hH ⟨dX2_passSunday_71, .int, rfl, rfl⟩
  · have h := h.2 hc1
    refine lv_aload_n hx hb dX2_passSunday_22 rfl (lv_at hl 0 rfl) ?_
    refine m_getr C0 hH f_34_7 36 rfl kF_X2_34 dX2_passSunday_23 ?_
    refine lv_iload_n hx hb dX2_passSunday_26 rfl (lv_at hl 3 rfl) ?_
    refine lv_aload_n hx hb dX2_passSunday_27 rfl (lv_at hl 0 rfl) ?_
    refine m_getr C0 hH f_34_7 36 rfl kF_X2_34 dX2_passSunday_28 ?_
    refine lv_iload_n hx hb dX2_passSunday_31 rfl (lv_at hl 3 rfl) ?_
    refine m_iald (x := σ 36 x3.toNatClampNeg) C0 hH a_36 h.1 dX2_passSunday_32 rfl ?_
    have h := h.2
    refine lv_iload_n hx hb dX2_passSunday_33 rfl (lv_at hl 1 rfl) ?_
    refine lv_iload_n hx hb dX2_passSunday_34 rfl (lv_at hl 3 rfl) ?_
    refine m_cN (M2 := M_X9_hasBit) (As := [.int x1, .int x3]) (rest := [.int (σ 36 x3.toNatClampNeg), .int x3, .ref (Ad E 36)]) h C0 hH hl kc_X9_hasBit ks_X9_hasBit kN_X2_59 rfl (Nat.le_of_ble_eq_true rfl) (Nat.le_of_ble_eq_true rfl) ⟨Nat.le_of_ble_eq_true rfl, Nat.le_of_ble_eq_true rfl⟩ dX2_passSunday_35 rfl (fun r τ2 H locs hq hH => ?_)
    obtain ⟨r3, rfl, h⟩ := hq
    refine m_cN (M2 := M_X9_nextWarm) (As := [.int (σ 36 x3.toNatClampNeg), .int r3]) (rest := [.int x3, .ref (Ad E 36)]) h C0 hH hl kc_X9_nextWarm ks_X9_nextWarm kN_X2_63 rfl (Nat.le_of_ble_eq_true rfl) (Nat.le_of_ble_eq_true rfl) ⟨Nat.le_of_ble_eq_true rfl, Nat.le_of_ble_eq_true rfl⟩ dX2_passSunday_38 rfl (fun r τ4 H locs hq hH => ?_)
    obtain ⟨r5, rfl, h⟩ := hq
    refine m_iast (j := x3.toNatClampNeg) C0 hH a_36 h.1 rfl dX2_passSunday_41 (fun H locs hH => ?_)
    have h := h.2
    refine lv_aload_n hx hb dX2_passSunday_42 rfl (lv_at hl 0 rfl) ?_
    refine m_getr C0 hH f_34_7 36 rfl kF_X2_34 dX2_passSunday_43 ?_
    refine lv_iload_n hx hb dX2_passSunday_46 rfl (lv_at hl 3 rfl) ?_
    refine m_iald (x := r5) C0 hH a_36 h.1 dX2_passSunday_47 up_rd ?_
    have h := h.2
    refine lv_if_ne (tgt := 64) hx hb dX2_passSunday_48 (by decide) (fun hc6 => ?_) (fun hc6 => ?_)
    · have h := h.1 hc6
      refine lv_iinc (v := (x3 + 1)) (lv' := [(3, .int (x3 + 1)), (0, .ref (Ad E 34)), (1, .int x1), (2, .int x2)]) hx hb dX2_passSunday_64 hl (k := 3) rfl rfl (by decide) rfl (fun ls hl => ?_)
      refine lv_goto (tgt := 14) hx hb dX2_passSunday_67 (by decide) ?_
      exact h p e R s m args below meth c Z cells slots H locs ls C0 hH (lv_sub hl [1, 2, 3, 0] rfl) hret
    · have h := h.2 hc6
      refine lv_aload_n hx hb dX2_passSunday_51 rfl (lv_at hl 0 rfl) ?_
      refine m_getr C0 hH f_34_8 37 rfl kF_X2_37 dX2_passSunday_52 ?_
      refine lv_iload_n hx hb dX2_passSunday_55 rfl (lv_at hl 3 rfl) ?_
      refine lv_dup2_11 hx hb dX2_passSunday_56 rfl rfl ?_
      refine m_iald (x := τ4 37 x3.toNatClampNeg) C0 hH a_37 h.1 dX2_passSunday_57 rfl ?_
      have h := h.2
      refine lv_iconst (v := 1) hx hb dX2_passSunday_58 (by decide) ?_
      refine lv_iadd hx hb dX2_passSunday_59 ?_
      refine m_iast (j := x3.toNatClampNeg) C0 hH a_37 h.1 rfl dX2_passSunday_60 (fun H locs hH => ?_)
      have h := h.2
      refine lv_iinc (v := (x2 + 1)) (lv' := [(2, .int (x2 + 1)), (0, .ref (Ad E 34)), (1, .int x1), (3, .int x3)]) hx hb dX2_passSunday_61 hl (k := 2) rfl rfl (by decide) rfl (fun ls hl => ?_)
      refine lv_iinc (v := (x3 + 1)) (lv' := [(3, .int (x3 + 1)), (2, .int (x2 + 1)), (0, .ref (Ad E 34)), (1, .int x1)]) hx hb dX2_passSunday_64 hl (k := 3) rfl rfl (by decide) rfl (fun ls hl => ?_)
      refine lv_goto (tgt := 14) hx hb dX2_passSunday_67 (by decide) ?_
      exact h p e R s m args below meth c Z cells slots H locs ls C0 hH (lv_sub hl [2, 3, 1, 0] rfl) hret

def r_X8_draw_0 (E : EE) (x1 : Int32) (σ : Mm) (Q : Int32 → Mm → Prop) : Prop := Rn E M_X8_draw 0 [(0, .ref (Ad E 62)), (1, .int x1)] [] σ (qi Q)
set_option maxRecDepth 20000 in
set_option maxHeartbeats 4000000 in
theorem s_X8_draw_0 (E : EE) (x1 : Int32) (σ : Mm) (Q : Int32 → Mm → Prop) (h : ((x1 ≤ 0 → Q 0 (up σ 62 1 ((((1103515245 * ((σ 62 1).toInt64)) + 12345) - (((1103515245 * ((σ 62 1).toInt64)) + 12345) / 2147483648) * 2147483648).toInt32))) ∧ (¬ x1 ≤ 0 → (¬ x1 = 0 ∧ Q ((((((1103515245 * ((σ 62 1).toInt64)) + 12345) - (((1103515245 * ((σ 62 1).toInt64)) + 12345) / 2147483648) * 2147483648).toInt32) / 65536) - ((((((1103515245 * ((σ 62 1).toInt64)) + 12345) - (((1103515245 * ((σ 62 1).toInt64)) + 12345) / 2147483648) * 2147483648).toInt32) / 65536) / x1) * x1) (up σ 62 1 ((((1103515245 * ((σ 62 1).toInt64)) + 12345) - (((1103515245 * ((σ 62 1).toInt64)) + 12345) / 2147483648) * 2147483648).toInt32)))))) : r_X8_draw_0 E x1 σ Q := by
  intro p e R s m args below meth c Z cells slots H locs ls C0 hH hl hret
  have hx := C0.1
  have hb : c.code = cX8_draw := C0.2.1
  have hl : lv_has ls 2 [(0, .ref (Ad E 62)), (1, .int x1)] := hl
  refine lv_aload_n hx hb dX8_draw_0 rfl (lv_at hl 0 rfl) ?_
  refine lv_ldc2 hx hb C0.2.2.2.1 (C0.2.2.2.2.1 _ kC_X8_43) dX8_draw_1 ?_
  refine lv_aload_n hx hb dX8_draw_4 rfl (lv_at hl 0 rfl) ?_
  refine m_geti (x := σ 62 1) C0 hH f_62_1 kF_X8_13 dX8_draw_5 rfl ?_
  refine lv_i2l hx hb dX8_draw_8 rfl ?_
  refine lv_lmul hx hb dX8_draw_9 ?_
  refine lv_ldc2 hx hb C0.2.2.2.1 (C0.2.2.2.2.1 _ kC_X8_45) dX8_draw_10 ?_
  refine lv_ladd hx hb dX8_draw_13 ?_
  refine lv_ldc2 hx hb C0.2.2.2.1 (C0.2.2.2.2.1 _ kC_X8_47) dX8_draw_14 ?_
  refine lv_lrem hx hb dX8_draw_17 (by decide) ?_
  refine lv_l2i hx hb dX8_draw_18 rfl ?_
  refine m_puti C0 hH f_62_1 kF_X8_13 rfl dX8_draw_19 rfl rfl (fun H locs hH => ?_)
  refine lv_iload_n hx hb dX8_draw_22 rfl (lv_at hl 1 rfl) ?_
  refine lv_if_le (tgt := 38) hx hb dX8_draw_23 (by decide) (fun hc1 => ?_) (fun hc1 => ?_)
  · have h := h.1 hc1
    refine lv_iconst (v := 0) hx hb dX8_draw_38 (by decide) ?_
    exact hret (some (.int 0)) _ _ _ _ _ ⟨_, rfl, h⟩ hH ⟨dX8_draw_39, .int, rfl, rfl⟩
  · have h := h.2 hc1
    refine lv_aload_n hx hb dX8_draw_26 rfl (lv_at hl 0 rfl) ?_
    refine m_geti (x := (((1103515245 * ((σ 62 1).toInt64)) + 12345) - (((1103515245 * ((σ 62 1).toInt64)) + 12345) / 2147483648) * 2147483648).toInt32) C0 hH f_62_1 kF_X8_13 dX8_draw_27 rfl ?_
    refine lv_ldc hx hb C0.2.2.2.1 (C0.2.2.2.2.1 _ kC_X8_49) dX8_draw_30 ?_
    refine lv_idiv hx hb dX8_draw_32 (by decide) ?_
    refine lv_iload_n hx hb dX8_draw_33 rfl (lv_at hl 1 rfl) ?_
    refine lv_irem hx hb dX8_draw_34 h.1 ?_
    have h := h.2
    refine lv_goto (tgt := 39) hx hb dX8_draw_35 (by decide) ?_
    exact hret (some (.int ((((((1103515245 * ((σ 62 1).toInt64)) + 12345) - (((1103515245 * ((σ 62 1).toInt64)) + 12345) / 2147483648) * 2147483648).toInt32) / 65536) - ((((((1103515245 * ((σ 62 1).toInt64)) + 12345) - (((1103515245 * ((σ 62 1).toInt64)) + 12345) / 2147483648) * 2147483648).toInt32) / 65536) / x1) * x1))) _ _ _ _ _ ⟨_, rfl, h⟩ hH ⟨dX8_draw_39, .int, rfl, rfl⟩

def r_X8_pass_0 (E : EE) (x2 : Int32) (x3 : Int32) (σ : Mm) (Q : Mm → Prop) : Prop := Rn E M_X8_pass 0 [(0, .ref (Ad E 62)), (1, .ref (Ad E 34)), (2, .int x2), (3, .int x3), (4, .ref (Ad E 44))] [] σ (qv Q)
def r_X8_pass_13 (E : EE) (x2 : Int32) (x3 : Int32) (x5 : Int32) (σ : Mm) (Q : Mm → Prop) : Prop := Rn E M_X8_pass 13 [(0, .ref (Ad E 62)), (1, .ref (Ad E 34)), (2, .int x2), (3, .int x3), (4, .ref (Ad E 44)), (5, .int x5)] [] σ (qv Q)
set_option maxRecDepth 20000 in
set_option maxHeartbeats 4000000 in
theorem s_X8_pass_0 (E : EE) (x2 : Int32) (x3 : Int32) (σ : Mm) (Q : Mm → Prop) (h : r_X8_pass_13 E x2 x3 0 (up (up σ 62 0 0) 62 1 x3) Q) : r_X8_pass_0 E x2 x3 σ Q := by
  intro p e R s m args below meth c Z cells slots H locs ls C0 hH hl hret
  have hx := C0.1
  have hb : c.code = cX8_pass := C0.2.1
  have hl : lv_has ls 6 [(0, .ref (Ad E 62)), (1, .ref (Ad E 34)), (2, .int x2), (3, .int x3), (4, .ref (Ad E 44))] := hl
  refine lv_aload_n hx hb dX8_pass_0 rfl (lv_at hl 0 rfl) ?_
  refine lv_iconst (v := 0) hx hb dX8_pass_1 (by decide) ?_
  refine m_puti C0 hH f_62_0 kF_X8_7 rfl dX8_pass_2 rfl rfl (fun H locs hH => ?_)
  refine lv_aload_n hx hb dX8_pass_5 rfl (lv_at hl 0 rfl) ?_
  refine lv_iload_n hx hb dX8_pass_6 rfl (lv_at hl 3 rfl) ?_
  refine m_puti C0 hH f_62_1 kF_X8_13 rfl dX8_pass_7 rfl rfl (fun H locs hH => ?_)
  refine lv_iconst (v := 0) hx hb dX8_pass_10 (by decide) ?_
  refine lv_istore (lv' := [(5, .int 0), (0, .ref (Ad E 62)), (1, .ref (Ad E 34)), (2, .int x2), (3, .int x3), (4, .ref (Ad E 44))]) hx hb dX8_pass_11 hl (by decide) rfl (fun ls hl => ?_)
  exact h p e R s m args below meth c Z cells slots H locs ls C0 hH (lv_sub hl [1, 2, 3, 4, 5, 0] rfl) hret
set_option maxRecDepth 20000 in
set_option maxHeartbeats 4000000 in
theorem s_X8_pass_13 (E : EE) (x2 : Int32) (x3 : Int32) (x5 : Int32) (σ : Mm) (Q : Mm → Prop) (h : ((x2 ≤ x5 → Q σ) ∧ (¬ x2 ≤ x5 → r_X8_draw_0 E (σ 34 2) σ (fun r3 τ2 => r_X0_fill_34_0 E ((σ 34 3) ^^^ (1 <<< (r3 &&& 31))) (up τ2 34 3 ((σ 34 3) ^^^ (1 <<< (r3 &&& 31)))) (fun τ4 => r_X0_sitters_0 E (τ4 34 0) τ4 (fun r6 τ5 => r_X2_passSunday_34_0 E r6 τ5 (fun r8 τ7 => r_X8_pass_13 E x2 x3 (x5 + 1) (up τ7 62 0 ((τ4 62 0) + r8)) Q))))))) : r_X8_pass_13 E x2 x3 x5 σ Q := by
  intro p e R s m args below meth c Z cells slots H locs ls C0 hH hl hret
  have hx := C0.1
  have hb : c.code = cX8_pass := C0.2.1
  have hl : lv_has ls 6 [(0, .ref (Ad E 62)), (1, .ref (Ad E 34)), (2, .int x2), (3, .int x3), (4, .ref (Ad E 44)), (5, .int x5)] := hl
  refine lv_iload hx hb dX8_pass_13 (lv_at hl 5 rfl) ?_
  refine lv_iload_n hx hb dX8_pass_15 rfl (lv_at hl 2 rfl) ?_
  refine lv_icmp_ge (tgt := 76) hx hb dX8_pass_16 (by decide) (fun hc1 => ?_) (fun hc1 => ?_)
  · have h := h.1 hc1
    exact hret none _ _ _ _ _ ⟨rfl, h⟩ hH ⟨dX8_pass_76, rfl⟩
  · have h := h.2 hc1
    refine lv_aload_n hx hb dX8_pass_19 rfl (lv_at hl 1 rfl) ?_
    refine lv_dup hx hb dX8_pass_20 rfl ?_
    refine m_geti (x := σ 34 3) C0 hH f_34_3 kF_X8_16 dX8_pass_21 rfl ?_
    refine lv_iconst (v := 1) hx hb dX8_pass_24 (by decide) ?_
    refine lv_aload_n hx hb dX8_pass_25 rfl (lv_at hl 0 rfl) ?_
    refine lv_aload_n hx hb dX8_pass_26 rfl (lv_at hl 1 rfl) ?_
    refine m_geti (x := σ 34 2) C0 hH f_34_2 kF_X8_21 dX8_pass_27 rfl ?_
    refine m_cV (M2 := M_X8_draw) (As := [.int (σ 34 2)]) (rest := [.int 1, .int (σ 34 3), .ref (Ad E 34)]) h C0 hH hl kc_X8_draw ki_X8_draw kx_X8_draw ob_62 kM_X8_24 rfl (Nat.le_of_ble_eq_true rfl) (Nat.le_of_ble_eq_true rfl) ⟨Nat.le_of_ble_eq_true rfl, Nat.le_of_ble_eq_true rfl⟩ dX8_pass_30 rfl (fun r τ2 H locs hq hH => ?_)
    obtain ⟨r3, rfl, h⟩ := hq
    refine lv_ishl hx hb dX8_pass_33 ?_
    refine lv_ixor hx hb dX8_pass_34 ?_
    refine m_puti C0 hH f_34_3 kF_X8_16 rfl dX8_pass_35 rfl rfl (fun H locs hH => ?_)
    refine lv_aload hx hb dX8_pass_38 (lv_at hl 4 rfl) ?_
    refine lv_aload_n hx hb dX8_pass_40 rfl (lv_at hl 1 rfl) ?_
    refine lv_aload_n hx hb dX8_pass_41 rfl (lv_at hl 1 rfl) ?_
    refine m_geti (x := ((σ 34 3) ^^^ (1 <<< (r3 &&& 31)))) C0 hH f_34_3 kF_X8_16 dX8_pass_42 rfl ?_
    refine m_cV (M2 := M_X0_fill) (As := [.ref (Ad E 34), .int ((σ 34 3) ^^^ (1 <<< (r3 &&& 31)))]) (rest := []) h C0 hH hl kc_X0_fill ki_X0_fill kx_X0_fill ob_44 kM_X8_28 rfl (Nat.le_of_ble_eq_true rfl) (Nat.le_of_ble_eq_true rfl) ⟨Nat.le_of_ble_eq_true rfl, Nat.le_of_ble_eq_true rfl⟩ dX8_pass_45 rfl (fun r τ4 H locs hq hH => ?_)
    obtain ⟨rfl, h⟩ := hq
    refine lv_aload_n hx hb dX8_pass_48 rfl (lv_at hl 0 rfl) ?_
    refine lv_dup hx hb dX8_pass_49 rfl ?_
    refine m_geti (x := τ4 62 0) C0 hH f_62_0 kF_X8_7 dX8_pass_50 rfl ?_
    refine lv_aload_n hx hb dX8_pass_53 rfl (lv_at hl 1 rfl) ?_
    refine lv_aload hx hb dX8_pass_54 (lv_at hl 4 rfl) ?_
    refine lv_aload_n hx hb dX8_pass_56 rfl (lv_at hl 1 rfl) ?_
    refine m_geti (x := τ4 34 0) C0 hH f_34_0 kF_X8_34 dX8_pass_57 rfl ?_
    refine m_cV (M2 := M_X0_sitters) (As := [.int (τ4 34 0)]) (rest := [.ref (Ad E 34), .int (τ4 62 0), .ref (Ad E 62)]) h C0 hH hl kc_X0_sitters ki_X0_sitters kx_X0_sitters ob_44 kM_X8_37 rfl (Nat.le_of_ble_eq_true rfl) (Nat.le_of_ble_eq_true rfl) ⟨Nat.le_of_ble_eq_true rfl, Nat.le_of_ble_eq_true rfl⟩ dX8_pass_60 rfl (fun r τ5 H locs hq hH => ?_)
    obtain ⟨r6, rfl, h⟩ := hq
    refine m_cV (M2 := M_X2_passSunday) (As := [.int r6]) (rest := [.int (τ4 62 0), .ref (Ad E 62)]) h C0 hH hl kc_X2_passSunday ki_X2_passSunday kx_X2_passSunday ob_34 kM_X8_40 rfl (Nat.le_of_ble_eq_true rfl) (Nat.le_of_ble_eq_true rfl) ⟨Nat.le_of_ble_eq_true rfl, Nat.le_of_ble_eq_true rfl⟩ dX8_pass_63 rfl (fun r τ7 H locs hq hH => ?_)
    obtain ⟨r8, rfl, h⟩ := hq
    refine lv_iadd hx hb dX8_pass_66 ?_
    refine m_puti C0 hH f_62_0 kF_X8_7 rfl dX8_pass_67 rfl rfl (fun H locs hH => ?_)
    refine lv_iinc (v := (x5 + 1)) (lv' := [(5, .int (x5 + 1)), (0, .ref (Ad E 62)), (1, .ref (Ad E 34)), (2, .int x2), (3, .int x3), (4, .ref (Ad E 44))]) hx hb dX8_pass_70 hl (k := 5) rfl rfl (by decide) rfl (fun ls hl => ?_)
    refine lv_goto (tgt := 13) hx hb dX8_pass_73 (by decide) ?_
    exact h p e R s m args below meth c Z cells slots H locs ls C0 hH (lv_sub hl [1, 2, 3, 4, 5, 0] rfl) hret

def r_X9_winters_0 (E : EE) (x1 : Int32) (x2 : Int32) (x3 : Int32) (σ : Mm) (Q : Int32 → Mm → Prop) : Prop := Rn E M_X9_winters 0 [(0, .ref (Ad E 0)), (1, .int x1), (2, .int x2), (3, .int x3)] [] σ (qi Q)
set_option maxRecDepth 20000 in
set_option maxHeartbeats 4000000 in
theorem s_X9_winters_0 (E : EE) (x1 : Int32) (x2 : Int32) (x3 : Int32) (σ : Mm) (Q : Int32 → Mm → Prop) (h : ((x1 < 1 → Q (-102) σ) ∧ (¬ x1 < 1 → ((60 < x1 → Q (-102) σ) ∧ (¬ 60 < x1 → ((x2 < 0 → Q (-102) σ) ∧ (¬ x2 < 0 → ((x3 < 0 → Q (-102) σ) ∧ (¬ x3 < 0 → ((x3 ≤ 2 → r_X2_isThere_0 E  σ (fun r7 τ6 => ((¬ r7 = 0 → r_X2_copyFrom_34_14_0 E  τ6 (fun τ9 => r_X8_pass_0 E x1 x2 τ9 (fun τ10 => ((¬ x3 = 0 → ((¬ x3 = 1 → Q (τ10 62 1) τ10) ∧ (x3 = 1 → r_X2_allWarm_34_0 E  τ10 (fun r14 τ13 => Q r14 τ13)))) ∧ (x3 = 0 → Q (τ10 62 0) τ10))))) ∧ (r7 = 0 → Q (-103) τ6)))) ∧ (¬ x3 ≤ 2 → Q (-102) σ))))))))))) : r_X9_winters_0 E x1 x2 x3 σ Q := by
  intro p e R s m args below meth c Z cells slots H locs ls C0 hH hl hret
  have hx := C0.1
  have hb : c.code = cX9_winters := C0.2.1
  have hl : lv_has ls 4 [(0, .ref (Ad E 0)), (1, .int x1), (2, .int x2), (3, .int x3)] := hl
  refine lv_iload_n hx hb dX9_winters_0 rfl (lv_at hl 1 rfl) ?_
  refine lv_iconst (v := 1) hx hb dX9_winters_1 (by decide) ?_
  refine lv_icmp_lt (tgt := 24) hx hb dX9_winters_2 (by decide) (fun hc1 => ?_) (fun hc1 => ?_)
  · have h := h.1 hc1
    refine lv_bipush (v := (-102)) hx hb dX9_winters_24 (by decide) ?_
    exact hret (some (.int (-102))) _ _ _ _ _ ⟨_, rfl, h⟩ hH ⟨dX9_winters_26, .int, rfl, rfl⟩
  · have h := h.2 hc1
    refine lv_iload_n hx hb dX9_winters_5 rfl (lv_at hl 1 rfl) ?_
    refine lv_bipush (v := 60) hx hb dX9_winters_6 (by decide) ?_
    refine lv_icmp_gt (tgt := 24) hx hb dX9_winters_8 (by decide) (fun hc2 => ?_) (fun hc2 => ?_)
    · have h := h.1 hc2
      refine lv_bipush (v := (-102)) hx hb dX9_winters_24 (by decide) ?_
      exact hret (some (.int (-102))) _ _ _ _ _ ⟨_, rfl, h⟩ hH ⟨dX9_winters_26, .int, rfl, rfl⟩
    · have h := h.2 hc2
      refine lv_iload_n hx hb dX9_winters_11 rfl (lv_at hl 2 rfl) ?_
      refine lv_if_lt (tgt := 24) hx hb dX9_winters_12 (by decide) (fun hc3 => ?_) (fun hc3 => ?_)
      · have h := h.1 hc3
        refine lv_bipush (v := (-102)) hx hb dX9_winters_24 (by decide) ?_
        exact hret (some (.int (-102))) _ _ _ _ _ ⟨_, rfl, h⟩ hH ⟨dX9_winters_26, .int, rfl, rfl⟩
      · have h := h.2 hc3
        refine lv_iload_n hx hb dX9_winters_15 rfl (lv_at hl 3 rfl) ?_
        refine lv_if_lt (tgt := 24) hx hb dX9_winters_16 (by decide) (fun hc4 => ?_) (fun hc4 => ?_)
        · have h := h.1 hc4
          refine lv_bipush (v := (-102)) hx hb dX9_winters_24 (by decide) ?_
          exact hret (some (.int (-102))) _ _ _ _ _ ⟨_, rfl, h⟩ hH ⟨dX9_winters_26, .int, rfl, rfl⟩
        · have h := h.2 hc4
          refine lv_iload_n hx hb dX9_winters_19 rfl (lv_at hl 3 rfl) ?_
          refine lv_iconst (v := 2) hx hb dX9_winters_20 (by decide) ?_
          refine lv_icmp_le (tgt := 27) hx hb dX9_winters_21 (by decide) (fun hc5 => ?_) (fun hc5 => ?_)
          · have h := h.1 hc5
            refine lv_aload_n hx hb dX9_winters_27 rfl (lv_at hl 0 rfl) ?_
            refine m_getr C0 hH f_0_2 14 rfl kF_X9_26 dX9_winters_28 ?_
            refine m_cV (M2 := M_X2_isThere) (As := []) (rest := []) h C0 hH hl kc_X2_isThere ki_X2_isThere kx_X2_isThere ob_14 kM_X9_184 rfl (Nat.le_of_ble_eq_true rfl) (Nat.le_of_ble_eq_true rfl) ⟨Nat.le_of_ble_eq_true rfl, Nat.le_of_ble_eq_true rfl⟩ dX9_winters_31 rfl (fun r τ6 H locs hq hH => ?_)
            obtain ⟨r7, rfl, h⟩ := hq
            refine lv_if_ne (tgt := 40) hx hb dX9_winters_34 (by decide) (fun hc8 => ?_) (fun hc8 => ?_)
            · have h := h.1 hc8
              refine lv_aload_n hx hb dX9_winters_40 rfl (lv_at hl 0 rfl) ?_
              refine m_getr C0 hH f_0_4 34 rfl kF_X9_33 dX9_winters_41 ?_
              refine lv_aload_n hx hb dX9_winters_44 rfl (lv_at hl 0 rfl) ?_
              refine m_getr C0 hH f_0_2 14 rfl kF_X9_26 dX9_winters_45 ?_
              refine m_cV (M2 := M_X2_copyFrom) (As := [.ref (Ad E 14)]) (rest := []) h C0 hH hl kc_X2_copyFrom ki_X2_copyFrom kx_X2_copyFrom ob_34 kM_X9_107 rfl (Nat.le_of_ble_eq_true rfl) (Nat.le_of_ble_eq_true rfl) ⟨Nat.le_of_ble_eq_true rfl, Nat.le_of_ble_eq_true rfl⟩ dX9_winters_48 rfl (fun r τ9 H locs hq hH => ?_)
              obtain ⟨rfl, h⟩ := hq
              refine lv_aload_n hx hb dX9_winters_51 rfl (lv_at hl 0 rfl) ?_
              refine m_getr C0 hH f_0_10 62 rfl kF_X9_74 dX9_winters_52 ?_
              refine lv_aload_n hx hb dX9_winters_55 rfl (lv_at hl 0 rfl) ?_
              refine m_getr C0 hH f_0_4 34 rfl kF_X9_33 dX9_winters_56 ?_
              refine lv_iload_n hx hb dX9_winters_59 rfl (lv_at hl 1 rfl) ?_
              refine lv_iload_n hx hb dX9_winters_60 rfl (lv_at hl 2 rfl) ?_
              refine lv_aload_n hx hb dX9_winters_61 rfl (lv_at hl 0 rfl) ?_
              refine m_getr C0 hH f_0_5 44 rfl kF_X9_39 dX9_winters_62 ?_
              refine m_cV (M2 := M_X8_pass) (As := [.ref (Ad E 34), .int x1, .int x2, .ref (Ad E 44)]) (rest := []) h C0 hH hl kc_X8_pass ki_X8_pass kx_X8_pass ob_62 kM_X9_239 rfl (Nat.le_of_ble_eq_true rfl) (Nat.le_of_ble_eq_true rfl) ⟨Nat.le_of_ble_eq_true rfl, Nat.le_of_ble_eq_true rfl⟩ dX9_winters_65 rfl (fun r τ10 H locs hq hH => ?_)
              obtain ⟨rfl, h⟩ := hq
              refine lv_iload_n hx hb dX9_winters_68 rfl (lv_at hl 3 rfl) ?_
              refine lv_if_ne (tgt := 80) hx hb dX9_winters_69 (by decide) (fun hc11 => ?_) (fun hc11 => ?_)
              · have h := h.1 hc11
                refine lv_iload_n hx hb dX9_winters_80 rfl (lv_at hl 3 rfl) ?_
                refine lv_iconst (v := 1) hx hb dX9_winters_81 (by decide) ?_
                refine lv_icmp_ne (tgt := 95) hx hb dX9_winters_82 (by decide) (fun hc12 => ?_) (fun hc12 => ?_)
                · have h := h.1 hc12
                  refine lv_aload_n hx hb dX9_winters_95 rfl (lv_at hl 0 rfl) ?_
                  refine m_getr C0 hH f_0_10 62 rfl kF_X9_74 dX9_winters_96 ?_
                  refine m_geti (x := τ10 62 1) C0 hH f_62_1 kF_X9_247 dX9_winters_99 rfl ?_
                  exact hret (some (.int (τ10 62 1))) _ _ _ _ _ ⟨_, rfl, h⟩ hH ⟨dX9_winters_102, .int, rfl, rfl⟩
                · have h := h.2 hc12
                  refine lv_aload_n hx hb dX9_winters_85 rfl (lv_at hl 0 rfl) ?_
                  refine m_getr C0 hH f_0_4 34 rfl kF_X9_33 dX9_winters_86 ?_
                  refine m_cV (M2 := M_X2_allWarm) (As := []) (rest := []) h C0 hH hl kc_X2_allWarm ki_X2_allWarm kx_X2_allWarm ob_34 kM_X9_244 rfl (Nat.le_of_ble_eq_true rfl) (Nat.le_of_ble_eq_true rfl) ⟨Nat.le_of_ble_eq_true rfl, Nat.le_of_ble_eq_true rfl⟩ dX9_winters_89 rfl (fun r τ13 H locs hq hH => ?_)
                  obtain ⟨r14, rfl, h⟩ := hq
                  refine lv_goto (tgt := 102) hx hb dX9_winters_92 (by decide) ?_
                  exact hret (some (.int r14)) _ _ _ _ _ ⟨_, rfl, h⟩ hH ⟨dX9_winters_102, .int, rfl, rfl⟩
              · have h := h.2 hc11
                refine lv_aload_n hx hb dX9_winters_72 rfl (lv_at hl 0 rfl) ?_
                refine m_getr C0 hH f_0_10 62 rfl kF_X9_74 dX9_winters_73 ?_
                refine m_geti (x := τ10 62 0) C0 hH f_62_0 kF_X9_243 dX9_winters_76 rfl ?_
                exact hret (some (.int (τ10 62 0))) _ _ _ _ _ ⟨_, rfl, h⟩ hH ⟨dX9_winters_79, .int, rfl, rfl⟩
            · have h := h.2 hc8
              refine lv_bipush (v := (-103)) hx hb dX9_winters_37 (by decide) ?_
              exact hret (some (.int (-103))) _ _ _ _ _ ⟨_, rfl, h⟩ hH ⟨dX9_winters_39, .int, rfl, rfl⟩
          · have h := h.2 hc5
            refine lv_bipush (v := (-102)) hx hb dX9_winters_24 (by decide) ?_
            exact hret (some (.int (-102))) _ _ _ _ _ ⟨_, rfl, h⟩ hH ⟨dX9_winters_26, .int, rfl, rfl⟩

def r_X2_copyFrom_24_14_0 (E : EE) (σ : Mm) (Q : Mm → Prop) : Prop := Rn E M_X2_copyFrom 0 [(0, .ref (Ad E 24)), (1, .ref (Ad E 14))] [] σ (qv Q)
def r_X2_copyFrom_24_14_50 (E : EE) (x2 : Int32) (σ : Mm) (Q : Mm → Prop) : Prop := Rn E M_X2_copyFrom 50 [(0, .ref (Ad E 24)), (1, .ref (Ad E 14)), (2, .int x2)] [] σ (qv Q)
def r_X2_copyFrom_24_14_102 (E : EE) (x2 : Int32) (σ : Mm) (Q : Mm → Prop) : Prop := Rn E M_X2_copyFrom 102 [(0, .ref (Ad E 24)), (1, .ref (Ad E 14)), (2, .int x2)] [] σ (qv Q)
def r_X2_copyFrom_24_14_154 (E : EE) (x2 : Int32) (σ : Mm) (Q : Mm → Prop) : Prop := Rn E M_X2_copyFrom 154 [(0, .ref (Ad E 24)), (1, .ref (Ad E 14)), (2, .int x2)] [] σ (qv Q)
set_option maxRecDepth 20000 in
set_option maxHeartbeats 4000000 in
theorem s_X2_copyFrom_24_14_0 (E : EE) (σ : Mm) (Q : Mm → Prop) (h : r_X2_copyFrom_24_14_50 E 0 (up (up (up (up (up (up σ 24 0 (σ 14 0)) 24 1 (σ 14 1)) 24 2 (σ 14 2)) 24 3 (σ 14 3)) 24 4 (σ 14 4)) 24 5 (σ 14 5)) Q) : r_X2_copyFrom_24_14_0 E σ Q := by
  intro p e R s m args below meth c Z cells slots H locs ls C0 hH hl hret
  have hx := C0.1
  have hb : c.code = cX2_copyFrom := C0.2.1
  have hl : lv_has ls 3 [(0, .ref (Ad E 24)), (1, .ref (Ad E 14))] := hl
  refine lv_aload_n hx hb dX2_copyFrom_0 rfl (lv_at hl 0 rfl) ?_
  refine lv_aload_n hx hb dX2_copyFrom_1 rfl (lv_at hl 1 rfl) ?_
  refine m_geti (x := σ 14 0) C0 hH f_14_0 kF_X2_9 dX2_copyFrom_2 rfl ?_
  refine m_puti C0 hH f_24_0 kF_X2_9 rfl dX2_copyFrom_5 rfl rfl (fun H locs hH => ?_)
  refine lv_aload_n hx hb dX2_copyFrom_8 rfl (lv_at hl 0 rfl) ?_
  refine lv_aload_n hx hb dX2_copyFrom_9 rfl (lv_at hl 1 rfl) ?_
  refine m_geti (x := σ 14 1) C0 hH f_14_1 kF_X2_15 dX2_copyFrom_10 rfl ?_
  refine m_puti C0 hH f_24_1 kF_X2_15 rfl dX2_copyFrom_13 rfl rfl (fun H locs hH => ?_)
  refine lv_aload_n hx hb dX2_copyFrom_16 rfl (lv_at hl 0 rfl) ?_
  refine lv_aload_n hx hb dX2_copyFrom_17 rfl (lv_at hl 1 rfl) ?_
  refine m_geti (x := σ 14 2) C0 hH f_14_2 kF_X2_18 dX2_copyFrom_18 rfl ?_
  refine m_puti C0 hH f_24_2 kF_X2_18 rfl dX2_copyFrom_21 rfl rfl (fun H locs hH => ?_)
  refine lv_aload_n hx hb dX2_copyFrom_24 rfl (lv_at hl 0 rfl) ?_
  refine lv_aload_n hx hb dX2_copyFrom_25 rfl (lv_at hl 1 rfl) ?_
  refine m_geti (x := σ 14 3) C0 hH f_14_3 kF_X2_21 dX2_copyFrom_26 rfl ?_
  refine m_puti C0 hH f_24_3 kF_X2_21 rfl dX2_copyFrom_29 rfl rfl (fun H locs hH => ?_)
  refine lv_aload_n hx hb dX2_copyFrom_32 rfl (lv_at hl 0 rfl) ?_
  refine lv_aload_n hx hb dX2_copyFrom_33 rfl (lv_at hl 1 rfl) ?_
  refine m_geti (x := σ 14 4) C0 hH f_14_4 kF_X2_24 dX2_copyFrom_34 rfl ?_
  refine m_puti C0 hH f_24_4 kF_X2_24 rfl dX2_copyFrom_37 rfl rfl (fun H locs hH => ?_)
  refine lv_aload_n hx hb dX2_copyFrom_40 rfl (lv_at hl 0 rfl) ?_
  refine lv_aload_n hx hb dX2_copyFrom_41 rfl (lv_at hl 1 rfl) ?_
  refine m_geti (x := σ 14 5) C0 hH f_14_5 kF_X2_27 dX2_copyFrom_42 rfl ?_
  refine m_puti C0 hH f_24_5 kF_X2_27 rfl dX2_copyFrom_45 rfl rfl (fun H locs hH => ?_)
  refine lv_iconst (v := 0) hx hb dX2_copyFrom_48 (by decide) ?_
  refine lv_istore_n (lv' := [(2, .int 0), (0, .ref (Ad E 24)), (1, .ref (Ad E 14))]) hx hb dX2_copyFrom_49 rfl hl (by decide) rfl (fun ls hl => ?_)
  exact h p e R s m args below meth c Z cells slots H locs ls C0 hH (lv_sub hl [1, 2, 0] rfl) hret
set_option maxRecDepth 20000 in
set_option maxHeartbeats 4000000 in
theorem s_X2_copyFrom_24_14_50 (E : EE) (x2 : Int32) (σ : Mm) (Q : Mm → Prop) (h : (((σ 24 1) ≤ x2 → r_X2_copyFrom_24_14_102 E 0 σ Q) ∧ (¬ (σ 24 1) ≤ x2 → (vp_in x2 6 ∧ (vp_in x2 6 ∧ (vp_in x2 6 ∧ (vp_in x2 6 ∧ (vp_in x2 6 ∧ (vp_in x2 6 ∧ r_X2_copyFrom_24_14_50 E (x2 + 1) (up (up (up σ 25 x2.toNatClampNeg (σ 15 x2.toNatClampNeg)) 26 x2.toNatClampNeg (σ 16 x2.toNatClampNeg)) 27 x2.toNatClampNeg (σ 17 x2.toNatClampNeg)) Q))))))))) : r_X2_copyFrom_24_14_50 E x2 σ Q := by
  intro p e R s m args below meth c Z cells slots H locs ls C0 hH hl hret
  have hx := C0.1
  have hb : c.code = cX2_copyFrom := C0.2.1
  have hl : lv_has ls 3 [(0, .ref (Ad E 24)), (1, .ref (Ad E 14)), (2, .int x2)] := hl
  refine lv_iload_n hx hb dX2_copyFrom_50 rfl (lv_at hl 2 rfl) ?_
  refine lv_aload_n hx hb dX2_copyFrom_51 rfl (lv_at hl 0 rfl) ?_
  refine m_geti (x := σ 24 1) C0 hH f_24_1 kF_X2_15 dX2_copyFrom_52 rfl ?_
  refine lv_icmp_ge (tgt := 100) hx hb dX2_copyFrom_55 (by decide) (fun hc1 => ?_) (fun hc1 => ?_)
  · have h := h.1 hc1
    refine lv_iconst (v := 0) hx hb dX2_copyFrom_100 (by decide) ?_
    refine lv_istore_n (lv' := [(2, .int 0), (0, .ref (Ad E 24)), (1, .ref (Ad E 14))]) hx hb dX2_copyFrom_101 rfl hl (by decide) rfl (fun ls hl => ?_)
    exact h p e R s m args below meth c Z cells slots H locs ls C0 hH (lv_sub hl [1, 2, 0] rfl) hret
  · have h := h.2 hc1
    refine lv_aload_n hx hb dX2_copyFrom_58 rfl (lv_at hl 0 rfl) ?_
    refine m_getr C0 hH f_24_6 25 rfl kF_X2_30 dX2_copyFrom_59 ?_
    refine lv_iload_n hx hb dX2_copyFrom_62 rfl (lv_at hl 2 rfl) ?_
    refine lv_aload_n hx hb dX2_copyFrom_63 rfl (lv_at hl 1 rfl) ?_
    refine m_getr C0 hH f_14_6 15 rfl kF_X2_30 dX2_copyFrom_64 ?_
    refine lv_iload_n hx hb dX2_copyFrom_67 rfl (lv_at hl 2 rfl) ?_
    refine m_iald (x := σ 15 x2.toNatClampNeg) C0 hH a_15 h.1 dX2_copyFrom_68 rfl ?_
    have h := h.2
    refine m_iast (j := x2.toNatClampNeg) C0 hH a_25 h.1 rfl dX2_copyFrom_69 (fun H locs hH => ?_)
    have h := h.2
    refine lv_aload_n hx hb dX2_copyFrom_70 rfl (lv_at hl 0 rfl) ?_
    refine m_getr C0 hH f_24_7 26 rfl kF_X2_34 dX2_copyFrom_71 ?_
    refine lv_iload_n hx hb dX2_copyFrom_74 rfl (lv_at hl 2 rfl) ?_
    refine lv_aload_n hx hb dX2_copyFrom_75 rfl (lv_at hl 1 rfl) ?_
    refine m_getr C0 hH f_14_7 16 rfl kF_X2_34 dX2_copyFrom_76 ?_
    refine lv_iload_n hx hb dX2_copyFrom_79 rfl (lv_at hl 2 rfl) ?_
    refine m_iald (x := σ 16 x2.toNatClampNeg) C0 hH a_16 h.1 dX2_copyFrom_80 rfl ?_
    have h := h.2
    refine m_iast (j := x2.toNatClampNeg) C0 hH a_26 h.1 rfl dX2_copyFrom_81 (fun H locs hH => ?_)
    have h := h.2
    refine lv_aload_n hx hb dX2_copyFrom_82 rfl (lv_at hl 0 rfl) ?_
    refine m_getr C0 hH f_24_8 27 rfl kF_X2_37 dX2_copyFrom_83 ?_
    refine lv_iload_n hx hb dX2_copyFrom_86 rfl (lv_at hl 2 rfl) ?_
    refine lv_aload_n hx hb dX2_copyFrom_87 rfl (lv_at hl 1 rfl) ?_
    refine m_getr C0 hH f_14_8 17 rfl kF_X2_37 dX2_copyFrom_88 ?_
    refine lv_iload_n hx hb dX2_copyFrom_91 rfl (lv_at hl 2 rfl) ?_
    refine m_iald (x := σ 17 x2.toNatClampNeg) C0 hH a_17 h.1 dX2_copyFrom_92 rfl ?_
    have h := h.2
    refine m_iast (j := x2.toNatClampNeg) C0 hH a_27 h.1 rfl dX2_copyFrom_93 (fun H locs hH => ?_)
    have h := h.2
    refine lv_iinc (v := (x2 + 1)) (lv' := [(2, .int (x2 + 1)), (0, .ref (Ad E 24)), (1, .ref (Ad E 14))]) hx hb dX2_copyFrom_94 hl (k := 2) rfl rfl (by decide) rfl (fun ls hl => ?_)
    refine lv_goto (tgt := 50) hx hb dX2_copyFrom_97 (by decide) ?_
    exact h p e R s m args below meth c Z cells slots H locs ls C0 hH (lv_sub hl [1, 2, 0] rfl) hret
set_option maxRecDepth 20000 in
set_option maxHeartbeats 4000000 in
theorem s_X2_copyFrom_24_14_102 (E : EE) (x2 : Int32) (σ : Mm) (Q : Mm → Prop) (h : (((σ 24 2) ≤ x2 → r_X2_copyFrom_24_14_154 E 0 σ Q) ∧ (¬ (σ 24 2) ≤ x2 → (vp_in x2 8 ∧ (vp_in x2 8 ∧ (vp_in x2 8 ∧ (vp_in x2 8 ∧ (vp_in x2 8 ∧ (vp_in x2 8 ∧ r_X2_copyFrom_24_14_102 E (x2 + 1) (up (up (up σ 28 x2.toNatClampNeg (σ 18 x2.toNatClampNeg)) 29 x2.toNatClampNeg (σ 19 x2.toNatClampNeg)) 30 x2.toNatClampNeg (σ 20 x2.toNatClampNeg)) Q))))))))) : r_X2_copyFrom_24_14_102 E x2 σ Q := by
  intro p e R s m args below meth c Z cells slots H locs ls C0 hH hl hret
  have hx := C0.1
  have hb : c.code = cX2_copyFrom := C0.2.1
  have hl : lv_has ls 3 [(0, .ref (Ad E 24)), (1, .ref (Ad E 14)), (2, .int x2)] := hl
  refine lv_iload_n hx hb dX2_copyFrom_102 rfl (lv_at hl 2 rfl) ?_
  refine lv_aload_n hx hb dX2_copyFrom_103 rfl (lv_at hl 0 rfl) ?_
  refine m_geti (x := σ 24 2) C0 hH f_24_2 kF_X2_18 dX2_copyFrom_104 rfl ?_
  refine lv_icmp_ge (tgt := 152) hx hb dX2_copyFrom_107 (by decide) (fun hc1 => ?_) (fun hc1 => ?_)
  · have h := h.1 hc1
    refine lv_iconst (v := 0) hx hb dX2_copyFrom_152 (by decide) ?_
    refine lv_istore_n (lv' := [(2, .int 0), (0, .ref (Ad E 24)), (1, .ref (Ad E 14))]) hx hb dX2_copyFrom_153 rfl hl (by decide) rfl (fun ls hl => ?_)
    exact h p e R s m args below meth c Z cells slots H locs ls C0 hH (lv_sub hl [1, 2, 0] rfl) hret
  · have h := h.2 hc1
    refine lv_aload_n hx hb dX2_copyFrom_110 rfl (lv_at hl 0 rfl) ?_
    refine m_getr C0 hH f_24_9 28 rfl kF_X2_40 dX2_copyFrom_111 ?_
    refine lv_iload_n hx hb dX2_copyFrom_114 rfl (lv_at hl 2 rfl) ?_
    refine lv_aload_n hx hb dX2_copyFrom_115 rfl (lv_at hl 1 rfl) ?_
    refine m_getr C0 hH f_14_9 18 rfl kF_X2_40 dX2_copyFrom_116 ?_
    refine lv_iload_n hx hb dX2_copyFrom_119 rfl (lv_at hl 2 rfl) ?_
    refine m_iald (x := σ 18 x2.toNatClampNeg) C0 hH a_18 h.1 dX2_copyFrom_120 rfl ?_
    have h := h.2
    refine m_iast (j := x2.toNatClampNeg) C0 hH a_28 h.1 rfl dX2_copyFrom_121 (fun H locs hH => ?_)
    have h := h.2
    refine lv_aload_n hx hb dX2_copyFrom_122 rfl (lv_at hl 0 rfl) ?_
    refine m_getr C0 hH f_24_10 29 rfl kF_X2_43 dX2_copyFrom_123 ?_
    refine lv_iload_n hx hb dX2_copyFrom_126 rfl (lv_at hl 2 rfl) ?_
    refine lv_aload_n hx hb dX2_copyFrom_127 rfl (lv_at hl 1 rfl) ?_
    refine m_getr C0 hH f_14_10 19 rfl kF_X2_43 dX2_copyFrom_128 ?_
    refine lv_iload_n hx hb dX2_copyFrom_131 rfl (lv_at hl 2 rfl) ?_
    refine m_iald (x := σ 19 x2.toNatClampNeg) C0 hH a_19 h.1 dX2_copyFrom_132 rfl ?_
    have h := h.2
    refine m_iast (j := x2.toNatClampNeg) C0 hH a_29 h.1 rfl dX2_copyFrom_133 (fun H locs hH => ?_)
    have h := h.2
    refine lv_aload_n hx hb dX2_copyFrom_134 rfl (lv_at hl 0 rfl) ?_
    refine m_getr C0 hH f_24_11 30 rfl kF_X2_46 dX2_copyFrom_135 ?_
    refine lv_iload_n hx hb dX2_copyFrom_138 rfl (lv_at hl 2 rfl) ?_
    refine lv_aload_n hx hb dX2_copyFrom_139 rfl (lv_at hl 1 rfl) ?_
    refine m_getr C0 hH f_14_11 20 rfl kF_X2_46 dX2_copyFrom_140 ?_
    refine lv_iload_n hx hb dX2_copyFrom_143 rfl (lv_at hl 2 rfl) ?_
    refine m_iald (x := σ 20 x2.toNatClampNeg) C0 hH a_20 h.1 dX2_copyFrom_144 rfl ?_
    have h := h.2
    refine m_iast (j := x2.toNatClampNeg) C0 hH a_30 h.1 rfl dX2_copyFrom_145 (fun H locs hH => ?_)
    have h := h.2
    refine lv_iinc (v := (x2 + 1)) (lv' := [(2, .int (x2 + 1)), (0, .ref (Ad E 24)), (1, .ref (Ad E 14))]) hx hb dX2_copyFrom_146 hl (k := 2) rfl rfl (by decide) rfl (fun ls hl => ?_)
    refine lv_goto (tgt := 102) hx hb dX2_copyFrom_149 (by decide) ?_
    exact h p e R s m args below meth c Z cells slots H locs ls C0 hH (lv_sub hl [1, 2, 0] rfl) hret
set_option maxRecDepth 20000 in
set_option maxHeartbeats 4000000 in
theorem s_X2_copyFrom_24_14_154 (E : EE) (x2 : Int32) (σ : Mm) (Q : Mm → Prop) (h : (((σ 24 5) ≤ x2 → Q σ) ∧ (¬ (σ 24 5) ≤ x2 → (vp_in x2 6 ∧ (vp_in x2 6 ∧ (vp_in x2 6 ∧ (vp_in x2 6 ∧ (vp_in x2 6 ∧ (vp_in x2 6 ∧ r_X2_copyFrom_24_14_154 E (x2 + 1) (up (up (up σ 31 x2.toNatClampNeg (σ 21 x2.toNatClampNeg)) 32 x2.toNatClampNeg (σ 22 x2.toNatClampNeg)) 33 x2.toNatClampNeg (vp_nar .boolean (σ 23 x2.toNatClampNeg))) Q))))))))) : r_X2_copyFrom_24_14_154 E x2 σ Q := by
  intro p e R s m args below meth c Z cells slots H locs ls C0 hH hl hret
  have hx := C0.1
  have hb : c.code = cX2_copyFrom := C0.2.1
  have hl : lv_has ls 3 [(0, .ref (Ad E 24)), (1, .ref (Ad E 14)), (2, .int x2)] := hl
  refine lv_iload_n hx hb dX2_copyFrom_154 rfl (lv_at hl 2 rfl) ?_
  refine lv_aload_n hx hb dX2_copyFrom_155 rfl (lv_at hl 0 rfl) ?_
  refine m_geti (x := σ 24 5) C0 hH f_24_5 kF_X2_27 dX2_copyFrom_156 rfl ?_
  refine lv_icmp_ge (tgt := 204) hx hb dX2_copyFrom_159 (by decide) (fun hc1 => ?_) (fun hc1 => ?_)
  · have h := h.1 hc1
    exact hret none _ _ _ _ _ ⟨rfl, h⟩ hH ⟨dX2_copyFrom_204, rfl⟩
  · have h := h.2 hc1
    refine lv_aload_n hx hb dX2_copyFrom_162 rfl (lv_at hl 0 rfl) ?_
    refine m_getr C0 hH f_24_12 31 rfl kF_X2_49 dX2_copyFrom_163 ?_
    refine lv_iload_n hx hb dX2_copyFrom_166 rfl (lv_at hl 2 rfl) ?_
    refine lv_aload_n hx hb dX2_copyFrom_167 rfl (lv_at hl 1 rfl) ?_
    refine m_getr C0 hH f_14_12 21 rfl kF_X2_49 dX2_copyFrom_168 ?_
    refine lv_iload_n hx hb dX2_copyFrom_171 rfl (lv_at hl 2 rfl) ?_
    refine m_iald (x := σ 21 x2.toNatClampNeg) C0 hH a_21 h.1 dX2_copyFrom_172 rfl ?_
    have h := h.2
    refine m_iast (j := x2.toNatClampNeg) C0 hH a_31 h.1 rfl dX2_copyFrom_173 (fun H locs hH => ?_)
    have h := h.2
    refine lv_aload_n hx hb dX2_copyFrom_174 rfl (lv_at hl 0 rfl) ?_
    refine m_getr C0 hH f_24_13 32 rfl kF_X2_52 dX2_copyFrom_175 ?_
    refine lv_iload_n hx hb dX2_copyFrom_178 rfl (lv_at hl 2 rfl) ?_
    refine lv_aload_n hx hb dX2_copyFrom_179 rfl (lv_at hl 1 rfl) ?_
    refine m_getr C0 hH f_14_13 22 rfl kF_X2_52 dX2_copyFrom_180 ?_
    refine lv_iload_n hx hb dX2_copyFrom_183 rfl (lv_at hl 2 rfl) ?_
    refine m_iald (x := σ 22 x2.toNatClampNeg) C0 hH a_22 h.1 dX2_copyFrom_184 rfl ?_
    have h := h.2
    refine m_iast (j := x2.toNatClampNeg) C0 hH a_32 h.1 rfl dX2_copyFrom_185 (fun H locs hH => ?_)
    have h := h.2
    refine lv_aload_n hx hb dX2_copyFrom_186 rfl (lv_at hl 0 rfl) ?_
    refine m_getr C0 hH f_24_14 33 rfl kF_X2_55 dX2_copyFrom_187 ?_
    refine lv_iload_n hx hb dX2_copyFrom_190 rfl (lv_at hl 2 rfl) ?_
    refine lv_aload_n hx hb dX2_copyFrom_191 rfl (lv_at hl 1 rfl) ?_
    refine m_getr C0 hH f_14_14 23 rfl kF_X2_55 dX2_copyFrom_192 ?_
    refine lv_iload_n hx hb dX2_copyFrom_195 rfl (lv_at hl 2 rfl) ?_
    refine m_zald (x := σ 23 x2.toNatClampNeg) C0 hH a_23 h.1 dX2_copyFrom_196 rfl ?_
    have h := h.2
    refine m_zast (j := x2.toNatClampNeg) C0 hH a_33 h.1 rfl dX2_copyFrom_197 (fun H locs hH => ?_)
    have h := h.2
    refine lv_iinc (v := (x2 + 1)) (lv' := [(2, .int (x2 + 1)), (0, .ref (Ad E 24)), (1, .ref (Ad E 14))]) hx hb dX2_copyFrom_198 hl (k := 2) rfl rfl (by decide) rfl (fun ls hl => ?_)
    refine lv_goto (tgt := 154) hx hb dX2_copyFrom_201 (by decide) ?_
    exact h p e R s m args below meth c Z cells slots H locs ls C0 hH (lv_sub hl [1, 2, 0] rfl) hret

def r_X9_image_0 (E : EE) (σ : Mm) (Q : Int32 → Mm → Prop) : Prop := Rn E M_X9_image 0 [(0, .ref (Ad E 0))] [] σ (qi Q)
set_option maxRecDepth 20000 in
set_option maxHeartbeats 4000000 in
theorem s_X9_image_0 (E : EE) (σ : Mm) (Q : Int32 → Mm → Prop) (h : r_X2_isThere_0 E  σ (fun r2 τ1 => ((¬ r2 = 0 → r_X2_copyFrom_24_14_0 E  τ1 (fun τ4 => Q (τ4 14 4) (up τ4 0 11 1))) ∧ (r2 = 0 → Q (-103) τ1)))) : r_X9_image_0 E σ Q := by
  intro p e R s m args below meth c Z cells slots H locs ls C0 hH hl hret
  have hx := C0.1
  have hb : c.code = cX9_image := C0.2.1
  have hl : lv_has ls 1 [(0, .ref (Ad E 0))] := hl
  refine lv_aload_n hx hb dX9_image_0 rfl (lv_at hl 0 rfl) ?_
  refine m_getr C0 hH f_0_2 14 rfl kF_X9_26 dX9_image_1 ?_
  refine m_cV (M2 := M_X2_isThere) (As := []) (rest := []) h C0 hH hl kc_X2_isThere ki_X2_isThere kx_X2_isThere ob_14 kM_X9_184 rfl (Nat.le_of_ble_eq_true rfl) (Nat.le_of_ble_eq_true rfl) ⟨Nat.le_of_ble_eq_true rfl, Nat.le_of_ble_eq_true rfl⟩ dX9_image_4 rfl (fun r τ1 H locs hq hH => ?_)
  obtain ⟨r2, rfl, h⟩ := hq
  refine lv_if_ne (tgt := 13) hx hb dX9_image_7 (by decide) (fun hc3 => ?_) (fun hc3 => ?_)
  · have h := h.1 hc3
    refine lv_aload_n hx hb dX9_image_13 rfl (lv_at hl 0 rfl) ?_
    refine m_getr C0 hH f_0_3 24 rfl kF_X9_30 dX9_image_14 ?_
    refine lv_aload_n hx hb dX9_image_17 rfl (lv_at hl 0 rfl) ?_
    refine m_getr C0 hH f_0_2 14 rfl kF_X9_26 dX9_image_18 ?_
    refine m_cV (M2 := M_X2_copyFrom) (As := [.ref (Ad E 14)]) (rest := []) h C0 hH hl kc_X2_copyFrom ki_X2_copyFrom kx_X2_copyFrom ob_24 kM_X9_107 rfl (Nat.le_of_ble_eq_true rfl) (Nat.le_of_ble_eq_true rfl) ⟨Nat.le_of_ble_eq_true rfl, Nat.le_of_ble_eq_true rfl⟩ dX9_image_21 rfl (fun r τ4 H locs hq hH => ?_)
    obtain ⟨rfl, h⟩ := hq
    refine lv_aload_n hx hb dX9_image_24 rfl (lv_at hl 0 rfl) ?_
    refine lv_iconst (v := 1) hx hb dX9_image_25 (by decide) ?_
    refine m_puti C0 hH f_0_11 kF_X9_78 rfl dX9_image_26 (nb (Or.inr rfl)) rfl (fun H locs hH => ?_)
    refine lv_aload_n hx hb dX9_image_29 rfl (lv_at hl 0 rfl) ?_
    refine m_getr C0 hH f_0_2 14 rfl kF_X9_26 dX9_image_30 ?_
    refine m_geti (x := τ4 14 4) C0 hH f_14_4 kF_X9_187 dX9_image_33 rfl ?_
    exact hret (some (.int (τ4 14 4))) _ _ _ _ _ ⟨_, rfl, h⟩ hH ⟨dX9_image_36, .int, rfl, rfl⟩
  · have h := h.2 hc3
    refine lv_bipush (v := (-103)) hx hb dX9_image_10 (by decide) ?_
    exact hret (some (.int (-103))) _ _ _ _ _ ⟨_, rfl, h⟩ hH ⟨dX9_image_12, .int, rfl, rfl⟩

def r_X2_copyFrom_14_24_0 (E : EE) (σ : Mm) (Q : Mm → Prop) : Prop := Rn E M_X2_copyFrom 0 [(0, .ref (Ad E 14)), (1, .ref (Ad E 24))] [] σ (qv Q)
def r_X2_copyFrom_14_24_50 (E : EE) (x2 : Int32) (σ : Mm) (Q : Mm → Prop) : Prop := Rn E M_X2_copyFrom 50 [(0, .ref (Ad E 14)), (1, .ref (Ad E 24)), (2, .int x2)] [] σ (qv Q)
def r_X2_copyFrom_14_24_102 (E : EE) (x2 : Int32) (σ : Mm) (Q : Mm → Prop) : Prop := Rn E M_X2_copyFrom 102 [(0, .ref (Ad E 14)), (1, .ref (Ad E 24)), (2, .int x2)] [] σ (qv Q)
def r_X2_copyFrom_14_24_154 (E : EE) (x2 : Int32) (σ : Mm) (Q : Mm → Prop) : Prop := Rn E M_X2_copyFrom 154 [(0, .ref (Ad E 14)), (1, .ref (Ad E 24)), (2, .int x2)] [] σ (qv Q)
set_option maxRecDepth 20000 in
set_option maxHeartbeats 4000000 in
theorem s_X2_copyFrom_14_24_0 (E : EE) (σ : Mm) (Q : Mm → Prop) (h : r_X2_copyFrom_14_24_50 E 0 (up (up (up (up (up (up σ 14 0 (σ 24 0)) 14 1 (σ 24 1)) 14 2 (σ 24 2)) 14 3 (σ 24 3)) 14 4 (σ 24 4)) 14 5 (σ 24 5)) Q) : r_X2_copyFrom_14_24_0 E σ Q := by
  intro p e R s m args below meth c Z cells slots H locs ls C0 hH hl hret
  have hx := C0.1
  have hb : c.code = cX2_copyFrom := C0.2.1
  have hl : lv_has ls 3 [(0, .ref (Ad E 14)), (1, .ref (Ad E 24))] := hl
  refine lv_aload_n hx hb dX2_copyFrom_0 rfl (lv_at hl 0 rfl) ?_
  refine lv_aload_n hx hb dX2_copyFrom_1 rfl (lv_at hl 1 rfl) ?_
  refine m_geti (x := σ 24 0) C0 hH f_24_0 kF_X2_9 dX2_copyFrom_2 rfl ?_
  refine m_puti C0 hH f_14_0 kF_X2_9 rfl dX2_copyFrom_5 rfl rfl (fun H locs hH => ?_)
  refine lv_aload_n hx hb dX2_copyFrom_8 rfl (lv_at hl 0 rfl) ?_
  refine lv_aload_n hx hb dX2_copyFrom_9 rfl (lv_at hl 1 rfl) ?_
  refine m_geti (x := σ 24 1) C0 hH f_24_1 kF_X2_15 dX2_copyFrom_10 rfl ?_
  refine m_puti C0 hH f_14_1 kF_X2_15 rfl dX2_copyFrom_13 rfl rfl (fun H locs hH => ?_)
  refine lv_aload_n hx hb dX2_copyFrom_16 rfl (lv_at hl 0 rfl) ?_
  refine lv_aload_n hx hb dX2_copyFrom_17 rfl (lv_at hl 1 rfl) ?_
  refine m_geti (x := σ 24 2) C0 hH f_24_2 kF_X2_18 dX2_copyFrom_18 rfl ?_
  refine m_puti C0 hH f_14_2 kF_X2_18 rfl dX2_copyFrom_21 rfl rfl (fun H locs hH => ?_)
  refine lv_aload_n hx hb dX2_copyFrom_24 rfl (lv_at hl 0 rfl) ?_
  refine lv_aload_n hx hb dX2_copyFrom_25 rfl (lv_at hl 1 rfl) ?_
  refine m_geti (x := σ 24 3) C0 hH f_24_3 kF_X2_21 dX2_copyFrom_26 rfl ?_
  refine m_puti C0 hH f_14_3 kF_X2_21 rfl dX2_copyFrom_29 rfl rfl (fun H locs hH => ?_)
  refine lv_aload_n hx hb dX2_copyFrom_32 rfl (lv_at hl 0 rfl) ?_
  refine lv_aload_n hx hb dX2_copyFrom_33 rfl (lv_at hl 1 rfl) ?_
  refine m_geti (x := σ 24 4) C0 hH f_24_4 kF_X2_24 dX2_copyFrom_34 rfl ?_
  refine m_puti C0 hH f_14_4 kF_X2_24 rfl dX2_copyFrom_37 rfl rfl (fun H locs hH => ?_)
  refine lv_aload_n hx hb dX2_copyFrom_40 rfl (lv_at hl 0 rfl) ?_
  refine lv_aload_n hx hb dX2_copyFrom_41 rfl (lv_at hl 1 rfl) ?_
  refine m_geti (x := σ 24 5) C0 hH f_24_5 kF_X2_27 dX2_copyFrom_42 rfl ?_
  refine m_puti C0 hH f_14_5 kF_X2_27 rfl dX2_copyFrom_45 rfl rfl (fun H locs hH => ?_)
  refine lv_iconst (v := 0) hx hb dX2_copyFrom_48 (by decide) ?_
  refine lv_istore_n (lv' := [(2, .int 0), (0, .ref (Ad E 14)), (1, .ref (Ad E 24))]) hx hb dX2_copyFrom_49 rfl hl (by decide) rfl (fun ls hl => ?_)
  exact h p e R s m args below meth c Z cells slots H locs ls C0 hH (lv_sub hl [1, 2, 0] rfl) hret
set_option maxRecDepth 20000 in
set_option maxHeartbeats 4000000 in
theorem s_X2_copyFrom_14_24_50 (E : EE) (x2 : Int32) (σ : Mm) (Q : Mm → Prop) (h : (((σ 14 1) ≤ x2 → r_X2_copyFrom_14_24_102 E 0 σ Q) ∧ (¬ (σ 14 1) ≤ x2 → (vp_in x2 6 ∧ (vp_in x2 6 ∧ (vp_in x2 6 ∧ (vp_in x2 6 ∧ (vp_in x2 6 ∧ (vp_in x2 6 ∧ r_X2_copyFrom_14_24_50 E (x2 + 1) (up (up (up σ 15 x2.toNatClampNeg (σ 25 x2.toNatClampNeg)) 16 x2.toNatClampNeg (σ 26 x2.toNatClampNeg)) 17 x2.toNatClampNeg (σ 27 x2.toNatClampNeg)) Q))))))))) : r_X2_copyFrom_14_24_50 E x2 σ Q := by
  intro p e R s m args below meth c Z cells slots H locs ls C0 hH hl hret
  have hx := C0.1
  have hb : c.code = cX2_copyFrom := C0.2.1
  have hl : lv_has ls 3 [(0, .ref (Ad E 14)), (1, .ref (Ad E 24)), (2, .int x2)] := hl
  refine lv_iload_n hx hb dX2_copyFrom_50 rfl (lv_at hl 2 rfl) ?_
  refine lv_aload_n hx hb dX2_copyFrom_51 rfl (lv_at hl 0 rfl) ?_
  refine m_geti (x := σ 14 1) C0 hH f_14_1 kF_X2_15 dX2_copyFrom_52 rfl ?_
  refine lv_icmp_ge (tgt := 100) hx hb dX2_copyFrom_55 (by decide) (fun hc1 => ?_) (fun hc1 => ?_)
  · have h := h.1 hc1
    refine lv_iconst (v := 0) hx hb dX2_copyFrom_100 (by decide) ?_
    refine lv_istore_n (lv' := [(2, .int 0), (0, .ref (Ad E 14)), (1, .ref (Ad E 24))]) hx hb dX2_copyFrom_101 rfl hl (by decide) rfl (fun ls hl => ?_)
    exact h p e R s m args below meth c Z cells slots H locs ls C0 hH (lv_sub hl [1, 2, 0] rfl) hret
  · have h := h.2 hc1
    refine lv_aload_n hx hb dX2_copyFrom_58 rfl (lv_at hl 0 rfl) ?_
    refine m_getr C0 hH f_14_6 15 rfl kF_X2_30 dX2_copyFrom_59 ?_
    refine lv_iload_n hx hb dX2_copyFrom_62 rfl (lv_at hl 2 rfl) ?_
    refine lv_aload_n hx hb dX2_copyFrom_63 rfl (lv_at hl 1 rfl) ?_
    refine m_getr C0 hH f_24_6 25 rfl kF_X2_30 dX2_copyFrom_64 ?_
    refine lv_iload_n hx hb dX2_copyFrom_67 rfl (lv_at hl 2 rfl) ?_
    refine m_iald (x := σ 25 x2.toNatClampNeg) C0 hH a_25 h.1 dX2_copyFrom_68 rfl ?_
    have h := h.2
    refine m_iast (j := x2.toNatClampNeg) C0 hH a_15 h.1 rfl dX2_copyFrom_69 (fun H locs hH => ?_)
    have h := h.2
    refine lv_aload_n hx hb dX2_copyFrom_70 rfl (lv_at hl 0 rfl) ?_
    refine m_getr C0 hH f_14_7 16 rfl kF_X2_34 dX2_copyFrom_71 ?_
    refine lv_iload_n hx hb dX2_copyFrom_74 rfl (lv_at hl 2 rfl) ?_
    refine lv_aload_n hx hb dX2_copyFrom_75 rfl (lv_at hl 1 rfl) ?_
    refine m_getr C0 hH f_24_7 26 rfl kF_X2_34 dX2_copyFrom_76 ?_
    refine lv_iload_n hx hb dX2_copyFrom_79 rfl (lv_at hl 2 rfl) ?_
    refine m_iald (x := σ 26 x2.toNatClampNeg) C0 hH a_26 h.1 dX2_copyFrom_80 rfl ?_
    have h := h.2
    refine m_iast (j := x2.toNatClampNeg) C0 hH a_16 h.1 rfl dX2_copyFrom_81 (fun H locs hH => ?_)
    have h := h.2
    refine lv_aload_n hx hb dX2_copyFrom_82 rfl (lv_at hl 0 rfl) ?_
    refine m_getr C0 hH f_14_8 17 rfl kF_X2_37 dX2_copyFrom_83 ?_
    refine lv_iload_n hx hb dX2_copyFrom_86 rfl (lv_at hl 2 rfl) ?_
    refine lv_aload_n hx hb dX2_copyFrom_87 rfl (lv_at hl 1 rfl) ?_
    refine m_getr C0 hH f_24_8 27 rfl kF_X2_37 dX2_copyFrom_88 ?_
    refine lv_iload_n hx hb dX2_copyFrom_91 rfl (lv_at hl 2 rfl) ?_
    refine m_iald (x := σ 27 x2.toNatClampNeg) C0 hH a_27 h.1 dX2_copyFrom_92 rfl ?_
    have h := h.2
    refine m_iast (j := x2.toNatClampNeg) C0 hH a_17 h.1 rfl dX2_copyFrom_93 (fun H locs hH => ?_)
    have h := h.2
    refine lv_iinc (v := (x2 + 1)) (lv' := [(2, .int (x2 + 1)), (0, .ref (Ad E 14)), (1, .ref (Ad E 24))]) hx hb dX2_copyFrom_94 hl (k := 2) rfl rfl (by decide) rfl (fun ls hl => ?_)
    refine lv_goto (tgt := 50) hx hb dX2_copyFrom_97 (by decide) ?_
    exact h p e R s m args below meth c Z cells slots H locs ls C0 hH (lv_sub hl [1, 2, 0] rfl) hret
set_option maxRecDepth 20000 in
set_option maxHeartbeats 4000000 in
theorem s_X2_copyFrom_14_24_102 (E : EE) (x2 : Int32) (σ : Mm) (Q : Mm → Prop) (h : (((σ 14 2) ≤ x2 → r_X2_copyFrom_14_24_154 E 0 σ Q) ∧ (¬ (σ 14 2) ≤ x2 → (vp_in x2 8 ∧ (vp_in x2 8 ∧ (vp_in x2 8 ∧ (vp_in x2 8 ∧ (vp_in x2 8 ∧ (vp_in x2 8 ∧ r_X2_copyFrom_14_24_102 E (x2 + 1) (up (up (up σ 18 x2.toNatClampNeg (σ 28 x2.toNatClampNeg)) 19 x2.toNatClampNeg (σ 29 x2.toNatClampNeg)) 20 x2.toNatClampNeg (σ 30 x2.toNatClampNeg)) Q))))))))) : r_X2_copyFrom_14_24_102 E x2 σ Q := by
  intro p e R s m args below meth c Z cells slots H locs ls C0 hH hl hret
  have hx := C0.1
  have hb : c.code = cX2_copyFrom := C0.2.1
  have hl : lv_has ls 3 [(0, .ref (Ad E 14)), (1, .ref (Ad E 24)), (2, .int x2)] := hl
  refine lv_iload_n hx hb dX2_copyFrom_102 rfl (lv_at hl 2 rfl) ?_
  refine lv_aload_n hx hb dX2_copyFrom_103 rfl (lv_at hl 0 rfl) ?_
  refine m_geti (x := σ 14 2) C0 hH f_14_2 kF_X2_18 dX2_copyFrom_104 rfl ?_
  refine lv_icmp_ge (tgt := 152) hx hb dX2_copyFrom_107 (by decide) (fun hc1 => ?_) (fun hc1 => ?_)
  · have h := h.1 hc1
    refine lv_iconst (v := 0) hx hb dX2_copyFrom_152 (by decide) ?_
    refine lv_istore_n (lv' := [(2, .int 0), (0, .ref (Ad E 14)), (1, .ref (Ad E 24))]) hx hb dX2_copyFrom_153 rfl hl (by decide) rfl (fun ls hl => ?_)
    exact h p e R s m args below meth c Z cells slots H locs ls C0 hH (lv_sub hl [1, 2, 0] rfl) hret
  · have h := h.2 hc1
    refine lv_aload_n hx hb dX2_copyFrom_110 rfl (lv_at hl 0 rfl) ?_
    refine m_getr C0 hH f_14_9 18 rfl kF_X2_40 dX2_copyFrom_111 ?_
    refine lv_iload_n hx hb dX2_copyFrom_114 rfl (lv_at hl 2 rfl) ?_
    refine lv_aload_n hx hb dX2_copyFrom_115 rfl (lv_at hl 1 rfl) ?_
    refine m_getr C0 hH f_24_9 28 rfl kF_X2_40 dX2_copyFrom_116 ?_
    refine lv_iload_n hx hb dX2_copyFrom_119 rfl (lv_at hl 2 rfl) ?_
    refine m_iald (x := σ 28 x2.toNatClampNeg) C0 hH a_28 h.1 dX2_copyFrom_120 rfl ?_
    have h := h.2
    refine m_iast (j := x2.toNatClampNeg) C0 hH a_18 h.1 rfl dX2_copyFrom_121 (fun H locs hH => ?_)
    have h := h.2
    refine lv_aload_n hx hb dX2_copyFrom_122 rfl (lv_at hl 0 rfl) ?_
    refine m_getr C0 hH f_14_10 19 rfl kF_X2_43 dX2_copyFrom_123 ?_
    refine lv_iload_n hx hb dX2_copyFrom_126 rfl (lv_at hl 2 rfl) ?_
    refine lv_aload_n hx hb dX2_copyFrom_127 rfl (lv_at hl 1 rfl) ?_
    refine m_getr C0 hH f_24_10 29 rfl kF_X2_43 dX2_copyFrom_128 ?_
    refine lv_iload_n hx hb dX2_copyFrom_131 rfl (lv_at hl 2 rfl) ?_
    refine m_iald (x := σ 29 x2.toNatClampNeg) C0 hH a_29 h.1 dX2_copyFrom_132 rfl ?_
    have h := h.2
    refine m_iast (j := x2.toNatClampNeg) C0 hH a_19 h.1 rfl dX2_copyFrom_133 (fun H locs hH => ?_)
    have h := h.2
    refine lv_aload_n hx hb dX2_copyFrom_134 rfl (lv_at hl 0 rfl) ?_
    refine m_getr C0 hH f_14_11 20 rfl kF_X2_46 dX2_copyFrom_135 ?_
    refine lv_iload_n hx hb dX2_copyFrom_138 rfl (lv_at hl 2 rfl) ?_
    refine lv_aload_n hx hb dX2_copyFrom_139 rfl (lv_at hl 1 rfl) ?_
    refine m_getr C0 hH f_24_11 30 rfl kF_X2_46 dX2_copyFrom_140 ?_
    refine lv_iload_n hx hb dX2_copyFrom_143 rfl (lv_at hl 2 rfl) ?_
    refine m_iald (x := σ 30 x2.toNatClampNeg) C0 hH a_30 h.1 dX2_copyFrom_144 rfl ?_
    have h := h.2
    refine m_iast (j := x2.toNatClampNeg) C0 hH a_20 h.1 rfl dX2_copyFrom_145 (fun H locs hH => ?_)
    have h := h.2
    refine lv_iinc (v := (x2 + 1)) (lv' := [(2, .int (x2 + 1)), (0, .ref (Ad E 14)), (1, .ref (Ad E 24))]) hx hb dX2_copyFrom_146 hl (k := 2) rfl rfl (by decide) rfl (fun ls hl => ?_)
    refine lv_goto (tgt := 102) hx hb dX2_copyFrom_149 (by decide) ?_
    exact h p e R s m args below meth c Z cells slots H locs ls C0 hH (lv_sub hl [1, 2, 0] rfl) hret
set_option maxRecDepth 20000 in
set_option maxHeartbeats 4000000 in
theorem s_X2_copyFrom_14_24_154 (E : EE) (x2 : Int32) (σ : Mm) (Q : Mm → Prop) (h : (((σ 14 5) ≤ x2 → Q σ) ∧ (¬ (σ 14 5) ≤ x2 → (vp_in x2 6 ∧ (vp_in x2 6 ∧ (vp_in x2 6 ∧ (vp_in x2 6 ∧ (vp_in x2 6 ∧ (vp_in x2 6 ∧ r_X2_copyFrom_14_24_154 E (x2 + 1) (up (up (up σ 21 x2.toNatClampNeg (σ 31 x2.toNatClampNeg)) 22 x2.toNatClampNeg (σ 32 x2.toNatClampNeg)) 23 x2.toNatClampNeg (vp_nar .boolean (σ 33 x2.toNatClampNeg))) Q))))))))) : r_X2_copyFrom_14_24_154 E x2 σ Q := by
  intro p e R s m args below meth c Z cells slots H locs ls C0 hH hl hret
  have hx := C0.1
  have hb : c.code = cX2_copyFrom := C0.2.1
  have hl : lv_has ls 3 [(0, .ref (Ad E 14)), (1, .ref (Ad E 24)), (2, .int x2)] := hl
  refine lv_iload_n hx hb dX2_copyFrom_154 rfl (lv_at hl 2 rfl) ?_
  refine lv_aload_n hx hb dX2_copyFrom_155 rfl (lv_at hl 0 rfl) ?_
  refine m_geti (x := σ 14 5) C0 hH f_14_5 kF_X2_27 dX2_copyFrom_156 rfl ?_
  refine lv_icmp_ge (tgt := 204) hx hb dX2_copyFrom_159 (by decide) (fun hc1 => ?_) (fun hc1 => ?_)
  · have h := h.1 hc1
    exact hret none _ _ _ _ _ ⟨rfl, h⟩ hH ⟨dX2_copyFrom_204, rfl⟩
  · have h := h.2 hc1
    refine lv_aload_n hx hb dX2_copyFrom_162 rfl (lv_at hl 0 rfl) ?_
    refine m_getr C0 hH f_14_12 21 rfl kF_X2_49 dX2_copyFrom_163 ?_
    refine lv_iload_n hx hb dX2_copyFrom_166 rfl (lv_at hl 2 rfl) ?_
    refine lv_aload_n hx hb dX2_copyFrom_167 rfl (lv_at hl 1 rfl) ?_
    refine m_getr C0 hH f_24_12 31 rfl kF_X2_49 dX2_copyFrom_168 ?_
    refine lv_iload_n hx hb dX2_copyFrom_171 rfl (lv_at hl 2 rfl) ?_
    refine m_iald (x := σ 31 x2.toNatClampNeg) C0 hH a_31 h.1 dX2_copyFrom_172 rfl ?_
    have h := h.2
    refine m_iast (j := x2.toNatClampNeg) C0 hH a_21 h.1 rfl dX2_copyFrom_173 (fun H locs hH => ?_)
    have h := h.2
    refine lv_aload_n hx hb dX2_copyFrom_174 rfl (lv_at hl 0 rfl) ?_
    refine m_getr C0 hH f_14_13 22 rfl kF_X2_52 dX2_copyFrom_175 ?_
    refine lv_iload_n hx hb dX2_copyFrom_178 rfl (lv_at hl 2 rfl) ?_
    refine lv_aload_n hx hb dX2_copyFrom_179 rfl (lv_at hl 1 rfl) ?_
    refine m_getr C0 hH f_24_13 32 rfl kF_X2_52 dX2_copyFrom_180 ?_
    refine lv_iload_n hx hb dX2_copyFrom_183 rfl (lv_at hl 2 rfl) ?_
    refine m_iald (x := σ 32 x2.toNatClampNeg) C0 hH a_32 h.1 dX2_copyFrom_184 rfl ?_
    have h := h.2
    refine m_iast (j := x2.toNatClampNeg) C0 hH a_22 h.1 rfl dX2_copyFrom_185 (fun H locs hH => ?_)
    have h := h.2
    refine lv_aload_n hx hb dX2_copyFrom_186 rfl (lv_at hl 0 rfl) ?_
    refine m_getr C0 hH f_14_14 23 rfl kF_X2_55 dX2_copyFrom_187 ?_
    refine lv_iload_n hx hb dX2_copyFrom_190 rfl (lv_at hl 2 rfl) ?_
    refine lv_aload_n hx hb dX2_copyFrom_191 rfl (lv_at hl 1 rfl) ?_
    refine m_getr C0 hH f_24_14 33 rfl kF_X2_55 dX2_copyFrom_192 ?_
    refine lv_iload_n hx hb dX2_copyFrom_195 rfl (lv_at hl 2 rfl) ?_
    refine m_zald (x := σ 33 x2.toNatClampNeg) C0 hH a_33 h.1 dX2_copyFrom_196 rfl ?_
    have h := h.2
    refine m_zast (j := x2.toNatClampNeg) C0 hH a_23 h.1 rfl dX2_copyFrom_197 (fun H locs hH => ?_)
    have h := h.2
    refine lv_iinc (v := (x2 + 1)) (lv' := [(2, .int (x2 + 1)), (0, .ref (Ad E 14)), (1, .ref (Ad E 24))]) hx hb dX2_copyFrom_198 hl (k := 2) rfl rfl (by decide) rfl (fun ls hl => ?_)
    refine lv_goto (tgt := 154) hx hb dX2_copyFrom_201 (by decide) ?_
    exact h p e R s m args below meth c Z cells slots H locs ls C0 hH (lv_sub hl [1, 2, 0] rfl) hret

def r_X9_restore_0 (E : EE) (σ : Mm) (Q : Int32 → Mm → Prop) : Prop := Rn E M_X9_restore 0 [(0, .ref (Ad E 0))] [] σ (qi Q)
set_option maxRecDepth 20000 in
set_option maxHeartbeats 4000000 in
theorem s_X9_restore_0 (E : EE) (σ : Mm) (Q : Int32 → Mm → Prop) (h : ((¬ (σ 0 11) = 0 → r_X2_copyFrom_14_24_0 E  σ (fun τ2 => Q (τ2 14 4) τ2)) ∧ ((σ 0 11) = 0 → Q (-103) σ))) : r_X9_restore_0 E σ Q := by
  intro p e R s m args below meth c Z cells slots H locs ls C0 hH hl hret
  have hx := C0.1
  have hb : c.code = cX9_restore := C0.2.1
  have hl : lv_has ls 1 [(0, .ref (Ad E 0))] := hl
  refine lv_aload_n hx hb dX9_restore_0 rfl (lv_at hl 0 rfl) ?_
  refine m_geti (x := σ 0 11) C0 hH f_0_11 kF_X9_78 dX9_restore_1 rfl ?_
  refine lv_if_ne (tgt := 10) hx hb dX9_restore_4 (by decide) (fun hc1 => ?_) (fun hc1 => ?_)
  · have h := h.1 hc1
    refine lv_aload_n hx hb dX9_restore_10 rfl (lv_at hl 0 rfl) ?_
    refine m_getr C0 hH f_0_2 14 rfl kF_X9_26 dX9_restore_11 ?_
    refine lv_aload_n hx hb dX9_restore_14 rfl (lv_at hl 0 rfl) ?_
    refine m_getr C0 hH f_0_3 24 rfl kF_X9_30 dX9_restore_15 ?_
    refine m_cV (M2 := M_X2_copyFrom) (As := [.ref (Ad E 24)]) (rest := []) h C0 hH hl kc_X2_copyFrom ki_X2_copyFrom kx_X2_copyFrom ob_14 kM_X9_107 rfl (Nat.le_of_ble_eq_true rfl) (Nat.le_of_ble_eq_true rfl) ⟨Nat.le_of_ble_eq_true rfl, Nat.le_of_ble_eq_true rfl⟩ dX9_restore_18 rfl (fun r τ2 H locs hq hH => ?_)
    obtain ⟨rfl, h⟩ := hq
    refine lv_aload_n hx hb dX9_restore_21 rfl (lv_at hl 0 rfl) ?_
    refine m_getr C0 hH f_0_2 14 rfl kF_X9_26 dX9_restore_22 ?_
    refine m_geti (x := τ2 14 4) C0 hH f_14_4 kF_X9_187 dX9_restore_25 rfl ?_
    exact hret (some (.int (τ2 14 4))) _ _ _ _ _ ⟨_, rfl, h⟩ hH ⟨dX9_restore_28, .int, rfl, rfl⟩
  · have h := h.2 hc1
    refine lv_bipush (v := (-103)) hx hb dX9_restore_7 (by decide) ?_
    exact hret (some (.int (-103))) _ _ _ _ _ ⟨_, rfl, h⟩ hH ⟨dX9_restore_9, .int, rfl, rfl⟩

def r_X0_allGuilt_0 (E : EE) (σ : Mm) (Q : Int32 → Mm → Prop) : Prop := Rn E M_X0_allGuilt 0 [(0, .ref (Ad E 44))] [] σ (qi Q)
def r_X0_allGuilt_4 (E : EE) (x1 : Int32) (x2 : Int32) (σ : Mm) (Q : Int32 → Mm → Prop) : Prop := Rn E M_X0_allGuilt 4 [(0, .ref (Ad E 44)), (1, .int x1), (2, .int x2)] [] σ (qi Q)
set_option maxRecDepth 20000 in
set_option maxHeartbeats 4000000 in
theorem s_X0_allGuilt_0 (E : EE) (σ : Mm) (Q : Int32 → Mm → Prop) (h : r_X0_allGuilt_4 E 0 0 σ Q) : r_X0_allGuilt_0 E σ Q := by
  intro p e R s m args below meth c Z cells slots H locs ls C0 hH hl hret
  have hx := C0.1
  have hb : c.code = cX0_allGuilt := C0.2.1
  have hl : lv_has ls 3 [(0, .ref (Ad E 44))] := hl
  refine lv_iconst (v := 0) hx hb dX0_allGuilt_0 (by decide) ?_
  refine lv_istore_n (lv' := [(1, .int 0), (0, .ref (Ad E 44))]) hx hb dX0_allGuilt_1 rfl hl (by decide) rfl (fun ls hl => ?_)
  refine lv_iconst (v := 0) hx hb dX0_allGuilt_2 (by decide) ?_
  refine lv_istore_n (lv' := [(2, .int 0), (1, .int 0), (0, .ref (Ad E 44))]) hx hb dX0_allGuilt_3 rfl hl (by decide) rfl (fun ls hl => ?_)
  exact h p e R s m args below meth c Z cells slots H locs ls C0 hH (lv_sub hl [2, 1, 0] rfl) hret
set_option maxRecDepth 20000 in
set_option maxHeartbeats 4000000 in
theorem s_X0_allGuilt_4 (E : EE) (x1 : Int32) (x2 : Int32) (σ : Mm) (Q : Int32 → Mm → Prop) (h : (((σ 44 2) ≤ x2 → Q x1 σ) ∧ (¬ (σ 44 2) ≤ x2 → (vp_in x2 6 ∧ r_X0_allGuilt_4 E (x1 + (σ 45 x2.toNatClampNeg)) (x2 + 1) σ Q)))) : r_X0_allGuilt_4 E x1 x2 σ Q := by
  intro p e R s m args below meth c Z cells slots H locs ls C0 hH hl hret
  have hx := C0.1
  have hb : c.code = cX0_allGuilt := C0.2.1
  have hl : lv_has ls 3 [(0, .ref (Ad E 44)), (1, .int x1), (2, .int x2)] := hl
  refine lv_iload_n hx hb dX0_allGuilt_4 rfl (lv_at hl 2 rfl) ?_
  refine lv_aload_n hx hb dX0_allGuilt_5 rfl (lv_at hl 0 rfl) ?_
  refine m_geti (x := σ 44 2) C0 hH f_44_2 kF_X0_18 dX0_allGuilt_6 rfl ?_
  refine lv_icmp_ge (tgt := 27) hx hb dX0_allGuilt_9 (by decide) (fun hc1 => ?_) (fun hc1 => ?_)
  · have h := h.1 hc1
    refine lv_iload_n hx hb dX0_allGuilt_27 rfl (lv_at hl 1 rfl) ?_
    exact hret (some (.int x1)) _ _ _ _ _ ⟨_, rfl, h⟩ hH ⟨dX0_allGuilt_28, .int, rfl, rfl⟩
  · have h := h.2 hc1
    refine lv_iload_n hx hb dX0_allGuilt_12 rfl (lv_at hl 1 rfl) ?_
    refine lv_aload_n hx hb dX0_allGuilt_13 rfl (lv_at hl 0 rfl) ?_
    refine m_getr C0 hH f_44_0 45 rfl kF_X0_9 dX0_allGuilt_14 ?_
    refine lv_iload_n hx hb dX0_allGuilt_17 rfl (lv_at hl 2 rfl) ?_
    refine m_iald (x := σ 45 x2.toNatClampNeg) C0 hH a_45 h.1 dX0_allGuilt_18 rfl ?_
    have h := h.2
    refine lv_iadd hx hb dX0_allGuilt_19 ?_
    refine lv_istore_n (lv' := [(1, .int (x1 + (σ 45 x2.toNatClampNeg))), (0, .ref (Ad E 44)), (2, .int x2)]) hx hb dX0_allGuilt_20 rfl hl (by decide) rfl (fun ls hl => ?_)
    refine lv_iinc (v := (x2 + 1)) (lv' := [(2, .int (x2 + 1)), (1, .int (x1 + (σ 45 x2.toNatClampNeg))), (0, .ref (Ad E 44))]) hx hb dX0_allGuilt_21 hl (k := 2) rfl rfl (by decide) rfl (fun ls hl => ?_)
    refine lv_goto (tgt := 4) hx hb dX0_allGuilt_24 (by decide) ?_
    exact h p e R s m args below meth c Z cells slots H locs ls C0 hH (lv_sub hl [2, 1, 0] rfl) hret

def r_X2_allFroze_0 (E : EE) (σ : Mm) (Q : Int32 → Mm → Prop) : Prop := Rn E M_X2_allFroze 0 [(0, .ref (Ad E 14))] [] σ (qi Q)
def r_X2_allFroze_4 (E : EE) (x1 : Int32) (x2 : Int32) (σ : Mm) (Q : Int32 → Mm → Prop) : Prop := Rn E M_X2_allFroze 4 [(0, .ref (Ad E 14)), (1, .int x1), (2, .int x2)] [] σ (qi Q)
set_option maxRecDepth 20000 in
set_option maxHeartbeats 4000000 in
theorem s_X2_allFroze_0 (E : EE) (σ : Mm) (Q : Int32 → Mm → Prop) (h : r_X2_allFroze_4 E 0 0 σ Q) : r_X2_allFroze_0 E σ Q := by
  intro p e R s m args below meth c Z cells slots H locs ls C0 hH hl hret
  have hx := C0.1
  have hb : c.code = cX2_allFroze := C0.2.1
  have hl : lv_has ls 3 [(0, .ref (Ad E 14))] := hl
  refine lv_iconst (v := 0) hx hb dX2_allFroze_0 (by decide) ?_
  refine lv_istore_n (lv' := [(1, .int 0), (0, .ref (Ad E 14))]) hx hb dX2_allFroze_1 rfl hl (by decide) rfl (fun ls hl => ?_)
  refine lv_iconst (v := 0) hx hb dX2_allFroze_2 (by decide) ?_
  refine lv_istore_n (lv' := [(2, .int 0), (1, .int 0), (0, .ref (Ad E 14))]) hx hb dX2_allFroze_3 rfl hl (by decide) rfl (fun ls hl => ?_)
  exact h p e R s m args below meth c Z cells slots H locs ls C0 hH (lv_sub hl [2, 1, 0] rfl) hret
set_option maxRecDepth 20000 in
set_option maxHeartbeats 4000000 in
theorem s_X2_allFroze_4 (E : EE) (x1 : Int32) (x2 : Int32) (σ : Mm) (Q : Int32 → Mm → Prop) (h : (((σ 14 1) ≤ x2 → Q x1 σ) ∧ (¬ (σ 14 1) ≤ x2 → (vp_in x2 6 ∧ r_X2_allFroze_4 E (x1 + (σ 17 x2.toNatClampNeg)) (x2 + 1) σ Q)))) : r_X2_allFroze_4 E x1 x2 σ Q := by
  intro p e R s m args below meth c Z cells slots H locs ls C0 hH hl hret
  have hx := C0.1
  have hb : c.code = cX2_allFroze := C0.2.1
  have hl : lv_has ls 3 [(0, .ref (Ad E 14)), (1, .int x1), (2, .int x2)] := hl
  refine lv_iload_n hx hb dX2_allFroze_4 rfl (lv_at hl 2 rfl) ?_
  refine lv_aload_n hx hb dX2_allFroze_5 rfl (lv_at hl 0 rfl) ?_
  refine m_geti (x := σ 14 1) C0 hH f_14_1 kF_X2_15 dX2_allFroze_6 rfl ?_
  refine lv_icmp_ge (tgt := 27) hx hb dX2_allFroze_9 (by decide) (fun hc1 => ?_) (fun hc1 => ?_)
  · have h := h.1 hc1
    refine lv_iload_n hx hb dX2_allFroze_27 rfl (lv_at hl 1 rfl) ?_
    exact hret (some (.int x1)) _ _ _ _ _ ⟨_, rfl, h⟩ hH ⟨dX2_allFroze_28, .int, rfl, rfl⟩
  · have h := h.2 hc1
    refine lv_iload_n hx hb dX2_allFroze_12 rfl (lv_at hl 1 rfl) ?_
    refine lv_aload_n hx hb dX2_allFroze_13 rfl (lv_at hl 0 rfl) ?_
    refine m_getr C0 hH f_14_8 17 rfl kF_X2_37 dX2_allFroze_14 ?_
    refine lv_iload_n hx hb dX2_allFroze_17 rfl (lv_at hl 2 rfl) ?_
    refine m_iald (x := σ 17 x2.toNatClampNeg) C0 hH a_17 h.1 dX2_allFroze_18 rfl ?_
    have h := h.2
    refine lv_iadd hx hb dX2_allFroze_19 ?_
    refine lv_istore_n (lv' := [(1, .int (x1 + (σ 17 x2.toNatClampNeg))), (0, .ref (Ad E 14)), (2, .int x2)]) hx hb dX2_allFroze_20 rfl hl (by decide) rfl (fun ls hl => ?_)
    refine lv_iinc (v := (x2 + 1)) (lv' := [(2, .int (x2 + 1)), (1, .int (x1 + (σ 17 x2.toNatClampNeg))), (0, .ref (Ad E 14))]) hx hb dX2_allFroze_21 hl (k := 2) rfl rfl (by decide) rfl (fun ls hl => ?_)
    refine lv_goto (tgt := 4) hx hb dX2_allFroze_24 (by decide) ?_
    exact h p e R s m args below meth c Z cells slots H locs ls C0 hH (lv_sub hl [2, 1, 0] rfl) hret

def r_X2_allWarm_14_0 (E : EE) (σ : Mm) (Q : Int32 → Mm → Prop) : Prop := Rn E M_X2_allWarm 0 [(0, .ref (Ad E 14))] [] σ (qi Q)
def r_X2_allWarm_14_4 (E : EE) (x1 : Int32) (x2 : Int32) (σ : Mm) (Q : Int32 → Mm → Prop) : Prop := Rn E M_X2_allWarm 4 [(0, .ref (Ad E 14)), (1, .int x1), (2, .int x2)] [] σ (qi Q)
set_option maxRecDepth 20000 in
set_option maxHeartbeats 4000000 in
theorem s_X2_allWarm_14_0 (E : EE) (σ : Mm) (Q : Int32 → Mm → Prop) (h : r_X2_allWarm_14_4 E 0 0 σ Q) : r_X2_allWarm_14_0 E σ Q := by
  intro p e R s m args below meth c Z cells slots H locs ls C0 hH hl hret
  have hx := C0.1
  have hb : c.code = cX2_allWarm := C0.2.1
  have hl : lv_has ls 3 [(0, .ref (Ad E 14))] := hl
  refine lv_iconst (v := 0) hx hb dX2_allWarm_0 (by decide) ?_
  refine lv_istore_n (lv' := [(1, .int 0), (0, .ref (Ad E 14))]) hx hb dX2_allWarm_1 rfl hl (by decide) rfl (fun ls hl => ?_)
  refine lv_iconst (v := 0) hx hb dX2_allWarm_2 (by decide) ?_
  refine lv_istore_n (lv' := [(2, .int 0), (1, .int 0), (0, .ref (Ad E 14))]) hx hb dX2_allWarm_3 rfl hl (by decide) rfl (fun ls hl => ?_)
  exact h p e R s m args below meth c Z cells slots H locs ls C0 hH (lv_sub hl [2, 1, 0] rfl) hret
set_option maxRecDepth 20000 in
set_option maxHeartbeats 4000000 in
theorem s_X2_allWarm_14_4 (E : EE) (x1 : Int32) (x2 : Int32) (σ : Mm) (Q : Int32 → Mm → Prop) (h : (((σ 14 1) ≤ x2 → Q x1 σ) ∧ (¬ (σ 14 1) ≤ x2 → (vp_in x2 6 ∧ r_X2_allWarm_14_4 E (x1 + (σ 16 x2.toNatClampNeg)) (x2 + 1) σ Q)))) : r_X2_allWarm_14_4 E x1 x2 σ Q := by
  intro p e R s m args below meth c Z cells slots H locs ls C0 hH hl hret
  have hx := C0.1
  have hb : c.code = cX2_allWarm := C0.2.1
  have hl : lv_has ls 3 [(0, .ref (Ad E 14)), (1, .int x1), (2, .int x2)] := hl
  refine lv_iload_n hx hb dX2_allWarm_4 rfl (lv_at hl 2 rfl) ?_
  refine lv_aload_n hx hb dX2_allWarm_5 rfl (lv_at hl 0 rfl) ?_
  refine m_geti (x := σ 14 1) C0 hH f_14_1 kF_X2_15 dX2_allWarm_6 rfl ?_
  refine lv_icmp_ge (tgt := 27) hx hb dX2_allWarm_9 (by decide) (fun hc1 => ?_) (fun hc1 => ?_)
  · have h := h.1 hc1
    refine lv_iload_n hx hb dX2_allWarm_27 rfl (lv_at hl 1 rfl) ?_
    exact hret (some (.int x1)) _ _ _ _ _ ⟨_, rfl, h⟩ hH ⟨dX2_allWarm_28, .int, rfl, rfl⟩
  · have h := h.2 hc1
    refine lv_iload_n hx hb dX2_allWarm_12 rfl (lv_at hl 1 rfl) ?_
    refine lv_aload_n hx hb dX2_allWarm_13 rfl (lv_at hl 0 rfl) ?_
    refine m_getr C0 hH f_14_7 16 rfl kF_X2_34 dX2_allWarm_14 ?_
    refine lv_iload_n hx hb dX2_allWarm_17 rfl (lv_at hl 2 rfl) ?_
    refine m_iald (x := σ 16 x2.toNatClampNeg) C0 hH a_16 h.1 dX2_allWarm_18 rfl ?_
    have h := h.2
    refine lv_iadd hx hb dX2_allWarm_19 ?_
    refine lv_istore_n (lv' := [(1, .int (x1 + (σ 16 x2.toNatClampNeg))), (0, .ref (Ad E 14)), (2, .int x2)]) hx hb dX2_allWarm_20 rfl hl (by decide) rfl (fun ls hl => ?_)
    refine lv_iinc (v := (x2 + 1)) (lv' := [(2, .int (x2 + 1)), (1, .int (x1 + (σ 16 x2.toNatClampNeg))), (0, .ref (Ad E 14))]) hx hb dX2_allWarm_21 hl (k := 2) rfl rfl (by decide) rfl (fun ls hl => ?_)
    refine lv_goto (tgt := 4) hx hb dX2_allWarm_24 (by decide) ?_
    exact h p e R s m args below meth c Z cells slots H locs ls C0 hH (lv_sub hl [2, 1, 0] rfl) hret

def r_X9_count_0 (E : EE) (x1 : Int32) (σ : Mm) (Q : Int32 → Mm → Prop) : Prop := Rn E M_X9_count 0 [(0, .ref (Ad E 0)), (1, .int x1)] [] σ (qi Q)
set_option maxRecDepth 20000 in
set_option maxHeartbeats 4000000 in
theorem s_X9_count_0 (E : EE) (x1 : Int32) (σ : Mm) (Q : Int32 → Mm → Prop) (h : ((x1 = 0 → Q (σ 14 1) σ) ∧ (x1 = 1 → Q (σ 14 2) σ) ∧ (x1 = 2 → Q (σ 14 0) σ) ∧ (x1 = 3 → r_X9_sittersNow_0 E  σ (fun r6 τ5 => r_J6_bitCount_0f7a4_0 E r6 τ5 (fun r8 τ7 => Q r8 τ7))) ∧ (x1 = 4 → r_X2_allWarm_14_0 E  σ (fun r11 τ10 => Q r11 τ10)) ∧ (x1 = 5 → r_X0_fill_14_0 E (σ 14 3) σ (fun τ13 => r_X0_allGuilt_0 E  τ13 (fun r15 τ14 => Q r15 τ14))) ∧ (x1 = 6 → r_J6_bitCount_0f7a4_0 E (σ 14 3) σ (fun r18 τ17 => Q r18 τ17)) ∧ (x1 = 7 → Q (σ 14 4) σ) ∧ (x1 = 8 → r_X2_allFroze_0 E  σ (fun r22 τ21 => Q r22 τ21)) ∧ (x1 = 9 → Q (σ 14 5) σ) ∧ (x1 = 10 → Q (σ 1 1) σ) ∧ (x1 = 11 → Q (σ 0 12) σ) ∧ (x1 = 12 → Q (σ 0 13) σ) ∧ (¬ x1 = 0 → ¬ x1 = 1 → ¬ x1 = 2 → ¬ x1 = 3 → ¬ x1 = 4 → ¬ x1 = 5 → ¬ x1 = 6 → ¬ x1 = 7 → ¬ x1 = 8 → ¬ x1 = 9 → ¬ x1 = 10 → ¬ x1 = 11 → ¬ x1 = 12 → Q (-102) σ))) : r_X9_count_0 E x1 σ Q := by
  intro p e R s m args below meth c Z cells slots H locs ls C0 hH hl hret
  have hx := C0.1
  have hb : c.code = cX9_count := C0.2.1
  have hl : lv_has ls 2 [(0, .ref (Ad E 0)), (1, .int x1)] := hl
  refine lv_iload_n hx hb dX9_count_0 rfl (lv_at hl 1 rfl) ?_
  by_cases hs1 : x1 = 0
  · have h := h.1 hs1
    refine m_tin (v := 0) (tgt := 68) C0 dX9_count_1 hs1 (by decide) (by decide) rfl (by decide) ?_
    refine lv_aload_n hx hb dX9_count_68 rfl (lv_at hl 0 rfl) ?_
    refine m_getr C0 hH f_0_2 14 rfl kF_X9_26 dX9_count_69 ?_
    refine m_geti (x := σ 14 1) C0 hH f_14_1 kF_X9_111 dX9_count_72 rfl ?_
    exact hret (some (.int (σ 14 1))) _ _ _ _ _ ⟨_, rfl, h⟩ hH ⟨dX9_count_75, .int, rfl, rfl⟩
  have h := h.2
  by_cases hs2 : x1 = 1
  · have h := h.1 hs2
    refine m_tin (v := 1) (tgt := 76) C0 dX9_count_1 hs2 (by decide) (by decide) rfl (by decide) ?_
    refine lv_aload_n hx hb dX9_count_76 rfl (lv_at hl 0 rfl) ?_
    refine m_getr C0 hH f_0_2 14 rfl kF_X9_26 dX9_count_77 ?_
    refine m_geti (x := σ 14 2) C0 hH f_14_2 kF_X9_250 dX9_count_80 rfl ?_
    exact hret (some (.int (σ 14 2))) _ _ _ _ _ ⟨_, rfl, h⟩ hH ⟨dX9_count_83, .int, rfl, rfl⟩
  have h := h.2
  by_cases hs3 : x1 = 2
  · have h := h.1 hs3
    refine m_tin (v := 2) (tgt := 84) C0 dX9_count_1 hs3 (by decide) (by decide) rfl (by decide) ?_
    refine lv_aload_n hx hb dX9_count_84 rfl (lv_at hl 0 rfl) ?_
    refine m_getr C0 hH f_0_2 14 rfl kF_X9_26 dX9_count_85 ?_
    refine m_geti (x := σ 14 0) C0 hH f_14_0 kF_X9_196 dX9_count_88 rfl ?_
    exact hret (some (.int (σ 14 0))) _ _ _ _ _ ⟨_, rfl, h⟩ hH ⟨dX9_count_91, .int, rfl, rfl⟩
  have h := h.2
  by_cases hs4 : x1 = 3
  · have h := h.1 hs4
    refine m_tin (v := 3) (tgt := 92) C0 dX9_count_1 hs4 (by decide) (by decide) rfl (by decide) ?_
    refine lv_aload_n hx hb dX9_count_92 rfl (lv_at hl 0 rfl) ?_
    refine m_cV (M2 := M_X9_sittersNow) (As := []) (rest := []) h C0 hH hl kc_X9_sittersNow ki_X9_sittersNow kx_X9_sittersNow ob_0 kM_X9_129 rfl (Nat.le_of_ble_eq_true rfl) (Nat.le_of_ble_eq_true rfl) ⟨Nat.le_of_ble_eq_true rfl, Nat.le_of_ble_eq_true rfl⟩ dX9_count_93 rfl (fun r τ5 H locs hq hH => ?_)
    obtain ⟨r6, rfl, h⟩ := hq
    refine m_cS (M2 := M_J6_bitCount_0f7a4) (As := [.int r6]) (rest := []) h C0 hH hl kc_J6_bitCount_0f7a4 ks_J6_bitCount_0f7a4 kM_X9_219 rfl (Nat.le_of_ble_eq_true rfl) (Nat.le_of_ble_eq_true rfl) ⟨Nat.le_of_ble_eq_true rfl, Nat.le_of_ble_eq_true rfl⟩ dX9_count_96 rfl (fun r τ7 H locs hq hH => ?_)
    obtain ⟨r8, rfl, h⟩ := hq
    exact hret (some (.int r8)) _ _ _ _ _ ⟨_, rfl, h⟩ hH ⟨dX9_count_99, .int, rfl, rfl⟩
  have h := h.2
  by_cases hs9 : x1 = 4
  · have h := h.1 hs9
    refine m_tin (v := 4) (tgt := 100) C0 dX9_count_1 hs9 (by decide) (by decide) rfl (by decide) ?_
    refine lv_aload_n hx hb dX9_count_100 rfl (lv_at hl 0 rfl) ?_
    refine m_getr C0 hH f_0_2 14 rfl kF_X9_26 dX9_count_101 ?_
    refine m_cV (M2 := M_X2_allWarm) (As := []) (rest := []) h C0 hH hl kc_X2_allWarm ki_X2_allWarm kx_X2_allWarm ob_14 kM_X9_244 rfl (Nat.le_of_ble_eq_true rfl) (Nat.le_of_ble_eq_true rfl) ⟨Nat.le_of_ble_eq_true rfl, Nat.le_of_ble_eq_true rfl⟩ dX9_count_104 rfl (fun r τ10 H locs hq hH => ?_)
    obtain ⟨r11, rfl, h⟩ := hq
    exact hret (some (.int r11)) _ _ _ _ _ ⟨_, rfl, h⟩ hH ⟨dX9_count_107, .int, rfl, rfl⟩
  have h := h.2
  by_cases hs12 : x1 = 5
  · have h := h.1 hs12
    refine m_tin (v := 5) (tgt := 108) C0 dX9_count_1 hs12 (by decide) (by decide) rfl (by decide) ?_
    refine lv_aload_n hx hb dX9_count_108 rfl (lv_at hl 0 rfl) ?_
    refine m_getr C0 hH f_0_5 44 rfl kF_X9_39 dX9_count_109 ?_
    refine lv_aload_n hx hb dX9_count_112 rfl (lv_at hl 0 rfl) ?_
    refine m_getr C0 hH f_0_2 14 rfl kF_X9_26 dX9_count_113 ?_
    refine lv_aload_n hx hb dX9_count_116 rfl (lv_at hl 0 rfl) ?_
    refine m_getr C0 hH f_0_2 14 rfl kF_X9_26 dX9_count_117 ?_
    refine m_geti (x := σ 14 3) C0 hH f_14_3 kF_X9_140 dX9_count_120 rfl ?_
    refine m_cV (M2 := M_X0_fill) (As := [.ref (Ad E 14), .int (σ 14 3)]) (rest := []) h C0 hH hl kc_X0_fill ki_X0_fill kx_X0_fill ob_44 kM_X9_253 rfl (Nat.le_of_ble_eq_true rfl) (Nat.le_of_ble_eq_true rfl) ⟨Nat.le_of_ble_eq_true rfl, Nat.le_of_ble_eq_true rfl⟩ dX9_count_123 rfl (fun r τ13 H locs hq hH => ?_)
    obtain ⟨rfl, h⟩ := hq
    refine lv_aload_n hx hb dX9_count_126 rfl (lv_at hl 0 rfl) ?_
    refine m_getr C0 hH f_0_5 44 rfl kF_X9_39 dX9_count_127 ?_
    refine m_cV (M2 := M_X0_allGuilt) (As := []) (rest := []) h C0 hH hl kc_X0_allGuilt ki_X0_allGuilt kx_X0_allGuilt ob_44 kM_X9_254 rfl (Nat.le_of_ble_eq_true rfl) (Nat.le_of_ble_eq_true rfl) ⟨Nat.le_of_ble_eq_true rfl, Nat.le_of_ble_eq_true rfl⟩ dX9_count_130 rfl (fun r τ14 H locs hq hH => ?_)
    obtain ⟨r15, rfl, h⟩ := hq
    exact hret (some (.int r15)) _ _ _ _ _ ⟨_, rfl, h⟩ hH ⟨dX9_count_133, .int, rfl, rfl⟩
  have h := h.2
  by_cases hs16 : x1 = 6
  · have h := h.1 hs16
    refine m_tin (v := 6) (tgt := 134) C0 dX9_count_1 hs16 (by decide) (by decide) rfl (by decide) ?_
    refine lv_aload_n hx hb dX9_count_134 rfl (lv_at hl 0 rfl) ?_
    refine m_getr C0 hH f_0_2 14 rfl kF_X9_26 dX9_count_135 ?_
    refine m_geti (x := σ 14 3) C0 hH f_14_3 kF_X9_140 dX9_count_138 rfl ?_
    refine m_cS (M2 := M_J6_bitCount_0f7a4) (As := [.int (σ 14 3)]) (rest := []) h C0 hH hl kc_J6_bitCount_0f7a4 ks_J6_bitCount_0f7a4 kM_X9_219 rfl (Nat.le_of_ble_eq_true rfl) (Nat.le_of_ble_eq_true rfl) ⟨Nat.le_of_ble_eq_true rfl, Nat.le_of_ble_eq_true rfl⟩ dX9_count_141 rfl (fun r τ17 H locs hq hH => ?_)
    obtain ⟨r18, rfl, h⟩ := hq
    exact hret (some (.int r18)) _ _ _ _ _ ⟨_, rfl, h⟩ hH ⟨dX9_count_144, .int, rfl, rfl⟩
  have h := h.2
  by_cases hs19 : x1 = 7
  · have h := h.1 hs19
    refine m_tin (v := 7) (tgt := 145) C0 dX9_count_1 hs19 (by decide) (by decide) rfl (by decide) ?_
    refine lv_aload_n hx hb dX9_count_145 rfl (lv_at hl 0 rfl) ?_
    refine m_getr C0 hH f_0_2 14 rfl kF_X9_26 dX9_count_146 ?_
    refine m_geti (x := σ 14 4) C0 hH f_14_4 kF_X9_187 dX9_count_149 rfl ?_
    exact hret (some (.int (σ 14 4))) _ _ _ _ _ ⟨_, rfl, h⟩ hH ⟨dX9_count_152, .int, rfl, rfl⟩
  have h := h.2
  by_cases hs20 : x1 = 8
  · have h := h.1 hs20
    refine m_tin (v := 8) (tgt := 153) C0 dX9_count_1 hs20 (by decide) (by decide) rfl (by decide) ?_
    refine lv_aload_n hx hb dX9_count_153 rfl (lv_at hl 0 rfl) ?_
    refine m_getr C0 hH f_0_2 14 rfl kF_X9_26 dX9_count_154 ?_
    refine m_cV (M2 := M_X2_allFroze) (As := []) (rest := []) h C0 hH hl kc_X2_allFroze ki_X2_allFroze kx_X2_allFroze ob_14 kM_X9_257 rfl (Nat.le_of_ble_eq_true rfl) (Nat.le_of_ble_eq_true rfl) ⟨Nat.le_of_ble_eq_true rfl, Nat.le_of_ble_eq_true rfl⟩ dX9_count_157 rfl (fun r τ21 H locs hq hH => ?_)
    obtain ⟨r22, rfl, h⟩ := hq
    exact hret (some (.int r22)) _ _ _ _ _ ⟨_, rfl, h⟩ hH ⟨dX9_count_160, .int, rfl, rfl⟩
  have h := h.2
  by_cases hs23 : x1 = 9
  · have h := h.1 hs23
    refine m_tin (v := 9) (tgt := 161) C0 dX9_count_1 hs23 (by decide) (by decide) rfl (by decide) ?_
    refine lv_aload_n hx hb dX9_count_161 rfl (lv_at hl 0 rfl) ?_
    refine m_getr C0 hH f_0_2 14 rfl kF_X9_26 dX9_count_162 ?_
    refine m_geti (x := σ 14 5) C0 hH f_14_5 kF_X9_232 dX9_count_165 rfl ?_
    exact hret (some (.int (σ 14 5))) _ _ _ _ _ ⟨_, rfl, h⟩ hH ⟨dX9_count_168, .int, rfl, rfl⟩
  have h := h.2
  by_cases hs24 : x1 = 10
  · have h := h.1 hs24
    refine m_tin (v := 10) (tgt := 169) C0 dX9_count_1 hs24 (by decide) (by decide) rfl (by decide) ?_
    refine lv_aload_n hx hb dX9_count_169 rfl (lv_at hl 0 rfl) ?_
    refine m_getr C0 hH f_0_0 1 rfl kF_X9_10 dX9_count_170 ?_
    refine m_geti (x := σ 1 1) C0 hH f_1_1 kF_X9_89 dX9_count_173 rfl ?_
    exact hret (some (.int (σ 1 1))) _ _ _ _ _ ⟨_, rfl, h⟩ hH ⟨dX9_count_176, .int, rfl, rfl⟩
  have h := h.2
  by_cases hs25 : x1 = 11
  · have h := h.1 hs25
    refine m_tin (v := 11) (tgt := 177) C0 dX9_count_1 hs25 (by decide) (by decide) rfl (by decide) ?_
    refine lv_aload_n hx hb dX9_count_177 rfl (lv_at hl 0 rfl) ?_
    refine m_geti (x := σ 0 12) C0 hH f_0_12 kF_X9_82 dX9_count_178 rfl ?_
    exact hret (some (.int (σ 0 12))) _ _ _ _ _ ⟨_, rfl, h⟩ hH ⟨dX9_count_181, .int, rfl, rfl⟩
  have h := h.2
  by_cases hs26 : x1 = 12
  · have h := h.1 hs26
    refine m_tin (v := 12) (tgt := 182) C0 dX9_count_1 hs26 (by decide) (by decide) rfl (by decide) ?_
    refine lv_aload_n hx hb dX9_count_182 rfl (lv_at hl 0 rfl) ?_
    refine m_geti (x := σ 0 13) C0 hH f_0_13 kF_X9_86 dX9_count_183 rfl ?_
    exact hret (some (.int (σ 0 13))) _ _ _ _ _ ⟨_, rfl, h⟩ hH ⟨dX9_count_186, .int, rfl, rfl⟩
  have h := h.2
  have h := h hs1
  have h := h hs2
  have h := h hs3
  have h := h hs4
  have h := h hs9
  have h := h hs12
  have h := h hs16
  have h := h hs19
  have h := h hs20
  have h := h hs23
  have h := h hs24
  have h := h hs25
  have h := h hs26
  refine m_tout (tgt := 187) C0 dX9_count_1 (fun v h1 h2 => ?_) (by decide) ?_
  · rcases (show v = 0 ∨ v = 1 ∨ v = 2 ∨ v = 3 ∨ v = 4 ∨ v = 5 ∨ v = 6 ∨ v = 7 ∨ v = 8 ∨ v = 9 ∨ v = 10 ∨ v = 11 ∨ v = 12 by omega) with rfl | rfl | rfl | rfl | rfl | rfl | rfl | rfl | rfl | rfl | rfl | rfl | rfl
    · exact fun q => hs1 (q.trans (by decide))
    · exact fun q => hs2 (q.trans (by decide))
    · exact fun q => hs3 (q.trans (by decide))
    · exact fun q => hs4 (q.trans (by decide))
    · exact fun q => hs9 (q.trans (by decide))
    · exact fun q => hs12 (q.trans (by decide))
    · exact fun q => hs16 (q.trans (by decide))
    · exact fun q => hs19 (q.trans (by decide))
    · exact fun q => hs20 (q.trans (by decide))
    · exact fun q => hs23 (q.trans (by decide))
    · exact fun q => hs24 (q.trans (by decide))
    · exact fun q => hs25 (q.trans (by decide))
    · exact fun q => hs26 (q.trans (by decide))
  refine lv_bipush (v := (-102)) hx hb dX9_count_187 (by decide) ?_
  exact hret (some (.int (-102))) _ _ _ _ _ ⟨_, rfl, h⟩ hH ⟨dX9_count_189, .int, rfl, rfl⟩

def r_X9_digestGrudges_0 (E : EE) (y1 : Int64) (σ : Mm) (Q : Int64 → Mm → Prop) : Prop := Rn E M_X9_digestGrudges 0 [(0, .ref (Ad E 0)), (1, .long y1)] [] σ (ql Q)
set_option maxRecDepth 20000 in
set_option maxHeartbeats 4000000 in
theorem s_X9_digestGrudges_0 (E : EE) (y1 : Int64) (σ : Mm) (Q : Int64 → Mm → Prop) (h : r_X9_to_0 E 0 1 σ (fun r2 τ1 => r_X9_to_0 E 1 0 τ1 (fun r4 τ3 => r_X9_ring_0 E  τ3 (fun r6 τ5 => r_X4_fewestToForgive_0 E  τ5 (fun r8 τ7 => r_J6_bitCount_0f7a4_0 E r8 τ7 (fun r10 τ9 => Q ((31 * ((31 * ((31 * ((31 * ((31 * y1) + r2.toInt64)) + r4.toInt64)) + r6.toInt64)) + r10.toInt64)) + r8.toInt64) τ9)))))) : r_X9_digestGrudges_0 E y1 σ Q := by
  intro p e R s m args below meth c Z cells slots H locs ls C0 hH hl hret
  have hx := C0.1
  have hb : c.code = cX9_digestGrudges := C0.2.1
  have hl : lv_has ls 6 [(0, .ref (Ad E 0)), (1, .long y1)] := hl
  refine lv_lload_n hx hb dX9_digestGrudges_0 rfl (lv_at hl 1 rfl) ?_
  refine lv_lstore_n (lv' := [(3, .long y1), (0, .ref (Ad E 0)), (1, .long y1)]) hx hb dX9_digestGrudges_1 rfl hl (by decide) rfl (fun ls hl => ?_)
  refine lv_ldc2 hx hb C0.2.2.2.1 (C0.2.2.2.2.1 _ kC_X9_272) dX9_digestGrudges_2 ?_
  refine lv_lload_n hx hb dX9_digestGrudges_5 rfl (lv_at hl 0 rfl) ?_
  refine lv_lmul hx hb dX9_digestGrudges_6 ?_
  refine lv_aload_n hx hb dX9_digestGrudges_7 rfl (lv_at hl 1 rfl) ?_
  refine lv_iconst (v := 0) hx hb dX9_digestGrudges_8 (by decide) ?_
  refine lv_iconst (v := 1) hx hb dX9_digestGrudges_9 (by decide) ?_
  refine m_cV (M2 := M_X9_to) (As := [.int 0, .int 1]) (rest := [.long (31 * y1)]) h C0 hH hl kc_X9_to ki_X9_to kx_X9_to ob_0 kM_X9_286 rfl (Nat.le_of_ble_eq_true rfl) (Nat.le_of_ble_eq_true rfl) ⟨Nat.le_of_ble_eq_true rfl, Nat.le_of_ble_eq_true rfl⟩ dX9_digestGrudges_10 rfl (fun r τ1 H locs hq hH => ?_)
  obtain ⟨r2, rfl, h⟩ := hq
  refine lv_i2l hx hb dX9_digestGrudges_13 rfl ?_
  refine lv_ladd hx hb dX9_digestGrudges_14 ?_
  refine lv_lstore_n (lv' := [(3, .long ((31 * y1) + r2.toInt64)), (0, .ref (Ad E 0)), (1, .long y1)]) hx hb dX9_digestGrudges_15 rfl hl (by decide) rfl (fun ls hl => ?_)
  refine lv_ldc2 hx hb C0.2.2.2.1 (C0.2.2.2.2.1 _ kC_X9_272) dX9_digestGrudges_16 ?_
  refine lv_lload_n hx hb dX9_digestGrudges_19 rfl (lv_at hl 0 rfl) ?_
  refine lv_lmul hx hb dX9_digestGrudges_20 ?_
  refine lv_aload_n hx hb dX9_digestGrudges_21 rfl (lv_at hl 1 rfl) ?_
  refine lv_iconst (v := 1) hx hb dX9_digestGrudges_22 (by decide) ?_
  refine lv_iconst (v := 0) hx hb dX9_digestGrudges_23 (by decide) ?_
  refine m_cV (M2 := M_X9_to) (As := [.int 1, .int 0]) (rest := [.long (31 * ((31 * y1) + r2.toInt64))]) h C0 hH hl kc_X9_to ki_X9_to kx_X9_to ob_0 kM_X9_286 rfl (Nat.le_of_ble_eq_true rfl) (Nat.le_of_ble_eq_true rfl) ⟨Nat.le_of_ble_eq_true rfl, Nat.le_of_ble_eq_true rfl⟩ dX9_digestGrudges_24 rfl (fun r τ3 H locs hq hH => ?_)
  obtain ⟨r4, rfl, h⟩ := hq
  refine lv_i2l hx hb dX9_digestGrudges_27 rfl ?_
  refine lv_ladd hx hb dX9_digestGrudges_28 ?_
  refine lv_lstore_n (lv' := [(3, .long ((31 * ((31 * y1) + r2.toInt64)) + r4.toInt64)), (0, .ref (Ad E 0)), (1, .long y1)]) hx hb dX9_digestGrudges_29 rfl hl (by decide) rfl (fun ls hl => ?_)
  refine lv_ldc2 hx hb C0.2.2.2.1 (C0.2.2.2.2.1 _ kC_X9_272) dX9_digestGrudges_30 ?_
  refine lv_lload_n hx hb dX9_digestGrudges_33 rfl (lv_at hl 0 rfl) ?_
  refine lv_lmul hx hb dX9_digestGrudges_34 ?_
  refine lv_aload_n hx hb dX9_digestGrudges_35 rfl (lv_at hl 1 rfl) ?_
  refine m_cV (M2 := M_X9_ring) (As := []) (rest := [.long (31 * ((31 * ((31 * y1) + r2.toInt64)) + r4.toInt64))]) h C0 hH hl kc_X9_ring ki_X9_ring kx_X9_ring ob_0 kM_X9_289 rfl (Nat.le_of_ble_eq_true rfl) (Nat.le_of_ble_eq_true rfl) ⟨Nat.le_of_ble_eq_true rfl, Nat.le_of_ble_eq_true rfl⟩ dX9_digestGrudges_36 rfl (fun r τ5 H locs hq hH => ?_)
  obtain ⟨r6, rfl, h⟩ := hq
  refine lv_i2l hx hb dX9_digestGrudges_39 rfl ?_
  refine lv_ladd hx hb dX9_digestGrudges_40 ?_
  refine lv_lstore_n (lv' := [(3, .long ((31 * ((31 * ((31 * y1) + r2.toInt64)) + r4.toInt64)) + r6.toInt64)), (0, .ref (Ad E 0)), (1, .long y1)]) hx hb dX9_digestGrudges_41 rfl hl (by decide) rfl (fun ls hl => ?_)
  refine lv_aload_n hx hb dX9_digestGrudges_42 rfl (lv_at hl 1 rfl) ?_
  refine m_getr C0 hH f_0_6 47 rfl kF_X9_46 dX9_digestGrudges_43 ?_
  refine lv_aload_n hx hb dX9_digestGrudges_46 rfl (lv_at hl 1 rfl) ?_
  refine m_getr C0 hH f_0_2 14 rfl kF_X9_26 dX9_digestGrudges_47 ?_
  refine m_cV (M2 := M_X4_fewestToForgive) (As := [.ref (Ad E 14)]) (rest := []) h C0 hH hl kc_X4_fewestToForgive ki_X4_fewestToForgive kx_X4_fewestToForgive ob_47 kM_X9_215 rfl (Nat.le_of_ble_eq_true rfl) (Nat.le_of_ble_eq_true rfl) ⟨Nat.le_of_ble_eq_true rfl, Nat.le_of_ble_eq_true rfl⟩ dX9_digestGrudges_50 rfl (fun r τ7 H locs hq hH => ?_)
  obtain ⟨r8, rfl, h⟩ := hq
  refine lv_istore (lv' := [(5, .int r8), (3, .long ((31 * ((31 * ((31 * y1) + r2.toInt64)) + r4.toInt64)) + r6.toInt64)), (0, .ref (Ad E 0)), (1, .long y1)]) hx hb dX9_digestGrudges_53 hl (by decide) rfl (fun ls hl => ?_)
  refine lv_ldc2 hx hb C0.2.2.2.1 (C0.2.2.2.2.1 _ kC_X9_272) dX9_digestGrudges_55 ?_
  refine lv_lload_n hx hb dX9_digestGrudges_58 rfl (lv_at hl 1 rfl) ?_
  refine lv_lmul hx hb dX9_digestGrudges_59 ?_
  refine lv_iload hx hb dX9_digestGrudges_60 (lv_at hl 0 rfl) ?_
  refine m_cS (M2 := M_J6_bitCount_0f7a4) (As := [.int r8]) (rest := [.long (31 * ((31 * ((31 * ((31 * y1) + r2.toInt64)) + r4.toInt64)) + r6.toInt64))]) h C0 hH hl kc_J6_bitCount_0f7a4 ks_J6_bitCount_0f7a4 kM_X9_219 rfl (Nat.le_of_ble_eq_true rfl) (Nat.le_of_ble_eq_true rfl) ⟨Nat.le_of_ble_eq_true rfl, Nat.le_of_ble_eq_true rfl⟩ dX9_digestGrudges_62 rfl (fun r τ9 H locs hq hH => ?_)
  obtain ⟨r10, rfl, h⟩ := hq
  refine lv_i2l hx hb dX9_digestGrudges_65 rfl ?_
  refine lv_ladd hx hb dX9_digestGrudges_66 ?_
  refine lv_lstore_n (lv' := [(3, .long ((31 * ((31 * ((31 * ((31 * y1) + r2.toInt64)) + r4.toInt64)) + r6.toInt64)) + r10.toInt64)), (5, .int r8), (0, .ref (Ad E 0)), (1, .long y1)]) hx hb dX9_digestGrudges_67 rfl hl (by decide) rfl (fun ls hl => ?_)
  refine lv_ldc2 hx hb C0.2.2.2.1 (C0.2.2.2.2.1 _ kC_X9_272) dX9_digestGrudges_68 ?_
  refine lv_lload_n hx hb dX9_digestGrudges_71 rfl (lv_at hl 0 rfl) ?_
  refine lv_lmul hx hb dX9_digestGrudges_72 ?_
  refine lv_iload hx hb dX9_digestGrudges_73 (lv_at hl 1 rfl) ?_
  refine lv_i2l hx hb dX9_digestGrudges_75 rfl ?_
  refine lv_ladd hx hb dX9_digestGrudges_76 ?_
  exact hret (some (.long ((31 * ((31 * ((31 * ((31 * ((31 * y1) + r2.toInt64)) + r4.toInt64)) + r6.toInt64)) + r10.toInt64)) + r8.toInt64))) _ _ _ _ _ ⟨_, rfl, h⟩ hH ⟨dX9_digestGrudges_77, rfl⟩

def r_X9_digestPeople_0 (E : EE) (y1 : Int64) (σ : Mm) (Q : Int64 → Mm → Prop) : Prop := Rn E M_X9_digestPeople 0 [(0, .ref (Ad E 0)), (1, .long y1)] [] σ (ql Q)
def r_X9_digestPeople_21 (E : EE) (y1 : Int64) (y3 : Int64) (x5 : Int32) (σ : Mm) (Q : Int64 → Mm → Prop) : Prop := Rn E M_X9_digestPeople 21 [(0, .ref (Ad E 0)), (1, .long y1), (3, .long y3), (5, .int x5)] [] σ (ql Q)
def r_X9_digestPeople_36 (E : EE) (y1 : Int64) (y3 : Int64) (x5 : Int32) (x6 : Int32) (σ : Mm) (Q : Int64 → Mm → Prop) : Prop := Rn E M_X9_digestPeople 36 [(0, .ref (Ad E 0)), (1, .long y1), (3, .long y3), (5, .int x5), (6, .int x6)] [] σ (ql Q)
set_option maxRecDepth 20000 in
set_option maxHeartbeats 4000000 in
theorem s_X9_digestPeople_0 (E : EE) (y1 : Int64) (σ : Mm) (Q : Int64 → Mm → Prop) (h : r_X1_fill_0 E 4 σ (fun τ1 => r_X9_digestPeople_21 E y1 y1 0 τ1 Q)) : r_X9_digestPeople_0 E y1 σ Q := by
  intro p e R s m args below meth c Z cells slots H locs ls C0 hH hl hret
  have hx := C0.1
  have hb : c.code = cX9_digestPeople := C0.2.1
  have hl : lv_has ls 7 [(0, .ref (Ad E 0)), (1, .long y1)] := hl
  refine lv_lload_n hx hb dX9_digestPeople_0 rfl (lv_at hl 1 rfl) ?_
  refine lv_lstore_n (lv' := [(3, .long y1), (0, .ref (Ad E 0)), (1, .long y1)]) hx hb dX9_digestPeople_1 rfl hl (by decide) rfl (fun ls hl => ?_)
  refine lv_aload_n hx hb dX9_digestPeople_2 rfl (lv_at hl 1 rfl) ?_
  refine m_getr C0 hH f_0_8 56 rfl kF_X9_60 dX9_digestPeople_3 ?_
  refine lv_aload_n hx hb dX9_digestPeople_6 rfl (lv_at hl 1 rfl) ?_
  refine m_getr C0 hH f_0_2 14 rfl kF_X9_26 dX9_digestPeople_7 ?_
  refine lv_iconst (v := 4) hx hb dX9_digestPeople_10 (by decide) ?_
  refine lv_aload_n hx hb dX9_digestPeople_11 rfl (lv_at hl 1 rfl) ?_
  refine m_getr C0 hH f_0_5 44 rfl kF_X9_39 dX9_digestPeople_12 ?_
  refine m_cV (M2 := M_X1_fill) (As := [.ref (Ad E 14), .int 4, .ref (Ad E 44)]) (rest := []) h C0 hH hl kc_X1_fill ki_X1_fill kx_X1_fill ob_56 kM_X9_224 rfl (Nat.le_of_ble_eq_true rfl) (Nat.le_of_ble_eq_true rfl) ⟨Nat.le_of_ble_eq_true rfl, Nat.le_of_ble_eq_true rfl⟩ dX9_digestPeople_15 rfl (fun r τ1 H locs hq hH => ?_)
  obtain ⟨rfl, h⟩ := hq
  refine lv_iconst (v := 0) hx hb dX9_digestPeople_18 (by decide) ?_
  refine lv_istore (lv' := [(5, .int 0), (3, .long y1), (0, .ref (Ad E 0)), (1, .long y1)]) hx hb dX9_digestPeople_19 hl (by decide) rfl (fun ls hl => ?_)
  exact h p e R s m args below meth c Z cells slots H locs ls C0 hH (lv_sub hl [2, 3, 1, 0] rfl) hret
set_option maxRecDepth 20000 in
set_option maxHeartbeats 4000000 in
theorem s_X9_digestPeople_21 (E : EE) (y1 : Int64) (y3 : Int64) (x5 : Int32) (σ : Mm) (Q : Int64 → Mm → Prop) (h : (((σ 14 1) ≤ x5 → Q y3 σ) ∧ (¬ (σ 14 1) ≤ x5 → r_X9_digestPeople_36 E y1 y3 x5 0 σ Q))) : r_X9_digestPeople_21 E y1 y3 x5 σ Q := by
  intro p e R s m args below meth c Z cells slots H locs ls C0 hH hl hret
  have hx := C0.1
  have hb : c.code = cX9_digestPeople := C0.2.1
  have hl : lv_has ls 7 [(0, .ref (Ad E 0)), (1, .long y1), (3, .long y3), (5, .int x5)] := hl
  refine lv_iload hx hb dX9_digestPeople_21 (lv_at hl 3 rfl) ?_
  refine lv_aload_n hx hb dX9_digestPeople_23 rfl (lv_at hl 0 rfl) ?_
  refine m_getr C0 hH f_0_2 14 rfl kF_X9_26 dX9_digestPeople_24 ?_
  refine m_geti (x := σ 14 1) C0 hH f_14_1 kF_X9_111 dX9_digestPeople_27 rfl ?_
  refine lv_icmp_ge (tgt := 104) hx hb dX9_digestPeople_30 (by decide) (fun hc1 => ?_) (fun hc1 => ?_)
  · have h := h.1 hc1
    refine lv_lload_n hx hb dX9_digestPeople_104 rfl (lv_at hl 2 rfl) ?_
    exact hret (some (.long y3)) _ _ _ _ _ ⟨_, rfl, h⟩ hH ⟨dX9_digestPeople_105, rfl⟩
  · have h := h.2 hc1
    refine lv_iconst (v := 0) hx hb dX9_digestPeople_33 (by decide) ?_
    refine lv_istore (lv' := [(6, .int 0), (0, .ref (Ad E 0)), (1, .long y1), (3, .long y3), (5, .int x5)]) hx hb dX9_digestPeople_34 hl (by decide) rfl (fun ls hl => ?_)
    exact h p e R s m args below meth c Z cells slots H locs ls C0 hH (lv_sub hl [1, 2, 3, 4, 0] rfl) hret
set_option maxRecDepth 20000 in
set_option maxHeartbeats 4000000 in
theorem s_X9_digestPeople_36 (E : EE) (y1 : Int64) (y3 : Int64) (x5 : Int32) (x6 : Int32) (σ : Mm) (Q : Int64 → Mm → Prop) (h : ((5 < x6 → r_X1_above_0 E x5 σ (fun r3 τ2 => r_X1_below_0 E x5 τ2 (fun r5 τ4 => r_X9_digestPeople_21 E y1 ((31 * ((31 * y3) + r3.toInt64)) + r5.toInt64) (x5 + 1) τ4 Q))) ∧ (¬ 5 < x6 → r_X9_person_0 E x5 x6 σ (fun r7 τ6 => r_X9_digestPeople_36 E y1 ((31 * y3) + r7.toInt64) x5 (x6 + 1) τ6 Q)))) : r_X9_digestPeople_36 E y1 y3 x5 x6 σ Q := by
  intro p e R s m args below meth c Z cells slots H locs ls C0 hH hl hret
  have hx := C0.1
  have hb : c.code = cX9_digestPeople := C0.2.1
  have hl : lv_has ls 7 [(0, .ref (Ad E 0)), (1, .long y1), (3, .long y3), (5, .int x5), (6, .int x6)] := hl
  refine lv_iload hx hb dX9_digestPeople_36 (lv_at hl 4 rfl) ?_
  refine lv_iconst (v := 5) hx hb dX9_digestPeople_38 (by decide) ?_
  refine lv_icmp_gt (tgt := 64) hx hb dX9_digestPeople_39 (by decide) (fun hc1 => ?_) (fun hc1 => ?_)
  · have h := h.1 hc1
    refine lv_ldc2 hx hb C0.2.2.2.1 (C0.2.2.2.2.1 _ kC_X9_272) dX9_digestPeople_64 ?_
    refine lv_lload_n hx hb dX9_digestPeople_67 rfl (lv_at hl 2 rfl) ?_
    refine lv_lmul hx hb dX9_digestPeople_68 ?_
    refine lv_aload_n hx hb dX9_digestPeople_69 rfl (lv_at hl 0 rfl) ?_
    refine m_getr C0 hH f_0_8 56 rfl kF_X9_60 dX9_digestPeople_70 ?_
    refine lv_iload hx hb dX9_digestPeople_73 (lv_at hl 3 rfl) ?_
    refine m_cV (M2 := M_X1_above) (As := [.int x5]) (rest := [.long (31 * y3)]) h C0 hH hl kc_X1_above ki_X1_above kx_X1_above ob_56 kM_X9_226 rfl (Nat.le_of_ble_eq_true rfl) (Nat.le_of_ble_eq_true rfl) ⟨Nat.le_of_ble_eq_true rfl, Nat.le_of_ble_eq_true rfl⟩ dX9_digestPeople_75 rfl (fun r τ2 H locs hq hH => ?_)
    obtain ⟨r3, rfl, h⟩ := hq
    refine lv_i2l hx hb dX9_digestPeople_78 rfl ?_
    refine lv_ladd hx hb dX9_digestPeople_79 ?_
    refine lv_lstore_n (lv' := [(3, .long ((31 * y3) + r3.toInt64)), (0, .ref (Ad E 0)), (1, .long y1), (5, .int x5), (6, .int x6)]) hx hb dX9_digestPeople_80 rfl hl (by decide) rfl (fun ls hl => ?_)
    refine lv_ldc2 hx hb C0.2.2.2.1 (C0.2.2.2.2.1 _ kC_X9_272) dX9_digestPeople_81 ?_
    refine lv_lload_n hx hb dX9_digestPeople_84 rfl (lv_at hl 0 rfl) ?_
    refine lv_lmul hx hb dX9_digestPeople_85 ?_
    refine lv_aload_n hx hb dX9_digestPeople_86 rfl (lv_at hl 1 rfl) ?_
    refine m_getr C0 hH f_0_8 56 rfl kF_X9_60 dX9_digestPeople_87 ?_
    refine lv_iload hx hb dX9_digestPeople_90 (lv_at hl 3 rfl) ?_
    refine m_cV (M2 := M_X1_below) (As := [.int x5]) (rest := [.long (31 * ((31 * y3) + r3.toInt64))]) h C0 hH hl kc_X1_below ki_X1_below kx_X1_below ob_56 kM_X9_229 rfl (Nat.le_of_ble_eq_true rfl) (Nat.le_of_ble_eq_true rfl) ⟨Nat.le_of_ble_eq_true rfl, Nat.le_of_ble_eq_true rfl⟩ dX9_digestPeople_92 rfl (fun r τ4 H locs hq hH => ?_)
    obtain ⟨r5, rfl, h⟩ := hq
    refine lv_i2l hx hb dX9_digestPeople_95 rfl ?_
    refine lv_ladd hx hb dX9_digestPeople_96 ?_
    refine lv_lstore_n (lv' := [(3, .long ((31 * ((31 * y3) + r3.toInt64)) + r5.toInt64)), (0, .ref (Ad E 0)), (1, .long y1), (5, .int x5), (6, .int x6)]) hx hb dX9_digestPeople_97 rfl hl (by decide) rfl (fun ls hl => ?_)
    refine lv_iinc (v := (x5 + 1)) (lv' := [(5, .int (x5 + 1)), (3, .long ((31 * ((31 * y3) + r3.toInt64)) + r5.toInt64)), (0, .ref (Ad E 0)), (1, .long y1), (6, .int x6)]) hx hb dX9_digestPeople_98 hl (k := 3) rfl rfl (by decide) rfl (fun ls hl => ?_)
    refine lv_goto (tgt := 21) hx hb dX9_digestPeople_101 (by decide) ?_
    exact h p e R s m args below meth c Z cells slots H locs ls C0 hH (lv_sub hl [2, 3, 1, 0] rfl) hret
  · have h := h.2 hc1
    refine lv_ldc2 hx hb C0.2.2.2.1 (C0.2.2.2.2.1 _ kC_X9_272) dX9_digestPeople_42 ?_
    refine lv_lload_n hx hb dX9_digestPeople_45 rfl (lv_at hl 2 rfl) ?_
    refine lv_lmul hx hb dX9_digestPeople_46 ?_
    refine lv_aload_n hx hb dX9_digestPeople_47 rfl (lv_at hl 0 rfl) ?_
    refine lv_iload hx hb dX9_digestPeople_48 (lv_at hl 3 rfl) ?_
    refine lv_iload hx hb dX9_digestPeople_50 (lv_at hl 4 rfl) ?_
    refine m_cV (M2 := M_X9_person) (As := [.int x5, .int x6]) (rest := [.long (31 * y3)]) h C0 hH hl kc_X9_person ki_X9_person kx_X9_person ob_0 kM_X9_280 rfl (Nat.le_of_ble_eq_true rfl) (Nat.le_of_ble_eq_true rfl) ⟨Nat.le_of_ble_eq_true rfl, Nat.le_of_ble_eq_true rfl⟩ dX9_digestPeople_52 rfl (fun r τ6 H locs hq hH => ?_)
    obtain ⟨r7, rfl, h⟩ := hq
    refine lv_i2l hx hb dX9_digestPeople_55 rfl ?_
    refine lv_ladd hx hb dX9_digestPeople_56 ?_
    refine lv_lstore_n (lv' := [(3, .long ((31 * y3) + r7.toInt64)), (0, .ref (Ad E 0)), (1, .long y1), (5, .int x5), (6, .int x6)]) hx hb dX9_digestPeople_57 rfl hl (by decide) rfl (fun ls hl => ?_)
    refine lv_iinc (v := (x6 + 1)) (lv' := [(6, .int (x6 + 1)), (3, .long ((31 * y3) + r7.toInt64)), (0, .ref (Ad E 0)), (1, .long y1), (5, .int x5)]) hx hb dX9_digestPeople_58 hl (k := 4) rfl rfl (by decide) rfl (fun ls hl => ?_)
    refine lv_goto (tgt := 36) hx hb dX9_digestPeople_61 (by decide) ?_
    exact h p e R s m args below meth c Z cells slots H locs ls C0 hH (lv_sub hl [2, 3, 1, 4, 0] rfl) hret

def r_X9_digestWrongs_0 (E : EE) (y1 : Int64) (σ : Mm) (Q : Int64 → Mm → Prop) : Prop := Rn E M_X9_digestWrongs 0 [(0, .ref (Ad E 0)), (1, .long y1)] [] σ (ql Q)
def r_X9_digestWrongs_5 (E : EE) (y1 : Int64) (y3 : Int64) (x5 : Int32) (σ : Mm) (Q : Int64 → Mm → Prop) : Prop := Rn E M_X9_digestWrongs 5 [(0, .ref (Ad E 0)), (1, .long y1), (3, .long y3), (5, .int x5)] [] σ (ql Q)
def r_X9_digestWrongs_20 (E : EE) (y1 : Int64) (y3 : Int64) (x5 : Int32) (x6 : Int32) (σ : Mm) (Q : Int64 → Mm → Prop) : Prop := Rn E M_X9_digestWrongs 20 [(0, .ref (Ad E 0)), (1, .long y1), (3, .long y3), (5, .int x5), (6, .int x6)] [] σ (ql Q)
set_option maxRecDepth 20000 in
set_option maxHeartbeats 4000000 in
theorem s_X9_digestWrongs_0 (E : EE) (y1 : Int64) (σ : Mm) (Q : Int64 → Mm → Prop) (h : r_X9_digestWrongs_5 E y1 y1 0 σ Q) : r_X9_digestWrongs_0 E y1 σ Q := by
  intro p e R s m args below meth c Z cells slots H locs ls C0 hH hl hret
  have hx := C0.1
  have hb : c.code = cX9_digestWrongs := C0.2.1
  have hl : lv_has ls 7 [(0, .ref (Ad E 0)), (1, .long y1)] := hl
  refine lv_lload_n hx hb dX9_digestWrongs_0 rfl (lv_at hl 1 rfl) ?_
  refine lv_lstore_n (lv' := [(3, .long y1), (0, .ref (Ad E 0)), (1, .long y1)]) hx hb dX9_digestWrongs_1 rfl hl (by decide) rfl (fun ls hl => ?_)
  refine lv_iconst (v := 0) hx hb dX9_digestWrongs_2 (by decide) ?_
  refine lv_istore (lv' := [(5, .int 0), (3, .long y1), (0, .ref (Ad E 0)), (1, .long y1)]) hx hb dX9_digestWrongs_3 hl (by decide) rfl (fun ls hl => ?_)
  exact h p e R s m args below meth c Z cells slots H locs ls C0 hH (lv_sub hl [2, 3, 1, 0] rfl) hret
set_option maxRecDepth 20000 in
set_option maxHeartbeats 4000000 in
theorem s_X9_digestWrongs_5 (E : EE) (y1 : Int64) (y3 : Int64) (x5 : Int32) (σ : Mm) (Q : Int64 → Mm → Prop) (h : (((σ 14 2) ≤ x5 → Q y3 σ) ∧ (¬ (σ 14 2) ≤ x5 → r_X9_digestWrongs_20 E y1 y3 x5 0 σ Q))) : r_X9_digestWrongs_5 E y1 y3 x5 σ Q := by
  intro p e R s m args below meth c Z cells slots H locs ls C0 hH hl hret
  have hx := C0.1
  have hb : c.code = cX9_digestWrongs := C0.2.1
  have hl : lv_has ls 7 [(0, .ref (Ad E 0)), (1, .long y1), (3, .long y3), (5, .int x5)] := hl
  refine lv_iload hx hb dX9_digestWrongs_5 (lv_at hl 3 rfl) ?_
  refine lv_aload_n hx hb dX9_digestWrongs_7 rfl (lv_at hl 0 rfl) ?_
  refine m_getr C0 hH f_0_2 14 rfl kF_X9_26 dX9_digestWrongs_8 ?_
  refine m_geti (x := σ 14 2) C0 hH f_14_2 kF_X9_250 dX9_digestWrongs_11 rfl ?_
  refine lv_icmp_ge (tgt := 54) hx hb dX9_digestWrongs_14 (by decide) (fun hc1 => ?_) (fun hc1 => ?_)
  · have h := h.1 hc1
    refine lv_lload_n hx hb dX9_digestWrongs_54 rfl (lv_at hl 2 rfl) ?_
    exact hret (some (.long y3)) _ _ _ _ _ ⟨_, rfl, h⟩ hH ⟨dX9_digestWrongs_55, rfl⟩
  · have h := h.2 hc1
    refine lv_iconst (v := 0) hx hb dX9_digestWrongs_17 (by decide) ?_
    refine lv_istore (lv' := [(6, .int 0), (0, .ref (Ad E 0)), (1, .long y1), (3, .long y3), (5, .int x5)]) hx hb dX9_digestWrongs_18 hl (by decide) rfl (fun ls hl => ?_)
    exact h p e R s m args below meth c Z cells slots H locs ls C0 hH (lv_sub hl [1, 2, 3, 4, 0] rfl) hret
set_option maxRecDepth 20000 in
set_option maxHeartbeats 4000000 in
theorem s_X9_digestWrongs_20 (E : EE) (y1 : Int64) (y3 : Int64) (x5 : Int32) (x6 : Int32) (σ : Mm) (Q : Int64 → Mm → Prop) (h : ((5 < x6 → r_X9_digestWrongs_5 E y1 y3 (x5 + 1) σ Q) ∧ (¬ 5 < x6 → r_X9_wrong_0 E x5 x6 σ (fun r3 τ2 => r_X9_digestWrongs_20 E y1 ((31 * y3) + r3.toInt64) x5 (x6 + 1) τ2 Q)))) : r_X9_digestWrongs_20 E y1 y3 x5 x6 σ Q := by
  intro p e R s m args below meth c Z cells slots H locs ls C0 hH hl hret
  have hx := C0.1
  have hb : c.code = cX9_digestWrongs := C0.2.1
  have hl : lv_has ls 7 [(0, .ref (Ad E 0)), (1, .long y1), (3, .long y3), (5, .int x5), (6, .int x6)] := hl
  refine lv_iload hx hb dX9_digestWrongs_20 (lv_at hl 4 rfl) ?_
  refine lv_iconst (v := 5) hx hb dX9_digestWrongs_22 (by decide) ?_
  refine lv_icmp_gt (tgt := 48) hx hb dX9_digestWrongs_23 (by decide) (fun hc1 => ?_) (fun hc1 => ?_)
  · have h := h.1 hc1
    refine lv_iinc (v := (x5 + 1)) (lv' := [(5, .int (x5 + 1)), (0, .ref (Ad E 0)), (1, .long y1), (3, .long y3), (6, .int x6)]) hx hb dX9_digestWrongs_48 hl (k := 3) rfl rfl (by decide) rfl (fun ls hl => ?_)
    refine lv_goto (tgt := 5) hx hb dX9_digestWrongs_51 (by decide) ?_
    exact h p e R s m args below meth c Z cells slots H locs ls C0 hH (lv_sub hl [1, 2, 3, 0] rfl) hret
  · have h := h.2 hc1
    refine lv_ldc2 hx hb C0.2.2.2.1 (C0.2.2.2.2.1 _ kC_X9_272) dX9_digestWrongs_26 ?_
    refine lv_lload_n hx hb dX9_digestWrongs_29 rfl (lv_at hl 2 rfl) ?_
    refine lv_lmul hx hb dX9_digestWrongs_30 ?_
    refine lv_aload_n hx hb dX9_digestWrongs_31 rfl (lv_at hl 0 rfl) ?_
    refine lv_iload hx hb dX9_digestWrongs_32 (lv_at hl 3 rfl) ?_
    refine lv_iload hx hb dX9_digestWrongs_34 (lv_at hl 4 rfl) ?_
    refine m_cV (M2 := M_X9_wrong) (As := [.int x5, .int x6]) (rest := [.long (31 * y3)]) h C0 hH hl kc_X9_wrong ki_X9_wrong kx_X9_wrong ob_0 kM_X9_283 rfl (Nat.le_of_ble_eq_true rfl) (Nat.le_of_ble_eq_true rfl) ⟨Nat.le_of_ble_eq_true rfl, Nat.le_of_ble_eq_true rfl⟩ dX9_digestWrongs_36 rfl (fun r τ2 H locs hq hH => ?_)
    obtain ⟨r3, rfl, h⟩ := hq
    refine lv_i2l hx hb dX9_digestWrongs_39 rfl ?_
    refine lv_ladd hx hb dX9_digestWrongs_40 ?_
    refine lv_lstore_n (lv' := [(3, .long ((31 * y3) + r3.toInt64)), (0, .ref (Ad E 0)), (1, .long y1), (5, .int x5), (6, .int x6)]) hx hb dX9_digestWrongs_41 rfl hl (by decide) rfl (fun ls hl => ?_)
    refine lv_iinc (v := (x6 + 1)) (lv' := [(6, .int (x6 + 1)), (3, .long ((31 * y3) + r3.toInt64)), (0, .ref (Ad E 0)), (1, .long y1), (5, .int x5)]) hx hb dX9_digestWrongs_42 hl (k := 4) rfl rfl (by decide) rfl (fun ls hl => ?_)
    refine lv_goto (tgt := 20) hx hb dX9_digestWrongs_45 (by decide) ?_
    exact h p e R s m args below meth c Z cells slots H locs ls C0 hH (lv_sub hl [2, 3, 1, 4, 0] rfl) hret

def r_X9_digest_0 (E : EE) (σ : Mm) (Q : Int64 → Mm → Prop) : Prop := Rn E M_X9_digest 0 [(0, .ref (Ad E 0))] [] σ (ql Q)
def r_X9_digest_30 (E : EE) (y1 : Int64) (x3 : Int32) (σ : Mm) (Q : Int64 → Mm → Prop) : Prop := Rn E M_X9_digest 30 [(0, .ref (Ad E 0)), (1, .long y1), (3, .int x3)] [] σ (ql Q)
def r_X9_digest_66 (E : EE) (y1 : Int64) (x3 : Int32) (σ : Mm) (Q : Int64 → Mm → Prop) : Prop := Rn E M_X9_digest 66 [(0, .ref (Ad E 0)), (1, .long y1), (3, .int x3)] [] σ (ql Q)
set_option maxRecDepth 20000 in
set_option maxHeartbeats 4000000 in
theorem s_X9_digest_0 (E : EE) (σ : Mm) (Q : Int64 → Mm → Prop) (h : r_X9_digestPeople_0 E 1289 σ (fun w2 τ1 => r_X9_digestWrongs_0 E w2 τ1 (fun w4 τ3 => r_X2_isThere_0 E  τ3 (fun r6 τ5 => ((r6 = 0 → r_X9_digest_30 E w4 0 τ5 Q) ∧ (¬ r6 = 0 → r_X9_digestGrudges_0 E w4 τ5 (fun w9 τ8 => r_X9_digest_30 E w9 0 τ8 Q))))))) : r_X9_digest_0 E σ Q := by
  intro p e R s m args below meth c Z cells slots H locs ls C0 hH hl hret
  have hx := C0.1
  have hb : c.code = cX9_digest := C0.2.1
  have hl : lv_has ls 4 [(0, .ref (Ad E 0))] := hl
  refine lv_aload_n hx hb dX9_digest_0 rfl (lv_at hl 0 rfl) ?_
  refine lv_aload_n hx hb dX9_digest_1 rfl (lv_at hl 0 rfl) ?_
  refine lv_ldc2 hx hb C0.2.2.2.1 (C0.2.2.2.2.1 _ kC_X9_260) dX9_digest_2 ?_
  refine m_cV (M2 := M_X9_digestPeople) (As := [.long 1289]) (rest := [.ref (Ad E 0)]) h C0 hH hl kc_X9_digestPeople ki_X9_digestPeople kx_X9_digestPeople ob_0 kM_X9_262 rfl (Nat.le_of_ble_eq_true rfl) (Nat.le_of_ble_eq_true rfl) ⟨Nat.le_of_ble_eq_true rfl, Nat.le_of_ble_eq_true rfl⟩ dX9_digest_5 rfl (fun r τ1 H locs hq hH => ?_)
  obtain ⟨w2, rfl, h⟩ := hq
  refine m_cV (M2 := M_X9_digestWrongs) (As := [.long w2]) (rest := []) h C0 hH hl kc_X9_digestWrongs ki_X9_digestWrongs kx_X9_digestWrongs ob_0 kM_X9_266 rfl (Nat.le_of_ble_eq_true rfl) (Nat.le_of_ble_eq_true rfl) ⟨Nat.le_of_ble_eq_true rfl, Nat.le_of_ble_eq_true rfl⟩ dX9_digest_8 rfl (fun r τ3 H locs hq hH => ?_)
  obtain ⟨w4, rfl, h⟩ := hq
  refine lv_lstore_n (lv' := [(1, .long w4), (0, .ref (Ad E 0))]) hx hb dX9_digest_11 rfl hl (by decide) rfl (fun ls hl => ?_)
  refine lv_aload_n hx hb dX9_digest_12 rfl (lv_at hl 1 rfl) ?_
  refine m_getr C0 hH f_0_2 14 rfl kF_X9_26 dX9_digest_13 ?_
  refine m_cV (M2 := M_X2_isThere) (As := []) (rest := []) h C0 hH hl kc_X2_isThere ki_X2_isThere kx_X2_isThere ob_14 kM_X9_184 rfl (Nat.le_of_ble_eq_true rfl) (Nat.le_of_ble_eq_true rfl) ⟨Nat.le_of_ble_eq_true rfl, Nat.le_of_ble_eq_true rfl⟩ dX9_digest_16 rfl (fun r τ5 H locs hq hH => ?_)
  obtain ⟨r6, rfl, h⟩ := hq
  refine lv_if_eq (tgt := 28) hx hb dX9_digest_19 (by decide) (fun hc7 => ?_) (fun hc7 => ?_)
  · have h := h.1 hc7
    refine lv_iconst (v := 0) hx hb dX9_digest_28 (by decide) ?_
    refine lv_istore_n (lv' := [(3, .int 0), (1, .long w4), (0, .ref (Ad E 0))]) hx hb dX9_digest_29 rfl hl (by decide) rfl (fun ls hl => ?_)
    exact h p e R s m args below meth c Z cells slots H locs ls C0 hH (lv_sub hl [2, 1, 0] rfl) hret
  · have h := h.2 hc7
    refine lv_aload_n hx hb dX9_digest_22 rfl (lv_at hl 1 rfl) ?_
    refine lv_lload_n hx hb dX9_digest_23 rfl (lv_at hl 0 rfl) ?_
    refine m_cV (M2 := M_X9_digestGrudges) (As := [.long w4]) (rest := []) h C0 hH hl kc_X9_digestGrudges ki_X9_digestGrudges kx_X9_digestGrudges ob_0 kM_X9_269 rfl (Nat.le_of_ble_eq_true rfl) (Nat.le_of_ble_eq_true rfl) ⟨Nat.le_of_ble_eq_true rfl, Nat.le_of_ble_eq_true rfl⟩ dX9_digest_24 rfl (fun r τ8 H locs hq hH => ?_)
    obtain ⟨w9, rfl, h⟩ := hq
    refine lv_lstore_n (lv' := [(1, .long w9), (0, .ref (Ad E 0))]) hx hb dX9_digest_27 rfl hl (by decide) rfl (fun ls hl => ?_)
    refine lv_iconst (v := 0) hx hb dX9_digest_28 (by decide) ?_
    refine lv_istore_n (lv' := [(3, .int 0), (1, .long w9), (0, .ref (Ad E 0))]) hx hb dX9_digest_29 rfl hl (by decide) rfl (fun ls hl => ?_)
    exact h p e R s m args below meth c Z cells slots H locs ls C0 hH (lv_sub hl [2, 1, 0] rfl) hret
set_option maxRecDepth 20000 in
set_option maxHeartbeats 4000000 in
theorem s_X9_digest_30 (E : EE) (y1 : Int64) (x3 : Int32) (σ : Mm) (Q : Int64 → Mm → Prop) (h : (((σ 1 1) ≤ x3 → r_X9_digest_66 E y1 0 σ Q) ∧ (¬ (σ 1 1) ≤ x3 → (vp_in x3 54 ∧ r_X9_digest_30 E ((31 * y1) + ((σ 2 x3.toNatClampNeg).toInt64)) (x3 + 1) σ Q)))) : r_X9_digest_30 E y1 x3 σ Q := by
  intro p e R s m args below meth c Z cells slots H locs ls C0 hH hl hret
  have hx := C0.1
  have hb : c.code = cX9_digest := C0.2.1
  have hl : lv_has ls 4 [(0, .ref (Ad E 0)), (1, .long y1), (3, .int x3)] := hl
  refine lv_iload_n hx hb dX9_digest_30 rfl (lv_at hl 2 rfl) ?_
  refine lv_aload_n hx hb dX9_digest_31 rfl (lv_at hl 0 rfl) ?_
  refine m_getr C0 hH f_0_0 1 rfl kF_X9_10 dX9_digest_32 ?_
  refine m_geti (x := σ 1 1) C0 hH f_1_1 kF_X9_89 dX9_digest_35 rfl ?_
  refine lv_icmp_ge (tgt := 64) hx hb dX9_digest_38 (by decide) (fun hc1 => ?_) (fun hc1 => ?_)
  · have h := h.1 hc1
    refine lv_iconst (v := 0) hx hb dX9_digest_64 (by decide) ?_
    refine lv_istore_n (lv' := [(3, .int 0), (0, .ref (Ad E 0)), (1, .long y1)]) hx hb dX9_digest_65 rfl hl (by decide) rfl (fun ls hl => ?_)
    exact h p e R s m args below meth c Z cells slots H locs ls C0 hH (lv_sub hl [1, 2, 0] rfl) hret
  · have h := h.2 hc1
    refine lv_ldc2 hx hb C0.2.2.2.1 (C0.2.2.2.2.1 _ kC_X9_272) dX9_digest_41 ?_
    refine lv_lload_n hx hb dX9_digest_44 rfl (lv_at hl 1 rfl) ?_
    refine lv_lmul hx hb dX9_digest_45 ?_
    refine lv_aload_n hx hb dX9_digest_46 rfl (lv_at hl 0 rfl) ?_
    refine m_getr C0 hH f_0_0 1 rfl kF_X9_10 dX9_digest_47 ?_
    refine m_getr C0 hH f_1_0 2 rfl kF_X9_274 dX9_digest_50 ?_
    refine lv_iload_n hx hb dX9_digest_53 rfl (lv_at hl 2 rfl) ?_
    refine m_iald (x := σ 2 x3.toNatClampNeg) C0 hH a_2 h.1 dX9_digest_54 rfl ?_
    have h := h.2
    refine lv_i2l hx hb dX9_digest_55 rfl ?_
    refine lv_ladd hx hb dX9_digest_56 ?_
    refine lv_lstore_n (lv' := [(1, .long ((31 * y1) + ((σ 2 x3.toNatClampNeg).toInt64))), (0, .ref (Ad E 0)), (3, .int x3)]) hx hb dX9_digest_57 rfl hl (by decide) rfl (fun ls hl => ?_)
    refine lv_iinc (v := (x3 + 1)) (lv' := [(3, .int (x3 + 1)), (1, .long ((31 * y1) + ((σ 2 x3.toNatClampNeg).toInt64))), (0, .ref (Ad E 0))]) hx hb dX9_digest_58 hl (k := 2) rfl rfl (by decide) rfl (fun ls hl => ?_)
    refine lv_goto (tgt := 30) hx hb dX9_digest_61 (by decide) ?_
    exact h p e R s m args below meth c Z cells slots H locs ls C0 hH (lv_sub hl [2, 1, 0] rfl) hret
set_option maxRecDepth 20000 in
set_option maxHeartbeats 4000000 in
theorem s_X9_digest_66 (E : EE) (y1 : Int64) (x3 : Int32) (σ : Mm) (Q : Int64 → Mm → Prop) (h : ((12 < x3 → Q y1 σ) ∧ (¬ 12 < x3 → r_X9_count_0 E x3 σ (fun r3 τ2 => r_X9_digest_66 E ((31 * y1) + r3.toInt64) (x3 + 1) τ2 Q)))) : r_X9_digest_66 E y1 x3 σ Q := by
  intro p e R s m args below meth c Z cells slots H locs ls C0 hH hl hret
  have hx := C0.1
  have hb : c.code = cX9_digest := C0.2.1
  have hl : lv_has ls 4 [(0, .ref (Ad E 0)), (1, .long y1), (3, .int x3)] := hl
  refine lv_iload_n hx hb dX9_digest_66 rfl (lv_at hl 2 rfl) ?_
  refine lv_bipush (v := 12) hx hb dX9_digest_67 (by decide) ?_
  refine lv_icmp_gt (tgt := 91) hx hb dX9_digest_69 (by decide) (fun hc1 => ?_) (fun hc1 => ?_)
  · have h := h.1 hc1
    refine lv_lload_n hx hb dX9_digest_91 rfl (lv_at hl 1 rfl) ?_
    exact hret (some (.long y1)) _ _ _ _ _ ⟨_, rfl, h⟩ hH ⟨dX9_digest_92, rfl⟩
  · have h := h.2 hc1
    refine lv_ldc2 hx hb C0.2.2.2.1 (C0.2.2.2.2.1 _ kC_X9_272) dX9_digest_72 ?_
    refine lv_lload_n hx hb dX9_digest_75 rfl (lv_at hl 1 rfl) ?_
    refine lv_lmul hx hb dX9_digest_76 ?_
    refine lv_aload_n hx hb dX9_digest_77 rfl (lv_at hl 0 rfl) ?_
    refine lv_iload_n hx hb dX9_digest_78 rfl (lv_at hl 2 rfl) ?_
    refine m_cV (M2 := M_X9_count) (As := [.int x3]) (rest := [.long (31 * y1)]) h C0 hH hl kc_X9_count ki_X9_count kx_X9_count ob_0 kM_X9_277 rfl (Nat.le_of_ble_eq_true rfl) (Nat.le_of_ble_eq_true rfl) ⟨Nat.le_of_ble_eq_true rfl, Nat.le_of_ble_eq_true rfl⟩ dX9_digest_79 rfl (fun r τ2 H locs hq hH => ?_)
    obtain ⟨r3, rfl, h⟩ := hq
    refine lv_i2l hx hb dX9_digest_82 rfl ?_
    refine lv_ladd hx hb dX9_digest_83 ?_
    refine lv_lstore_n (lv' := [(1, .long ((31 * y1) + r3.toInt64)), (0, .ref (Ad E 0)), (3, .int x3)]) hx hb dX9_digest_84 rfl hl (by decide) rfl (fun ls hl => ?_)
    refine lv_iinc (v := (x3 + 1)) (lv' := [(3, .int (x3 + 1)), (1, .long ((31 * y1) + r3.toInt64)), (0, .ref (Ad E 0))]) hx hb dX9_digest_85 hl (k := 2) rfl rfl (by decide) rfl (fun ls hl => ?_)
    refine lv_goto (tgt := 66) hx hb dX9_digest_88 (by decide) ?_
    exact h p e R s m args below meth c Z cells slots H locs ls C0 hH (lv_sub hl [2, 1, 0] rfl) hret

def r_X10_in_0 (E : EE) (y0 : Int64) (y2 : Int64) (y4 : Int64) (σ : Mm) (Q : Int32 → Mm → Prop) : Prop := Rn E M_X10_in 0 [(0, .long y0), (2, .long y2), (4, .long y4)] [] σ (qi Q)
set_option maxRecDepth 20000 in
set_option maxHeartbeats 4000000 in
theorem s_X10_in_0 (E : EE) (y0 : Int64) (y2 : Int64) (y4 : Int64) (σ : Mm) (Q : Int32 → Mm → Prop) (h : (((lg_cmp y0 y2) < 0 → Q 0 σ) ∧ (¬ (lg_cmp y0 y2) < 0 → ((0 < (lg_cmp y0 y4) → Q 0 σ) ∧ (¬ 0 < (lg_cmp y0 y4) → Q 1 σ))))) : r_X10_in_0 E y0 y2 y4 σ Q := by
  intro p e R s m args below meth c Z cells slots H locs ls C0 hH hl hret
  have hx := C0.1
  have hb : c.code = cX10_in := C0.2.1
  have hl : lv_has ls 6 [(0, .long y0), (2, .long y2), (4, .long y4)] := hl
  refine lv_lload_n hx hb dX10_in_0 rfl (lv_at hl 0 rfl) ?_
  refine lv_lload_n hx hb dX10_in_1 rfl (lv_at hl 1 rfl) ?_
  refine W.lcmp hx hb dX10_in_2 ?_
  refine lv_if_lt (tgt := 17) hx hb dX10_in_3 (by decide) (fun hc1 => ?_) (fun hc1 => ?_)
  · have h := h.1 hc1
    refine lv_iconst (v := 0) hx hb dX10_in_17 (by decide) ?_
    exact hret (some (.int 0)) _ _ _ _ _ ⟨_, rfl, h⟩ hH ⟨dX10_in_18, .boolean, rfl, nb (Or.inl rfl)⟩
  · have h := h.2 hc1
    refine lv_lload_n hx hb dX10_in_6 rfl (lv_at hl 0 rfl) ?_
    refine lv_lload hx hb dX10_in_7 (lv_at hl 2 rfl) ?_
    refine W.lcmp hx hb dX10_in_9 ?_
    refine lv_if_gt (tgt := 17) hx hb dX10_in_10 (by decide) (fun hc2 => ?_) (fun hc2 => ?_)
    · have h := h.1 hc2
      refine lv_iconst (v := 0) hx hb dX10_in_17 (by decide) ?_
      exact hret (some (.int 0)) _ _ _ _ _ ⟨_, rfl, h⟩ hH ⟨dX10_in_18, .boolean, rfl, nb (Or.inl rfl)⟩
    · have h := h.2 hc2
      refine lv_iconst (v := 1) hx hb dX10_in_13 (by decide) ?_
      refine lv_goto (tgt := 18) hx hb dX10_in_14 (by decide) ?_
      exact hret (some (.int 1)) _ _ _ _ _ ⟨_, rfl, h⟩ hH ⟨dX10_in_18, .boolean, rfl, nb (Or.inr rfl)⟩

def r_X10_letter_0 (E : EE) (x1 : Int32) (σ : Mm) (Q : Int32 → Mm → Prop) : Prop := Rn E M_X10_letter 0 [(0, .ref (Ad E 63)), (1, .int x1)] [] σ (qi Q)
set_option maxRecDepth 20000 in
set_option maxHeartbeats 4000000 in
theorem s_X10_letter_0 (E : EE) (x1 : Int32) (σ : Mm) (Q : Int32 → Mm → Prop) (h : r_X10_in_0 E x1.toInt64 1 126 σ (fun r2 τ1 => ((¬ r2 = 0 → ((¬ (τ1 63 1) = 54 → (vp_in (τ1 63 1) 54 ∧ Q ((τ1 63 1) + 1) (up (up τ1 64 ((τ1 63 1).toNatClampNeg) x1) 63 1 ((τ1 63 1) + 1)))) ∧ ((τ1 63 1) = 54 → Q (-104) τ1))) ∧ (r2 = 0 → Q (-102) τ1)))) : r_X10_letter_0 E x1 σ Q := by
  intro p e R s m args below meth c Z cells slots H locs ls C0 hH hl hret
  have hx := C0.1
  have hb : c.code = cX10_letter := C0.2.1
  have hl : lv_has ls 2 [(0, .ref (Ad E 63)), (1, .int x1)] := hl
  refine lv_iload_n hx hb dX10_letter_0 rfl (lv_at hl 1 rfl) ?_
  refine lv_i2l hx hb dX10_letter_1 rfl ?_
  refine lv_lconst (v := 1) hx hb dX10_letter_2 (by decide) ?_
  refine lv_ldc2 hx hb C0.2.2.2.1 (C0.2.2.2.2.1 _ kC_X10_59) dX10_letter_3 ?_
  refine m_cS (M2 := M_X10_in) (As := [.long x1.toInt64, .long 1, .long 126]) (rest := []) h C0 hH hl kc_X10_in ks_X10_in kM_X10_61 rfl (Nat.le_of_ble_eq_true rfl) (Nat.le_of_ble_eq_true rfl) ⟨Nat.le_of_ble_eq_true rfl, Nat.le_of_ble_eq_true rfl⟩ dX10_letter_6 rfl (fun r τ1 H locs hq hH => ?_)
  obtain ⟨r2, rfl, h⟩ := hq
  refine lv_if_ne (tgt := 15) hx hb dX10_letter_9 (by decide) (fun hc3 => ?_) (fun hc3 => ?_)
  · have h := h.1 hc3
    refine lv_aload_n hx hb dX10_letter_15 rfl (lv_at hl 0 rfl) ?_
    refine m_geti (x := τ1 63 1) C0 hH f_63_1 kF_X10_65 dX10_letter_16 rfl ?_
    refine lv_bipush (v := 54) hx hb dX10_letter_19 (by decide) ?_
    refine lv_icmp_ne (tgt := 27) hx hb dX10_letter_21 (by decide) (fun hc4 => ?_) (fun hc4 => ?_)
    · have h := h.1 hc4
      refine lv_aload_n hx hb dX10_letter_27 rfl (lv_at hl 0 rfl) ?_
      refine m_getr C0 hH f_63_0 64 rfl kF_X10_7 dX10_letter_28 ?_
      refine lv_aload_n hx hb dX10_letter_31 rfl (lv_at hl 0 rfl) ?_
      refine m_geti (x := τ1 63 1) C0 hH f_63_1 kF_X10_65 dX10_letter_32 rfl ?_
      refine lv_iload_n hx hb dX10_letter_35 rfl (lv_at hl 1 rfl) ?_
      refine m_iast (j := (τ1 63 1).toNatClampNeg) C0 hH a_64 h.1 rfl dX10_letter_36 (fun H locs hH => ?_)
      have h := h.2
      refine lv_aload_n hx hb dX10_letter_37 rfl (lv_at hl 0 rfl) ?_
      refine lv_dup hx hb dX10_letter_38 rfl ?_
      refine m_geti (x := τ1 63 1) C0 hH f_63_1 kF_X10_65 dX10_letter_39 rfl ?_
      refine lv_iconst (v := 1) hx hb dX10_letter_42 (by decide) ?_
      refine lv_iadd hx hb dX10_letter_43 ?_
      refine m_puti C0 hH f_63_1 kF_X10_65 rfl dX10_letter_44 rfl rfl (fun H locs hH => ?_)
      refine lv_aload_n hx hb dX10_letter_47 rfl (lv_at hl 0 rfl) ?_
      refine m_geti (x := ((τ1 63 1) + 1)) C0 hH f_63_1 kF_X10_65 dX10_letter_48 rfl ?_
      exact hret (some (.int ((τ1 63 1) + 1))) _ _ _ _ _ ⟨_, rfl, h⟩ hH ⟨dX10_letter_51, .int, rfl, rfl⟩
    · have h := h.2 hc4
      refine lv_bipush (v := (-104)) hx hb dX10_letter_24 (by decide) ?_
      exact hret (some (.int (-104))) _ _ _ _ _ ⟨_, rfl, h⟩ hH ⟨dX10_letter_26, .int, rfl, rfl⟩
  · have h := h.2 hc3
    refine lv_bipush (v := (-102)) hx hb dX10_letter_12 (by decide) ?_
    exact hret (some (.int (-102))) _ _ _ _ _ ⟨_, rfl, h⟩ hH ⟨dX10_letter_14, .int, rfl, rfl⟩

def r_X10_blank_0 (E : EE) (σ : Mm) (Q : Int32 → Mm → Prop) : Prop := Rn E M_X10_blank 0 [(0, .ref (Ad E 63))] [] σ (qi Q)
set_option maxRecDepth 20000 in
set_option maxHeartbeats 4000000 in
theorem s_X10_blank_0 (E : EE) (σ : Mm) (Q : Int32 → Mm → Prop) (h : Q (σ 63 1) (up σ 63 1 0)) : r_X10_blank_0 E σ Q := by
  intro p e R s m args below meth c Z cells slots H locs ls C0 hH hl hret
  have hx := C0.1
  have hb : c.code = cX10_blank := C0.2.1
  have hl : lv_has ls 2 [(0, .ref (Ad E 63))] := hl
  refine lv_aload_n hx hb dX10_blank_0 rfl (lv_at hl 0 rfl) ?_
  refine m_geti (x := σ 63 1) C0 hH f_63_1 kF_X10_65 dX10_blank_1 rfl ?_
  refine lv_istore_n (lv' := [(1, .int (σ 63 1)), (0, .ref (Ad E 63))]) hx hb dX10_blank_4 rfl hl (by decide) rfl (fun ls hl => ?_)
  refine lv_aload_n hx hb dX10_blank_5 rfl (lv_at hl 1 rfl) ?_
  refine lv_iconst (v := 0) hx hb dX10_blank_6 (by decide) ?_
  refine m_puti C0 hH f_63_1 kF_X10_65 rfl dX10_blank_7 rfl rfl (fun H locs hH => ?_)
  refine lv_iload_n hx hb dX10_blank_10 rfl (lv_at hl 0 rfl) ?_
  exact hret (some (.int (σ 63 1))) _ _ _ _ _ ⟨_, rfl, h⟩ hH ⟨dX10_blank_11, .int, rfl, rfl⟩

def r_X10_kindBy_0 (E : EE) (x0 : Int32) (σ : Mm) (Q : Int32 → Mm → Prop) : Prop := Rn E M_X10_kindBy 0 [(0, .int x0)] [] σ (qi Q)
set_option maxRecDepth 20000 in
set_option maxHeartbeats 4000000 in
theorem s_X10_kindBy_0 (E : EE) (x0 : Int32) (σ : Mm) (Q : Int32 → Mm → Prop) (h : ((x0 = 98 → Q 3 σ) ∧ (x0 = 103 → Q 1 σ) ∧ (x0 = 104 → Q 2 σ) ∧ (x0 = 112 → Q 0 σ) ∧ (x0 = 115 → Q 4 σ) ∧ (¬ x0 = 98 → ¬ x0 = 103 → ¬ x0 = 104 → ¬ x0 = 112 → ¬ x0 = 115 → Q (-1) σ))) : r_X10_kindBy_0 E x0 σ Q := by
  intro p e R s m args below meth c Z cells slots H locs ls C0 hH hl hret
  have hx := C0.1
  have hb : c.code = cX10_kindBy := C0.2.1
  have hl : lv_has ls 1 [(0, .int x0)] := hl
  refine lv_iload_n hx hb dX10_kindBy_0 rfl (lv_at hl 0 rfl) ?_
  by_cases hs1 : x0 = 98
  · have h := h.1 hs1
    refine lv_lookup (off := 57) (tgt := 58) hx hb dX10_kindBy_1 (by decide) (by rw [hs1]; decide) (by decide) ?_
    refine lv_iconst (v := 3) hx hb dX10_kindBy_58 (by decide) ?_
    exact hret (some (.int 3)) _ _ _ _ _ ⟨_, rfl, h⟩ hH ⟨dX10_kindBy_59, .int, rfl, rfl⟩
  have h := h.2
  by_cases hs2 : x0 = 103
  · have h := h.1 hs2
    refine lv_lookup (off := 53) (tgt := 54) hx hb dX10_kindBy_1 (by decide) (by rw [hs2]; decide) (by decide) ?_
    refine lv_iconst (v := 1) hx hb dX10_kindBy_54 (by decide) ?_
    exact hret (some (.int 1)) _ _ _ _ _ ⟨_, rfl, h⟩ hH ⟨dX10_kindBy_55, .int, rfl, rfl⟩
  have h := h.2
  by_cases hs3 : x0 = 104
  · have h := h.1 hs3
    refine lv_lookup (off := 55) (tgt := 56) hx hb dX10_kindBy_1 (by decide) (by rw [hs3]; decide) (by decide) ?_
    refine lv_iconst (v := 2) hx hb dX10_kindBy_56 (by decide) ?_
    exact hret (some (.int 2)) _ _ _ _ _ ⟨_, rfl, h⟩ hH ⟨dX10_kindBy_57, .int, rfl, rfl⟩
  have h := h.2
  by_cases hs4 : x0 = 112
  · have h := h.1 hs4
    refine lv_lookup (off := 51) (tgt := 52) hx hb dX10_kindBy_1 (by decide) (by rw [hs4]; decide) (by decide) ?_
    refine lv_iconst (v := 0) hx hb dX10_kindBy_52 (by decide) ?_
    exact hret (some (.int 0)) _ _ _ _ _ ⟨_, rfl, h⟩ hH ⟨dX10_kindBy_53, .int, rfl, rfl⟩
  have h := h.2
  by_cases hs5 : x0 = 115
  · have h := h.1 hs5
    refine lv_lookup (off := 59) (tgt := 60) hx hb dX10_kindBy_1 (by decide) (by rw [hs5]; decide) (by decide) ?_
    refine lv_iconst (v := 4) hx hb dX10_kindBy_60 (by decide) ?_
    exact hret (some (.int 4)) _ _ _ _ _ ⟨_, rfl, h⟩ hH ⟨dX10_kindBy_61, .int, rfl, rfl⟩
  have h := h.2
  have h := h hs1
  have h := h hs2
  have h := h hs3
  have h := h hs4
  have h := h hs5
  refine lv_lookup (off := 61) (tgt := 62) hx hb dX10_kindBy_1 (by decide) (by show Op.lookupswitch.offset [(98, 57), (103, 53), (104, 55), (112, 51), (115, 59)] _ _ = _; rw [lv_osw (k := 98) hs1 (by decide), lv_osw (k := 103) hs2 (by decide), lv_osw (k := 104) hs3 (by decide), lv_osw (k := 112) hs4 (by decide), lv_osw (k := 115) hs5 (by decide)]; rfl) (by decide) ?_
  refine lv_iconst (v := (-1)) hx hb dX10_kindBy_62 (by decide) ?_
  exact hret (some (.int (-1))) _ _ _ _ _ ⟨_, rfl, h⟩ hH ⟨dX10_kindBy_63, .int, rfl, rfl⟩
