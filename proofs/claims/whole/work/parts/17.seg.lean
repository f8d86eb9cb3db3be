def r_X10_ringBy_0 (E : EE) (x1 : Int32) (σ : Mm) (Q : Int32 → Mm → Prop) : Prop := Rn E M_X10_ringBy 0 [(0, .ref (Ad E 63)), (1, .int x1)] [] σ (qi Q)
def r_X10_ringBy_4 (E : EE) (x1 : Int32) (x2 : Int32) (x3 : Int32) (σ : Mm) (Q : Int32 → Mm → Prop) : Prop := Rn E M_X10_ringBy 4 [(0, .ref (Ad E 63)), (1, .int x1), (2, .int x2), (3, .int x3)] [] σ (qi Q)
set_option maxRecDepth 20000 in
set_option maxHeartbeats 4000000 in
theorem s_X10_ringBy_0 (E : EE) (x1 : Int32) (σ : Mm) (Q : Int32 → Mm → Prop) (h : r_X10_ringBy_4 E x1 (-1) 0 σ Q) : r_X10_ringBy_0 E x1 σ Q := by
  intro p e R s m args below meth c Z cells slots H locs ls C0 hH hl hret
  have hx := C0.1
  have hb : c.code = cX10_ringBy := C0.2.1
  have hl : lv_has ls 5 [(0, .ref (Ad E 63)), (1, .int x1)] := hl
  refine lv_iconst (v := (-1)) hx hb dX10_ringBy_0 (by decide) ?_
  refine lv_istore_n (lv' := [(2, .int (-1)), (0, .ref (Ad E 63)), (1, .int x1)]) hx hb dX10_ringBy_1 rfl hl (by decide) rfl (fun ls hl => ?_)
  refine lv_iconst (v := 0) hx hb dX10_ringBy_2 (by decide) ?_
  refine lv_istore_n (lv' := [(3, .int 0), (2, .int (-1)), (0, .ref (Ad E 63)), (1, .int x1)]) hx hb dX10_ringBy_3 rfl hl (by decide) rfl (fun ls hl => ?_)
  exact h p e R s m args below meth c Z cells slots H locs ls C0 hH (lv_sub hl [2, 3, 1, 0] rfl) hret
set_option maxRecDepth 20000 in
set_option maxHeartbeats 4000000 in
theorem s_X10_ringBy_4 (E : EE) (x1 : Int32) (x2 : Int32) (x3 : Int32) (σ : Mm) (Q : Int32 → Mm → Prop) (h : (((σ 63 3) ≤ x3 → Q x2 σ) ∧ (¬ (σ 63 3) ≤ x3 → r_X10_farBy_0 E x3 x3 x1 σ (fun r3 τ2 => ((r3 = (-1) → r_X10_ringBy_4 E x1 x2 (x3 + 1) τ2 Q) ∧ (¬ r3 = (-1) → ((x2 = (-1) → r_X10_ringBy_4 E x1 r3 (x3 + 1) τ2 Q) ∧ (¬ x2 = (-1) → ((x2 ≤ r3 → r_X10_ringBy_4 E x1 x2 (x3 + 1) τ2 Q) ∧ (¬ x2 ≤ r3 → r_X10_ringBy_4 E x1 r3 (x3 + 1) τ2 Q)))))))))) : r_X10_ringBy_4 E x1 x2 x3 σ Q := by
  intro p e R s m args below meth c Z cells slots H locs ls C0 hH hl hret
  have hx := C0.1
  have hb : c.code = cX10_ringBy := C0.2.1
  have hl : lv_has ls 5 [(0, .ref (Ad E 63)), (1, .int x1), (2, .int x2), (3, .int x3)] := hl
  refine lv_iload_n hx hb dX10_ringBy_4 rfl (lv_at hl 3 rfl) ?_
  refine lv_aload_n hx hb dX10_ringBy_5 rfl (lv_at hl 0 rfl) ?_
  refine m_geti (x := σ 63 3) C0 hH f_63_3 kF_X10_103 dX10_ringBy_6 rfl ?_
  refine lv_icmp_ge (tgt := 51) hx hb dX10_ringBy_9 (by decide) (fun hc1 => ?_) (fun hc1 => ?_)
  · have h := h.1 hc1
    refine lv_iload_n hx hb dX10_ringBy_51 rfl (lv_at hl 2 rfl) ?_
    exact hret (some (.int x2)) _ _ _ _ _ ⟨_, rfl, h⟩ hH ⟨dX10_ringBy_52, .int, rfl, rfl⟩
  · have h := h.2 hc1
    refine lv_aload_n hx hb dX10_ringBy_12 rfl (lv_at hl 0 rfl) ?_
    refine lv_iload_n hx hb dX10_ringBy_13 rfl (lv_at hl 3 rfl) ?_
    refine lv_iload_n hx hb dX10_ringBy_14 rfl (lv_at hl 3 rfl) ?_
    refine lv_iload_n hx hb dX10_ringBy_15 rfl (lv_at hl 1 rfl) ?_
    refine m_cV (M2 := M_X10_farBy) (As := [.int x3, .int x3, .int x1]) (rest := []) h C0 hH hl kc_X10_farBy ki_X10_farBy kx_X10_farBy ob_63 kM_X10_157 rfl (Nat.le_of_ble_eq_true rfl) (Nat.le_of_ble_eq_true rfl) ⟨Nat.le_of_ble_eq_true rfl, Nat.le_of_ble_eq_true rfl⟩ dX10_ringBy_16 rfl (fun r τ2 H locs hq hH => ?_)
    obtain ⟨r3, rfl, h⟩ := hq
    refine lv_istore (lv' := [(4, .int r3), (0, .ref (Ad E 63)), (1, .int x1), (2, .int x2), (3, .int x3)]) hx hb dX10_ringBy_19 hl (by decide) rfl (fun ls hl => ?_)
    refine lv_iload hx hb dX10_ringBy_21 (lv_at hl 0 rfl) ?_
    refine lv_iconst (v := (-1)) hx hb dX10_ringBy_23 (by decide) ?_
    refine lv_icmp_eq (tgt := 43) hx hb dX10_ringBy_24 (by decide) (fun hc4 => ?_) (fun hc4 => ?_)
    · have h := h.1 hc4
      refine lv_iload_n hx hb dX10_ringBy_43 rfl (lv_at hl 3 rfl) ?_
      refine lv_istore_n (lv' := [(2, .int x2), (4, .int r3), (0, .ref (Ad E 63)), (1, .int x1), (3, .int x3)]) hx hb dX10_ringBy_44 rfl hl (by decide) rfl (fun ls hl => ?_)
      refine lv_iinc (v := (x3 + 1)) (lv' := [(3, .int (x3 + 1)), (2, .int x2), (4, .int r3), (0, .ref (Ad E 63)), (1, .int x1)]) hx hb dX10_ringBy_45 hl (k := 4) rfl rfl (by decide) rfl (fun ls hl => ?_)
      refine lv_goto (tgt := 4) hx hb dX10_ringBy_48 (by decide) ?_
      exact h p e R s m args below meth c Z cells slots H locs ls C0 hH (lv_sub hl [3, 4, 1, 0] rfl) hret
    · have h := h.2 hc4
      refine lv_iload_n hx hb dX10_ringBy_27 rfl (lv_at hl 3 rfl) ?_
      refine lv_iconst (v := (-1)) hx hb dX10_ringBy_28 (by decide) ?_
      refine lv_icmp_eq (tgt := 38) hx hb dX10_ringBy_29 (by decide) (fun hc5 => ?_) (fun hc5 => ?_)
      · have h := h.1 hc5
        refine lv_iload hx hb dX10_ringBy_38 (lv_at hl 0 rfl) ?_
        refine lv_goto (tgt := 44) hx hb dX10_ringBy_40 (by decide) ?_
        refine lv_istore_n (lv' := [(2, .int r3), (4, .int r3), (0, .ref (Ad E 63)), (1, .int x1), (3, .int x3)]) hx hb dX10_ringBy_44 rfl hl (by decide) rfl (fun ls hl => ?_)
        refine lv_iinc (v := (x3 + 1)) (lv' := [(3, .int (x3 + 1)), (2, .int r3), (4, .int r3), (0, .ref (Ad E 63)), (1, .int x1)]) hx hb dX10_ringBy_45 hl (k := 4) rfl rfl (by decide) rfl (fun ls hl => ?_)
        refine lv_goto (tgt := 4) hx hb dX10_ringBy_48 (by decide) ?_
        exact h p e R s m args below meth c Z cells slots H locs ls C0 hH (lv_sub hl [3, 4, 1, 0] rfl) hret
      · have h := h.2 hc5
        refine lv_iload hx hb dX10_ringBy_32 (lv_at hl 0 rfl) ?_
        refine lv_iload_n hx hb dX10_ringBy_34 rfl (lv_at hl 3 rfl) ?_
        refine lv_icmp_ge (tgt := 43) hx hb dX10_ringBy_35 (by decide) (fun hc6 => ?_) (fun hc6 => ?_)
        · have h := h.1 hc6
          refine lv_iload_n hx hb dX10_ringBy_43 rfl (lv_at hl 3 rfl) ?_
          refine lv_istore_n (lv' := [(2, .int x2), (4, .int r3), (0, .ref (Ad E 63)), (1, .int x1), (3, .int x3)]) hx hb dX10_ringBy_44 rfl hl (by decide) rfl (fun ls hl => ?_)
          refine lv_iinc (v := (x3 + 1)) (lv' := [(3, .int (x3 + 1)), (2, .int x2), (4, .int r3), (0, .ref (Ad E 63)), (1, .int x1)]) hx hb dX10_ringBy_45 hl (k := 4) rfl rfl (by decide) rfl (fun ls hl => ?_)
          refine lv_goto (tgt := 4) hx hb dX10_ringBy_48 (by decide) ?_
          exact h p e R s m args below meth c Z cells slots H locs ls C0 hH (lv_sub hl [3, 4, 1, 0] rfl) hret
        · have h := h.2 hc6
          refine lv_iload hx hb dX10_ringBy_38 (lv_at hl 0 rfl) ?_
          refine lv_goto (tgt := 44) hx hb dX10_ringBy_40 (by decide) ?_
          refine lv_istore_n (lv' := [(2, .int r3), (4, .int r3), (0, .ref (Ad E 63)), (1, .int x1), (3, .int x3)]) hx hb dX10_ringBy_44 rfl hl (by decide) rfl (fun ls hl => ?_)
          refine lv_iinc (v := (x3 + 1)) (lv' := [(3, .int (x3 + 1)), (2, .int r3), (4, .int r3), (0, .ref (Ad E 63)), (1, .int x1)]) hx hb dX10_ringBy_45 hl (k := 4) rfl rfl (by decide) rfl (fun ls hl => ?_)
          refine lv_goto (tgt := 4) hx hb dX10_ringBy_48 (by decide) ?_
          exact h p e R s m args below meth c Z cells slots H locs ls C0 hH (lv_sub hl [3, 4, 1, 0] rfl) hret

def r_X10_ring_0 (E : EE) (σ : Mm) (Q : Int32 → Mm → Prop) : Prop := Rn E M_X10_ring 0 [(0, .ref (Ad E 63))] [] σ (qi Q)
set_option maxRecDepth 20000 in
set_option maxHeartbeats 4000000 in
theorem s_X10_ring_0 (E : EE) (σ : Mm) (Q : Int32 → Mm → Prop) (h : r_X10_lacks_0 E  σ (fun r2 τ1 => ((r2 = 0 → r_X10_ringBy_0 E (τ1 63 6) τ1 (fun r5 τ4 => Q r5 τ4)) ∧ (¬ r2 = 0 → Q (-103) τ1)))) : r_X10_ring_0 E σ Q := by
  intro p e R s m args below meth c Z cells slots H locs ls C0 hH hl hret
  have hx := C0.1
  have hb : c.code = cX10_ring := C0.2.1
  have hl : lv_has ls 1 [(0, .ref (Ad E 63))] := hl
  refine lv_aload_n hx hb dX10_ring_0 rfl (lv_at hl 0 rfl) ?_
  refine m_cV (M2 := M_X10_lacks) (As := []) (rest := []) h C0 hH hl kc_X10_lacks ki_X10_lacks kx_X10_lacks ob_63 kM_X10_161 rfl (Nat.le_of_ble_eq_true rfl) (Nat.le_of_ble_eq_true rfl) ⟨Nat.le_of_ble_eq_true rfl, Nat.le_of_ble_eq_true rfl⟩ dX10_ring_1 rfl (fun r τ1 H locs hq hH => ?_)
  obtain ⟨r2, rfl, h⟩ := hq
  refine lv_if_eq (tgt := 12) hx hb dX10_ring_4 (by decide) (fun hc3 => ?_) (fun hc3 => ?_)
  · have h := h.1 hc3
    refine lv_aload_n hx hb dX10_ring_12 rfl (lv_at hl 0 rfl) ?_
    refine lv_aload_n hx hb dX10_ring_13 rfl (lv_at hl 0 rfl) ?_
    refine m_geti (x := τ1 63 6) C0 hH f_63_6 kF_X10_109 dX10_ring_14 rfl ?_
    refine m_cV (M2 := M_X10_ringBy) (As := [.int (τ1 63 6)]) (rest := []) h C0 hH hl kc_X10_ringBy ki_X10_ringBy kx_X10_ringBy ob_63 kM_X10_199 rfl (Nat.le_of_ble_eq_true rfl) (Nat.le_of_ble_eq_true rfl) ⟨Nat.le_of_ble_eq_true rfl, Nat.le_of_ble_eq_true rfl⟩ dX10_ring_17 rfl (fun r τ4 H locs hq hH => ?_)
    obtain ⟨r5, rfl, h⟩ := hq
    exact hret (some (.int r5)) _ _ _ _ _ ⟨_, rfl, h⟩ hH ⟨dX10_ring_20, .int, rfl, rfl⟩
  · have h := h.2 hc3
    refine lv_bipush (v := (-103)) hx hb dX10_ring_7 (by decide) ?_
    refine lv_goto (tgt := 20) hx hb dX10_ring_9 (by decide) ?_
    exact hret (some (.int (-103))) _ _ _ _ _ ⟨_, rfl, h⟩ hH ⟨dX10_ring_20, .int, rfl, rfl⟩

def r_X10_peaceOf_0 (E : EE) (x1 : Int32) (σ : Mm) (Q : Int32 → Mm → Prop) : Prop := Rn E M_X10_peaceOf 0 [(0, .ref (Ad E 63)), (1, .int x1)] [] σ (qi Q)
def r_X10_peaceOf_4 (E : EE) (x1 : Int32) (x2 : Int32) (x3 : Int32) (σ : Mm) (Q : Int32 → Mm → Prop) : Prop := Rn E M_X10_peaceOf 4 [(0, .ref (Ad E 63)), (1, .int x1), (2, .int x2), (3, .int x3)] [] σ (qi Q)
set_option maxRecDepth 20000 in
set_option maxHeartbeats 4000000 in
theorem s_X10_peaceOf_0 (E : EE) (x1 : Int32) (σ : Mm) (Q : Int32 → Mm → Prop) (h : r_X10_peaceOf_4 E x1 (-1) 0 σ Q) : r_X10_peaceOf_0 E x1 σ Q := by
  intro p e R s m args below meth c Z cells slots H locs ls C0 hH hl hret
  have hx := C0.1
  have hb : c.code = cX10_peaceOf := C0.2.1
  have hl : lv_has ls 5 [(0, .ref (Ad E 63)), (1, .int x1)] := hl
  refine lv_iconst (v := (-1)) hx hb dX10_peaceOf_0 (by decide) ?_
  refine lv_istore_n (lv' := [(2, .int (-1)), (0, .ref (Ad E 63)), (1, .int x1)]) hx hb dX10_peaceOf_1 rfl hl (by decide) rfl (fun ls hl => ?_)
  refine lv_iconst (v := 0) hx hb dX10_peaceOf_2 (by decide) ?_
  refine lv_istore_n (lv' := [(3, .int 0), (2, .int (-1)), (0, .ref (Ad E 63)), (1, .int x1)]) hx hb dX10_peaceOf_3 rfl hl (by decide) rfl (fun ls hl => ?_)
  exact h p e R s m args below meth c Z cells slots H locs ls C0 hH (lv_sub hl [2, 3, 1, 0] rfl) hret
set_option maxRecDepth 20000 in
set_option maxHeartbeats 4000000 in
theorem s_X10_peaceOf_4 (E : EE) (x1 : Int32) (x2 : Int32) (x3 : Int32) (σ : Mm) (Q : Int32 → Mm → Prop) (h : (((1 <<< ((σ 63 4) &&& 31)) ≤ x3 → ((¬ x1 = 0 → Q x2 σ) ∧ (x1 = 0 → r_X10_ones_0 E x2 σ (fun r4 τ3 => Q r4 τ3)))) ∧ (¬ (1 <<< ((σ 63 4) &&& 31)) ≤ x3 → ((¬ (x3 &&& (σ 63 6)) = 0 → r_X10_peaceOf_4 E x1 x2 (x3 + 1) σ Q) ∧ ((x3 &&& (σ 63 6)) = 0 → ((x2 = (-1) → r_X10_ringBy_0 E ((σ 63 6) ||| x3) σ (fun r8 τ7 => ((¬ r8 = (-1) → r_X10_peaceOf_4 E x1 x2 (x3 + 1) τ7 Q) ∧ (r8 = (-1) → r_X10_peaceOf_4 E x1 x3 (x3 + 1) τ7 Q)))) ∧ (¬ x2 = (-1) → r_X10_ones_0 E x3 σ (fun r11 τ10 => r_X10_ones_0 E x2 τ10 (fun r13 τ12 => ((r13 ≤ r11 → r_X10_peaceOf_4 E x1 x2 (x3 + 1) τ12 Q) ∧ (¬ r13 ≤ r11 → r_X10_ringBy_0 E ((τ12 63 6) ||| x3) τ12 (fun r16 τ15 => ((¬ r16 = (-1) → r_X10_peaceOf_4 E x1 x2 (x3 + 1) τ15 Q) ∧ (r16 = (-1) → r_X10_peaceOf_4 E x1 x3 (x3 + 1) τ15 Q)))))))))))))) : r_X10_peaceOf_4 E x1 x2 x3 σ Q := by
  intro p e R s m args below meth c Z cells slots H locs ls C0 hH hl hret
  have hx := C0.1
  have hb : c.code = cX10_peaceOf := C0.2.1
  have hl : lv_has ls 5 [(0, .ref (Ad E 63)), (1, .int x1), (2, .int x2), (3, .int x3)] := hl
  refine lv_iload_n hx hb dX10_peaceOf_4 rfl (lv_at hl 3 rfl) ?_
  refine lv_iconst (v := 1) hx hb dX10_peaceOf_5 (by decide) ?_
  refine lv_aload_n hx hb dX10_peaceOf_6 rfl (lv_at hl 0 rfl) ?_
  refine m_geti (x := σ 63 4) C0 hH f_63_4 kF_X10_106 dX10_peaceOf_7 rfl ?_
  refine lv_ishl hx hb dX10_peaceOf_10 ?_
  refine lv_icmp_ge (tgt := 77) hx hb dX10_peaceOf_11 (by decide) (fun hc1 => ?_) (fun hc1 => ?_)
  · have h := h.1 hc1
    refine lv_iload_n hx hb dX10_peaceOf_77 rfl (lv_at hl 1 rfl) ?_
    refine lv_if_ne (tgt := 88) hx hb dX10_peaceOf_78 (by decide) (fun hc2 => ?_) (fun hc2 => ?_)
    · have h := h.1 hc2
      refine lv_iload_n hx hb dX10_peaceOf_88 rfl (lv_at hl 2 rfl) ?_
      exact hret (some (.int x2)) _ _ _ _ _ ⟨_, rfl, h⟩ hH ⟨dX10_peaceOf_89, .int, rfl, rfl⟩
    · have h := h.2 hc2
      refine lv_iload_n hx hb dX10_peaceOf_81 rfl (lv_at hl 2 rfl) ?_
      refine m_cS (M2 := M_X10_ones) (As := [.int x2]) (rest := []) h C0 hH hl kc_X10_ones ks_X10_ones kM_X10_172 rfl (Nat.le_of_ble_eq_true rfl) (Nat.le_of_ble_eq_true rfl) ⟨Nat.le_of_ble_eq_true rfl, Nat.le_of_ble_eq_true rfl⟩ dX10_peaceOf_82 rfl (fun r τ3 H locs hq hH => ?_)
      obtain ⟨r4, rfl, h⟩ := hq
      refine lv_goto (tgt := 89) hx hb dX10_peaceOf_85 (by decide) ?_
      exact hret (some (.int r4)) _ _ _ _ _ ⟨_, rfl, h⟩ hH ⟨dX10_peaceOf_89, .int, rfl, rfl⟩
  · have h := h.2 hc1
    refine lv_iload_n hx hb dX10_peaceOf_14 rfl (lv_at hl 3 rfl) ?_
    refine lv_aload_n hx hb dX10_peaceOf_15 rfl (lv_at hl 0 rfl) ?_
    refine m_geti (x := σ 63 6) C0 hH f_63_6 kF_X10_109 dX10_peaceOf_16 rfl ?_
    refine lv_iand hx hb dX10_peaceOf_19 ?_
    refine lv_if_ne (tgt := 43) hx hb dX10_peaceOf_20 (by decide) (fun hc5 => ?_) (fun hc5 => ?_)
    · have h := h.1 hc5
      refine lv_iconst (v := 0) hx hb dX10_peaceOf_43 (by decide) ?_
      refine lv_istore (lv' := [(4, .int 0), (0, .ref (Ad E 63)), (1, .int x1), (2, .int x2), (3, .int x3)]) hx hb dX10_peaceOf_44 hl (by decide) rfl (fun ls hl => ?_)
      refine lv_iload hx hb dX10_peaceOf_46 (lv_at hl 0 rfl) ?_
      refine lv_if_eq (tgt := 69) hx hb dX10_peaceOf_48 (by decide) (fun _ => ?_) (fun hc => absurd hc (by decide))
      refine lv_iload_n hx hb dX10_peaceOf_69 rfl (lv_at hl 3 rfl) ?_
      refine lv_istore_n (lv' := [(2, .int x2), (4, .int 0), (0, .ref (Ad E 63)), (1, .int x1), (3, .int x3)]) hx hb dX10_peaceOf_70 rfl hl (by decide) rfl (fun ls hl => ?_)
      refine lv_iinc (v := (x3 + 1)) (lv' := [(3, .int (x3 + 1)), (2, .int x2), (4, .int 0), (0, .ref (Ad E 63)), (1, .int x1)]) hx hb dX10_peaceOf_71 hl (k := 4) rfl rfl (by decide) rfl (fun ls hl => ?_)
      refine lv_goto (tgt := 4) hx hb dX10_peaceOf_74 (by decide) ?_
      exact h p e R s m args below meth c Z cells slots H locs ls C0 hH (lv_sub hl [3, 4, 1, 0] rfl) hret
    · have h := h.2 hc5
      refine lv_iload_n hx hb dX10_peaceOf_23 rfl (lv_at hl 2 rfl) ?_
      refine lv_iconst (v := (-1)) hx hb dX10_peaceOf_24 (by decide) ?_
      refine lv_icmp_eq (tgt := 39) hx hb dX10_peaceOf_25 (by decide) (fun hc6 => ?_) (fun hc6 => ?_)
      · have h := h.1 hc6
        refine lv_iconst (v := 1) hx hb dX10_peaceOf_39 (by decide) ?_
        refine lv_goto (tgt := 44) hx hb dX10_peaceOf_40 (by decide) ?_
        refine lv_istore (lv' := [(4, .int 1), (0, .ref (Ad E 63)), (1, .int x1), (2, .int x2), (3, .int x3)]) hx hb dX10_peaceOf_44 hl (by decide) rfl (fun ls hl => ?_)
        refine lv_iload hx hb dX10_peaceOf_46 (lv_at hl 0 rfl) ?_
        refine lv_if_eq (tgt := 69) hx hb dX10_peaceOf_48 (by decide) (fun hc => absurd hc (by decide)) (fun _ => ?_)
        refine lv_aload_n hx hb dX10_peaceOf_51 rfl (lv_at hl 1 rfl) ?_
        refine lv_aload_n hx hb dX10_peaceOf_52 rfl (lv_at hl 1 rfl) ?_
        refine m_geti (x := σ 63 6) C0 hH f_63_6 kF_X10_109 dX10_peaceOf_53 rfl ?_
        refine lv_iload_n hx hb dX10_peaceOf_56 rfl (lv_at hl 4 rfl) ?_
        refine lv_ior hx hb dX10_peaceOf_57 ?_
        refine m_cV (M2 := M_X10_ringBy) (As := [.int ((σ 63 6) ||| x3)]) (rest := []) h C0 hH hl kc_X10_ringBy ki_X10_ringBy kx_X10_ringBy ob_63 kM_X10_199 rfl (Nat.le_of_ble_eq_true rfl) (Nat.le_of_ble_eq_true rfl) ⟨Nat.le_of_ble_eq_true rfl, Nat.le_of_ble_eq_true rfl⟩ dX10_peaceOf_58 rfl (fun r τ7 H locs hq hH => ?_)
        obtain ⟨r8, rfl, h⟩ := hq
        refine lv_iconst (v := (-1)) hx hb dX10_peaceOf_61 (by decide) ?_
        refine lv_icmp_ne (tgt := 69) hx hb dX10_peaceOf_62 (by decide) (fun hc9 => ?_) (fun hc9 => ?_)
        · have h := h.1 hc9
          refine lv_iload_n hx hb dX10_peaceOf_69 rfl (lv_at hl 3 rfl) ?_
          refine lv_istore_n (lv' := [(2, .int x2), (4, .int 1), (0, .ref (Ad E 63)), (1, .int x1), (3, .int x3)]) hx hb dX10_peaceOf_70 rfl hl (by decide) rfl (fun ls hl => ?_)
          refine lv_iinc (v := (x3 + 1)) (lv' := [(3, .int (x3 + 1)), (2, .int x2), (4, .int 1), (0, .ref (Ad E 63)), (1, .int x1)]) hx hb dX10_peaceOf_71 hl (k := 4) rfl rfl (by decide) rfl (fun ls hl => ?_)
          refine lv_goto (tgt := 4) hx hb dX10_peaceOf_74 (by decide) ?_
          exact h p e R s m args below meth c Z cells slots H locs ls C0 hH (lv_sub hl [3, 4, 1, 0] rfl) hret
        · have h := h.2 hc9
          refine lv_iload_n hx hb dX10_peaceOf_65 rfl (lv_at hl 4 rfl) ?_
          refine lv_goto (tgt := 70) hx hb dX10_peaceOf_66 (by decide) ?_
          refine lv_istore_n (lv' := [(2, .int x3), (4, .int 1), (0, .ref (Ad E 63)), (1, .int x1), (3, .int x3)]) hx hb dX10_peaceOf_70 rfl hl (by decide) rfl (fun ls hl => ?_)
          refine lv_iinc (v := (x3 + 1)) (lv' := [(3, .int (x3 + 1)), (2, .int x3), (4, .int 1), (0, .ref (Ad E 63)), (1, .int x1)]) hx hb dX10_peaceOf_71 hl (k := 4) rfl rfl (by decide) rfl (fun ls hl => ?_)
          refine lv_goto (tgt := 4) hx hb dX10_peaceOf_74 (by decide) ?_
          exact h p e R s m args below meth c Z cells slots H locs ls C0 hH (lv_sub hl [3, 4, 1, 0] rfl) hret
      · have h := h.2 hc6
        refine lv_iload_n hx hb dX10_peaceOf_28 rfl (lv_at hl 3 rfl) ?_
        refine m_cS (M2 := M_X10_ones) (As := [.int x3]) (rest := []) h C0 hH hl kc_X10_ones ks_X10_ones kM_X10_172 rfl (Nat.le_of_ble_eq_true rfl) (Nat.le_of_ble_eq_true rfl) ⟨Nat.le_of_ble_eq_true rfl, Nat.le_of_ble_eq_true rfl⟩ dX10_peaceOf_29 rfl (fun r τ10 H locs hq hH => ?_)
        obtain ⟨r11, rfl, h⟩ := hq
        refine lv_iload_n hx hb dX10_peaceOf_32 rfl (lv_at hl 2 rfl) ?_
        refine m_cS (M2 := M_X10_ones) (As := [.int x2]) (rest := [.int r11]) h C0 hH hl kc_X10_ones ks_X10_ones kM_X10_172 rfl (Nat.le_of_ble_eq_true rfl) (Nat.le_of_ble_eq_true rfl) ⟨Nat.le_of_ble_eq_true rfl, Nat.le_of_ble_eq_true rfl⟩ dX10_peaceOf_33 rfl (fun r τ12 H locs hq hH => ?_)
        obtain ⟨r13, rfl, h⟩ := hq
        refine lv_icmp_ge (tgt := 43) hx hb dX10_peaceOf_36 (by decide) (fun hc14 => ?_) (fun hc14 => ?_)
        · have h := h.1 hc14
          refine lv_iconst (v := 0) hx hb dX10_peaceOf_43 (by decide) ?_
          refine lv_istore (lv' := [(4, .int 0), (0, .ref (Ad E 63)), (1, .int x1), (2, .int x2), (3, .int x3)]) hx hb dX10_peaceOf_44 hl (by decide) rfl (fun ls hl => ?_)
          refine lv_iload hx hb dX10_peaceOf_46 (lv_at hl 0 rfl) ?_
          refine lv_if_eq (tgt := 69) hx hb dX10_peaceOf_48 (by decide) (fun _ => ?_) (fun hc => absurd hc (by decide))
          refine lv_iload_n hx hb dX10_peaceOf_69 rfl (lv_at hl 3 rfl) ?_
          refine lv_istore_n (lv' := [(2, .int x2), (4, .int 0), (0, .ref (Ad E 63)), (1, .int x1), (3, .int x3)]) hx hb dX10_peaceOf_70 rfl hl (by decide) rfl (fun ls hl => ?_)
          refine lv_iinc (v := (x3 + 1)) (lv' := [(3, .int (x3 + 1)), (2, .int x2), (4, .int 0), (0, .ref (Ad E 63)), (1, .int x1)]) hx hb dX10_peaceOf_71 hl (k := 4) rfl rfl (by decide) rfl (fun ls hl => ?_)
          refine lv_goto (tgt := 4) hx hb dX10_peaceOf_74 (by decide) ?_
          exact h p e R s m args below meth c Z cells slots H locs ls C0 hH (lv_sub hl [3, 4, 1, 0] rfl) hret
        · have h := h.2 hc14
          refine lv_iconst (v := 1) hx hb dX10_peaceOf_39 (by decide) ?_
          refine lv_goto (tgt := 44) hx hb dX10_peaceOf_40 (by decide) ?_
          refine lv_istore (lv' := [(4, .int 1), (0, .ref (Ad E 63)), (1, .int x1), (2, .int x2), (3, .int x3)]) hx hb dX10_peaceOf_44 hl (by decide) rfl (fun ls hl => ?_)
          refine lv_iload hx hb dX10_peaceOf_46 (lv_at hl 0 rfl) ?_
          refine lv_if_eq (tgt := 69) hx hb dX10_peaceOf_48 (by decide) (fun hc => absurd hc (by decide)) (fun _ => ?_)
          refine lv_aload_n hx hb dX10_peaceOf_51 rfl (lv_at hl 1 rfl) ?_
          refine lv_aload_n hx hb dX10_peaceOf_52 rfl (lv_at hl 1 rfl) ?_
          refine m_geti (x := τ12 63 6) C0 hH f_63_6 kF_X10_109 dX10_peaceOf_53 rfl ?_
          refine lv_iload_n hx hb dX10_peaceOf_56 rfl (lv_at hl 4 rfl) ?_
          refine lv_ior hx hb dX10_peaceOf_57 ?_
          refine m_cV (M2 := M_X10_ringBy) (As := [.int ((τ12 63 6) ||| x3)]) (rest := []) h C0 hH hl kc_X10_ringBy ki_X10_ringBy kx_X10_ringBy ob_63 kM_X10_199 rfl (Nat.le_of_ble_eq_true rfl) (Nat.le_of_ble_eq_true rfl) ⟨Nat.le_of_ble_eq_true rfl, Nat.le_of_ble_eq_true rfl⟩ dX10_peaceOf_58 rfl (fun r τ15 H locs hq hH => ?_)
          obtain ⟨r16, rfl, h⟩ := hq
          refine lv_iconst (v := (-1)) hx hb dX10_peaceOf_61 (by decide) ?_
          refine lv_icmp_ne (tgt := 69) hx hb dX10_peaceOf_62 (by decide) (fun hc17 => ?_) (fun hc17 => ?_)
          · have h := h.1 hc17
            refine lv_iload_n hx hb dX10_peaceOf_69 rfl (lv_at hl 3 rfl) ?_
            refine lv_istore_n (lv' := [(2, .int x2), (4, .int 1), (0, .ref (Ad E 63)), (1, .int x1), (3, .int x3)]) hx hb dX10_peaceOf_70 rfl hl (by decide) rfl (fun ls hl => ?_)
            refine lv_iinc (v := (x3 + 1)) (lv' := [(3, .int (x3 + 1)), (2, .int x2), (4, .int 1), (0, .ref (Ad E 63)), (1, .int x1)]) hx hb dX10_peaceOf_71 hl (k := 4) rfl rfl (by decide) rfl (fun ls hl => ?_)
            refine lv_goto (tgt := 4) hx hb dX10_peaceOf_74 (by decide) ?_
            exact h p e R s m args below meth c Z cells slots H locs ls C0 hH (lv_sub hl [3, 4, 1, 0] rfl) hret
          · have h := h.2 hc17
            refine lv_iload_n hx hb dX10_peaceOf_65 rfl (lv_at hl 4 rfl) ?_
            refine lv_goto (tgt := 70) hx hb dX10_peaceOf_66 (by decide) ?_
            refine lv_istore_n (lv' := [(2, .int x3), (4, .int 1), (0, .ref (Ad E 63)), (1, .int x1), (3, .int x3)]) hx hb dX10_peaceOf_70 rfl hl (by decide) rfl (fun ls hl => ?_)
            refine lv_iinc (v := (x3 + 1)) (lv' := [(3, .int (x3 + 1)), (2, .int x3), (4, .int 1), (0, .ref (Ad E 63)), (1, .int x1)]) hx hb dX10_peaceOf_71 hl (k := 4) rfl rfl (by decide) rfl (fun ls hl => ?_)
            refine lv_goto (tgt := 4) hx hb dX10_peaceOf_74 (by decide) ?_
            exact h p e R s m args below meth c Z cells slots H locs ls C0 hH (lv_sub hl [3, 4, 1, 0] rfl) hret

def r_X10_peace_0 (E : EE) (x1 : Int32) (σ : Mm) (Q : Int32 → Mm → Prop) : Prop := Rn E M_X10_peace 0 [(0, .ref (Ad E 63)), (1, .int x1)] [] σ (qi Q)
set_option maxRecDepth 20000 in
set_option maxHeartbeats 4000000 in
theorem s_X10_peace_0 (E : EE) (x1 : Int32) (σ : Mm) (Q : Int32 → Mm → Prop) (h : r_X10_in_0 E x1.toInt64 0 1 σ (fun r2 τ1 => ((¬ r2 = 0 → r_X10_lacks_0 E  τ1 (fun r5 τ4 => ((r5 = 0 → r_X10_peaceOf_0 E x1 τ4 (fun r8 τ7 => Q r8 τ7)) ∧ (¬ r5 = 0 → Q (-103) τ4)))) ∧ (r2 = 0 → Q (-102) τ1)))) : r_X10_peace_0 E x1 σ Q := by
  intro p e R s m args below meth c Z cells slots H locs ls C0 hH hl hret
  have hx := C0.1
  have hb : c.code = cX10_peace := C0.2.1
  have hl : lv_has ls 2 [(0, .ref (Ad E 63)), (1, .int x1)] := hl
  refine lv_iload_n hx hb dX10_peace_0 rfl (lv_at hl 1 rfl) ?_
  refine lv_i2l hx hb dX10_peace_1 rfl ?_
  refine lv_lconst (v := 0) hx hb dX10_peace_2 (by decide) ?_
  refine lv_lconst (v := 1) hx hb dX10_peace_3 (by decide) ?_
  refine m_cS (M2 := M_X10_in) (As := [.long x1.toInt64, .long 0, .long 1]) (rest := []) h C0 hH hl kc_X10_in ks_X10_in kM_X10_61 rfl (Nat.le_of_ble_eq_true rfl) (Nat.le_of_ble_eq_true rfl) ⟨Nat.le_of_ble_eq_true rfl, Nat.le_of_ble_eq_true rfl⟩ dX10_peace_4 rfl (fun r τ1 H locs hq hH => ?_)
  obtain ⟨r2, rfl, h⟩ := hq
  refine lv_if_ne (tgt := 13) hx hb dX10_peace_7 (by decide) (fun hc3 => ?_) (fun hc3 => ?_)
  · have h := h.1 hc3
    refine lv_aload_n hx hb dX10_peace_13 rfl (lv_at hl 0 rfl) ?_
    refine m_cV (M2 := M_X10_lacks) (As := []) (rest := []) h C0 hH hl kc_X10_lacks ki_X10_lacks kx_X10_lacks ob_63 kM_X10_161 rfl (Nat.le_of_ble_eq_true rfl) (Nat.le_of_ble_eq_true rfl) ⟨Nat.le_of_ble_eq_true rfl, Nat.le_of_ble_eq_true rfl⟩ dX10_peace_14 rfl (fun r τ4 H locs hq hH => ?_)
    obtain ⟨r5, rfl, h⟩ := hq
    refine lv_if_eq (tgt := 25) hx hb dX10_peace_17 (by decide) (fun hc6 => ?_) (fun hc6 => ?_)
    · have h := h.1 hc6
      refine lv_aload_n hx hb dX10_peace_25 rfl (lv_at hl 0 rfl) ?_
      refine lv_iload_n hx hb dX10_peace_26 rfl (lv_at hl 1 rfl) ?_
      refine m_cV (M2 := M_X10_peaceOf) (As := [.int x1]) (rest := []) h C0 hH hl kc_X10_peaceOf ki_X10_peaceOf kx_X10_peaceOf ob_63 kM_X10_202 rfl (Nat.le_of_ble_eq_true rfl) (Nat.le_of_ble_eq_true rfl) ⟨Nat.le_of_ble_eq_true rfl, Nat.le_of_ble_eq_true rfl⟩ dX10_peace_27 rfl (fun r τ7 H locs hq hH => ?_)
      obtain ⟨r8, rfl, h⟩ := hq
      exact hret (some (.int r8)) _ _ _ _ _ ⟨_, rfl, h⟩ hH ⟨dX10_peace_30, .int, rfl, rfl⟩
    · have h := h.2 hc6
      refine lv_bipush (v := (-103)) hx hb dX10_peace_20 (by decide) ?_
      refine lv_goto (tgt := 30) hx hb dX10_peace_22 (by decide) ?_
      exact hret (some (.int (-103))) _ _ _ _ _ ⟨_, rfl, h⟩ hH ⟨dX10_peace_30, .int, rfl, rfl⟩
  · have h := h.2 hc3
    refine lv_bipush (v := (-102)) hx hb dX10_peace_10 (by decide) ?_
    exact hret (some (.int (-102))) _ _ _ _ _ ⟨_, rfl, h⟩ hH ⟨dX10_peace_12, .int, rfl, rfl⟩

def r_X10_oddsOf_0 (E : EE) (x1 : Int32) (x2 : Int32) (x3 : Int32) (σ : Mm) (Q : Int32 → Mm → Prop) : Prop := Rn E M_X10_oddsOf 0 [(0, .ref (Ad E 63)), (1, .int x1), (2, .int x2), (3, .int x3)] [] σ (qi Q)
def r_X10_oddsOf_9 (E : EE) (x1 : Int32) (x2 : Int32) (x3 : Int32) (x4 : Int32) (x5 : Int32) (x6 : Int32) (σ : Mm) (Q : Int32 → Mm → Prop) : Prop := Rn E M_X10_oddsOf 9 [(0, .ref (Ad E 63)), (1, .int x1), (2, .int x2), (3, .int x3), (4, .int x4), (5, .int x5), (6, .int x6)] [] σ (qi Q)
def r_X10_oddsOf_40 (E : EE) (x1 : Int32) (x2 : Int32) (x3 : Int32) (x4 : Int32) (x5 : Int32) (x6 : Int32) (x7 : Int32) (x8 : Int32) (σ : Mm) (Q : Int32 → Mm → Prop) : Prop := Rn E M_X10_oddsOf 40 [(0, .ref (Ad E 63)), (1, .int x1), (2, .int x2), (3, .int x3), (4, .int x4), (5, .int x5), (6, .int x6), (7, .int x7), (8, .int x8)] [] σ (qi Q)
def r_X10_oddsOf_146 (E : EE) (x1 : Int32) (x2 : Int32) (x3 : Int32) (x4 : Int32) (x5 : Int32) (x6 : Int32) (x7 : Int32) (σ : Mm) (Q : Int32 → Mm → Prop) : Prop := Rn E M_X10_oddsOf 146 [(0, .ref (Ad E 63)), (1, .int x1), (2, .int x2), (3, .int x3), (4, .int x4), (5, .int x5), (6, .int x6), (7, .int x7)] [] σ (qi Q)
set_option maxRecDepth 20000 in
set_option maxHeartbeats 4000000 in
theorem s_X10_oddsOf_0 (E : EE) (x1 : Int32) (x2 : Int32) (x3 : Int32) (σ : Mm) (Q : Int32 → Mm → Prop) (h : r_X10_oddsOf_9 E x1 x2 x3 0 0 0 σ Q) : r_X10_oddsOf_0 E x1 x2 x3 σ Q := by
  intro p e R s m args below meth c Z cells slots H locs ls C0 hH hl hret
  have hx := C0.1
  have hb : c.code = cX10_oddsOf := C0.2.1
  have hl : lv_has ls 9 [(0, .ref (Ad E 63)), (1, .int x1), (2, .int x2), (3, .int x3)] := hl
  refine lv_iconst (v := 0) hx hb dX10_oddsOf_0 (by decide) ?_
  refine lv_istore (lv' := [(4, .int 0), (0, .ref (Ad E 63)), (1, .int x1), (2, .int x2), (3, .int x3)]) hx hb dX10_oddsOf_1 hl (by decide) rfl (fun ls hl => ?_)
  refine lv_iconst (v := 0) hx hb dX10_oddsOf_3 (by decide) ?_
  refine lv_istore (lv' := [(5, .int 0), (4, .int 0), (0, .ref (Ad E 63)), (1, .int x1), (2, .int x2), (3, .int x3)]) hx hb dX10_oddsOf_4 hl (by decide) rfl (fun ls hl => ?_)
  refine lv_iconst (v := 0) hx hb dX10_oddsOf_6 (by decide) ?_
  refine lv_istore (lv' := [(6, .int 0), (5, .int 0), (4, .int 0), (0, .ref (Ad E 63)), (1, .int x1), (2, .int x2), (3, .int x3)]) hx hb dX10_oddsOf_7 hl (by decide) rfl (fun ls hl => ?_)
  exact h p e R s m args below meth c Z cells slots H locs ls C0 hH (lv_sub hl [3, 4, 5, 6, 2, 1, 0] rfl) hret
set_option maxRecDepth 20000 in
set_option maxHeartbeats 4000000 in
theorem s_X10_oddsOf_9 (E : EE) (x1 : Int32) (x2 : Int32) (x3 : Int32) (x4 : Int32) (x5 : Int32) (x6 : Int32) (σ : Mm) (Q : Int32 → Mm → Prop) (h : (((1 <<< ((σ 63 4) &&& 31)) ≤ x6 → r_X10_oddsOf_146 E x1 x2 x3 x4 x5 x5 x4 σ Q) ∧ (¬ (1 <<< ((σ 63 4) &&& 31)) ≤ x6 → ((¬ (x6 &&& (σ 63 6)) = 0 → r_X10_oddsOf_40 E x1 x2 x3 x4 x5 x6 0 0 σ Q) ∧ ((x6 &&& (σ 63 6)) = 0 → r_X10_oddsOf_40 E x1 x2 x3 x4 x5 x6 1 0 σ Q))))) : r_X10_oddsOf_9 E x1 x2 x3 x4 x5 x6 σ Q := by
  intro p e R s m args below meth c Z cells slots H locs ls C0 hH hl hret
  have hx := C0.1
  have hb : c.code = cX10_oddsOf := C0.2.1
  have hl : lv_has ls 9 [(0, .ref (Ad E 63)), (1, .int x1), (2, .int x2), (3, .int x3), (4, .int x4), (5, .int x5), (6, .int x6)] := hl
  refine lv_iload hx hb dX10_oddsOf_9 (lv_at hl 6 rfl) ?_
  refine lv_iconst (v := 1) hx hb dX10_oddsOf_11 (by decide) ?_
  refine lv_aload_n hx hb dX10_oddsOf_12 rfl (lv_at hl 0 rfl) ?_
  refine m_geti (x := σ 63 4) C0 hH f_63_4 kF_X10_106 dX10_oddsOf_13 rfl ?_
  refine lv_ishl hx hb dX10_oddsOf_16 ?_
  refine lv_icmp_ge (tgt := 138) hx hb dX10_oddsOf_17 (by decide) (fun hc1 => ?_) (fun hc1 => ?_)
  · have h := h.1 hc1
    refine lv_iload hx hb dX10_oddsOf_138 (lv_at hl 5 rfl) ?_
    refine lv_istore (lv' := [(6, .int x5), (0, .ref (Ad E 63)), (1, .int x1), (2, .int x2), (3, .int x3), (4, .int x4), (5, .int x5)]) hx hb dX10_oddsOf_140 hl (by decide) rfl (fun ls hl => ?_)
    refine lv_iload hx hb dX10_oddsOf_142 (lv_at hl 5 rfl) ?_
    refine lv_istore (lv' := [(7, .int x4), (6, .int x5), (0, .ref (Ad E 63)), (1, .int x1), (2, .int x2), (3, .int x3), (4, .int x4), (5, .int x5)]) hx hb dX10_oddsOf_144 hl (by decide) rfl (fun ls hl => ?_)
    exact h p e R s m args below meth c Z cells slots H locs ls C0 hH (lv_sub hl [2, 3, 4, 5, 6, 7, 1, 0] rfl) hret
  · have h := h.2 hc1
    refine lv_iload hx hb dX10_oddsOf_20 (lv_at hl 6 rfl) ?_
    refine lv_aload_n hx hb dX10_oddsOf_22 rfl (lv_at hl 0 rfl) ?_
    refine m_geti (x := σ 63 6) C0 hH f_63_6 kF_X10_109 dX10_oddsOf_23 rfl ?_
    refine lv_iand hx hb dX10_oddsOf_26 ?_
    refine lv_if_ne (tgt := 34) hx hb dX10_oddsOf_27 (by decide) (fun hc2 => ?_) (fun hc2 => ?_)
    · have h := h.1 hc2
      refine lv_iconst (v := 0) hx hb dX10_oddsOf_34 (by decide) ?_
      refine lv_istore (lv' := [(7, .int 0), (0, .ref (Ad E 63)), (1, .int x1), (2, .int x2), (3, .int x3), (4, .int x4), (5, .int x5), (6, .int x6)]) hx hb dX10_oddsOf_35 hl (by decide) rfl (fun ls hl => ?_)
      refine lv_iconst (v := 0) hx hb dX10_oddsOf_37 (by decide) ?_
      refine lv_istore (lv' := [(8, .int 0), (7, .int 0), (0, .ref (Ad E 63)), (1, .int x1), (2, .int x2), (3, .int x3), (4, .int x4), (5, .int x5), (6, .int x6)]) hx hb dX10_oddsOf_38 hl (by decide) rfl (fun ls hl => ?_)
      exact h p e R s m args below meth c Z cells slots H locs ls C0 hH (lv_sub hl [2, 3, 4, 5, 6, 7, 8, 1, 0] rfl) hret
    · have h := h.2 hc2
      refine lv_iconst (v := 1) hx hb dX10_oddsOf_30 (by decide) ?_
      refine lv_goto (tgt := 35) hx hb dX10_oddsOf_31 (by decide) ?_
      refine lv_istore (lv' := [(7, .int 1), (0, .ref (Ad E 63)), (1, .int x1), (2, .int x2), (3, .int x3), (4, .int x4), (5, .int x5), (6, .int x6)]) hx hb dX10_oddsOf_35 hl (by decide) rfl (fun ls hl => ?_)
      refine lv_iconst (v := 0) hx hb dX10_oddsOf_37 (by decide) ?_
      refine lv_istore (lv' := [(8, .int 0), (7, .int 1), (0, .ref (Ad E 63)), (1, .int x1), (2, .int x2), (3, .int x3), (4, .int x4), (5, .int x5), (6, .int x6)]) hx hb dX10_oddsOf_38 hl (by decide) rfl (fun ls hl => ?_)
      exact h p e R s m args below meth c Z cells slots H locs ls C0 hH (lv_sub hl [2, 3, 4, 5, 6, 7, 8, 1, 0] rfl) hret
set_option maxRecDepth 20000 in
set_option maxHeartbeats 4000000 in
theorem s_X10_oddsOf_40 (E : EE) (x1 : Int32) (x2 : Int32) (x3 : Int32) (x4 : Int32) (x5 : Int32) (x6 : Int32) (x7 : Int32) (x8 : Int32) (σ : Mm) (Q : Int32 → Mm → Prop) (h : (((σ 63 4) ≤ x8 → r_X10_sitsBy_0 E ((σ 63 6) ||| x6) (σ 63 5) σ (fun r3 τ2 => ((¬ ((r3 >>> (x1 &&& 31)) &&& 1) = 1 → r_X10_oddsOf_9 E x1 x2 x3 (x4 + 0) (x5 + x7) (x6 + 1) τ2 Q) ∧ (((r3 >>> (x1 &&& 31)) &&& 1) = 1 → r_X10_oddsOf_9 E x1 x2 x3 (x4 + x7) (x5 + x7) (x6 + 1) τ2 Q)))) ∧ (¬ (σ 63 4) ≤ x8 → ((¬ (((σ 63 6) >>> (x8 &&& 31)) &&& 1) = 0 → r_X10_oddsOf_40 E x1 x2 x3 x4 x5 x6 x7 (x8 + 1) σ Q) ∧ ((((σ 63 6) >>> (x8 &&& 31)) &&& 1) = 0 → ((¬ ((x6 >>> (x8 &&& 31)) &&& 1) = 1 → r_X10_oddsOf_40 E x1 x2 x3 x4 x5 x6 (x7 * (10 - x2)) (x8 + 1) σ Q) ∧ (((x6 >>> (x8 &&& 31)) &&& 1) = 1 → r_X10_oddsOf_40 E x1 x2 x3 x4 x5 x6 (x7 * x2) (x8 + 1) σ Q))))))) : r_X10_oddsOf_40 E x1 x2 x3 x4 x5 x6 x7 x8 σ Q := by
  intro p e R s m args below meth c Z cells slots H locs ls C0 hH hl hret
  have hx := C0.1
  have hb : c.code = cX10_oddsOf := C0.2.1
  have hl : lv_has ls 9 [(0, .ref (Ad E 63)), (1, .int x1), (2, .int x2), (3, .int x3), (4, .int x4), (5, .int x5), (6, .int x6), (7, .int x7), (8, .int x8)] := hl
  refine lv_iload hx hb dX10_oddsOf_40 (lv_at hl 8 rfl) ?_
  refine lv_aload_n hx hb dX10_oddsOf_42 rfl (lv_at hl 0 rfl) ?_
  refine m_geti (x := σ 63 4) C0 hH f_63_4 kF_X10_106 dX10_oddsOf_43 rfl ?_
  refine lv_icmp_ge (tgt := 91) hx hb dX10_oddsOf_46 (by decide) (fun hc1 => ?_) (fun hc1 => ?_)
  · have h := h.1 hc1
    refine lv_iload hx hb dX10_oddsOf_91 (lv_at hl 5 rfl) ?_
    refine lv_iload hx hb dX10_oddsOf_93 (lv_at hl 7 rfl) ?_
    refine lv_iadd hx hb dX10_oddsOf_95 ?_
    refine lv_istore (lv' := [(5, .int (x5 + x7)), (0, .ref (Ad E 63)), (1, .int x1), (2, .int x2), (3, .int x3), (4, .int x4), (6, .int x6), (7, .int x7), (8, .int x8)]) hx hb dX10_oddsOf_96 hl (by decide) rfl (fun ls hl => ?_)
    refine lv_iload hx hb dX10_oddsOf_98 (lv_at hl 5 rfl) ?_
    refine lv_aload_n hx hb dX10_oddsOf_100 rfl (lv_at hl 1 rfl) ?_
    refine lv_aload_n hx hb dX10_oddsOf_101 rfl (lv_at hl 1 rfl) ?_
    refine m_geti (x := σ 63 6) C0 hH f_63_6 kF_X10_109 dX10_oddsOf_102 rfl ?_
    refine lv_iload hx hb dX10_oddsOf_105 (lv_at hl 6 rfl) ?_
    refine lv_ior hx hb dX10_oddsOf_107 ?_
    refine lv_aload_n hx hb dX10_oddsOf_108 rfl (lv_at hl 1 rfl) ?_
    refine m_geti (x := σ 63 5) C0 hH f_63_5 kF_X10_100 dX10_oddsOf_109 rfl ?_
    refine m_cV (M2 := M_X10_sitsBy) (As := [.int ((σ 63 6) ||| x6), .int (σ 63 5)]) (rest := [.int x4]) h C0 hH hl kc_X10_sitsBy ki_X10_sitsBy kx_X10_sitsBy ob_63 kM_X10_125 rfl (Nat.le_of_ble_eq_true rfl) (Nat.le_of_ble_eq_true rfl) ⟨Nat.le_of_ble_eq_true rfl, Nat.le_of_ble_eq_true rfl⟩ dX10_oddsOf_112 rfl (fun r τ2 H locs hq hH => ?_)
    obtain ⟨r3, rfl, h⟩ := hq
    refine lv_iload_n hx hb dX10_oddsOf_115 rfl (lv_at hl 2 rfl) ?_
    refine lv_ishr hx hb dX10_oddsOf_116 ?_
    refine lv_iconst (v := 1) hx hb dX10_oddsOf_117 (by decide) ?_
    refine lv_iand hx hb dX10_oddsOf_118 ?_
    refine lv_iconst (v := 1) hx hb dX10_oddsOf_119 (by decide) ?_
    refine lv_icmp_ne (tgt := 128) hx hb dX10_oddsOf_120 (by decide) (fun hc4 => ?_) (fun hc4 => ?_)
    · have h := h.1 hc4
      refine lv_iconst (v := 0) hx hb dX10_oddsOf_128 (by decide) ?_
      refine lv_iadd hx hb dX10_oddsOf_129 ?_
      refine lv_istore (lv' := [(4, .int (x4 + 0)), (5, .int (x5 + x7)), (0, .ref (Ad E 63)), (1, .int x1), (2, .int x2), (3, .int x3), (6, .int x6), (7, .int x7), (8, .int x8)]) hx hb dX10_oddsOf_130 hl (by decide) rfl (fun ls hl => ?_)
      refine lv_iinc (v := (x6 + 1)) (lv' := [(6, .int (x6 + 1)), (4, .int (x4 + 0)), (5, .int (x5 + x7)), (0, .ref (Ad E 63)), (1, .int x1), (2, .int x2), (3, .int x3), (7, .int x7), (8, .int x8)]) hx hb dX10_oddsOf_132 hl (k := 6) rfl rfl (by decide) rfl (fun ls hl => ?_)
      refine lv_goto (tgt := 9) hx hb dX10_oddsOf_135 (by decide) ?_
      exact h p e R s m args below meth c Z cells slots H locs ls C0 hH (lv_sub hl [3, 4, 5, 6, 1, 2, 0] rfl) hret
    · have h := h.2 hc4
      refine lv_iload hx hb dX10_oddsOf_123 (lv_at hl 7 rfl) ?_
      refine lv_goto (tgt := 129) hx hb dX10_oddsOf_125 (by decide) ?_
      refine lv_iadd hx hb dX10_oddsOf_129 ?_
      refine lv_istore (lv' := [(4, .int (x4 + x7)), (5, .int (x5 + x7)), (0, .ref (Ad E 63)), (1, .int x1), (2, .int x2), (3, .int x3), (6, .int x6), (7, .int x7), (8, .int x8)]) hx hb dX10_oddsOf_130 hl (by decide) rfl (fun ls hl => ?_)
      refine lv_iinc (v := (x6 + 1)) (lv' := [(6, .int (x6 + 1)), (4, .int (x4 + x7)), (5, .int (x5 + x7)), (0, .ref (Ad E 63)), (1, .int x1), (2, .int x2), (3, .int x3), (7, .int x7), (8, .int x8)]) hx hb dX10_oddsOf_132 hl (k := 6) rfl rfl (by decide) rfl (fun ls hl => ?_)
      refine lv_goto (tgt := 9) hx hb dX10_oddsOf_135 (by decide) ?_
      exact h p e R s m args below meth c Z cells slots H locs ls C0 hH (lv_sub hl [3, 4, 5, 6, 1, 2, 0] rfl) hret
  · have h := h.2 hc1
    refine lv_aload_n hx hb dX10_oddsOf_49 rfl (lv_at hl 0 rfl) ?_
    refine m_geti (x := σ 63 6) C0 hH f_63_6 kF_X10_109 dX10_oddsOf_50 rfl ?_
    refine lv_iload hx hb dX10_oddsOf_53 (lv_at hl 8 rfl) ?_
    refine lv_ishr hx hb dX10_oddsOf_55 ?_
    refine lv_iconst (v := 1) hx hb dX10_oddsOf_56 (by decide) ?_
    refine lv_iand hx hb dX10_oddsOf_57 ?_
    refine lv_if_ne (tgt := 85) hx hb dX10_oddsOf_58 (by decide) (fun hc5 => ?_) (fun hc5 => ?_)
    · have h := h.1 hc5
      refine lv_iinc (v := (x8 + 1)) (lv' := [(8, .int (x8 + 1)), (0, .ref (Ad E 63)), (1, .int x1), (2, .int x2), (3, .int x3), (4, .int x4), (5, .int x5), (6, .int x6), (7, .int x7)]) hx hb dX10_oddsOf_85 hl (k := 8) rfl rfl (by decide) rfl (fun ls hl => ?_)
      refine lv_goto (tgt := 40) hx hb dX10_oddsOf_88 (by decide) ?_
      exact h p e R s m args below meth c Z cells slots H locs ls C0 hH (lv_sub hl [1, 2, 3, 4, 5, 6, 7, 8, 0] rfl) hret
    · have h := h.2 hc5
      refine lv_iload hx hb dX10_oddsOf_61 (lv_at hl 7 rfl) ?_
      refine lv_iload hx hb dX10_oddsOf_63 (lv_at hl 6 rfl) ?_
      refine lv_iload hx hb dX10_oddsOf_65 (lv_at hl 8 rfl) ?_
      refine lv_ishr hx hb dX10_oddsOf_67 ?_
      refine lv_iconst (v := 1) hx hb dX10_oddsOf_68 (by decide) ?_
      refine lv_iand hx hb dX10_oddsOf_69 ?_
      refine lv_iconst (v := 1) hx hb dX10_oddsOf_70 (by decide) ?_
      refine lv_icmp_ne (tgt := 78) hx hb dX10_oddsOf_71 (by decide) (fun hc6 => ?_) (fun hc6 => ?_)
      · have h := h.1 hc6
        refine lv_bipush (v := 10) hx hb dX10_oddsOf_78 (by decide) ?_
        refine lv_iload_n hx hb dX10_oddsOf_80 rfl (lv_at hl 2 rfl) ?_
        refine lv_isub hx hb dX10_oddsOf_81 ?_
        refine lv_imul hx hb dX10_oddsOf_82 ?_
        refine lv_istore (lv' := [(7, .int (x7 * (10 - x2))), (0, .ref (Ad E 63)), (1, .int x1), (2, .int x2), (3, .int x3), (4, .int x4), (5, .int x5), (6, .int x6), (8, .int x8)]) hx hb dX10_oddsOf_83 hl (by decide) rfl (fun ls hl => ?_)
        refine lv_iinc (v := (x8 + 1)) (lv' := [(8, .int (x8 + 1)), (7, .int (x7 * (10 - x2))), (0, .ref (Ad E 63)), (1, .int x1), (2, .int x2), (3, .int x3), (4, .int x4), (5, .int x5), (6, .int x6)]) hx hb dX10_oddsOf_85 hl (k := 8) rfl rfl (by decide) rfl (fun ls hl => ?_)
        refine lv_goto (tgt := 40) hx hb dX10_oddsOf_88 (by decide) ?_
        exact h p e R s m args below meth c Z cells slots H locs ls C0 hH (lv_sub hl [2, 3, 4, 5, 6, 7, 8, 1, 0] rfl) hret
      · have h := h.2 hc6
        refine lv_iload_n hx hb dX10_oddsOf_74 rfl (lv_at hl 2 rfl) ?_
        refine lv_goto (tgt := 82) hx hb dX10_oddsOf_75 (by decide) ?_
        refine lv_imul hx hb dX10_oddsOf_82 ?_
        refine lv_istore (lv' := [(7, .int (x7 * x2)), (0, .ref (Ad E 63)), (1, .int x1), (2, .int x2), (3, .int x3), (4, .int x4), (5, .int x5), (6, .int x6), (8, .int x8)]) hx hb dX10_oddsOf_83 hl (by decide) rfl (fun ls hl => ?_)
        refine lv_iinc (v := (x8 + 1)) (lv' := [(8, .int (x8 + 1)), (7, .int (x7 * x2)), (0, .ref (Ad E 63)), (1, .int x1), (2, .int x2), (3, .int x3), (4, .int x4), (5, .int x5), (6, .int x6)]) hx hb dX10_oddsOf_85 hl (k := 8) rfl rfl (by decide) rfl (fun ls hl => ?_)
        refine lv_goto (tgt := 40) hx hb dX10_oddsOf_88 (by decide) ?_
        exact h p e R s m args below meth c Z cells slots H locs ls C0 hH (lv_sub hl [2, 3, 4, 5, 6, 7, 8, 1, 0] rfl) hret
set_option maxRecDepth 20000 in
set_option maxHeartbeats 4000000 in
theorem s_X10_oddsOf_146 (E : EE) (x1 : Int32) (x2 : Int32) (x3 : Int32) (x4 : Int32) (x5 : Int32) (x6 : Int32) (x7 : Int32) (σ : Mm) (Q : Int32 → Mm → Prop) (h : ((x7 ≤ 0 → ((¬ x3 = 0 → (¬ x6 = 0 ∧ Q (x5 / x6) σ)) ∧ (x3 = 0 → (¬ x6 = 0 ∧ Q (x4 / x6) σ)))) ∧ (¬ x7 ≤ 0 → (¬ x7 = 0 ∧ r_X10_oddsOf_146 E x1 x2 x3 x4 x5 x7 (x6 - (x6 / x7) * x7) σ Q)))) : r_X10_oddsOf_146 E x1 x2 x3 x4 x5 x6 x7 σ Q := by
  intro p e R s m args below meth c Z cells slots H locs ls C0 hH hl hret
  have hx := C0.1
  have hb : c.code = cX10_oddsOf := C0.2.1
  have hl : lv_has ls 9 [(0, .ref (Ad E 63)), (1, .int x1), (2, .int x2), (3, .int x3), (4, .int x4), (5, .int x5), (6, .int x6), (7, .int x7)] := hl
  refine lv_iload hx hb dX10_oddsOf_146 (lv_at hl 7 rfl) ?_
  refine lv_if_le (tgt := 169) hx hb dX10_oddsOf_148 (by decide) (fun hc1 => ?_) (fun hc1 => ?_)
  · have h := h.1 hc1
    refine lv_iload_n hx hb dX10_oddsOf_169 rfl (lv_at hl 3 rfl) ?_
    refine lv_if_ne (tgt := 181) hx hb dX10_oddsOf_170 (by decide) (fun hc2 => ?_) (fun hc2 => ?_)
    · have h := h.1 hc2
      refine lv_iload hx hb dX10_oddsOf_181 (lv_at hl 5 rfl) ?_
      refine lv_iload hx hb dX10_oddsOf_183 (lv_at hl 6 rfl) ?_
      refine lv_idiv hx hb dX10_oddsOf_185 h.1 ?_
      have h := h.2
      exact hret (some (.int (x5 / x6))) _ _ _ _ _ ⟨_, rfl, h⟩ hH ⟨dX10_oddsOf_186, .int, rfl, rfl⟩
    · have h := h.2 hc2
      refine lv_iload hx hb dX10_oddsOf_173 (lv_at hl 4 rfl) ?_
      refine lv_iload hx hb dX10_oddsOf_175 (lv_at hl 6 rfl) ?_
      refine lv_idiv hx hb dX10_oddsOf_177 h.1 ?_
      have h := h.2
      refine lv_goto (tgt := 186) hx hb dX10_oddsOf_178 (by decide) ?_
      exact hret (some (.int (x4 / x6))) _ _ _ _ _ ⟨_, rfl, h⟩ hH ⟨dX10_oddsOf_186, .int, rfl, rfl⟩
  · have h := h.2 hc1
    refine lv_iload hx hb dX10_oddsOf_151 (lv_at hl 6 rfl) ?_
    refine lv_iload hx hb dX10_oddsOf_153 (lv_at hl 7 rfl) ?_
    refine lv_irem hx hb dX10_oddsOf_155 h.1 ?_
    have h := h.2
    refine lv_istore (lv' := [(8, .int (x6 - (x6 / x7) * x7)), (0, .ref (Ad E 63)), (1, .int x1), (2, .int x2), (3, .int x3), (4, .int x4), (5, .int x5), (6, .int x6), (7, .int x7)]) hx hb dX10_oddsOf_156 hl (by decide) rfl (fun ls hl => ?_)
    refine lv_iload hx hb dX10_oddsOf_158 (lv_at hl 8 rfl) ?_
    refine lv_istore (lv' := [(6, .int x7), (8, .int (x6 - (x6 / x7) * x7)), (0, .ref (Ad E 63)), (1, .int x1), (2, .int x2), (3, .int x3), (4, .int x4), (5, .int x5), (7, .int x7)]) hx hb dX10_oddsOf_160 hl (by decide) rfl (fun ls hl => ?_)
    refine lv_iload hx hb dX10_oddsOf_162 (lv_at hl 1 rfl) ?_
    refine lv_istore (lv' := [(7, .int (x6 - (x6 / x7) * x7)), (6, .int x7), (8, .int (x6 - (x6 / x7) * x7)), (0, .ref (Ad E 63)), (1, .int x1), (2, .int x2), (3, .int x3), (4, .int x4), (5, .int x5)]) hx hb dX10_oddsOf_164 hl (by decide) rfl (fun ls hl => ?_)
    refine lv_goto (tgt := 146) hx hb dX10_oddsOf_166 (by decide) ?_
    exact h p e R s m args below meth c Z cells slots H locs ls C0 hH (lv_sub hl [3, 4, 5, 6, 7, 8, 1, 0] rfl) hret

def r_X10_odds_0 (E : EE) (x1 : Int32) (x2 : Int32) (x3 : Int32) (σ : Mm) (Q : Int32 → Mm → Prop) : Prop := Rn E M_X10_odds 0 [(0, .ref (Ad E 63)), (1, .int x1), (2, .int x2), (3, .int x3)] [] σ (qi Q)
set_option maxRecDepth 20000 in
set_option maxHeartbeats 4000000 in
theorem s_X10_odds_0 (E : EE) (x1 : Int32) (x2 : Int32) (x3 : Int32) (σ : Mm) (Q : Int32 → Mm → Prop) (h : r_X10_isPerson_0 E x1 σ (fun r2 τ1 => ((¬ r2 = 0 → r_X10_in_0 E x2.toInt64 0 10 τ1 (fun r5 τ4 => ((r5 = 0 → Q (-102) τ4) ∧ (¬ r5 = 0 → r_X10_in_0 E x3.toInt64 0 1 τ4 (fun r8 τ7 => ((r8 = 0 → Q (-102) τ7) ∧ (¬ r8 = 0 → r_X10_oddsOf_0 E x1 x2 x3 τ7 (fun r11 τ10 => Q r11 τ10)))))))) ∧ (r2 = 0 → Q (-101) τ1)))) : r_X10_odds_0 E x1 x2 x3 σ Q := by
  intro p e R s m args below meth c Z cells slots H locs ls C0 hH hl hret
  have hx := C0.1
  have hb : c.code = cX10_odds := C0.2.1
  have hl : lv_has ls 4 [(0, .ref (Ad E 63)), (1, .int x1), (2, .int x2), (3, .int x3)] := hl
  refine lv_aload_n hx hb dX10_odds_0 rfl (lv_at hl 0 rfl) ?_
  refine lv_iload_n hx hb dX10_odds_1 rfl (lv_at hl 1 rfl) ?_
  refine m_cV (M2 := M_X10_isPerson) (As := [.int x1]) (rest := []) h C0 hH hl kc_X10_isPerson ki_X10_isPerson kx_X10_isPerson ob_63 kM_X10_134 rfl (Nat.le_of_ble_eq_true rfl) (Nat.le_of_ble_eq_true rfl) ⟨Nat.le_of_ble_eq_true rfl, Nat.le_of_ble_eq_true rfl⟩ dX10_odds_2 rfl (fun r τ1 H locs hq hH => ?_)
  obtain ⟨r2, rfl, h⟩ := hq
  refine lv_if_ne (tgt := 11) hx hb dX10_odds_5 (by decide) (fun hc3 => ?_) (fun hc3 => ?_)
  · have h := h.1 hc3
    refine lv_iload_n hx hb dX10_odds_11 rfl (lv_at hl 2 rfl) ?_
    refine lv_i2l hx hb dX10_odds_12 rfl ?_
    refine lv_lconst (v := 0) hx hb dX10_odds_13 (by decide) ?_
    refine lv_ldc2 hx hb C0.2.2.2.1 (C0.2.2.2.2.1 _ kC_X10_205) dX10_odds_14 ?_
    refine m_cS (M2 := M_X10_in) (As := [.long x2.toInt64, .long 0, .long 10]) (rest := []) h C0 hH hl kc_X10_in ks_X10_in kM_X10_61 rfl (Nat.le_of_ble_eq_true rfl) (Nat.le_of_ble_eq_true rfl) ⟨Nat.le_of_ble_eq_true rfl, Nat.le_of_ble_eq_true rfl⟩ dX10_odds_17 rfl (fun r τ4 H locs hq hH => ?_)
    obtain ⟨r5, rfl, h⟩ := hq
    refine lv_if_eq (tgt := 43) hx hb dX10_odds_20 (by decide) (fun hc6 => ?_) (fun hc6 => ?_)
    · have h := h.1 hc6
      refine lv_bipush (v := (-102)) hx hb dX10_odds_43 (by decide) ?_
      exact hret (some (.int (-102))) _ _ _ _ _ ⟨_, rfl, h⟩ hH ⟨dX10_odds_45, .int, rfl, rfl⟩
    · have h := h.2 hc6
      refine lv_iload_n hx hb dX10_odds_23 rfl (lv_at hl 3 rfl) ?_
      refine lv_i2l hx hb dX10_odds_24 rfl ?_
      refine lv_lconst (v := 0) hx hb dX10_odds_25 (by decide) ?_
      refine lv_lconst (v := 1) hx hb dX10_odds_26 (by decide) ?_
      refine m_cS (M2 := M_X10_in) (As := [.long x3.toInt64, .long 0, .long 1]) (rest := []) h C0 hH hl kc_X10_in ks_X10_in kM_X10_61 rfl (Nat.le_of_ble_eq_true rfl) (Nat.le_of_ble_eq_true rfl) ⟨Nat.le_of_ble_eq_true rfl, Nat.le_of_ble_eq_true rfl⟩ dX10_odds_27 rfl (fun r τ7 H locs hq hH => ?_)
      obtain ⟨r8, rfl, h⟩ := hq
      refine lv_if_eq (tgt := 43) hx hb dX10_odds_30 (by decide) (fun hc9 => ?_) (fun hc9 => ?_)
      · have h := h.1 hc9
        refine lv_bipush (v := (-102)) hx hb dX10_odds_43 (by decide) ?_
        exact hret (some (.int (-102))) _ _ _ _ _ ⟨_, rfl, h⟩ hH ⟨dX10_odds_45, .int, rfl, rfl⟩
      · have h := h.2 hc9
        refine lv_aload_n hx hb dX10_odds_33 rfl (lv_at hl 0 rfl) ?_
        refine lv_iload_n hx hb dX10_odds_34 rfl (lv_at hl 1 rfl) ?_
        refine lv_iload_n hx hb dX10_odds_35 rfl (lv_at hl 2 rfl) ?_
        refine lv_iload_n hx hb dX10_odds_36 rfl (lv_at hl 3 rfl) ?_
        refine m_cV (M2 := M_X10_oddsOf) (As := [.int x1, .int x2, .int x3]) (rest := []) h C0 hH hl kc_X10_oddsOf ki_X10_oddsOf kx_X10_oddsOf ob_63 kM_X10_207 rfl (Nat.le_of_ble_eq_true rfl) (Nat.le_of_ble_eq_true rfl) ⟨Nat.le_of_ble_eq_true rfl, Nat.le_of_ble_eq_true rfl⟩ dX10_odds_37 rfl (fun r τ10 H locs hq hH => ?_)
        obtain ⟨r11, rfl, h⟩ := hq
        refine lv_goto (tgt := 45) hx hb dX10_odds_40 (by decide) ?_
        exact hret (some (.int r11)) _ _ _ _ _ ⟨_, rfl, h⟩ hH ⟨dX10_odds_45, .int, rfl, rfl⟩
  · have h := h.2 hc3
    refine lv_bipush (v := (-101)) hx hb dX10_odds_8 (by decide) ?_
    exact hret (some (.int (-101))) _ _ _ _ _ ⟨_, rfl, h⟩ hH ⟨dX10_odds_10, .int, rfl, rfl⟩

def r_X10_see_0 (E : EE) (x1 : Int32) (x2 : Int32) (x3 : Int32) (σ : Mm) (Q : Int32 → Mm → Prop) : Prop := Rn E M_X10_see 0 [(0, .ref (Ad E 63)), (1, .int x1), (2, .int x2), (3, .int x3)] [] σ (qi Q)
set_option maxRecDepth 20000 in
set_option maxHeartbeats 4000000 in
theorem s_X10_see_0 (E : EE) (x1 : Int32) (x2 : Int32) (x3 : Int32) (σ : Mm) (Q : Int32 → Mm → Prop) (h : r_X10_isWrong_0 E x1 σ (fun r2 τ1 => ((¬ r2 = 0 → r_X10_in_0 E x2.toInt64 1 6 τ1 (fun r5 τ4 => ((¬ r5 = 0 → ((¬ (τ4 63 20) = 6 → (vp_in (3 * (τ4 63 20)) 18 ∧ (vp_in ((3 * (τ4 63 20)) + 1) 18 ∧ ((x3 = 0 → (vp_in ((3 * (τ4 63 20)) + 2) 18 ∧ Q ((τ4 63 20) + 1) (up (up (up (up τ4 73 ((3 * (τ4 63 20)).toNatClampNeg) x1) 73 (((3 * (τ4 63 20)) + 1).toNatClampNeg) x2) 73 (((3 * (τ4 63 20)) + 2).toNatClampNeg) 0) 63 20 ((τ4 63 20) + 1)))) ∧ (¬ x3 = 0 → (vp_in ((3 * (τ4 63 20)) + 2) 18 ∧ Q ((τ4 63 20) + 1) (up (up (up (up τ4 73 ((3 * (τ4 63 20)).toNatClampNeg) x1) 73 (((3 * (τ4 63 20)) + 1).toNatClampNeg) x2) 73 (((3 * (τ4 63 20)) + 2).toNatClampNeg) 1) 63 20 ((τ4 63 20) + 1)))))))) ∧ ((τ4 63 20) = 6 → Q (-104) τ4))) ∧ (r5 = 0 → Q (-102) τ4)))) ∧ (r2 = 0 → Q (-101) τ1)))) : r_X10_see_0 E x1 x2 x3 σ Q := by
  intro p e R s m args below meth c Z cells slots H locs ls C0 hH hl hret
  have hx := C0.1
  have hb : c.code = cX10_see := C0.2.1
  have hl : lv_has ls 4 [(0, .ref (Ad E 63)), (1, .int x1), (2, .int x2), (3, .int x3)] := hl
  refine lv_aload_n hx hb dX10_see_0 rfl (lv_at hl 0 rfl) ?_
  refine lv_iload_n hx hb dX10_see_1 rfl (lv_at hl 1 rfl) ?_
  refine m_cV (M2 := M_X10_isWrong) (As := [.int x1]) (rest := []) h C0 hH hl kc_X10_isWrong ki_X10_isWrong kx_X10_isWrong ob_63 kM_X10_148 rfl (Nat.le_of_ble_eq_true rfl) (Nat.le_of_ble_eq_true rfl) ⟨Nat.le_of_ble_eq_true rfl, Nat.le_of_ble_eq_true rfl⟩ dX10_see_2 rfl (fun r τ1 H locs hq hH => ?_)
  obtain ⟨r2, rfl, h⟩ := hq
  refine lv_if_ne (tgt := 11) hx hb dX10_see_5 (by decide) (fun hc3 => ?_) (fun hc3 => ?_)
  · have h := h.1 hc3
    refine lv_iload_n hx hb dX10_see_11 rfl (lv_at hl 2 rfl) ?_
    refine lv_i2l hx hb dX10_see_12 rfl ?_
    refine lv_lconst (v := 1) hx hb dX10_see_13 (by decide) ?_
    refine lv_ldc2 hx hb C0.2.2.2.1 (C0.2.2.2.2.1 _ kC_X10_177) dX10_see_14 ?_
    refine m_cS (M2 := M_X10_in) (As := [.long x2.toInt64, .long 1, .long 6]) (rest := []) h C0 hH hl kc_X10_in ks_X10_in kM_X10_61 rfl (Nat.le_of_ble_eq_true rfl) (Nat.le_of_ble_eq_true rfl) ⟨Nat.le_of_ble_eq_true rfl, Nat.le_of_ble_eq_true rfl⟩ dX10_see_17 rfl (fun r τ4 H locs hq hH => ?_)
    obtain ⟨r5, rfl, h⟩ := hq
    refine lv_if_ne (tgt := 26) hx hb dX10_see_20 (by decide) (fun hc6 => ?_) (fun hc6 => ?_)
    · have h := h.1 hc6
      refine lv_aload_n hx hb dX10_see_26 rfl (lv_at hl 0 rfl) ?_
      refine m_geti (x := τ4 63 20) C0 hH f_63_20 kF_X10_115 dX10_see_27 rfl ?_
      refine lv_bipush (v := 6) hx hb dX10_see_30 (by decide) ?_
      refine lv_icmp_ne (tgt := 38) hx hb dX10_see_32 (by decide) (fun hc7 => ?_) (fun hc7 => ?_)
      · have h := h.1 hc7
        refine lv_aload_n hx hb dX10_see_38 rfl (lv_at hl 0 rfl) ?_
        refine m_getr C0 hH f_63_21 73 rfl kF_X10_37 dX10_see_39 ?_
        refine lv_iconst (v := 3) hx hb dX10_see_42 (by decide) ?_
        refine lv_aload_n hx hb dX10_see_43 rfl (lv_at hl 0 rfl) ?_
        refine m_geti (x := τ4 63 20) C0 hH f_63_20 kF_X10_115 dX10_see_44 rfl ?_
        refine lv_imul hx hb dX10_see_47 ?_
        refine lv_iload_n hx hb dX10_see_48 rfl (lv_at hl 1 rfl) ?_
        refine m_iast (j := (3 * (τ4 63 20)).toNatClampNeg) C0 hH a_73 h.1 rfl dX10_see_49 (fun H locs hH => ?_)
        have h := h.2
        refine lv_aload_n hx hb dX10_see_50 rfl (lv_at hl 0 rfl) ?_
        refine m_getr C0 hH f_63_21 73 rfl kF_X10_37 dX10_see_51 ?_
        refine lv_iconst (v := 3) hx hb dX10_see_54 (by decide) ?_
        refine lv_aload_n hx hb dX10_see_55 rfl (lv_at hl 0 rfl) ?_
        refine m_geti (x := τ4 63 20) C0 hH f_63_20 kF_X10_115 dX10_see_56 rfl ?_
        refine lv_imul hx hb dX10_see_59 ?_
        refine lv_iconst (v := 1) hx hb dX10_see_60 (by decide) ?_
        refine lv_iadd hx hb dX10_see_61 ?_
        refine lv_iload_n hx hb dX10_see_62 rfl (lv_at hl 2 rfl) ?_
        refine m_iast (j := ((3 * (τ4 63 20)) + 1).toNatClampNeg) C0 hH a_73 h.1 rfl dX10_see_63 (fun H locs hH => ?_)
        have h := h.2
        refine lv_aload_n hx hb dX10_see_64 rfl (lv_at hl 0 rfl) ?_
        refine m_getr C0 hH f_63_21 73 rfl kF_X10_37 dX10_see_65 ?_
        refine lv_iconst (v := 3) hx hb dX10_see_68 (by decide) ?_
        refine lv_aload_n hx hb dX10_see_69 rfl (lv_at hl 0 rfl) ?_
        refine m_geti (x := τ4 63 20) C0 hH f_63_20 kF_X10_115 dX10_see_70 rfl ?_
        refine lv_imul hx hb dX10_see_73 ?_
        refine lv_iconst (v := 2) hx hb dX10_see_74 (by decide) ?_
        refine lv_iadd hx hb dX10_see_75 ?_
        refine lv_iload_n hx hb dX10_see_76 rfl (lv_at hl 3 rfl) ?_
        refine lv_if_eq (tgt := 84) hx hb dX10_see_77 (by decide) (fun hc8 => ?_) (fun hc8 => ?_)
        · have h := h.1 hc8
          refine lv_iconst (v := 0) hx hb dX10_see_84 (by decide) ?_
          refine m_iast (j := ((3 * (τ4 63 20)) + 2).toNatClampNeg) C0 hH a_73 h.1 rfl dX10_see_85 (fun H locs hH => ?_)
          have h := h.2
          refine lv_aload_n hx hb dX10_see_86 rfl (lv_at hl 0 rfl) ?_
          refine lv_dup hx hb dX10_see_87 rfl ?_
          refine m_geti (x := τ4 63 20) C0 hH f_63_20 kF_X10_115 dX10_see_88 rfl ?_
          refine lv_iconst (v := 1) hx hb dX10_see_91 (by decide) ?_
          refine lv_iadd hx hb dX10_see_92 ?_
          refine m_puti C0 hH f_63_20 kF_X10_115 rfl dX10_see_93 rfl rfl (fun H locs hH => ?_)
          refine lv_aload_n hx hb dX10_see_96 rfl (lv_at hl 0 rfl) ?_
          refine m_geti (x := ((τ4 63 20) + 1)) C0 hH f_63_20 kF_X10_115 dX10_see_97 rfl ?_
          exact hret (some (.int ((τ4 63 20) + 1))) _ _ _ _ _ ⟨_, rfl, h⟩ hH ⟨dX10_see_100, .int, rfl, rfl⟩
        · have h := h.2 hc8
          refine lv_iconst (v := 1) hx hb dX10_see_80 (by decide) ?_
          refine lv_goto (tgt := 85) hx hb dX10_see_81 (by decide) ?_
          refine m_iast (j := ((3 * (τ4 63 20)) + 2).toNatClampNeg) C0 hH a_73 h.1 rfl dX10_see_85 (fun H locs hH => ?_)
          have h := h.2
          refine lv_aload_n hx hb dX10_see_86 rfl (lv_at hl 0 rfl) ?_
          refine lv_dup hx hb dX10_see_87 rfl ?_
          refine m_geti (x := τ4 63 20) C0 hH f_63_20 kF_X10_115 dX10_see_88 rfl ?_
          refine lv_iconst (v := 1) hx hb dX10_see_91 (by decide) ?_
          refine lv_iadd hx hb dX10_see_92 ?_
          refine m_puti C0 hH f_63_20 kF_X10_115 rfl dX10_see_93 rfl rfl (fun H locs hH => ?_)
          refine lv_aload_n hx hb dX10_see_96 rfl (lv_at hl 0 rfl) ?_
          refine m_geti (x := ((τ4 63 20) + 1)) C0 hH f_63_20 kF_X10_115 dX10_see_97 rfl ?_
          exact hret (some (.int ((τ4 63 20) + 1))) _ _ _ _ _ ⟨_, rfl, h⟩ hH ⟨dX10_see_100, .int, rfl, rfl⟩
      · have h := h.2 hc7
        refine lv_bipush (v := (-104)) hx hb dX10_see_35 (by decide) ?_
        exact hret (some (.int (-104))) _ _ _ _ _ ⟨_, rfl, h⟩ hH ⟨dX10_see_37, .int, rfl, rfl⟩
    · have h := h.2 hc6
      refine lv_bipush (v := (-102)) hx hb dX10_see_23 (by decide) ?_
      exact hret (some (.int (-102))) _ _ _ _ _ ⟨_, rfl, h⟩ hH ⟨dX10_see_25, .int, rfl, rfl⟩
  · have h := h.2 hc3
    refine lv_bipush (v := (-101)) hx hb dX10_see_8 (by decide) ?_
    exact hret (some (.int (-101))) _ _ _ _ _ ⟨_, rfl, h⟩ hH ⟨dX10_see_10, .int, rfl, rfl⟩

def r_X10_forget_0 (E : EE) (σ : Mm) (Q : Int32 → Mm → Prop) : Prop := Rn E M_X10_forget 0 [(0, .ref (Ad E 63))] [] σ (qi Q)
set_option maxRecDepth 20000 in
set_option maxHeartbeats 4000000 in
theorem s_X10_forget_0 (E : EE) (σ : Mm) (Q : Int32 → Mm → Prop) (h : Q (σ 63 20) (up σ 63 20 0)) : r_X10_forget_0 E σ Q := by
  intro p e R s m args below meth c Z cells slots H locs ls C0 hH hl hret
  have hx := C0.1
  have hb : c.code = cX10_forget := C0.2.1
  have hl : lv_has ls 2 [(0, .ref (Ad E 63))] := hl
  refine lv_aload_n hx hb dX10_forget_0 rfl (lv_at hl 0 rfl) ?_
  refine m_geti (x := σ 63 20) C0 hH f_63_20 kF_X10_115 dX10_forget_1 rfl ?_
  refine lv_istore_n (lv' := [(1, .int (σ 63 20)), (0, .ref (Ad E 63))]) hx hb dX10_forget_4 rfl hl (by decide) rfl (fun ls hl => ?_)
  refine lv_aload_n hx hb dX10_forget_5 rfl (lv_at hl 1 rfl) ?_
  refine lv_iconst (v := 0) hx hb dX10_forget_6 (by decide) ?_
  refine m_puti C0 hH f_63_20 kF_X10_115 rfl dX10_forget_7 rfl rfl (fun H locs hH => ?_)
  refine lv_iload_n hx hb dX10_forget_10 rfl (lv_at hl 0 rfl) ?_
  exact hret (some (.int (σ 63 20))) _ _ _ _ _ ⟨_, rfl, h⟩ hH ⟨dX10_forget_11, .int, rfl, rfl⟩

def r_X10_draw_0 (E : EE) (x1 : Int32) (σ : Mm) (Q : Int32 → Mm → Prop) : Prop := Rn E M_X10_draw 0 [(0, .ref (Ad E 63)), (1, .int x1)] [] σ (qi Q)
set_option maxRecDepth 20000 in
set_option maxHeartbeats 4000000 in
theorem s_X10_draw_0 (E : EE) (x1 : Int32) (σ : Mm) (Q : Int32 → Mm → Prop) (h : (¬ x1 = 0 ∧ Q ((((((1103515245 * ((σ 63 22).toInt64)) + 12345) &&& 2147483647).toInt32) / 65536) - ((((((1103515245 * ((σ 63 22).toInt64)) + 12345) &&& 2147483647).toInt32) / 65536) / x1) * x1) (up σ 63 22 ((((1103515245 * ((σ 63 22).toInt64)) + 12345) &&& 2147483647).toInt32)))) : r_X10_draw_0 E x1 σ Q := by
  intro p e R s m args below meth c Z cells slots H locs ls C0 hH hl hret
  have hx := C0.1
  have hb : c.code = cX10_draw := C0.2.1
  have hl : lv_has ls 2 [(0, .ref (Ad E 63)), (1, .int x1)] := hl
  refine lv_aload_n hx hb dX10_draw_0 rfl (lv_at hl 0 rfl) ?_
  refine lv_ldc2 hx hb C0.2.2.2.1 (C0.2.2.2.2.1 _ kC_X10_213) dX10_draw_1 ?_
  refine lv_aload_n hx hb dX10_draw_4 rfl (lv_at hl 0 rfl) ?_
  refine m_geti (x := σ 63 22) C0 hH f_63_22 kF_X10_215 dX10_draw_5 rfl ?_
  refine lv_i2l hx hb dX10_draw_8 rfl ?_
  refine lv_lmul hx hb dX10_draw_9 ?_
  refine lv_ldc2 hx hb C0.2.2.2.1 (C0.2.2.2.2.1 _ kC_X10_218) dX10_draw_10 ?_
  refine lv_ladd hx hb dX10_draw_13 ?_
  refine lv_ldc2 hx hb C0.2.2.2.1 (C0.2.2.2.2.1 _ kC_X10_220) dX10_draw_14 ?_
  refine lv_land hx hb dX10_draw_17 ?_
  refine lv_l2i hx hb dX10_draw_18 rfl ?_
  refine m_puti C0 hH f_63_22 kF_X10_215 rfl dX10_draw_19 rfl rfl (fun H locs hH => ?_)
  refine lv_aload_n hx hb dX10_draw_22 rfl (lv_at hl 0 rfl) ?_
  refine m_geti (x := (((1103515245 * ((σ 63 22).toInt64)) + 12345) &&& 2147483647).toInt32) C0 hH f_63_22 kF_X10_215 dX10_draw_23 rfl ?_
  refine lv_ldc hx hb C0.2.2.2.1 (C0.2.2.2.2.1 _ kC_X10_222) dX10_draw_26 ?_
  refine lv_idiv hx hb dX10_draw_28 (by decide) ?_
  refine lv_iload_n hx hb dX10_draw_29 rfl (lv_at hl 1 rfl) ?_
  refine lv_irem hx hb dX10_draw_30 h.1 ?_
  have h := h.2
  exact hret (some (.int ((((((1103515245 * ((σ 63 22).toInt64)) + 12345) &&& 2147483647).toInt32) / 65536) - ((((((1103515245 * ((σ 63 22).toInt64)) + 12345) &&& 2147483647).toInt32) / 65536) / x1) * x1))) _ _ _ _ _ ⟨_, rfl, h⟩ hH ⟨dX10_draw_31, .int, rfl, rfl⟩

def r_X10_warmAll_72_0 (E : EE) (σ : Mm) (Q : Int32 → Mm → Prop) : Prop := Rn E M_X10_warmAll 0 [(0, .ref (Ad E 63)), (1, .ref (Ad E 72))] [] σ (qi Q)
def r_X10_warmAll_72_4 (E : EE) (x2 : Int32) (x3 : Int32) (σ : Mm) (Q : Int32 → Mm → Prop) : Prop := Rn E M_X10_warmAll 4 [(0, .ref (Ad E 63)), (1, .ref (Ad E 72)), (2, .int x2), (3, .int x3)] [] σ (qi Q)
set_option maxRecDepth 20000 in
set_option maxHeartbeats 4000000 in
theorem s_X10_warmAll_72_0 (E : EE) (σ : Mm) (Q : Int32 → Mm → Prop) (h : r_X10_warmAll_72_4 E 0 0 σ Q) : r_X10_warmAll_72_0 E σ Q := by
  intro p e R s m args below meth c Z cells slots H locs ls C0 hH hl hret
  have hx := C0.1
  have hb : c.code = cX10_warmAll := C0.2.1
  have hl : lv_has ls 4 [(0, .ref (Ad E 63)), (1, .ref (Ad E 72))] := hl
  refine lv_iconst (v := 0) hx hb dX10_warmAll_0 (by decide) ?_
  refine lv_istore_n (lv' := [(2, .int 0), (0, .ref (Ad E 63)), (1, .ref (Ad E 72))]) hx hb dX10_warmAll_1 rfl hl (by decide) rfl (fun ls hl => ?_)
  refine lv_iconst (v := 0) hx hb dX10_warmAll_2 (by decide) ?_
  refine lv_istore_n (lv' := [(3, .int 0), (2, .int 0), (0, .ref (Ad E 63)), (1, .ref (Ad E 72))]) hx hb dX10_warmAll_3 rfl hl (by decide) rfl (fun ls hl => ?_)
  exact h p e R s m args below meth c Z cells slots H locs ls C0 hH (lv_sub hl [2, 3, 1, 0] rfl) hret
set_option maxRecDepth 20000 in
set_option maxHeartbeats 4000000 in
theorem s_X10_warmAll_72_4 (E : EE) (x2 : Int32) (x3 : Int32) (σ : Mm) (Q : Int32 → Mm → Prop) (h : (((σ 63 3) ≤ x3 → Q x2 σ) ∧ (¬ (σ 63 3) ≤ x3 → (vp_in x3 6 ∧ r_X10_warmAll_72_4 E (x2 + (σ 72 x3.toNatClampNeg)) (x3 + 1) σ Q)))) : r_X10_warmAll_72_4 E x2 x3 σ Q := by
  intro p e R s m args below meth c Z cells slots H locs ls C0 hH hl hret
  have hx := C0.1
  have hb : c.code = cX10_warmAll := C0.2.1
  have hl : lv_has ls 4 [(0, .ref (Ad E 63)), (1, .ref (Ad E 72)), (2, .int x2), (3, .int x3)] := hl
  refine lv_iload_n hx hb dX10_warmAll_4 rfl (lv_at hl 3 rfl) ?_
  refine lv_aload_n hx hb dX10_warmAll_5 rfl (lv_at hl 0 rfl) ?_
  refine m_geti (x := σ 63 3) C0 hH f_63_3 kF_X10_103 dX10_warmAll_6 rfl ?_
  refine lv_icmp_ge (tgt := 24) hx hb dX10_warmAll_9 (by decide) (fun hc1 => ?_) (fun hc1 => ?_)
  · have h := h.1 hc1
    refine lv_iload_n hx hb dX10_warmAll_24 rfl (lv_at hl 2 rfl) ?_
    exact hret (some (.int x2)) _ _ _ _ _ ⟨_, rfl, h⟩ hH ⟨dX10_warmAll_25, .int, rfl, rfl⟩
  · have h := h.2 hc1
    refine lv_iload_n hx hb dX10_warmAll_12 rfl (lv_at hl 2 rfl) ?_
    refine lv_aload_n hx hb dX10_warmAll_13 rfl (lv_at hl 1 rfl) ?_
    refine lv_iload_n hx hb dX10_warmAll_14 rfl (lv_at hl 3 rfl) ?_
    refine m_iald (x := σ 72 x3.toNatClampNeg) C0 hH a_72 h.1 dX10_warmAll_15 rfl ?_
    have h := h.2
    refine lv_iadd hx hb dX10_warmAll_16 ?_
    refine lv_istore_n (lv' := [(2, .int (x2 + (σ 72 x3.toNatClampNeg))), (0, .ref (Ad E 63)), (1, .ref (Ad E 72)), (3, .int x3)]) hx hb dX10_warmAll_17 rfl hl (by decide) rfl (fun ls hl => ?_)
    refine lv_iinc (v := (x3 + 1)) (lv' := [(3, .int (x3 + 1)), (2, .int (x2 + (σ 72 x3.toNatClampNeg))), (0, .ref (Ad E 63)), (1, .ref (Ad E 72))]) hx hb dX10_warmAll_18 hl (k := 3) rfl rfl (by decide) rfl (fun ls hl => ?_)
    refine lv_goto (tgt := 4) hx hb dX10_warmAll_21 (by decide) ?_
    exact h p e R s m args below meth c Z cells slots H locs ls C0 hH (lv_sub hl [2, 3, 1, 0] rfl) hret

def r_X10_winters_0 (E : EE) (x1 : Int32) (x2 : Int32) (x3 : Int32) (σ : Mm) (Q : Int32 → Mm → Prop) : Prop := Rn E M_X10_winters 0 [(0, .ref (Ad E 63)), (1, .int x1), (2, .int x2), (3, .int x3)] [] σ (qi Q)
def r_X10_winters_69 (E : EE) (x1 : Int32) (x2 : Int32) (x3 : Int32) (x4 : Int32) (x5 : Int32) (x6 : Int32) (σ : Mm) (Q : Int32 → Mm → Prop) : Prop := Rn E M_X10_winters 69 [(0, .ref (Ad E 63)), (1, .int x1), (2, .int x2), (3, .int x3), (4, .int x4), (5, .int x5), (6, .int x6)] [] σ (qi Q)
set_option maxRecDepth 20000 in
set_option maxHeartbeats 4000000 in
theorem s_X10_winters_0 (E : EE) (x1 : Int32) (x2 : Int32) (x3 : Int32) (σ : Mm) (Q : Int32 → Mm → Prop) (h : r_X10_in_0 E x1.toInt64 1 60 σ (fun r2 τ1 => ((r2 = 0 → Q (-102) τ1) ∧ (¬ r2 = 0 → ((x2 < 0 → Q (-102) τ1) ∧ (¬ x2 < 0 → r_X10_in_0 E x3.toInt64 0 2 τ1 (fun r6 τ5 => ((¬ r6 = 0 → r_X10_lacks_0 E  τ5 (fun r9 τ8 => ((r9 = 0 → r_X10_copy_66_72_0 E  (up τ8 63 22 x2) (fun τ11 => r_X10_winters_69 E x1 x2 x3 (τ11 63 6) 0 0 τ11 Q)) ∧ (¬ r9 = 0 → Q (-103) τ8)))) ∧ (r6 = 0 → Q (-102) τ5))))))))) : r_X10_winters_0 E x1 x2 x3 σ Q := by
  intro p e R s m args below meth c Z cells slots H locs ls C0 hH hl hret
  have hx := C0.1
  have hb : c.code = cX10_winters := C0.2.1
  have hl : lv_has ls 7 [(0, .ref (Ad E 63)), (1, .int x1), (2, .int x2), (3, .int x3)] := hl
  refine lv_iload_n hx hb dX10_winters_0 rfl (lv_at hl 1 rfl) ?_
  refine lv_i2l hx hb dX10_winters_1 rfl ?_
  refine lv_lconst (v := 1) hx hb dX10_winters_2 (by decide) ?_
  refine lv_ldc2 hx hb C0.2.2.2.1 (C0.2.2.2.2.1 _ kC_X10_223) dX10_winters_3 ?_
  refine m_cS (M2 := M_X10_in) (As := [.long x1.toInt64, .long 1, .long 60]) (rest := []) h C0 hH hl kc_X10_in ks_X10_in kM_X10_61 rfl (Nat.le_of_ble_eq_true rfl) (Nat.le_of_ble_eq_true rfl) ⟨Nat.le_of_ble_eq_true rfl, Nat.le_of_ble_eq_true rfl⟩ dX10_winters_6 rfl (fun r τ1 H locs hq hH => ?_)
  obtain ⟨r2, rfl, h⟩ := hq
  refine lv_if_eq (tgt := 28) hx hb dX10_winters_9 (by decide) (fun hc3 => ?_) (fun hc3 => ?_)
  · have h := h.1 hc3
    refine lv_bipush (v := (-102)) hx hb dX10_winters_28 (by decide) ?_
    exact hret (some (.int (-102))) _ _ _ _ _ ⟨_, rfl, h⟩ hH ⟨dX10_winters_30, .int, rfl, rfl⟩
  · have h := h.2 hc3
    refine lv_iload_n hx hb dX10_winters_12 rfl (lv_at hl 2 rfl) ?_
    refine lv_if_lt (tgt := 28) hx hb dX10_winters_13 (by decide) (fun hc4 => ?_) (fun hc4 => ?_)
    · have h := h.1 hc4
      refine lv_bipush (v := (-102)) hx hb dX10_winters_28 (by decide) ?_
      exact hret (some (.int (-102))) _ _ _ _ _ ⟨_, rfl, h⟩ hH ⟨dX10_winters_30, .int, rfl, rfl⟩
    · have h := h.2 hc4
      refine lv_iload_n hx hb dX10_winters_16 rfl (lv_at hl 3 rfl) ?_
      refine lv_i2l hx hb dX10_winters_17 rfl ?_
      refine lv_lconst (v := 0) hx hb dX10_winters_18 (by decide) ?_
      refine lv_ldc2 hx hb C0.2.2.2.1 (C0.2.2.2.2.1 _ kC_X10_191) dX10_winters_19 ?_
      refine m_cS (M2 := M_X10_in) (As := [.long x3.toInt64, .long 0, .long 2]) (rest := []) h C0 hH hl kc_X10_in ks_X10_in kM_X10_61 rfl (Nat.le_of_ble_eq_true rfl) (Nat.le_of_ble_eq_true rfl) ⟨Nat.le_of_ble_eq_true rfl, Nat.le_of_ble_eq_true rfl⟩ dX10_winters_22 rfl (fun r τ5 H locs hq hH => ?_)
      obtain ⟨r6, rfl, h⟩ := hq
      refine lv_if_ne (tgt := 31) hx hb dX10_winters_25 (by decide) (fun hc7 => ?_) (fun hc7 => ?_)
      · have h := h.1 hc7
        refine lv_aload_n hx hb dX10_winters_31 rfl (lv_at hl 0 rfl) ?_
        refine m_cV (M2 := M_X10_lacks) (As := []) (rest := []) h C0 hH hl kc_X10_lacks ki_X10_lacks kx_X10_lacks ob_63 kM_X10_161 rfl (Nat.le_of_ble_eq_true rfl) (Nat.le_of_ble_eq_true rfl) ⟨Nat.le_of_ble_eq_true rfl, Nat.le_of_ble_eq_true rfl⟩ dX10_winters_32 rfl (fun r τ8 H locs hq hH => ?_)
        obtain ⟨r9, rfl, h⟩ := hq
        refine lv_if_eq (tgt := 41) hx hb dX10_winters_35 (by decide) (fun hc10 => ?_) (fun hc10 => ?_)
        · have h := h.1 hc10
          refine lv_aload_n hx hb dX10_winters_41 rfl (lv_at hl 0 rfl) ?_
          refine lv_iload_n hx hb dX10_winters_42 rfl (lv_at hl 2 rfl) ?_
          refine m_puti C0 hH f_63_22 kF_X10_215 rfl dX10_winters_43 rfl rfl (fun H locs hH => ?_)
          refine lv_aload_n hx hb dX10_winters_46 rfl (lv_at hl 0 rfl) ?_
          refine m_getr C0 hH f_63_10 66 rfl kF_X10_16 dX10_winters_47 ?_
          refine lv_aload_n hx hb dX10_winters_50 rfl (lv_at hl 0 rfl) ?_
          refine m_getr C0 hH f_63_16 72 rfl kF_X10_34 dX10_winters_51 ?_
          refine m_cS (M2 := M_X10_copy) (As := [.ref (Ad E 66), .ref (Ad E 72)]) (rest := []) h C0 hH hl kc_X10_copy ks_X10_copy kM_X10_165 rfl (Nat.le_of_ble_eq_true rfl) (Nat.le_of_ble_eq_true rfl) ⟨Nat.le_of_ble_eq_true rfl, Nat.le_of_ble_eq_true rfl⟩ dX10_winters_54 rfl (fun r τ11 H locs hq hH => ?_)
          obtain ⟨rfl, h⟩ := hq
          refine lv_aload_n hx hb dX10_winters_57 rfl (lv_at hl 0 rfl) ?_
          refine m_geti (x := τ11 63 6) C0 hH f_63_6 kF_X10_109 dX10_winters_58 rfl ?_
          refine lv_istore (lv' := [(4, .int (τ11 63 6)), (0, .ref (Ad E 63)), (1, .int x1), (2, .int x2), (3, .int x3)]) hx hb dX10_winters_61 hl (by decide) rfl (fun ls hl => ?_)
          refine lv_iconst (v := 0) hx hb dX10_winters_63 (by decide) ?_
          refine lv_istore (lv' := [(5, .int 0), (4, .int (τ11 63 6)), (0, .ref (Ad E 63)), (1, .int x1), (2, .int x2), (3, .int x3)]) hx hb dX10_winters_64 hl (by decide) rfl (fun ls hl => ?_)
          refine lv_iconst (v := 0) hx hb dX10_winters_66 (by decide) ?_
          refine lv_istore (lv' := [(6, .int 0), (5, .int 0), (4, .int (τ11 63 6)), (0, .ref (Ad E 63)), (1, .int x1), (2, .int x2), (3, .int x3)]) hx hb dX10_winters_67 hl (by decide) rfl (fun ls hl => ?_)
          exact h p e R s m args below meth c Z cells slots H locs ls C0 hH (lv_sub hl [3, 4, 5, 6, 2, 1, 0] rfl) hret
        · have h := h.2 hc10
          refine lv_bipush (v := (-103)) hx hb dX10_winters_38 (by decide) ?_
          exact hret (some (.int (-103))) _ _ _ _ _ ⟨_, rfl, h⟩ hH ⟨dX10_winters_40, .int, rfl, rfl⟩
      · have h := h.2 hc7
        refine lv_bipush (v := (-102)) hx hb dX10_winters_28 (by decide) ?_
        exact hret (some (.int (-102))) _ _ _ _ _ ⟨_, rfl, h⟩ hH ⟨dX10_winters_30, .int, rfl, rfl⟩
set_option maxRecDepth 20000 in
set_option maxHeartbeats 4000000 in
theorem s_X10_winters_69 (E : EE) (x1 : Int32) (x2 : Int32) (x3 : Int32) (x4 : Int32) (x5 : Int32) (x6 : Int32) (σ : Mm) (Q : Int32 → Mm → Prop) (h : ((x1 ≤ x6 → ((¬ x3 = 0 → ((¬ x3 = 1 → Q (σ 63 22) σ) ∧ (x3 = 1 → r_X10_warmAll_72_0 E  σ (fun r5 τ4 => Q r5 τ4)))) ∧ (x3 = 0 → Q x5 σ))) ∧ (¬ x1 ≤ x6 → r_X10_draw_0 E (σ 63 4) σ (fun r7 τ6 => r_X10_sitsBy_0 E (x4 ^^^ (1 <<< (r7 &&& 31))) (τ6 63 5) τ6 (fun r9 τ8 => r_X10_sundayThen_0 E r9 τ8 (fun r11 τ10 => r_X10_ones_0 E r11 τ10 (fun r13 τ12 => r_X10_winters_69 E x1 x2 x3 (x4 ^^^ (1 <<< (r7 &&& 31))) (x5 + r13) (x6 + 1) τ12 Q))))))) : r_X10_winters_69 E x1 x2 x3 x4 x5 x6 σ Q := by
  intro p e R s m args below meth c Z cells slots H locs ls C0 hH hl hret
  have hx := C0.1
  have hb : c.code = cX10_winters := C0.2.1
  have hl : lv_has ls 7 [(0, .ref (Ad E 63)), (1, .int x1), (2, .int x2), (3, .int x3), (4, .int x4), (5, .int x5), (6, .int x6)] := hl
  refine lv_iload hx hb dX10_winters_69 (lv_at hl 6 rfl) ?_
  refine lv_iload_n hx hb dX10_winters_71 rfl (lv_at hl 1 rfl) ?_
  refine lv_icmp_ge (tgt := 118) hx hb dX10_winters_72 (by decide) (fun hc1 => ?_) (fun hc1 => ?_)
  · have h := h.1 hc1
    refine lv_iload_n hx hb dX10_winters_118 rfl (lv_at hl 3 rfl) ?_
    refine lv_if_ne (tgt := 127) hx hb dX10_winters_119 (by decide) (fun hc2 => ?_) (fun hc2 => ?_)
    · have h := h.1 hc2
      refine lv_iload_n hx hb dX10_winters_127 rfl (lv_at hl 3 rfl) ?_
      refine lv_iconst (v := 1) hx hb dX10_winters_128 (by decide) ?_
      refine lv_icmp_ne (tgt := 143) hx hb dX10_winters_129 (by decide) (fun hc3 => ?_) (fun hc3 => ?_)
      · have h := h.1 hc3
        refine lv_aload_n hx hb dX10_winters_143 rfl (lv_at hl 0 rfl) ?_
        refine m_geti (x := σ 63 22) C0 hH f_63_22 kF_X10_215 dX10_winters_144 rfl ?_
        exact hret (some (.int (σ 63 22))) _ _ _ _ _ ⟨_, rfl, h⟩ hH ⟨dX10_winters_147, .int, rfl, rfl⟩
      · have h := h.2 hc3
        refine lv_aload_n hx hb dX10_winters_132 rfl (lv_at hl 0 rfl) ?_
        refine lv_aload_n hx hb dX10_winters_133 rfl (lv_at hl 0 rfl) ?_
        refine m_getr C0 hH f_63_16 72 rfl kF_X10_34 dX10_winters_134 ?_
        refine m_cV (M2 := M_X10_warmAll) (As := [.ref (Ad E 72)]) (rest := []) h C0 hH hl kc_X10_warmAll ki_X10_warmAll kx_X10_warmAll ob_63 kM_X10_228 rfl (Nat.le_of_ble_eq_true rfl) (Nat.le_of_ble_eq_true rfl) ⟨Nat.le_of_ble_eq_true rfl, Nat.le_of_ble_eq_true rfl⟩ dX10_winters_137 rfl (fun r τ4 H locs hq hH => ?_)
        obtain ⟨r5, rfl, h⟩ := hq
        refine lv_goto (tgt := 147) hx hb dX10_winters_140 (by decide) ?_
        exact hret (some (.int r5)) _ _ _ _ _ ⟨_, rfl, h⟩ hH ⟨dX10_winters_147, .int, rfl, rfl⟩
    · have h := h.2 hc2
      refine lv_iload hx hb dX10_winters_122 (lv_at hl 5 rfl) ?_
      refine lv_goto (tgt := 147) hx hb dX10_winters_124 (by decide) ?_
      exact hret (some (.int x5)) _ _ _ _ _ ⟨_, rfl, h⟩ hH ⟨dX10_winters_147, .int, rfl, rfl⟩
  · have h := h.2 hc1
    refine lv_iload hx hb dX10_winters_75 (lv_at hl 4 rfl) ?_
    refine lv_iconst (v := 1) hx hb dX10_winters_77 (by decide) ?_
    refine lv_aload_n hx hb dX10_winters_78 rfl (lv_at hl 0 rfl) ?_
    refine lv_aload_n hx hb dX10_winters_79 rfl (lv_at hl 0 rfl) ?_
    refine m_geti (x := σ 63 4) C0 hH f_63_4 kF_X10_106 dX10_winters_80 rfl ?_
    refine m_cV (M2 := M_X10_draw) (As := [.int (σ 63 4)]) (rest := [.int 1, .int x4]) h C0 hH hl kc_X10_draw ki_X10_draw kx_X10_draw ob_63 kM_X10_225 rfl (Nat.le_of_ble_eq_true rfl) (Nat.le_of_ble_eq_true rfl) ⟨Nat.le_of_ble_eq_true rfl, Nat.le_of_ble_eq_true rfl⟩ dX10_winters_83 rfl (fun r τ6 H locs hq hH => ?_)
    obtain ⟨r7, rfl, h⟩ := hq
    refine lv_ishl hx hb dX10_winters_86 ?_
    refine lv_ixor hx hb dX10_winters_87 ?_
    refine lv_istore (lv' := [(4, .int (x4 ^^^ (1 <<< (r7 &&& 31)))), (0, .ref (Ad E 63)), (1, .int x1), (2, .int x2), (3, .int x3), (5, .int x5), (6, .int x6)]) hx hb dX10_winters_88 hl (by decide) rfl (fun ls hl => ?_)
    refine lv_iload hx hb dX10_winters_90 (lv_at hl 5 rfl) ?_
    refine lv_aload_n hx hb dX10_winters_92 rfl (lv_at hl 1 rfl) ?_
    refine lv_aload_n hx hb dX10_winters_93 rfl (lv_at hl 1 rfl) ?_
    refine lv_iload hx hb dX10_winters_94 (lv_at hl 0 rfl) ?_
    refine lv_aload_n hx hb dX10_winters_96 rfl (lv_at hl 1 rfl) ?_
    refine m_geti (x := τ6 63 5) C0 hH f_63_5 kF_X10_100 dX10_winters_97 rfl ?_
    refine m_cV (M2 := M_X10_sitsBy) (As := [.int (x4 ^^^ (1 <<< (r7 &&& 31))), .int (τ6 63 5)]) (rest := [.ref (Ad E 63), .int x5]) h C0 hH hl kc_X10_sitsBy ki_X10_sitsBy kx_X10_sitsBy ob_63 kM_X10_125 rfl (Nat.le_of_ble_eq_true rfl) (Nat.le_of_ble_eq_true rfl) ⟨Nat.le_of_ble_eq_true rfl, Nat.le_of_ble_eq_true rfl⟩ dX10_winters_100 rfl (fun r τ8 H locs hq hH => ?_)
    obtain ⟨r9, rfl, h⟩ := hq
    refine m_cV (M2 := M_X10_sundayThen) (As := [.int r9]) (rest := [.int x5]) h C0 hH hl kc_X10_sundayThen ki_X10_sundayThen kx_X10_sundayThen ob_63 kM_X10_169 rfl (Nat.le_of_ble_eq_true rfl) (Nat.le_of_ble_eq_true rfl) ⟨Nat.le_of_ble_eq_true rfl, Nat.le_of_ble_eq_true rfl⟩ dX10_winters_103 rfl (fun r τ10 H locs hq hH => ?_)
    obtain ⟨r11, rfl, h⟩ := hq
    refine m_cS (M2 := M_X10_ones) (As := [.int r11]) (rest := [.int x5]) h C0 hH hl kc_X10_ones ks_X10_ones kM_X10_172 rfl (Nat.le_of_ble_eq_true rfl) (Nat.le_of_ble_eq_true rfl) ⟨Nat.le_of_ble_eq_true rfl, Nat.le_of_ble_eq_true rfl⟩ dX10_winters_106 rfl (fun r τ12 H locs hq hH => ?_)
    obtain ⟨r13, rfl, h⟩ := hq
    refine lv_iadd hx hb dX10_winters_109 ?_
    refine lv_istore (lv' := [(5, .int (x5 + r13)), (4, .int (x4 ^^^ (1 <<< (r7 &&& 31)))), (0, .ref (Ad E 63)), (1, .int x1), (2, .int x2), (3, .int x3), (6, .int x6)]) hx hb dX10_winters_110 hl (by decide) rfl (fun ls hl => ?_)
    refine lv_iinc (v := (x6 + 1)) (lv' := [(6, .int (x6 + 1)), (5, .int (x5 + r13)), (4, .int (x4 ^^^ (1 <<< (r7 &&& 31)))), (0, .ref (Ad E 63)), (1, .int x1), (2, .int x2), (3, .int x3)]) hx hb dX10_winters_112 hl (k := 6) rfl rfl (by decide) rfl (fun ls hl => ?_)
    refine lv_goto (tgt := 69) hx hb dX10_winters_115 (by decide) ?_
    exact h p e R s m args below meth c Z cells slots H locs ls C0 hH (lv_sub hl [3, 4, 5, 6, 2, 1, 0] rfl) hret

def r_X10_copy_65_74_0 (E : EE) (σ : Mm) (Q : Mm → Prop) : Prop := Rn E M_X10_copy 0 [(0, .ref (Ad E 65)), (1, .ref (Ad E 74))] [] σ (qv Q)
def r_X10_copy_65_74_2 (E : EE) (x2 : Int32) (σ : Mm) (Q : Mm → Prop) : Prop := Rn E M_X10_copy 2 [(0, .ref (Ad E 65)), (1, .ref (Ad E 74)), (2, .int x2)] [] σ (qv Q)
set_option maxRecDepth 20000 in
set_option maxHeartbeats 4000000 in
theorem s_X10_copy_65_74_0 (E : EE) (σ : Mm) (Q : Mm → Prop) (h : r_X10_copy_65_74_2 E 0 σ Q) : r_X10_copy_65_74_0 E σ Q := by
  intro p e R s m args below meth c Z cells slots H locs ls C0 hH hl hret
  have hx := C0.1
  have hb : c.code = cX10_copy := C0.2.1
  have hl : lv_has ls 3 [(0, .ref (Ad E 65)), (1, .ref (Ad E 74))] := hl
  refine lv_iconst (v := 0) hx hb dX10_copy_0 (by decide) ?_
  refine lv_istore_n (lv' := [(2, .int 0), (0, .ref (Ad E 65)), (1, .ref (Ad E 74))]) hx hb dX10_copy_1 rfl hl (by decide) rfl (fun ls hl => ?_)
  exact h p e R s m args below meth c Z cells slots H locs ls C0 hH (lv_sub hl [1, 2, 0] rfl) hret
set_option maxRecDepth 20000 in
set_option maxHeartbeats 4000000 in
theorem s_X10_copy_65_74_2 (E : EE) (x2 : Int32) (σ : Mm) (Q : Mm → Prop) (h : ((6 ≤ x2 → Q σ) ∧ (¬ 6 ≤ x2 → (vp_in x2 6 ∧ (vp_in x2 6 ∧ r_X10_copy_65_74_2 E (x2 + 1) (up σ 74 x2.toNatClampNeg (σ 65 x2.toNatClampNeg)) Q))))) : r_X10_copy_65_74_2 E x2 σ Q := by
  intro p e R s m args below meth c Z cells slots H locs ls C0 hH hl hret
  have hx := C0.1
  have hb : c.code = cX10_copy := C0.2.1
  have hl : lv_has ls 3 [(0, .ref (Ad E 65)), (1, .ref (Ad E 74)), (2, .int x2)] := hl
  refine lv_iload_n hx hb dX10_copy_2 rfl (lv_at hl 2 rfl) ?_
  refine lv_aload_n hx hb dX10_copy_3 rfl (lv_at hl 0 rfl) ?_
  refine m_alen (x := 6) C0 hH a_65 dX10_copy_4 (by decide) ?_
  refine lv_icmp_ge (tgt := 20) hx hb dX10_copy_5 (by decide) (fun hc1 => ?_) (fun hc1 => ?_)
  · have h := h.1 hc1
    exact hret none _ _ _ _ _ ⟨rfl, h⟩ hH ⟨dX10_copy_20, rfl⟩
  · have h := h.2 hc1
    refine lv_aload_n hx hb dX10_copy_8 rfl (lv_at hl 1 rfl) ?_
    refine lv_iload_n hx hb dX10_copy_9 rfl (lv_at hl 2 rfl) ?_
    refine lv_aload_n hx hb dX10_copy_10 rfl (lv_at hl 0 rfl) ?_
    refine lv_iload_n hx hb dX10_copy_11 rfl (lv_at hl 2 rfl) ?_
    refine m_iald (x := σ 65 x2.toNatClampNeg) C0 hH a_65 h.1 dX10_copy_12 rfl ?_
    have h := h.2
    refine m_iast (j := x2.toNatClampNeg) C0 hH a_74 h.1 rfl dX10_copy_13 (fun H locs hH => ?_)
    have h := h.2
    refine lv_iinc (v := (x2 + 1)) (lv' := [(2, .int (x2 + 1)), (0, .ref (Ad E 65)), (1, .ref (Ad E 74))]) hx hb dX10_copy_14 hl (k := 2) rfl rfl (by decide) rfl (fun ls hl => ?_)
    refine lv_goto (tgt := 2) hx hb dX10_copy_17 (by decide) ?_
    exact h p e R s m args below meth c Z cells slots H locs ls C0 hH (lv_sub hl [1, 2, 0] rfl) hret

def r_X10_copy_66_75_0 (E : EE) (σ : Mm) (Q : Mm → Prop) : Prop := Rn E M_X10_copy 0 [(0, .ref (Ad E 66)), (1, .ref (Ad E 75))] [] σ (qv Q)
def r_X10_copy_66_75_2 (E : EE) (x2 : Int32) (σ : Mm) (Q : Mm → Prop) : Prop := Rn E M_X10_copy 2 [(0, .ref (Ad E 66)), (1, .ref (Ad E 75)), (2, .int x2)] [] σ (qv Q)
set_option maxRecDepth 20000 in
set_option maxHeartbeats 4000000 in
theorem s_X10_copy_66_75_0 (E : EE) (σ : Mm) (Q : Mm → Prop) (h : r_X10_copy_66_75_2 E 0 σ Q) : r_X10_copy_66_75_0 E σ Q := by
  intro p e R s m args below meth c Z cells slots H locs ls C0 hH hl hret
  have hx := C0.1
  have hb : c.code = cX10_copy := C0.2.1
  have hl : lv_has ls 3 [(0, .ref (Ad E 66)), (1, .ref (Ad E 75))] := hl
  refine lv_iconst (v := 0) hx hb dX10_copy_0 (by decide) ?_
  refine lv_istore_n (lv' := [(2, .int 0), (0, .ref (Ad E 66)), (1, .ref (Ad E 75))]) hx hb dX10_copy_1 rfl hl (by decide) rfl (fun ls hl => ?_)
  exact h p e R s m args below meth c Z cells slots H locs ls C0 hH (lv_sub hl [1, 2, 0] rfl) hret
set_option maxRecDepth 20000 in
set_option maxHeartbeats 4000000 in
theorem s_X10_copy_66_75_2 (E : EE) (x2 : Int32) (σ : Mm) (Q : Mm → Prop) (h : ((6 ≤ x2 → Q σ) ∧ (¬ 6 ≤ x2 → (vp_in x2 6 ∧ (vp_in x2 6 ∧ r_X10_copy_66_75_2 E (x2 + 1) (up σ 75 x2.toNatClampNeg (σ 66 x2.toNatClampNeg)) Q))))) : r_X10_copy_66_75_2 E x2 σ Q := by
  intro p e R s m args below meth c Z cells slots H locs ls C0 hH hl hret
  have hx := C0.1
  have hb : c.code = cX10_copy := C0.2.1
  have hl : lv_has ls 3 [(0, .ref (Ad E 66)), (1, .ref (Ad E 75)), (2, .int x2)] := hl
  refine lv_iload_n hx hb dX10_copy_2 rfl (lv_at hl 2 rfl) ?_
  refine lv_aload_n hx hb dX10_copy_3 rfl (lv_at hl 0 rfl) ?_
  refine m_alen (x := 6) C0 hH a_66 dX10_copy_4 (by decide) ?_
  refine lv_icmp_ge (tgt := 20) hx hb dX10_copy_5 (by decide) (fun hc1 => ?_) (fun hc1 => ?_)
  · have h := h.1 hc1
    exact hret none _ _ _ _ _ ⟨rfl, h⟩ hH ⟨dX10_copy_20, rfl⟩
  · have h := h.2 hc1
    refine lv_aload_n hx hb dX10_copy_8 rfl (lv_at hl 1 rfl) ?_
    refine lv_iload_n hx hb dX10_copy_9 rfl (lv_at hl 2 rfl) ?_
    refine lv_aload_n hx hb dX10_copy_10 rfl (lv_at hl 0 rfl) ?_
    refine lv_iload_n hx hb dX10_copy_11 rfl (lv_at hl 2 rfl) ?_
    refine m_iald (x := σ 66 x2.toNatClampNeg) C0 hH a_66 h.1 dX10_copy_12 rfl ?_
    have h := h.2
    refine m_iast (j := x2.toNatClampNeg) C0 hH a_75 h.1 rfl dX10_copy_13 (fun H locs hH => ?_)
    have h := h.2
    refine lv_iinc (v := (x2 + 1)) (lv' := [(2, .int (x2 + 1)), (0, .ref (Ad E 66)), (1, .ref (Ad E 75))]) hx hb dX10_copy_14 hl (k := 2) rfl rfl (by decide) rfl (fun ls hl => ?_)
    refine lv_goto (tgt := 2) hx hb dX10_copy_17 (by decide) ?_
    exact h p e R s m args below meth c Z cells slots H locs ls C0 hH (lv_sub hl [1, 2, 0] rfl) hret

def r_X10_copy_67_76_0 (E : EE) (σ : Mm) (Q : Mm → Prop) : Prop := Rn E M_X10_copy 0 [(0, .ref (Ad E 67)), (1, .ref (Ad E 76))] [] σ (qv Q)
def r_X10_copy_67_76_2 (E : EE) (x2 : Int32) (σ : Mm) (Q : Mm → Prop) : Prop := Rn E M_X10_copy 2 [(0, .ref (Ad E 67)), (1, .ref (Ad E 76)), (2, .int x2)] [] σ (qv Q)
set_option maxRecDepth 20000 in
set_option maxHeartbeats 4000000 in
theorem s_X10_copy_67_76_0 (E : EE) (σ : Mm) (Q : Mm → Prop) (h : r_X10_copy_67_76_2 E 0 σ Q) : r_X10_copy_67_76_0 E σ Q := by
  intro p e R s m args below meth c Z cells slots H locs ls C0 hH hl hret
  have hx := C0.1
  have hb : c.code = cX10_copy := C0.2.1
  have hl : lv_has ls 3 [(0, .ref (Ad E 67)), (1, .ref (Ad E 76))] := hl
  refine lv_iconst (v := 0) hx hb dX10_copy_0 (by decide) ?_
  refine lv_istore_n (lv' := [(2, .int 0), (0, .ref (Ad E 67)), (1, .ref (Ad E 76))]) hx hb dX10_copy_1 rfl hl (by decide) rfl (fun ls hl => ?_)
  exact h p e R s m args below meth c Z cells slots H locs ls C0 hH (lv_sub hl [1, 2, 0] rfl) hret
set_option maxRecDepth 20000 in
set_option maxHeartbeats 4000000 in
theorem s_X10_copy_67_76_2 (E : EE) (x2 : Int32) (σ : Mm) (Q : Mm → Prop) (h : ((6 ≤ x2 → Q σ) ∧ (¬ 6 ≤ x2 → (vp_in x2 6 ∧ (vp_in x2 6 ∧ r_X10_copy_67_76_2 E (x2 + 1) (up σ 76 x2.toNatClampNeg (σ 67 x2.toNatClampNeg)) Q))))) : r_X10_copy_67_76_2 E x2 σ Q := by
  intro p e R s m args below meth c Z cells slots H locs ls C0 hH hl hret
  have hx := C0.1
  have hb : c.code = cX10_copy := C0.2.1
  have hl : lv_has ls 3 [(0, .ref (Ad E 67)), (1, .ref (Ad E 76)), (2, .int x2)] := hl
  refine lv_iload_n hx hb dX10_copy_2 rfl (lv_at hl 2 rfl) ?_
  refine lv_aload_n hx hb dX10_copy_3 rfl (lv_at hl 0 rfl) ?_
  refine m_alen (x := 6) C0 hH a_67 dX10_copy_4 (by decide) ?_
  refine lv_icmp_ge (tgt := 20) hx hb dX10_copy_5 (by decide) (fun hc1 => ?_) (fun hc1 => ?_)
  · have h := h.1 hc1
    exact hret none _ _ _ _ _ ⟨rfl, h⟩ hH ⟨dX10_copy_20, rfl⟩
  · have h := h.2 hc1
    refine lv_aload_n hx hb dX10_copy_8 rfl (lv_at hl 1 rfl) ?_
    refine lv_iload_n hx hb dX10_copy_9 rfl (lv_at hl 2 rfl) ?_
    refine lv_aload_n hx hb dX10_copy_10 rfl (lv_at hl 0 rfl) ?_
    refine lv_iload_n hx hb dX10_copy_11 rfl (lv_at hl 2 rfl) ?_
    refine m_iald (x := σ 67 x2.toNatClampNeg) C0 hH a_67 h.1 dX10_copy_12 rfl ?_
    have h := h.2
    refine m_iast (j := x2.toNatClampNeg) C0 hH a_76 h.1 rfl dX10_copy_13 (fun H locs hH => ?_)
    have h := h.2
    refine lv_iinc (v := (x2 + 1)) (lv' := [(2, .int (x2 + 1)), (0, .ref (Ad E 67)), (1, .ref (Ad E 76))]) hx hb dX10_copy_14 hl (k := 2) rfl rfl (by decide) rfl (fun ls hl => ?_)
    refine lv_goto (tgt := 2) hx hb dX10_copy_17 (by decide) ?_
    exact h p e R s m args below meth c Z cells slots H locs ls C0 hH (lv_sub hl [1, 2, 0] rfl) hret

def r_X10_copy_70_77_0 (E : EE) (σ : Mm) (Q : Mm → Prop) : Prop := Rn E M_X10_copy 0 [(0, .ref (Ad E 70)), (1, .ref (Ad E 77))] [] σ (qv Q)
def r_X10_copy_70_77_2 (E : EE) (x2 : Int32) (σ : Mm) (Q : Mm → Prop) : Prop := Rn E M_X10_copy 2 [(0, .ref (Ad E 70)), (1, .ref (Ad E 77)), (2, .int x2)] [] σ (qv Q)
set_option maxRecDepth 20000 in
set_option maxHeartbeats 4000000 in
theorem s_X10_copy_70_77_0 (E : EE) (σ : Mm) (Q : Mm → Prop) (h : r_X10_copy_70_77_2 E 0 σ Q) : r_X10_copy_70_77_0 E σ Q := by
  intro p e R s m args below meth c Z cells slots H locs ls C0 hH hl hret
  have hx := C0.1
  have hb : c.code = cX10_copy := C0.2.1
  have hl : lv_has ls 3 [(0, .ref (Ad E 70)), (1, .ref (Ad E 77))] := hl
  refine lv_iconst (v := 0) hx hb dX10_copy_0 (by decide) ?_
  refine lv_istore_n (lv' := [(2, .int 0), (0, .ref (Ad E 70)), (1, .ref (Ad E 77))]) hx hb dX10_copy_1 rfl hl (by decide) rfl (fun ls hl => ?_)
  exact h p e R s m args below meth c Z cells slots H locs ls C0 hH (lv_sub hl [1, 2, 0] rfl) hret
set_option maxRecDepth 20000 in
set_option maxHeartbeats 4000000 in
theorem s_X10_copy_70_77_2 (E : EE) (x2 : Int32) (σ : Mm) (Q : Mm → Prop) (h : ((8 ≤ x2 → Q σ) ∧ (¬ 8 ≤ x2 → (vp_in x2 8 ∧ (vp_in x2 8 ∧ r_X10_copy_70_77_2 E (x2 + 1) (up σ 77 x2.toNatClampNeg (σ 70 x2.toNatClampNeg)) Q))))) : r_X10_copy_70_77_2 E x2 σ Q := by
  intro p e R s m args below meth c Z cells slots H locs ls C0 hH hl hret
  have hx := C0.1
  have hb : c.code = cX10_copy := C0.2.1
  have hl : lv_has ls 3 [(0, .ref (Ad E 70)), (1, .ref (Ad E 77)), (2, .int x2)] := hl
  refine lv_iload_n hx hb dX10_copy_2 rfl (lv_at hl 2 rfl) ?_
  refine lv_aload_n hx hb dX10_copy_3 rfl (lv_at hl 0 rfl) ?_
  refine m_alen (x := 8) C0 hH a_70 dX10_copy_4 (by decide) ?_
  refine lv_icmp_ge (tgt := 20) hx hb dX10_copy_5 (by decide) (fun hc1 => ?_) (fun hc1 => ?_)
  · have h := h.1 hc1
    exact hret none _ _ _ _ _ ⟨rfl, h⟩ hH ⟨dX10_copy_20, rfl⟩
  · have h := h.2 hc1
    refine lv_aload_n hx hb dX10_copy_8 rfl (lv_at hl 1 rfl) ?_
    refine lv_iload_n hx hb dX10_copy_9 rfl (lv_at hl 2 rfl) ?_
    refine lv_aload_n hx hb dX10_copy_10 rfl (lv_at hl 0 rfl) ?_
    refine lv_iload_n hx hb dX10_copy_11 rfl (lv_at hl 2 rfl) ?_
    refine m_iald (x := σ 70 x2.toNatClampNeg) C0 hH a_70 h.1 dX10_copy_12 rfl ?_
    have h := h.2
    refine m_iast (j := x2.toNatClampNeg) C0 hH a_77 h.1 rfl dX10_copy_13 (fun H locs hH => ?_)
    have h := h.2
    refine lv_iinc (v := (x2 + 1)) (lv' := [(2, .int (x2 + 1)), (0, .ref (Ad E 70)), (1, .ref (Ad E 77))]) hx hb dX10_copy_14 hl (k := 2) rfl rfl (by decide) rfl (fun ls hl => ?_)
    refine lv_goto (tgt := 2) hx hb dX10_copy_17 (by decide) ?_
    exact h p e R s m args below meth c Z cells slots H locs ls C0 hH (lv_sub hl [1, 2, 0] rfl) hret

def r_X10_copy_73_78_0 (E : EE) (σ : Mm) (Q : Mm → Prop) : Prop := Rn E M_X10_copy 0 [(0, .ref (Ad E 73)), (1, .ref (Ad E 78))] [] σ (qv Q)
def r_X10_copy_73_78_2 (E : EE) (x2 : Int32) (σ : Mm) (Q : Mm → Prop) : Prop := Rn E M_X10_copy 2 [(0, .ref (Ad E 73)), (1, .ref (Ad E 78)), (2, .int x2)] [] σ (qv Q)
set_option maxRecDepth 20000 in
set_option maxHeartbeats 4000000 in
theorem s_X10_copy_73_78_0 (E : EE) (σ : Mm) (Q : Mm → Prop) (h : r_X10_copy_73_78_2 E 0 σ Q) : r_X10_copy_73_78_0 E σ Q := by
  intro p e R s m args below meth c Z cells slots H locs ls C0 hH hl hret
  have hx := C0.1
  have hb : c.code = cX10_copy := C0.2.1
  have hl : lv_has ls 3 [(0, .ref (Ad E 73)), (1, .ref (Ad E 78))] := hl
  refine lv_iconst (v := 0) hx hb dX10_copy_0 (by decide) ?_
  refine lv_istore_n (lv' := [(2, .int 0), (0, .ref (Ad E 73)), (1, .ref (Ad E 78))]) hx hb dX10_copy_1 rfl hl (by decide) rfl (fun ls hl => ?_)
  exact h p e R s m args below meth c Z cells slots H locs ls C0 hH (lv_sub hl [1, 2, 0] rfl) hret
set_option maxRecDepth 20000 in
set_option maxHeartbeats 4000000 in
theorem s_X10_copy_73_78_2 (E : EE) (x2 : Int32) (σ : Mm) (Q : Mm → Prop) (h : ((18 ≤ x2 → Q σ) ∧ (¬ 18 ≤ x2 → (vp_in x2 18 ∧ (vp_in x2 18 ∧ r_X10_copy_73_78_2 E (x2 + 1) (up σ 78 x2.toNatClampNeg (σ 73 x2.toNatClampNeg)) Q))))) : r_X10_copy_73_78_2 E x2 σ Q := by
  intro p e R s m args below meth c Z cells slots H locs ls C0 hH hl hret
  have hx := C0.1
  have hb : c.code = cX10_copy := C0.2.1
  have hl : lv_has ls 3 [(0, .ref (Ad E 73)), (1, .ref (Ad E 78)), (2, .int x2)] := hl
  refine lv_iload_n hx hb dX10_copy_2 rfl (lv_at hl 2 rfl) ?_
  refine lv_aload_n hx hb dX10_copy_3 rfl (lv_at hl 0 rfl) ?_
  refine m_alen (x := 18) C0 hH a_73 dX10_copy_4 (by decide) ?_
  refine lv_icmp_ge (tgt := 20) hx hb dX10_copy_5 (by decide) (fun hc1 => ?_) (fun hc1 => ?_)
  · have h := h.1 hc1
    exact hret none _ _ _ _ _ ⟨rfl, h⟩ hH ⟨dX10_copy_20, rfl⟩
  · have h := h.2 hc1
    refine lv_aload_n hx hb dX10_copy_8 rfl (lv_at hl 1 rfl) ?_
    refine lv_iload_n hx hb dX10_copy_9 rfl (lv_at hl 2 rfl) ?_
    refine lv_aload_n hx hb dX10_copy_10 rfl (lv_at hl 0 rfl) ?_
    refine lv_iload_n hx hb dX10_copy_11 rfl (lv_at hl 2 rfl) ?_
    refine m_iald (x := σ 73 x2.toNatClampNeg) C0 hH a_73 h.1 dX10_copy_12 rfl ?_
    have h := h.2
    refine m_iast (j := x2.toNatClampNeg) C0 hH a_78 h.1 rfl dX10_copy_13 (fun H locs hH => ?_)
    have h := h.2
    refine lv_iinc (v := (x2 + 1)) (lv' := [(2, .int (x2 + 1)), (0, .ref (Ad E 73)), (1, .ref (Ad E 78))]) hx hb dX10_copy_14 hl (k := 2) rfl rfl (by decide) rfl (fun ls hl => ?_)
    refine lv_goto (tgt := 2) hx hb dX10_copy_17 (by decide) ?_
    exact h p e R s m args below meth c Z cells slots H locs ls C0 hH (lv_sub hl [1, 2, 0] rfl) hret

def r_X10_image_0 (E : EE) (σ : Mm) (Q : Int32 → Mm → Prop) : Prop := Rn E M_X10_image 0 [(0, .ref (Ad E 63))] [] σ (qi Q)
set_option maxRecDepth 20000 in
set_option maxHeartbeats 4000000 in
theorem s_X10_image_0 (E : EE) (σ : Mm) (Q : Int32 → Mm → Prop) (h : r_X10_lacks_0 E  σ (fun r2 τ1 => ((r2 = 0 → r_X10_copy_65_74_0 E  τ1 (fun τ4 => r_X10_copy_66_75_0 E  τ4 (fun τ5 => r_X10_copy_67_76_0 E  τ5 (fun τ6 => r_X10_copy_70_77_0 E  τ6 (fun τ7 => r_X10_copy_73_78_0 E  τ7 (fun τ8 => Q (τ8 63 7) (up (up (up (up (up τ8 63 24 (τ8 63 5)) 63 25 (τ8 63 6)) 63 26 (τ8 63 7)) 63 27 (τ8 63 20)) 63 23 (τ8 63 8)))))))) ∧ (¬ r2 = 0 → Q (-103) τ1)))) : r_X10_image_0 E σ Q := by
  intro p e R s m args below meth c Z cells slots H locs ls C0 hH hl hret
  have hx := C0.1
  have hb : c.code = cX10_image := C0.2.1
  have hl : lv_has ls 1 [(0, .ref (Ad E 63))] := hl
  refine lv_aload_n hx hb dX10_image_0 rfl (lv_at hl 0 rfl) ?_
  refine m_cV (M2 := M_X10_lacks) (As := []) (rest := []) h C0 hH hl kc_X10_lacks ki_X10_lacks kx_X10_lacks ob_63 kM_X10_161 rfl (Nat.le_of_ble_eq_true rfl) (Nat.le_of_ble_eq_true rfl) ⟨Nat.le_of_ble_eq_true rfl, Nat.le_of_ble_eq_true rfl⟩ dX10_image_1 rfl (fun r τ1 H locs hq hH => ?_)
  obtain ⟨r2, rfl, h⟩ := hq
  refine lv_if_eq (tgt := 10) hx hb dX10_image_4 (by decide) (fun hc3 => ?_) (fun hc3 => ?_)
  · have h := h.1 hc3
    refine lv_aload_n hx hb dX10_image_10 rfl (lv_at hl 0 rfl) ?_
    refine m_getr C0 hH f_63_9 65 rfl kF_X10_13 dX10_image_11 ?_
    refine lv_aload_n hx hb dX10_image_14 rfl (lv_at hl 0 rfl) ?_
    refine m_getr C0 hH f_63_28 74 rfl kF_X10_40 dX10_image_15 ?_
    refine m_cS (M2 := M_X10_copy) (As := [.ref (Ad E 65), .ref (Ad E 74)]) (rest := []) h C0 hH hl kc_X10_copy ks_X10_copy kM_X10_165 rfl (Nat.le_of_ble_eq_true rfl) (Nat.le_of_ble_eq_true rfl) ⟨Nat.le_of_ble_eq_true rfl, Nat.le_of_ble_eq_true rfl⟩ dX10_image_18 rfl (fun r τ4 H locs hq hH => ?_)
    obtain ⟨rfl, h⟩ := hq
    refine lv_aload_n hx hb dX10_image_21 rfl (lv_at hl 0 rfl) ?_
    refine m_getr C0 hH f_63_10 66 rfl kF_X10_16 dX10_image_22 ?_
    refine lv_aload_n hx hb dX10_image_25 rfl (lv_at hl 0 rfl) ?_
    refine m_getr C0 hH f_63_29 75 rfl kF_X10_43 dX10_image_26 ?_
    refine m_cS (M2 := M_X10_copy) (As := [.ref (Ad E 66), .ref (Ad E 75)]) (rest := []) h C0 hH hl kc_X10_copy ks_X10_copy kM_X10_165 rfl (Nat.le_of_ble_eq_true rfl) (Nat.le_of_ble_eq_true rfl) ⟨Nat.le_of_ble_eq_true rfl, Nat.le_of_ble_eq_true rfl⟩ dX10_image_29 rfl (fun r τ5 H locs hq hH => ?_)
    obtain ⟨rfl, h⟩ := hq
    refine lv_aload_n hx hb dX10_image_32 rfl (lv_at hl 0 rfl) ?_
    refine m_getr C0 hH f_63_11 67 rfl kF_X10_19 dX10_image_33 ?_
    refine lv_aload_n hx hb dX10_image_36 rfl (lv_at hl 0 rfl) ?_
    refine m_getr C0 hH f_63_30 76 rfl kF_X10_46 dX10_image_37 ?_
    refine m_cS (M2 := M_X10_copy) (As := [.ref (Ad E 67), .ref (Ad E 76)]) (rest := []) h C0 hH hl kc_X10_copy ks_X10_copy kM_X10_165 rfl (Nat.le_of_ble_eq_true rfl) (Nat.le_of_ble_eq_true rfl) ⟨Nat.le_of_ble_eq_true rfl, Nat.le_of_ble_eq_true rfl⟩ dX10_image_40 rfl (fun r τ6 H locs hq hH => ?_)
    obtain ⟨rfl, h⟩ := hq
    refine lv_aload_n hx hb dX10_image_43 rfl (lv_at hl 0 rfl) ?_
    refine m_getr C0 hH f_63_14 70 rfl kF_X10_28 dX10_image_44 ?_
    refine lv_aload_n hx hb dX10_image_47 rfl (lv_at hl 0 rfl) ?_
    refine m_getr C0 hH f_63_31 77 rfl kF_X10_49 dX10_image_48 ?_
    refine m_cS (M2 := M_X10_copy) (As := [.ref (Ad E 70), .ref (Ad E 77)]) (rest := []) h C0 hH hl kc_X10_copy ks_X10_copy kM_X10_165 rfl (Nat.le_of_ble_eq_true rfl) (Nat.le_of_ble_eq_true rfl) ⟨Nat.le_of_ble_eq_true rfl, Nat.le_of_ble_eq_true rfl⟩ dX10_image_51 rfl (fun r τ7 H locs hq hH => ?_)
    obtain ⟨rfl, h⟩ := hq
    refine lv_aload_n hx hb dX10_image_54 rfl (lv_at hl 0 rfl) ?_
    refine m_getr C0 hH f_63_21 73 rfl kF_X10_37 dX10_image_55 ?_
    refine lv_aload_n hx hb dX10_image_58 rfl (lv_at hl 0 rfl) ?_
    refine m_getr C0 hH f_63_32 78 rfl kF_X10_52 dX10_image_59 ?_
    refine m_cS (M2 := M_X10_copy) (As := [.ref (Ad E 73), .ref (Ad E 78)]) (rest := []) h C0 hH hl kc_X10_copy ks_X10_copy kM_X10_165 rfl (Nat.le_of_ble_eq_true rfl) (Nat.le_of_ble_eq_true rfl) ⟨Nat.le_of_ble_eq_true rfl, Nat.le_of_ble_eq_true rfl⟩ dX10_image_62 rfl (fun r τ8 H locs hq hH => ?_)
    obtain ⟨rfl, h⟩ := hq
    refine lv_aload_n hx hb dX10_image_65 rfl (lv_at hl 0 rfl) ?_
    refine lv_aload_n hx hb dX10_image_66 rfl (lv_at hl 0 rfl) ?_
    refine m_geti (x := τ8 63 5) C0 hH f_63_5 kF_X10_100 dX10_image_67 rfl ?_
    refine m_puti C0 hH f_63_24 kF_X10_232 rfl dX10_image_70 rfl rfl (fun H locs hH => ?_)
    refine lv_aload_n hx hb dX10_image_73 rfl (lv_at hl 0 rfl) ?_
    refine lv_aload_n hx hb dX10_image_74 rfl (lv_at hl 0 rfl) ?_
    refine m_geti (x := τ8 63 6) C0 hH f_63_6 kF_X10_109 dX10_image_75 rfl ?_
    refine m_puti C0 hH f_63_25 kF_X10_235 rfl dX10_image_78 rfl rfl (fun H locs hH => ?_)
    refine lv_aload_n hx hb dX10_image_81 rfl (lv_at hl 0 rfl) ?_
    refine lv_aload_n hx hb dX10_image_82 rfl (lv_at hl 0 rfl) ?_
    refine m_geti (x := τ8 63 7) C0 hH f_63_7 kF_X10_112 dX10_image_83 rfl ?_
    refine m_puti C0 hH f_63_26 kF_X10_238 rfl dX10_image_86 rfl rfl (fun H locs hH => ?_)
    refine lv_aload_n hx hb dX10_image_89 rfl (lv_at hl 0 rfl) ?_
    refine lv_aload_n hx hb dX10_image_90 rfl (lv_at hl 0 rfl) ?_
    refine m_geti (x := τ8 63 20) C0 hH f_63_20 kF_X10_115 dX10_image_91 rfl ?_
    refine m_puti C0 hH f_63_27 kF_X10_241 rfl dX10_image_94 rfl rfl (fun H locs hH => ?_)
    refine lv_aload_n hx hb dX10_image_97 rfl (lv_at hl 0 rfl) ?_
    refine lv_aload_n hx hb dX10_image_98 rfl (lv_at hl 0 rfl) ?_
    refine m_geti (x := τ8 63 8) C0 hH f_63_8 kF_X10_118 dX10_image_99 rfl ?_
    refine m_puti C0 hH f_63_23 kF_X10_55 rfl dX10_image_102 rfl rfl (fun H locs hH => ?_)
    refine lv_aload_n hx hb dX10_image_105 rfl (lv_at hl 0 rfl) ?_
    refine m_geti (x := τ8 63 7) C0 hH f_63_7 kF_X10_112 dX10_image_106 rfl ?_
    exact hret (some (.int (τ8 63 7))) _ _ _ _ _ ⟨_, rfl, h⟩ hH ⟨dX10_image_109, .int, rfl, rfl⟩
  · have h := h.2 hc3
    refine lv_bipush (v := (-103)) hx hb dX10_image_7 (by decide) ?_
    exact hret (some (.int (-103))) _ _ _ _ _ ⟨_, rfl, h⟩ hH ⟨dX10_image_9, .int, rfl, rfl⟩

def r_X10_copy_74_65_0 (E : EE) (σ : Mm) (Q : Mm → Prop) : Prop := Rn E M_X10_copy 0 [(0, .ref (Ad E 74)), (1, .ref (Ad E 65))] [] σ (qv Q)
def r_X10_copy_74_65_2 (E : EE) (x2 : Int32) (σ : Mm) (Q : Mm → Prop) : Prop := Rn E M_X10_copy 2 [(0, .ref (Ad E 74)), (1, .ref (Ad E 65)), (2, .int x2)] [] σ (qv Q)
set_option maxRecDepth 20000 in
set_option maxHeartbeats 4000000 in
theorem s_X10_copy_74_65_0 (E : EE) (σ : Mm) (Q : Mm → Prop) (h : r_X10_copy_74_65_2 E 0 σ Q) : r_X10_copy_74_65_0 E σ Q := by
  intro p e R s m args below meth c Z cells slots H locs ls C0 hH hl hret
  have hx := C0.1
  have hb : c.code = cX10_copy := C0.2.1
  have hl : lv_has ls 3 [(0, .ref (Ad E 74)), (1, .ref (Ad E 65))] := hl
  refine lv_iconst (v := 0) hx hb dX10_copy_0 (by decide) ?_
  refine lv_istore_n (lv' := [(2, .int 0), (0, .ref (Ad E 74)), (1, .ref (Ad E 65))]) hx hb dX10_copy_1 rfl hl (by decide) rfl (fun ls hl => ?_)
  exact h p e R s m args below meth c Z cells slots H locs ls C0 hH (lv_sub hl [1, 2, 0] rfl) hret
set_option maxRecDepth 20000 in
set_option maxHeartbeats 4000000 in
theorem s_X10_copy_74_65_2 (E : EE) (x2 : Int32) (σ : Mm) (Q : Mm → Prop) (h : ((6 ≤ x2 → Q σ) ∧ (¬ 6 ≤ x2 → (vp_in x2 6 ∧ (vp_in x2 6 ∧ r_X10_copy_74_65_2 E (x2 + 1) (up σ 65 x2.toNatClampNeg (σ 74 x2.toNatClampNeg)) Q))))) : r_X10_copy_74_65_2 E x2 σ Q := by
  intro p e R s m args below meth c Z cells slots H locs ls C0 hH hl hret
  have hx := C0.1
  have hb : c.code = cX10_copy := C0.2.1
  have hl : lv_has ls 3 [(0, .ref (Ad E 74)), (1, .ref (Ad E 65)), (2, .int x2)] := hl
  refine lv_iload_n hx hb dX10_copy_2 rfl (lv_at hl 2 rfl) ?_
  refine lv_aload_n hx hb dX10_copy_3 rfl (lv_at hl 0 rfl) ?_
  refine m_alen (x := 6) C0 hH a_74 dX10_copy_4 (by decide) ?_
  refine lv_icmp_ge (tgt := 20) hx hb dX10_copy_5 (by decide) (fun hc1 => ?_) (fun hc1 => ?_)
  · have h := h.1 hc1
    exact hret none _ _ _ _ _ ⟨rfl, h⟩ hH ⟨dX10_copy_20, rfl⟩
  · have h := h.2 hc1
    refine lv_aload_n hx hb dX10_copy_8 rfl (lv_at hl 1 rfl) ?_
    refine lv_iload_n hx hb dX10_copy_9 rfl (lv_at hl 2 rfl) ?_
    refine lv_aload_n hx hb dX10_copy_10 rfl (lv_at hl 0 rfl) ?_
    refine lv_iload_n hx hb dX10_copy_11 rfl (lv_at hl 2 rfl) ?_
    refine m_iald (x := σ 74 x2.toNatClampNeg) C0 hH a_74 h.1 dX10_copy_12 rfl ?_
    have h := h.2
    refine m_iast (j := x2.toNatClampNeg) C0 hH a_65 h.1 rfl dX10_copy_13 (fun H locs hH => ?_)
    have h := h.2
    refine lv_iinc (v := (x2 + 1)) (lv' := [(2, .int (x2 + 1)), (0, .ref (Ad E 74)), (1, .ref (Ad E 65))]) hx hb dX10_copy_14 hl (k := 2) rfl rfl (by decide) rfl (fun ls hl => ?_)
    refine lv_goto (tgt := 2) hx hb dX10_copy_17 (by decide) ?_
    exact h p e R s m args below meth c Z cells slots H locs ls C0 hH (lv_sub hl [1, 2, 0] rfl) hret

def r_X10_copy_75_66_0 (E : EE) (σ : Mm) (Q : Mm → Prop) : Prop := Rn E M_X10_copy 0 [(0, .ref (Ad E 75)), (1, .ref (Ad E 66))] [] σ (qv Q)
def r_X10_copy_75_66_2 (E : EE) (x2 : Int32) (σ : Mm) (Q : Mm → Prop) : Prop := Rn E M_X10_copy 2 [(0, .ref (Ad E 75)), (1, .ref (Ad E 66)), (2, .int x2)] [] σ (qv Q)
set_option maxRecDepth 20000 in
set_option maxHeartbeats 4000000 in
theorem s_X10_copy_75_66_0 (E : EE) (σ : Mm) (Q : Mm → Prop) (h : r_X10_copy_75_66_2 E 0 σ Q) : r_X10_copy_75_66_0 E σ Q := by
  intro p e R s m args below meth c Z cells slots H locs ls C0 hH hl hret
  have hx := C0.1
  have hb : c.code = cX10_copy := C0.2.1
  have hl : lv_has ls 3 [(0, .ref (Ad E 75)), (1, .ref (Ad E 66))] := hl
  refine lv_iconst (v := 0) hx hb dX10_copy_0 (by decide) ?_
  refine lv_istore_n (lv' := [(2, .int 0), (0, .ref (Ad E 75)), (1, .ref (Ad E 66))]) hx hb dX10_copy_1 rfl hl (by decide) rfl (fun ls hl => ?_)
  exact h p e R s m args below meth c Z cells slots H locs ls C0 hH (lv_sub hl [1, 2, 0] rfl) hret
set_option maxRecDepth 20000 in
set_option maxHeartbeats 4000000 in
theorem s_X10_copy_75_66_2 (E : EE) (x2 : Int32) (σ : Mm) (Q : Mm → Prop) (h : ((6 ≤ x2 → Q σ) ∧ (¬ 6 ≤ x2 → (vp_in x2 6 ∧ (vp_in x2 6 ∧ r_X10_copy_75_66_2 E (x2 + 1) (up σ 66 x2.toNatClampNeg (σ 75 x2.toNatClampNeg)) Q))))) : r_X10_copy_75_66_2 E x2 σ Q := by
  intro p e R s m args below meth c Z cells slots H locs ls C0 hH hl hret
  have hx := C0.1
  have hb : c.code = cX10_copy := C0.2.1
  have hl : lv_has ls 3 [(0, .ref (Ad E 75)), (1, .ref (Ad E 66)), (2, .int x2)] := hl
  refine lv_iload_n hx hb dX10_copy_2 rfl (lv_at hl 2 rfl) ?_
  refine lv_aload_n hx hb dX10_copy_3 rfl (lv_at hl 0 rfl) ?_
  refine m_alen (x := 6) C0 hH a_75 dX10_copy_4 (by decide) ?_
  refine lv_icmp_ge (tgt := 20) hx hb dX10_copy_5 (by decide) (fun hc1 => ?_) (fun hc1 => ?_)
  · have h := h.1 hc1
    exact hret none _ _ _ _ _ ⟨rfl, h⟩ hH ⟨dX10_copy_20, rfl⟩
  · have h := h.2 hc1
    refine lv_aload_n hx hb dX10_copy_8 rfl (lv_at hl 1 rfl) ?_
    refine lv_iload_n hx hb dX10_copy_9 rfl (lv_at hl 2 rfl) ?_
    refine lv_aload_n hx hb dX10_copy_10 rfl (lv_at hl 0 rfl) ?_
    refine lv_iload_n hx hb dX10_copy_11 rfl (lv_at hl 2 rfl) ?_
    refine m_iald (x := σ 75 x2.toNatClampNeg) C0 hH a_75 h.1 dX10_copy_12 rfl ?_
    have h := h.2
    refine m_iast (j := x2.toNatClampNeg) C0 hH a_66 h.1 rfl dX10_copy_13 (fun H locs hH => ?_)
    have h := h.2
    refine lv_iinc (v := (x2 + 1)) (lv' := [(2, .int (x2 + 1)), (0, .ref (Ad E 75)), (1, .ref (Ad E 66))]) hx hb dX10_copy_14 hl (k := 2) rfl rfl (by decide) rfl (fun ls hl => ?_)
    refine lv_goto (tgt := 2) hx hb dX10_copy_17 (by decide) ?_
    exact h p e R s m args below meth c Z cells slots H locs ls C0 hH (lv_sub hl [1, 2, 0] rfl) hret

def r_X10_copy_76_67_0 (E : EE) (σ : Mm) (Q : Mm → Prop) : Prop := Rn E M_X10_copy 0 [(0, .ref (Ad E 76)), (1, .ref (Ad E 67))] [] σ (qv Q)
def r_X10_copy_76_67_2 (E : EE) (x2 : Int32) (σ : Mm) (Q : Mm → Prop) : Prop := Rn E M_X10_copy 2 [(0, .ref (Ad E 76)), (1, .ref (Ad E 67)), (2, .int x2)] [] σ (qv Q)
set_option maxRecDepth 20000 in
set_option maxHeartbeats 4000000 in
theorem s_X10_copy_76_67_0 (E : EE) (σ : Mm) (Q : Mm → Prop) (h : r_X10_copy_76_67_2 E 0 σ Q) : r_X10_copy_76_67_0 E σ Q := by
  intro p e R s m args below meth c Z cells slots H locs ls C0 hH hl hret
  have hx := C0.1
  have hb : c.code = cX10_copy := C0.2.1
  have hl : lv_has ls 3 [(0, .ref (Ad E 76)), (1, .ref (Ad E 67))] := hl
  refine lv_iconst (v := 0) hx hb dX10_copy_0 (by decide) ?_
  refine lv_istore_n (lv' := [(2, .int 0), (0, .ref (Ad E 76)), (1, .ref (Ad E 67))]) hx hb dX10_copy_1 rfl hl (by decide) rfl (fun ls hl => ?_)
  exact h p e R s m args below meth c Z cells slots H locs ls C0 hH (lv_sub hl [1, 2, 0] rfl) hret
set_option maxRecDepth 20000 in
set_option maxHeartbeats 4000000 in
theorem s_X10_copy_76_67_2 (E : EE) (x2 : Int32) (σ : Mm) (Q : Mm → Prop) (h : ((6 ≤ x2 → Q σ) ∧ (¬ 6 ≤ x2 → (vp_in x2 6 ∧ (vp_in x2 6 ∧ r_X10_copy_76_67_2 E (x2 + 1) (up σ 67 x2.toNatClampNeg (σ 76 x2.toNatClampNeg)) Q))))) : r_X10_copy_76_67_2 E x2 σ Q := by
  intro p e R s m args below meth c Z cells slots H locs ls C0 hH hl hret
  have hx := C0.1
  have hb : c.code = cX10_copy := C0.2.1
  have hl : lv_has ls 3 [(0, .ref (Ad E 76)), (1, .ref (Ad E 67)), (2, .int x2)] := hl
  refine lv_iload_n hx hb dX10_copy_2 rfl (lv_at hl 2 rfl) ?_
  refine lv_aload_n hx hb dX10_copy_3 rfl (lv_at hl 0 rfl) ?_
  refine m_alen (x := 6) C0 hH a_76 dX10_copy_4 (by decide) ?_
  refine lv_icmp_ge (tgt := 20) hx hb dX10_copy_5 (by decide) (fun hc1 => ?_) (fun hc1 => ?_)
  · have h := h.1 hc1
    exact hret none _ _ _ _ _ ⟨rfl, h⟩ hH ⟨dX10_copy_20, rfl⟩
  · have h := h.2 hc1
    refine lv_aload_n hx hb dX10_copy_8 rfl (lv_at hl 1 rfl) ?_
    refine lv_iload_n hx hb dX10_copy_9 rfl (lv_at hl 2 rfl) ?_
    refine lv_aload_n hx hb dX10_copy_10 rfl (lv_at hl 0 rfl) ?_
    refine lv_iload_n hx hb dX10_copy_11 rfl (lv_at hl 2 rfl) ?_
    refine m_iald (x := σ 76 x2.toNatClampNeg) C0 hH a_76 h.1 dX10_copy_12 rfl ?_
    have h := h.2
    refine m_iast (j := x2.toNatClampNeg) C0 hH a_67 h.1 rfl dX10_copy_13 (fun H locs hH => ?_)
    have h := h.2
    refine lv_iinc (v := (x2 + 1)) (lv' := [(2, .int (x2 + 1)), (0, .ref (Ad E 76)), (1, .ref (Ad E 67))]) hx hb dX10_copy_14 hl (k := 2) rfl rfl (by decide) rfl (fun ls hl => ?_)
    refine lv_goto (tgt := 2) hx hb dX10_copy_17 (by decide) ?_
    exact h p e R s m args below meth c Z cells slots H locs ls C0 hH (lv_sub hl [1, 2, 0] rfl) hret

def r_X10_copy_77_70_0 (E : EE) (σ : Mm) (Q : Mm → Prop) : Prop := Rn E M_X10_copy 0 [(0, .ref (Ad E 77)), (1, .ref (Ad E 70))] [] σ (qv Q)
def r_X10_copy_77_70_2 (E : EE) (x2 : Int32) (σ : Mm) (Q : Mm → Prop) : Prop := Rn E M_X10_copy 2 [(0, .ref (Ad E 77)), (1, .ref (Ad E 70)), (2, .int x2)] [] σ (qv Q)
set_option maxRecDepth 20000 in
set_option maxHeartbeats 4000000 in
theorem s_X10_copy_77_70_0 (E : EE) (σ : Mm) (Q : Mm → Prop) (h : r_X10_copy_77_70_2 E 0 σ Q) : r_X10_copy_77_70_0 E σ Q := by
  intro p e R s m args below meth c Z cells slots H locs ls C0 hH hl hret
  have hx := C0.1
  have hb : c.code = cX10_copy := C0.2.1
  have hl : lv_has ls 3 [(0, .ref (Ad E 77)), (1, .ref (Ad E 70))] := hl
  refine lv_iconst (v := 0) hx hb dX10_copy_0 (by decide) ?_
  refine lv_istore_n (lv' := [(2, .int 0), (0, .ref (Ad E 77)), (1, .ref (Ad E 70))]) hx hb dX10_copy_1 rfl hl (by decide) rfl (fun ls hl => ?_)
  exact h p e R s m args below meth c Z cells slots H locs ls C0 hH (lv_sub hl [1, 2, 0] rfl) hret
set_option maxRecDepth 20000 in
set_option maxHeartbeats 4000000 in
theorem s_X10_copy_77_70_2 (E : EE) (x2 : Int32) (σ : Mm) (Q : Mm → Prop) (h : ((8 ≤ x2 → Q σ) ∧ (¬ 8 ≤ x2 → (vp_in x2 8 ∧ (vp_in x2 8 ∧ r_X10_copy_77_70_2 E (x2 + 1) (up σ 70 x2.toNatClampNeg (σ 77 x2.toNatClampNeg)) Q))))) : r_X10_copy_77_70_2 E x2 σ Q := by
  intro p e R s m args below meth c Z cells slots H locs ls C0 hH hl hret
  have hx := C0.1
  have hb : c.code = cX10_copy := C0.2.1
  have hl : lv_has ls 3 [(0, .ref (Ad E 77)), (1, .ref (Ad E 70)), (2, .int x2)] := hl
  refine lv_iload_n hx hb dX10_copy_2 rfl (lv_at hl 2 rfl) ?_
  refine lv_aload_n hx hb dX10_copy_3 rfl (lv_at hl 0 rfl) ?_
  refine m_alen (x := 8) C0 hH a_77 dX10_copy_4 (by decide) ?_
  refine lv_icmp_ge (tgt := 20) hx hb dX10_copy_5 (by decide) (fun hc1 => ?_) (fun hc1 => ?_)
  · have h := h.1 hc1
    exact hret none _ _ _ _ _ ⟨rfl, h⟩ hH ⟨dX10_copy_20, rfl⟩
  · have h := h.2 hc1
    refine lv_aload_n hx hb dX10_copy_8 rfl (lv_at hl 1 rfl) ?_
    refine lv_iload_n hx hb dX10_copy_9 rfl (lv_at hl 2 rfl) ?_
    refine lv_aload_n hx hb dX10_copy_10 rfl (lv_at hl 0 rfl) ?_
    refine lv_iload_n hx hb dX10_copy_11 rfl (lv_at hl 2 rfl) ?_
    refine m_iald (x := σ 77 x2.toNatClampNeg) C0 hH a_77 h.1 dX10_copy_12 rfl ?_
    have h := h.2
    refine m_iast (j := x2.toNatClampNeg) C0 hH a_70 h.1 rfl dX10_copy_13 (fun H locs hH => ?_)
    have h := h.2
    refine lv_iinc (v := (x2 + 1)) (lv' := [(2, .int (x2 + 1)), (0, .ref (Ad E 77)), (1, .ref (Ad E 70))]) hx hb dX10_copy_14 hl (k := 2) rfl rfl (by decide) rfl (fun ls hl => ?_)
    refine lv_goto (tgt := 2) hx hb dX10_copy_17 (by decide) ?_
    exact h p e R s m args below meth c Z cells slots H locs ls C0 hH (lv_sub hl [1, 2, 0] rfl) hret

def r_X10_copy_78_73_0 (E : EE) (σ : Mm) (Q : Mm → Prop) : Prop := Rn E M_X10_copy 0 [(0, .ref (Ad E 78)), (1, .ref (Ad E 73))] [] σ (qv Q)
def r_X10_copy_78_73_2 (E : EE) (x2 : Int32) (σ : Mm) (Q : Mm → Prop) : Prop := Rn E M_X10_copy 2 [(0, .ref (Ad E 78)), (1, .ref (Ad E 73)), (2, .int x2)] [] σ (qv Q)
set_option maxRecDepth 20000 in
set_option maxHeartbeats 4000000 in
theorem s_X10_copy_78_73_0 (E : EE) (σ : Mm) (Q : Mm → Prop) (h : r_X10_copy_78_73_2 E 0 σ Q) : r_X10_copy_78_73_0 E σ Q := by
  intro p e R s m args below meth c Z cells slots H locs ls C0 hH hl hret
  have hx := C0.1
  have hb : c.code = cX10_copy := C0.2.1
  have hl : lv_has ls 3 [(0, .ref (Ad E 78)), (1, .ref (Ad E 73))] := hl
  refine lv_iconst (v := 0) hx hb dX10_copy_0 (by decide) ?_
  refine lv_istore_n (lv' := [(2, .int 0), (0, .ref (Ad E 78)), (1, .ref (Ad E 73))]) hx hb dX10_copy_1 rfl hl (by decide) rfl (fun ls hl => ?_)
  exact h p e R s m args below meth c Z cells slots H locs ls C0 hH (lv_sub hl [1, 2, 0] rfl) hret
set_option maxRecDepth 20000 in
set_option maxHeartbeats 4000000 in
theorem s_X10_copy_78_73_2 (E : EE) (x2 : Int32) (σ : Mm) (Q : Mm → Prop) (h : ((18 ≤ x2 → Q σ) ∧ (¬ 18 ≤ x2 → (vp_in x2 18 ∧ (vp_in x2 18 ∧ r_X10_copy_78_73_2 E (x2 + 1) (up σ 73 x2.toNatClampNeg (σ 78 x2.toNatClampNeg)) Q))))) : r_X10_copy_78_73_2 E x2 σ Q := by
  intro p e R s m args below meth c Z cells slots H locs ls C0 hH hl hret
  have hx := C0.1
  have hb : c.code = cX10_copy := C0.2.1
  have hl : lv_has ls 3 [(0, .ref (Ad E 78)), (1, .ref (Ad E 73)), (2, .int x2)] := hl
  refine lv_iload_n hx hb dX10_copy_2 rfl (lv_at hl 2 rfl) ?_
  refine lv_aload_n hx hb dX10_copy_3 rfl (lv_at hl 0 rfl) ?_
  refine m_alen (x := 18) C0 hH a_78 dX10_copy_4 (by decide) ?_
  refine lv_icmp_ge (tgt := 20) hx hb dX10_copy_5 (by decide) (fun hc1 => ?_) (fun hc1 => ?_)
  · have h := h.1 hc1
    exact hret none _ _ _ _ _ ⟨rfl, h⟩ hH ⟨dX10_copy_20, rfl⟩
  · have h := h.2 hc1
    refine lv_aload_n hx hb dX10_copy_8 rfl (lv_at hl 1 rfl) ?_
    refine lv_iload_n hx hb dX10_copy_9 rfl (lv_at hl 2 rfl) ?_
    refine lv_aload_n hx hb dX10_copy_10 rfl (lv_at hl 0 rfl) ?_
    refine lv_iload_n hx hb dX10_copy_11 rfl (lv_at hl 2 rfl) ?_
    refine m_iald (x := σ 78 x2.toNatClampNeg) C0 hH a_78 h.1 dX10_copy_12 rfl ?_
    have h := h.2
    refine m_iast (j := x2.toNatClampNeg) C0 hH a_73 h.1 rfl dX10_copy_13 (fun H locs hH => ?_)
    have h := h.2
    refine lv_iinc (v := (x2 + 1)) (lv' := [(2, .int (x2 + 1)), (0, .ref (Ad E 78)), (1, .ref (Ad E 73))]) hx hb dX10_copy_14 hl (k := 2) rfl rfl (by decide) rfl (fun ls hl => ?_)
    refine lv_goto (tgt := 2) hx hb dX10_copy_17 (by decide) ?_
    exact h p e R s m args below meth c Z cells slots H locs ls C0 hH (lv_sub hl [1, 2, 0] rfl) hret

def r_X10_restore_0 (E : EE) (σ : Mm) (Q : Int32 → Mm → Prop) : Prop := Rn E M_X10_restore 0 [(0, .ref (Ad E 63))] [] σ (qi Q)
set_option maxRecDepth 20000 in
set_option maxHeartbeats 4000000 in
theorem s_X10_restore_0 (E : EE) (σ : Mm) (Q : Int32 → Mm → Prop) (h : (((σ 63 23) = (σ 63 8) → r_X10_copy_74_65_0 E  σ (fun τ2 => r_X10_copy_75_66_0 E  τ2 (fun τ3 => r_X10_copy_76_67_0 E  τ3 (fun τ4 => r_X10_copy_77_70_0 E  τ4 (fun τ5 => r_X10_copy_78_73_0 E  τ5 (fun τ6 => Q (τ6 63 26) (up (up (up (up τ6 63 5 (τ6 63 24)) 63 6 (τ6 63 25)) 63 7 (τ6 63 26)) 63 20 (τ6 63 27)))))))) ∧ (¬ (σ 63 23) = (σ 63 8) → Q (-103) σ))) : r_X10_restore_0 E σ Q := by
  intro p e R s m args below meth c Z cells slots H locs ls C0 hH hl hret
  have hx := C0.1
  have hb : c.code = cX10_restore := C0.2.1
  have hl : lv_has ls 1 [(0, .ref (Ad E 63))] := hl
  refine lv_aload_n hx hb dX10_restore_0 rfl (lv_at hl 0 rfl) ?_
  refine m_geti (x := σ 63 23) C0 hH f_63_23 kF_X10_55 dX10_restore_1 rfl ?_
  refine lv_aload_n hx hb dX10_restore_4 rfl (lv_at hl 0 rfl) ?_
  refine m_geti (x := σ 63 8) C0 hH f_63_8 kF_X10_118 dX10_restore_5 rfl ?_
  refine lv_icmp_eq (tgt := 14) hx hb dX10_restore_8 (by decide) (fun hc1 => ?_) (fun hc1 => ?_)
  · have h := h.1 hc1
    refine lv_aload_n hx hb dX10_restore_14 rfl (lv_at hl 0 rfl) ?_
    refine m_getr C0 hH f_63_28 74 rfl kF_X10_40 dX10_restore_15 ?_
    refine lv_aload_n hx hb dX10_restore_18 rfl (lv_at hl 0 rfl) ?_
    refine m_getr C0 hH f_63_9 65 rfl kF_X10_13 dX10_restore_19 ?_
    refine m_cS (M2 := M_X10_copy) (As := [.ref (Ad E 74), .ref (Ad E 65)]) (rest := []) h C0 hH hl kc_X10_copy ks_X10_copy kM_X10_165 rfl (Nat.le_of_ble_eq_true rfl) (Nat.le_of_ble_eq_true rfl) ⟨Nat.le_of_ble_eq_true rfl, Nat.le_of_ble_eq_true rfl⟩ dX10_restore_22 rfl (fun r τ2 H locs hq hH => ?_)
    obtain ⟨rfl, h⟩ := hq
    refine lv_aload_n hx hb dX10_restore_25 rfl (lv_at hl 0 rfl) ?_
    refine m_getr C0 hH f_63_29 75 rfl kF_X10_43 dX10_restore_26 ?_
    refine lv_aload_n hx hb dX10_restore_29 rfl (lv_at hl 0 rfl) ?_
    refine m_getr C0 hH f_63_10 66 rfl kF_X10_16 dX10_restore_30 ?_
    refine m_cS (M2 := M_X10_copy) (As := [.ref (Ad E 75), .ref (Ad E 66)]) (rest := []) h C0 hH hl kc_X10_copy ks_X10_copy kM_X10_165 rfl (Nat.le_of_ble_eq_true rfl) (Nat.le_of_ble_eq_true rfl) ⟨Nat.le_of_ble_eq_true rfl, Nat.le_of_ble_eq_true rfl⟩ dX10_restore_33 rfl (fun r τ3 H locs hq hH => ?_)
    obtain ⟨rfl, h⟩ := hq
    refine lv_aload_n hx hb dX10_restore_36 rfl (lv_at hl 0 rfl) ?_
    refine m_getr C0 hH f_63_30 76 rfl kF_X10_46 dX10_restore_37 ?_
    refine lv_aload_n hx hb dX10_restore_40 rfl (lv_at hl 0 rfl) ?_
    refine m_getr C0 hH f_63_11 67 rfl kF_X10_19 dX10_restore_41 ?_
    refine m_cS (M2 := M_X10_copy) (As := [.ref (Ad E 76), .ref (Ad E 67)]) (rest := []) h C0 hH hl kc_X10_copy ks_X10_copy kM_X10_165 rfl (Nat.le_of_ble_eq_true rfl) (Nat.le_of_ble_eq_true rfl) ⟨Nat.le_of_ble_eq_true rfl, Nat.le_of_ble_eq_true rfl⟩ dX10_restore_44 rfl (fun r τ4 H locs hq hH => ?_)
    obtain ⟨rfl, h⟩ := hq
    refine lv_aload_n hx hb dX10_restore_47 rfl (lv_at hl 0 rfl) ?_
    refine m_getr C0 hH f_63_31 77 rfl kF_X10_49 dX10_restore_48 ?_
    refine lv_aload_n hx hb dX10_restore_51 rfl (lv_at hl 0 rfl) ?_
    refine m_getr C0 hH f_63_14 70 rfl kF_X10_28 dX10_restore_52 ?_
    refine m_cS (M2 := M_X10_copy) (As := [.ref (Ad E 77), .ref (Ad E 70)]) (rest := []) h C0 hH hl kc_X10_copy ks_X10_copy kM_X10_165 rfl (Nat.le_of_ble_eq_true rfl) (Nat.le_of_ble_eq_true rfl) ⟨Nat.le_of_ble_eq_true rfl, Nat.le_of_ble_eq_true rfl⟩ dX10_restore_55 rfl (fun r τ5 H locs hq hH => ?_)
    obtain ⟨rfl, h⟩ := hq
    refine lv_aload_n hx hb dX10_restore_58 rfl (lv_at hl 0 rfl) ?_
    refine m_getr C0 hH f_63_32 78 rfl kF_X10_52 dX10_restore_59 ?_
    refine lv_aload_n hx hb dX10_restore_62 rfl (lv_at hl 0 rfl) ?_
    refine m_getr C0 hH f_63_21 73 rfl kF_X10_37 dX10_restore_63 ?_
    refine m_cS (M2 := M_X10_copy) (As := [.ref (Ad E 78), .ref (Ad E 73)]) (rest := []) h C0 hH hl kc_X10_copy ks_X10_copy kM_X10_165 rfl (Nat.le_of_ble_eq_true rfl) (Nat.le_of_ble_eq_true rfl) ⟨Nat.le_of_ble_eq_true rfl, Nat.le_of_ble_eq_true rfl⟩ dX10_restore_66 rfl (fun r τ6 H locs hq hH => ?_)
    obtain ⟨rfl, h⟩ := hq
    refine lv_aload_n hx hb dX10_restore_69 rfl (lv_at hl 0 rfl) ?_
    refine lv_aload_n hx hb dX10_restore_70 rfl (lv_at hl 0 rfl) ?_
    refine m_geti (x := τ6 63 24) C0 hH f_63_24 kF_X10_232 dX10_restore_71 rfl ?_
    refine m_puti C0 hH f_63_5 kF_X10_100 rfl dX10_restore_74 rfl rfl (fun H locs hH => ?_)
    refine lv_aload_n hx hb dX10_restore_77 rfl (lv_at hl 0 rfl) ?_
    refine lv_aload_n hx hb dX10_restore_78 rfl (lv_at hl 0 rfl) ?_
    refine m_geti (x := τ6 63 25) C0 hH f_63_25 kF_X10_235 dX10_restore_79 rfl ?_
    refine m_puti C0 hH f_63_6 kF_X10_109 rfl dX10_restore_82 rfl rfl (fun H locs hH => ?_)
    refine lv_aload_n hx hb dX10_restore_85 rfl (lv_at hl 0 rfl) ?_
    refine lv_aload_n hx hb dX10_restore_86 rfl (lv_at hl 0 rfl) ?_
    refine m_geti (x := τ6 63 26) C0 hH f_63_26 kF_X10_238 dX10_restore_87 rfl ?_
    refine m_puti C0 hH f_63_7 kF_X10_112 rfl dX10_restore_90 rfl rfl (fun H locs hH => ?_)
    refine lv_aload_n hx hb dX10_restore_93 rfl (lv_at hl 0 rfl) ?_
    refine lv_aload_n hx hb dX10_restore_94 rfl (lv_at hl 0 rfl) ?_
    refine m_geti (x := τ6 63 27) C0 hH f_63_27 kF_X10_241 dX10_restore_95 rfl ?_
    refine m_puti C0 hH f_63_20 kF_X10_115 rfl dX10_restore_98 rfl rfl (fun H locs hH => ?_)
    refine lv_aload_n hx hb dX10_restore_101 rfl (lv_at hl 0 rfl) ?_
    refine m_geti (x := (τ6 63 26)) C0 hH f_63_7 kF_X10_112 dX10_restore_102 rfl ?_
    exact hret (some (.int (τ6 63 26))) _ _ _ _ _ ⟨_, rfl, h⟩ hH ⟨dX10_restore_105, .int, rfl, rfl⟩
  · have h := h.2 hc1
    refine lv_bipush (v := (-103)) hx hb dX10_restore_11 (by decide) ?_
    exact hret (some (.int (-103))) _ _ _ _ _ ⟨_, rfl, h⟩ hH ⟨dX10_restore_13, .int, rfl, rfl⟩

def r_X10_guiltAll_0 (E : EE) (σ : Mm) (Q : Int32 → Mm → Prop) : Prop := Rn E M_X10_guiltAll 0 [(0, .ref (Ad E 63))] [] σ (qi Q)
def r_X10_guiltAll_4 (E : EE) (x1 : Int32) (x2 : Int32) (σ : Mm) (Q : Int32 → Mm → Prop) : Prop := Rn E M_X10_guiltAll 4 [(0, .ref (Ad E 63)), (1, .int x1), (2, .int x2)] [] σ (qi Q)
set_option maxRecDepth 20000 in
set_option maxHeartbeats 4000000 in
theorem s_X10_guiltAll_0 (E : EE) (σ : Mm) (Q : Int32 → Mm → Prop) (h : r_X10_guiltAll_4 E 0 0 σ Q) : r_X10_guiltAll_0 E σ Q := by
  intro p e R s m args below meth c Z cells slots H locs ls C0 hH hl hret
  have hx := C0.1
  have hb : c.code = cX10_guiltAll := C0.2.1
  have hl : lv_has ls 3 [(0, .ref (Ad E 63))] := hl
  refine lv_iconst (v := 0) hx hb dX10_guiltAll_0 (by decide) ?_
  refine lv_istore_n (lv' := [(1, .int 0), (0, .ref (Ad E 63))]) hx hb dX10_guiltAll_1 rfl hl (by decide) rfl (fun ls hl => ?_)
  refine lv_iconst (v := 0) hx hb dX10_guiltAll_2 (by decide) ?_
  refine lv_istore_n (lv' := [(2, .int 0), (1, .int 0), (0, .ref (Ad E 63))]) hx hb dX10_guiltAll_3 rfl hl (by decide) rfl (fun ls hl => ?_)
  exact h p e R s m args below meth c Z cells slots H locs ls C0 hH (lv_sub hl [2, 1, 0] rfl) hret
set_option maxRecDepth 20000 in
set_option maxHeartbeats 4000000 in
theorem s_X10_guiltAll_4 (E : EE) (x1 : Int32) (x2 : Int32) (σ : Mm) (Q : Int32 → Mm → Prop) (h : (((σ 63 3) ≤ x2 → Q x1 σ) ∧ (¬ (σ 63 3) ≤ x2 → r_X10_guiltBy_0 E x2 (σ 63 6) σ (fun r3 τ2 => r_X10_guiltAll_4 E (x1 + r3) (x2 + 1) τ2 Q)))) : r_X10_guiltAll_4 E x1 x2 σ Q := by
  intro p e R s m args below meth c Z cells slots H locs ls C0 hH hl hret
  have hx := C0.1
  have hb : c.code = cX10_guiltAll := C0.2.1
  have hl : lv_has ls 3 [(0, .ref (Ad E 63)), (1, .int x1), (2, .int x2)] := hl
  refine lv_iload_n hx hb dX10_guiltAll_4 rfl (lv_at hl 2 rfl) ?_
  refine lv_aload_n hx hb dX10_guiltAll_5 rfl (lv_at hl 0 rfl) ?_
  refine m_geti (x := σ 63 3) C0 hH f_63_3 kF_X10_103 dX10_guiltAll_6 rfl ?_
  refine lv_icmp_ge (tgt := 30) hx hb dX10_guiltAll_9 (by decide) (fun hc1 => ?_) (fun hc1 => ?_)
  · have h := h.1 hc1
    refine lv_iload_n hx hb dX10_guiltAll_30 rfl (lv_at hl 1 rfl) ?_
    exact hret (some (.int x1)) _ _ _ _ _ ⟨_, rfl, h⟩ hH ⟨dX10_guiltAll_31, .int, rfl, rfl⟩
  · have h := h.2 hc1
    refine lv_iload_n hx hb dX10_guiltAll_12 rfl (lv_at hl 1 rfl) ?_
    refine lv_aload_n hx hb dX10_guiltAll_13 rfl (lv_at hl 0 rfl) ?_
    refine lv_iload_n hx hb dX10_guiltAll_14 rfl (lv_at hl 2 rfl) ?_
    refine lv_aload_n hx hb dX10_guiltAll_15 rfl (lv_at hl 0 rfl) ?_
    refine m_geti (x := σ 63 6) C0 hH f_63_6 kF_X10_109 dX10_guiltAll_16 rfl ?_
    refine m_cV (M2 := M_X10_guiltBy) (As := [.int x2, .int (σ 63 6)]) (rest := [.int x1]) h C0 hH hl kc_X10_guiltBy ki_X10_guiltBy kx_X10_guiltBy ob_63 kM_X10_121 rfl (Nat.le_of_ble_eq_true rfl) (Nat.le_of_ble_eq_true rfl) ⟨Nat.le_of_ble_eq_true rfl, Nat.le_of_ble_eq_true rfl⟩ dX10_guiltAll_19 rfl (fun r τ2 H locs hq hH => ?_)
    obtain ⟨r3, rfl, h⟩ := hq
    refine lv_iadd hx hb dX10_guiltAll_22 ?_
    refine lv_istore_n (lv' := [(1, .int (x1 + r3)), (0, .ref (Ad E 63)), (2, .int x2)]) hx hb dX10_guiltAll_23 rfl hl (by decide) rfl (fun ls hl => ?_)
    refine lv_iinc (v := (x2 + 1)) (lv' := [(2, .int (x2 + 1)), (1, .int (x1 + r3)), (0, .ref (Ad E 63))]) hx hb dX10_guiltAll_24 hl (k := 2) rfl rfl (by decide) rfl (fun ls hl => ?_)
    refine lv_goto (tgt := 4) hx hb dX10_guiltAll_27 (by decide) ?_
    exact h p e R s m args below meth c Z cells slots H locs ls C0 hH (lv_sub hl [2, 1, 0] rfl) hret

def r_X10_warmAll_66_0 (E : EE) (σ : Mm) (Q : Int32 → Mm → Prop) : Prop := Rn E M_X10_warmAll 0 [(0, .ref (Ad E 63)), (1, .ref (Ad E 66))] [] σ (qi Q)
def r_X10_warmAll_66_4 (E : EE) (x2 : Int32) (x3 : Int32) (σ : Mm) (Q : Int32 → Mm → Prop) : Prop := Rn E M_X10_warmAll 4 [(0, .ref (Ad E 63)), (1, .ref (Ad E 66)), (2, .int x2), (3, .int x3)] [] σ (qi Q)
set_option maxRecDepth 20000 in
set_option maxHeartbeats 4000000 in
theorem s_X10_warmAll_66_0 (E : EE) (σ : Mm) (Q : Int32 → Mm → Prop) (h : r_X10_warmAll_66_4 E 0 0 σ Q) : r_X10_warmAll_66_0 E σ Q := by
  intro p e R s m args below meth c Z cells slots H locs ls C0 hH hl hret
  have hx := C0.1
  have hb : c.code = cX10_warmAll := C0.2.1
  have hl : lv_has ls 4 [(0, .ref (Ad E 63)), (1, .ref (Ad E 66))] := hl
  refine lv_iconst (v := 0) hx hb dX10_warmAll_0 (by decide) ?_
  refine lv_istore_n (lv' := [(2, .int 0), (0, .ref (Ad E 63)), (1, .ref (Ad E 66))]) hx hb dX10_warmAll_1 rfl hl (by decide) rfl (fun ls hl => ?_)
  refine lv_iconst (v := 0) hx hb dX10_warmAll_2 (by decide) ?_
  refine lv_istore_n (lv' := [(3, .int 0), (2, .int 0), (0, .ref (Ad E 63)), (1, .ref (Ad E 66))]) hx hb dX10_warmAll_3 rfl hl (by decide) rfl (fun ls hl => ?_)
  exact h p e R s m args below meth c Z cells slots H locs ls C0 hH (lv_sub hl [2, 3, 1, 0] rfl) hret
set_option maxRecDepth 20000 in
set_option maxHeartbeats 4000000 in
theorem s_X10_warmAll_66_4 (E : EE) (x2 : Int32) (x3 : Int32) (σ : Mm) (Q : Int32 → Mm → Prop) (h : (((σ 63 3) ≤ x3 → Q x2 σ) ∧ (¬ (σ 63 3) ≤ x3 → (vp_in x3 6 ∧ r_X10_warmAll_66_4 E (x2 + (σ 66 x3.toNatClampNeg)) (x3 + 1) σ Q)))) : r_X10_warmAll_66_4 E x2 x3 σ Q := by
  intro p e R s m args below meth c Z cells slots H locs ls C0 hH hl hret
  have hx := C0.1
  have hb : c.code = cX10_warmAll := C0.2.1
  have hl : lv_has ls 4 [(0, .ref (Ad E 63)), (1, .ref (Ad E 66)), (2, .int x2), (3, .int x3)] := hl
  refine lv_iload_n hx hb dX10_warmAll_4 rfl (lv_at hl 3 rfl) ?_
  refine lv_aload_n hx hb dX10_warmAll_5 rfl (lv_at hl 0 rfl) ?_
  refine m_geti (x := σ 63 3) C0 hH f_63_3 kF_X10_103 dX10_warmAll_6 rfl ?_
  refine lv_icmp_ge (tgt := 24) hx hb dX10_warmAll_9 (by decide) (fun hc1 => ?_) (fun hc1 => ?_)
  · have h := h.1 hc1
    refine lv_iload_n hx hb dX10_warmAll_24 rfl (lv_at hl 2 rfl) ?_
    exact hret (some (.int x2)) _ _ _ _ _ ⟨_, rfl, h⟩ hH ⟨dX10_warmAll_25, .int, rfl, rfl⟩
  · have h := h.2 hc1
    refine lv_iload_n hx hb dX10_warmAll_12 rfl (lv_at hl 2 rfl) ?_
    refine lv_aload_n hx hb dX10_warmAll_13 rfl (lv_at hl 1 rfl) ?_
    refine lv_iload_n hx hb dX10_warmAll_14 rfl (lv_at hl 3 rfl) ?_
    refine m_iald (x := σ 66 x3.toNatClampNeg) C0 hH a_66 h.1 dX10_warmAll_15 rfl ?_
    have h := h.2
    refine lv_iadd hx hb dX10_warmAll_16 ?_
    refine lv_istore_n (lv' := [(2, .int (x2 + (σ 66 x3.toNatClampNeg))), (0, .ref (Ad E 63)), (1, .ref (Ad E 66)), (3, .int x3)]) hx hb dX10_warmAll_17 rfl hl (by decide) rfl (fun ls hl => ?_)
    refine lv_iinc (v := (x3 + 1)) (lv' := [(3, .int (x3 + 1)), (2, .int (x2 + (σ 66 x3.toNatClampNeg))), (0, .ref (Ad E 63)), (1, .ref (Ad E 66))]) hx hb dX10_warmAll_18 hl (k := 3) rfl rfl (by decide) rfl (fun ls hl => ?_)
    refine lv_goto (tgt := 4) hx hb dX10_warmAll_21 (by decide) ?_
    exact h p e R s m args below meth c Z cells slots H locs ls C0 hH (lv_sub hl [2, 3, 1, 0] rfl) hret

def r_X10_warmAll_67_0 (E : EE) (σ : Mm) (Q : Int32 → Mm → Prop) : Prop := Rn E M_X10_warmAll 0 [(0, .ref (Ad E 63)), (1, .ref (Ad E 67))] [] σ (qi Q)
def r_X10_warmAll_67_4 (E : EE) (x2 : Int32) (x3 : Int32) (σ : Mm) (Q : Int32 → Mm → Prop) : Prop := Rn E M_X10_warmAll 4 [(0, .ref (Ad E 63)), (1, .ref (Ad E 67)), (2, .int x2), (3, .int x3)] [] σ (qi Q)
set_option maxRecDepth 20000 in
set_option maxHeartbeats 4000000 in
theorem s_X10_warmAll_67_0 (E : EE) (σ : Mm) (Q : Int32 → Mm → Prop) (h : r_X10_warmAll_67_4 E 0 0 σ Q) : r_X10_warmAll_67_0 E σ Q := by
  intro p e R s m args below meth c Z cells slots H locs ls C0 hH hl hret
  have hx := C0.1
  have hb : c.code = cX10_warmAll := C0.2.1
  have hl : lv_has ls 4 [(0, .ref (Ad E 63)), (1, .ref (Ad E 67))] := hl
  refine lv_iconst (v := 0) hx hb dX10_warmAll_0 (by decide) ?_
  refine lv_istore_n (lv' := [(2, .int 0), (0, .ref (Ad E 63)), (1, .ref (Ad E 67))]) hx hb dX10_warmAll_1 rfl hl (by decide) rfl (fun ls hl => ?_)
  refine lv_iconst (v := 0) hx hb dX10_warmAll_2 (by decide) ?_
  refine lv_istore_n (lv' := [(3, .int 0), (2, .int 0), (0, .ref (Ad E 63)), (1, .ref (Ad E 67))]) hx hb dX10_warmAll_3 rfl hl (by decide) rfl (fun ls hl => ?_)
  exact h p e R s m args below meth c Z cells slots H locs ls C0 hH (lv_sub hl [2, 3, 1, 0] rfl) hret
set_option maxRecDepth 20000 in
set_option maxHeartbeats 4000000 in
theorem s_X10_warmAll_67_4 (E : EE) (x2 : Int32) (x3 : Int32) (σ : Mm) (Q : Int32 → Mm → Prop) (h : (((σ 63 3) ≤ x3 → Q x2 σ) ∧ (¬ (σ 63 3) ≤ x3 → (vp_in x3 6 ∧ r_X10_warmAll_67_4 E (x2 + (σ 67 x3.toNatClampNeg)) (x3 + 1) σ Q)))) : r_X10_warmAll_67_4 E x2 x3 σ Q := by
  intro p e R s m args below meth c Z cells slots H locs ls C0 hH hl hret
  have hx := C0.1
  have hb : c.code = cX10_warmAll := C0.2.1
  have hl : lv_has ls 4 [(0, .ref (Ad E 63)), (1, .ref (Ad E 67)), (2, .int x2), (3, .int x3)] := hl
  refine lv_iload_n hx hb dX10_warmAll_4 rfl (lv_at hl 3 rfl) ?_
  refine lv_aload_n hx hb dX10_warmAll_5 rfl (lv_at hl 0 rfl) ?_
  refine m_geti (x := σ 63 3) C0 hH f_63_3 kF_X10_103 dX10_warmAll_6 rfl ?_
  refine lv_icmp_ge (tgt := 24) hx hb dX10_warmAll_9 (by decide) (fun hc1 => ?_) (fun hc1 => ?_)
  · have h := h.1 hc1
    refine lv_iload_n hx hb dX10_warmAll_24 rfl (lv_at hl 2 rfl) ?_
    exact hret (some (.int x2)) _ _ _ _ _ ⟨_, rfl, h⟩ hH ⟨dX10_warmAll_25, .int, rfl, rfl⟩
  · have h := h.2 hc1
    refine lv_iload_n hx hb dX10_warmAll_12 rfl (lv_at hl 2 rfl) ?_
    refine lv_aload_n hx hb dX10_warmAll_13 rfl (lv_at hl 1 rfl) ?_
    refine lv_iload_n hx hb dX10_warmAll_14 rfl (lv_at hl 3 rfl) ?_
    refine m_iald (x := σ 67 x3.toNatClampNeg) C0 hH a_67 h.1 dX10_warmAll_15 rfl ?_
    have h := h.2
    refine lv_iadd hx hb dX10_warmAll_16 ?_
    refine lv_istore_n (lv' := [(2, .int (x2 + (σ 67 x3.toNatClampNeg))), (0, .ref (Ad E 63)), (1, .ref (Ad E 67)), (3, .int x3)]) hx hb dX10_warmAll_17 rfl hl (by decide) rfl (fun ls hl => ?_)
    refine lv_iinc (v := (x3 + 1)) (lv' := [(3, .int (x3 + 1)), (2, .int (x2 + (σ 67 x3.toNatClampNeg))), (0, .ref (Ad E 63)), (1, .ref (Ad E 67))]) hx hb dX10_warmAll_18 hl (k := 3) rfl rfl (by decide) rfl (fun ls hl => ?_)
    refine lv_goto (tgt := 4) hx hb dX10_warmAll_21 (by decide) ?_
    exact h p e R s m args below meth c Z cells slots H locs ls C0 hH (lv_sub hl [2, 3, 1, 0] rfl) hret
