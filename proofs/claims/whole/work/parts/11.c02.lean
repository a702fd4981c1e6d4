/-! X3_leastChange -/
set_option maxHeartbeats 4000000 in
set_option maxRecDepth 100000 in
theorem c_X3_leastChange (l : Launch) (D : va_G) (y : ClassId × ClassId × ClassId × ClassId) (a a_values : Nat) (v_size : Int32) (v_values : Nat → Int32) (x1 : Int32) (sz : Nat) (A : Nat → Prop) (hAe : va_A [(a, .inr (3, [.int v_size, .ref a_values])), (a_values, .inl (y.1, 20, .inl v_values))] sz = A) (K : Int32 → ((Nat → Int32)) → Prop) (h : sat (m_X3_leastChange v_size v_values x1) (pK K)) : Met l yX3_leastChange wsX3_leastChange ({ frames := 5, cells := 0, slots := 0, locals := 118 } : Room) (pW D y ([.ref a, .int x1] : List Value) [(a, .inr (3, [.int v_size, .ref a_values])), (a_values, .inl (y.1, 20, .inl v_values))] sz) (va_Qi K (bW D y A (fun u : ((Nat → Int32)) => [(a, .inr (3, [.int v_size, .ref a_values])), (a_values, .inl (y.1, 20, .inl u))])) A) 0 0 A := by
  refine Met.ofW (cc := cX3_leastChange) (maxL := 5) (ret := (some .int)) (by decide) rfl ?_
  intro p e s m args below meth c s₁ B hml hv
  obtain ⟨rfl, hsz, hP, hK, hD0⟩ := hv
  have hx := B.exec
  have hb := B.bytes
  have hr := B.returns
  have hts := atoms_spec (ws := wsX3_leastChange) B.pre
  have hown : s.vm.findClass RX3 = some m.cls := findClass_of_methodNamed B.named
  have hlocks := B.notSynchronized
  subst hsz
  have hD : va_D A [(a, .inr (3, [.int v_size, .ref a_values])), (a_values, .inl (y.1, 20, .inl v_values))] := hAe ▸ hD0.self
  have hA : ∀ q : Nat, s.heap.size ≤ q → A q := fun q h => hAe ▸ Or.inr h
  have hS : va_S A s.heap s.heap [] := va_S.rf
  have iX6 : ∀ w ∈ wsX60, w ∈ wsX3_leastChange := by decide +kernel
  have fl15 := hts (.fieldLink RX3 15 "AlgebraLaws$Tables" "size" "I") (by decide +kernel)
  have hl := lv_entry ([.ref a, .int x1] : List Value) (n := 5) (Nat.le_of_ble_eq_true rfl)
  rw [lg_entry_eq]
  generalize (lg_sl ([.ref a, .int x1] : List Value) ++ List.replicate (5 - (lg_sl ([.ref a, .int x1] : List Value)).length) Slot.unset).toArray = ls at hl ⊢
  have hl : lv_has ls 5 [(0, .ref a), (1, .int x1)] := hl
  unfold m_X3_leastChange at h
  refine lv_iconst (v := 0) hx hb dX3_leastChange_0 (by decide) ?_
  refine lv_istore_n (lv' := [(2, .int 0), (0, .ref a), (1, .int x1)]) hx hb dX3_leastChange_1 rfl hl (by decide) rfl (fun ls hl => ?_)
  have hL2 : ∀ (K2 : ((Int32 × ((Nat → Int32))) ⊕ ((Nat → Int32))) → Prop)
      (hR2 : ∀ (u : (Int32 × ((Nat → Int32)))), K2 (.inl u) → pK K u)
      (hE2 : ∀ (z2 : ((Nat → Int32))) (ls : Array Slot) (H : Heap) (locs : List Loc), K2 (.inr z2) → lv_has ls 5 [] → va_P D vwCl [(a, .inr (3, [.int v_size, .ref a_values])), (a_values, .inl (y.1, 20, .inl z2))] H → va_D A [(a, .inr (3, [.int v_size, .ref a_values])), (a_values, .inl (y.1, 20, .inl z2))] → va_S A s.heap H locs → W p l e (headSpec wsX3_leastChange ({ frames := 5, cells := 0, slots := 0, locals := 118 } : Room)).room s m ([.ref a, .int x1] : List Value).toArray below meth c H locs 0 0 (MQ below (va_Qi K (bW D y A (fun u : ((Nat → Int32)) => [(a, .inr (3, [.int v_size, .ref a_values])), (a_values, .inl (y.1, 20, .inl u))])) A) ([.ref a, .int x1] : List Value).toArray s 0 0 A) (F0 m 64 ls []))
      (n : Nat) (x2_2 : Int32) (v_values_2 : Nat → Int32) (ls : Array Slot) (H : Heap) (locs : List Loc), sat (lp (fun q : (Int32 × (Nat → Int32)) => m_X3_leastChange_s2 v_size x1 q.1 q.2) n (x2_2, v_values_2)) K2 → lv_has ls 5 [(0, .ref a), (1, .int x1), (2, .int x2_2)] → va_P D vwCl [(a, .inr (3, [.int v_size, .ref a_values])), (a_values, .inl (y.1, 20, .inl v_values_2))] H → va_D A [(a, .inr (3, [.int v_size, .ref a_values])), (a_values, .inl (y.1, 20, .inl v_values_2))] → va_S A s.heap H locs → W p l e (headSpec wsX3_leastChange ({ frames := 5, cells := 0, slots := 0, locals := 118 } : Room)).room s m ([.ref a, .int x1] : List Value).toArray below meth c H locs 0 0 (MQ below (va_Qi K (bW D y A (fun u : ((Nat → Int32)) => [(a, .inr (3, [.int v_size, .ref a_values])), (a_values, .inl (y.1, 20, .inl u))])) A) ([.ref a, .int x1] : List Value).toArray s 0 0 A) (F0 m 2 ls []) := by
    intro K2 hR2 hE2 n
    induction n with
    | zero => intro x2_2 v_values_2 ls H locs h; exact (sat_lp0 h).elim
    | succ n ih =>
      intro x2_2 v_values_2 ls H locs h hl hP hD hS
      have h := sat_lp h
      have h : sat (m_X3_leastChange_s2 v_size x1 x2_2 v_values_2) (lk (fun s' => sat (lp (fun q : (Int32 × (Nat → Int32)) => m_X3_leastChange_s2 v_size x1 q.1 q.2) n s') K2) K2) := h
      unfold m_X3_leastChange_s2 at h
      refine lv_iload_n hx hb dX3_leastChange_2 rfl (lv_at hl 2 rfl) ?_
      refine lv_aload_n hx hb dX3_leastChange_3 rfl (lv_at hl 0 rfl) ?_
      refine va_get (D := D) (ci := 3) (v := .int v_size) (C := RX6) (T := TX6) (N := 2) hx hb hts iX6 hown hK hP 0 rfl rfl 0 (by decide) fl15 (fun _ h9 => h9) rfl dX3_leastChange_4 ?_
      refine lv_icmp_ge (tgt := 64) hx hb dX3_leastChange_7 (by decide) (fun c7 => ?_) (fun c7 => ?_)
      · have h := sat_t c7 h
        have h := lk_r (sat_some h)
        exact hE2 v_values_2 ls H locs h (lv_sub hl [] rfl) hP hD hS
      · have h := sat_f c7 h
        refine lv_iconst (v := 0) hx hb dX3_leastChange_10 (by decide) ?_
        refine lv_istore_n (lv' := [(3, .int 0), (0, .ref a), (1, .int x1), (2, .int x2_2)]) hx hb dX3_leastChange_11 rfl hl (by decide) rfl (fun ls hl => ?_)
        have hL12 : ∀ (K12 : ((Int32 × ((Nat → Int32))) ⊕ ((Nat → Int32))) → Prop)
            (hR12 : ∀ (u : (Int32 × ((Nat → Int32)))), K12 (.inl u) → pK K u)
            (hE12 : ∀ (z12 : ((Nat → Int32))) (ls : Array Slot) (H : Heap) (locs : List Loc), K12 (.inr z12) → lv_has ls 5 [(0, .ref a), (1, .int x1), (2, .int x2_2)] → va_P D vwCl [(a, .inr (3, [.int v_size, .ref a_values])), (a_values, .inl (y.1, 20, .inl z12))] H → va_D A [(a, .inr (3, [.int v_size, .ref a_values])), (a_values, .inl (y.1, 20, .inl z12))] → va_S A s.heap H locs → W p l e (headSpec wsX3_leastChange ({ frames := 5, cells := 0, slots := 0, locals := 118 } : Room)).room s m ([.ref a, .int x1] : List Value).toArray below meth c H locs 0 0 (MQ below (va_Qi K (bW D y A (fun u : ((Nat → Int32)) => [(a, .inr (3, [.int v_size, .ref a_values])), (a_values, .inl (y.1, 20, .inl u))])) A) ([.ref a, .int x1] : List Value).toArray s 0 0 A) (F0 m 58 ls []))
            (n : Nat) (x3_12 : Int32) (v_values_12 : Nat → Int32) (ls : Array Slot) (H : Heap) (locs : List Loc), sat (lp (fun q : (Int32 × (Nat → Int32)) => m_X3_leastChange_s12 v_size x1 x2_2 q.1 q.2) n (x3_12, v_values_12)) K12 → lv_has ls 5 [(0, .ref a), (1, .int x1), (2, .int x2_2), (3, .int x3_12)] → va_P D vwCl [(a, .inr (3, [.int v_size, .ref a_values])), (a_values, .inl (y.1, 20, .inl v_values_12))] H → va_D A [(a, .inr (3, [.int v_size, .ref a_values])), (a_values, .inl (y.1, 20, .inl v_values_12))] → va_S A s.heap H locs → W p l e (headSpec wsX3_leastChange ({ frames := 5, cells := 0, slots := 0, locals := 118 } : Room)).room s m ([.ref a, .int x1] : List Value).toArray below meth c H locs 0 0 (MQ below (va_Qi K (bW D y A (fun u : ((Nat → Int32)) => [(a, .inr (3, [.int v_size, .ref a_values])), (a_values, .inl (y.1, 20, .inl u))])) A) ([.ref a, .int x1] : List Value).toArray s 0 0 A) (F0 m 12 ls []) := by
          intro K12 hR12 hE12 n
          induction n with
          | zero => intro x3_12 v_values_12 ls H locs h; exact (sat_lp0 h).elim
          | succ n ih =>
            intro x3_12 v_values_12 ls H locs h hl hP hD hS
            have h := sat_lp h
            have h : sat (m_X3_leastChange_s12 v_size x1 x2_2 x3_12 v_values_12) (lk (fun s' => sat (lp (fun q : (Int32 × (Nat → Int32)) => m_X3_leastChange_s12 v_size x1 x2_2 q.1 q.2) n s') K12) K12) := h
            unfold m_X3_leastChange_s12 at h
            refine lv_iload_n hx hb dX3_leastChange_12 rfl (lv_at hl 3 rfl) ?_
            refine lv_aload_n hx hb dX3_leastChange_13 rfl (lv_at hl 0 rfl) ?_
            refine va_get (D := D) (ci := 3) (v := .int v_size) (C := RX6) (T := TX6) (N := 2) hx hb hts iX6 hown hK hP 0 rfl rfl 0 (by decide) fl15 (fun _ h9 => h9) rfl dX3_leastChange_14 ?_
            refine lv_icmp_ge (tgt := 58) hx hb dX3_leastChange_17 (by decide) (fun c17 => ?_) (fun c17 => ?_)
            · have h := sat_t c17 h
              have h := lk_r (sat_some h)
              exact hE12 v_values_12 ls H locs h (lv_sub hl [0, 1, 2] rfl) hP hD hS
            · have h := sat_f c17 h
              refine lv_aload_n hx hb dX3_leastChange_20 rfl (lv_at hl 0 rfl) ?_
              refine lv_iload_n hx hb dX3_leastChange_21 rfl (lv_at hl 1 rfl) ?_
              refine lv_iload_n hx hb dX3_leastChange_22 rfl (lv_at hl 2 rfl) ?_
              refine lv_iload_n hx hb dX3_leastChange_23 rfl (lv_at hl 3 rfl) ?_
              refine cr_i (rs (As := [.int x2_2, .int x3_12]) (rest := [.int x1, .ref a]) ⟨hx, hb, hml, hown, hts⟩ (c_X6_placeOfTwo l D y x2_2 x3_12 _ (sat_bind h)) (va_cwS 2 hts gX3_leastChange_X6_placeOfTwo rfl rfl rfl (by decide +kernel) ⟨Nat.le_of_ble_eq_true rfl, Nat.le_of_ble_eq_true rfl⟩) hK hP [] rfl rfl hl.1 rfl (Nat.le_of_ble_eq_true rfl) dX3_leastChange_24 ⟨Nat.zero_le _, Nat.zero_le _⟩) (fun r3 h => ?_)
              refine cw_i (wn := fun u4 => [(a, .inr (3, [.int v_size, .ref a_values])), (a_values, .inl (y.1, 20, .inl u4))]) (wr := []) (wsc (As := [.ref a, .int x1, .int r3]) (rest := []) ⟨hx, hb, hml, hown, hts⟩ (c_X3_leastValue l D y a a_values v_size v_values_12 x1 r3 _ _ rfl _ (sat_bd2 h)) (va_cwS 3 hts gX3_leastChange_X3_leastValue rfl rfl rfl (by decide +kernel) ⟨Nat.le_of_ble_eq_true rfl, Nat.le_of_ble_eq_true rfl⟩) hK hP hD [0, 1] rfl rfl rfl rfl hl.1 rfl (Nat.le_of_ble_eq_true rfl) dX3_leastChange_27 ⟨Nat.zero_le _, Nat.zero_le _⟩) hS hP hD hA [0, 1] [] [0, 1] rfl rfl rfl (by decide) (fun _ => rfl) rfl (fun _ => rfl) (fun r5 u4 H locs h hP hD hS => ?_)
              refine lv_istore (lv' := [(4, .int r5), (0, .ref a), (1, .int x1), (2, .int x2_2), (3, .int x3_12)]) hx hb dX3_leastChange_30 hl (by decide) rfl (fun ls hl => ?_)
              refine lv_iload hx hb dX3_leastChange_32 (lv_at hl 0 rfl) ?_
              refine lv_bipush (v := (-9)) hx hb dX3_leastChange_34 (by decide) ?_
              refine lv_icmp_eq (tgt := 52) hx hb dX3_leastChange_36 (by decide) (fun c36 => ?_) (fun c36 => ?_)
              · have h := sat_t c36 h
                refine lv_iinc (v := x3_12 + 1) (lv' := [(3, .int (x3_12 + 1)), (4, .int r5), (0, .ref a), (1, .int x1), (2, .int x2_2)]) hx hb dX3_leastChange_52 hl (k := 4) rfl rfl (by decide) rfl (fun ls hl => ?_)
                refine lv_goto (tgt := 12) hx hb dX3_leastChange_55 (by decide) ?_
                have h := lk_l (sat_some h)
                exact ih (x3_12 + 1) u4 ls H locs h (lv_sub hl [2, 3, 4, 0] rfl) hP hD hS
              · have h := sat_f c36 h
                refine lv_bipush (v := 100) hx hb dX3_leastChange_39 (by decide) ?_
                refine lv_iload_n hx hb dX3_leastChange_41 rfl (lv_at hl 3 rfl) ?_
                refine lv_imul hx hb dX3_leastChange_42 ?_
                refine lv_bipush (v := 10) hx hb dX3_leastChange_43 (by decide) ?_
                refine lv_iload_n hx hb dX3_leastChange_45 rfl (lv_at hl 4 rfl) ?_
                refine lv_imul hx hb dX3_leastChange_46 ?_
                refine lv_iadd hx hb dX3_leastChange_47 ?_
                refine lv_iload hx hb dX3_leastChange_48 (lv_at hl 0 rfl) ?_
                refine lv_iadd hx hb dX3_leastChange_50 ?_
                have h := hR12 _ (lk_r (sat_some h))
                exact W.iret (v := ((100 * x2_2) + (10 * x3_12)) + r5) hx hb hr (fun t ht hW => ⟨⟨((100 * x2_2) + (10 * x3_12)) + r5, u4, rfl, h, by rw [ht]; exact hP, va_K.moved hW.alike hK, hD⟩, hS.F ht⟩) hS.2.2 dX3_leastChange_51
        have h := sat_bdS h
        refine hL12 _ (fun u h => ?_) (fun z12 ls H locs h hl hP hD hS => ?_) 1000 0 v_values_2 ls H locs h (lv_sub hl [1, 2, 3, 0] rfl) hP hD hS
        · have h := lk_l h
          exact hR2 _ (lk_r (sat_some h))
        · have h := lk_r h
          refine lv_iinc (v := x2_2 + 1) (lv' := [(2, .int (x2_2 + 1)), (0, .ref a), (1, .int x1)]) hx hb dX3_leastChange_58 hl (k := 2) rfl rfl (by decide) rfl (fun ls hl => ?_)
          refine lv_goto (tgt := 2) hx hb dX3_leastChange_61 (by decide) ?_
          have h := lk_l (sat_some h)
          exact ih (x2_2 + 1) z12 ls H locs h (lv_sub hl [1, 2, 0] rfl) hP hD hS
  have h := sat_bdS h
  refine hL2 _ (fun u h => ?_) (fun z2 ls H locs h hl hP hD hS => ?_) 1000 0 v_values ls s.heap [] h (lv_sub hl [1, 2, 0] rfl) hP hD hS
  · have h := lk_l h
    exact sat_some h
  · have h := lk_r h
    refine lv_bipush (v := (-9)) hx hb dX3_leastChange_64 (by decide) ?_
    have h := sat_some h
    exact W.iret (v := (-9)) hx hb hr (fun t ht hW => ⟨⟨(-9), z2, rfl, h, by rw [ht]; exact hP, va_K.moved hW.alike hK, hD⟩, hS.F ht⟩) hS.2.2 dX3_leastChange_66

/-! X4_of -/
set_option maxHeartbeats 4000000 in
set_option maxRecDepth 100000 in
theorem c_X4_of (l : Launch) (D : va_G) (y : ClassId × ClassId × ClassId × ClassId) (x0 : Int32) (x1 : Int32) (K : Int32 → Prop) (h : sat (m_X4_of x0 x1) K) : Met l yX4_of wsX4_of ({ frames := 0, cells := 0, slots := 0, locals := 0 } : Room) (pR D y ([.int x0, .int x1] : List Value) []) (qSi K) 0 0 (fun _ => False) := by
  refine Met.ofW (cc := cX4_of) (maxL := 2) (ret := (some .int)) (by decide) rfl ?_
  intro p e s m args below meth c s₁ B hml hv
  obtain ⟨rfl, hP, hK⟩ := hv
  have hx := B.exec
  have hb := B.bytes
  have hr := B.returns
  have hts := atoms_spec (ws := wsX4_of) B.pre
  have hown : s.vm.findClass RX4 = some m.cls := findClass_of_methodNamed B.named
  have hlocks := B.notSynchronized
  have hl := lv_entry ([.int x0, .int x1] : List Value) (n := 2) (Nat.le_of_ble_eq_true rfl)
  rw [lg_entry_eq]
  generalize (lg_sl ([.int x0, .int x1] : List Value) ++ List.replicate (2 - (lg_sl ([.int x0, .int x1] : List Value)).length) Slot.unset).toArray = ls at hl ⊢
  have hl : lv_has ls 2 [(0, .int x0), (1, .int x1)] := hl
  unfold m_X4_of at h
  refine lv_iload_n hx hb dX4_of_0 rfl (lv_at hl 0 rfl) ?_
  refine lv_iconst (v := 2) hx hb dX4_of_1 (by decide) ?_
  refine lv_iload_n hx hb dX4_of_2 rfl (lv_at hl 1 rfl) ?_
  refine lv_imul hx hb dX4_of_3 ?_
  refine lv_ishr hx hb dX4_of_4 ?_
  refine lv_iconst (v := 3) hx hb dX4_of_5 (by decide) ?_
  refine lv_iand hx hb dX4_of_6 ?_
  have h := sat_some h
  exact W.iret (v := (x0 >>> ((2 * x1) &&& 31)) &&& 3) hx hb hr (fun t ht _ => ⟨(x0 >>> ((2 * x1) &&& 31)) &&& 3, rfl, h, ht⟩) (fun _ hq => by cases hq) dX4_of_7

/-! X4_isInside -/
set_option maxHeartbeats 4000000 in
set_option maxRecDepth 100000 in
theorem c_X4_isInside (l : Launch) (D : va_G) (y : ClassId × ClassId × ClassId × ClassId) (a a_values : Nat) (v_size : Int32) (x1 : Int32) (K : Int32 → Prop) (h : sat (m_X4_isInside v_size x1) K) : Met l yX4_isInside wsX4_isInside ({ frames := 1, cells := 0, slots := 0, locals := 21 } : Room) (pR D y ([.ref a, .int x1] : List Value) [(a, .inr (3, [.int v_size, .ref a_values]))]) (qSi K) 0 0 (fun _ => False) := by
  refine Met.ofW (cc := cX4_isInside) (maxL := 3) (ret := (some .boolean)) (by decide) rfl ?_
  intro p e s m args below meth c s₁ B hml hv
  obtain ⟨rfl, hP, hK⟩ := hv
  have hx := B.exec
  have hb := B.bytes
  have hr := B.returns
  have hts := atoms_spec (ws := wsX4_isInside) B.pre
  have hown : s.vm.findClass RX4 = some m.cls := findClass_of_methodNamed B.named
  have hlocks := B.notSynchronized
  have iX6 : ∀ w ∈ wsX60, w ∈ wsX4_isInside := by decide +kernel
  have fl7 := hts (.fieldLink RX4 7 "AlgebraLaws$Tables" "size" "I") (by decide +kernel)
  have hl := lv_entry ([.ref a, .int x1] : List Value) (n := 3) (Nat.le_of_ble_eq_true rfl)
  rw [lg_entry_eq]
  generalize (lg_sl ([.ref a, .int x1] : List Value) ++ List.replicate (3 - (lg_sl ([.ref a, .int x1] : List Value)).length) Slot.unset).toArray = ls at hl ⊢
  have hl : lv_has ls 3 [(0, .ref a), (1, .int x1)] := hl
  unfold m_X4_isInside at h
  refine lv_iconst (v := 0) hx hb dX4_isInside_0 (by decide) ?_
  refine lv_istore_n (lv' := [(2, .int 0), (0, .ref a), (1, .int x1)]) hx hb dX4_isInside_1 rfl hl (by decide) rfl (fun ls hl => ?_)
  have hL2 : ∀ (K2 : (Int32 ⊕ Unit) → Prop)
      (hR2 : ∀ (u : Int32), K2 (.inl u) → K u)
      (hE2 : ∀ (z2 : Unit) (ls : Array Slot), K2 (.inr z2) → lv_has ls 3 [] → W p l e (headSpec wsX4_isInside ({ frames := 1, cells := 0, slots := 0, locals := 21 } : Room)).room s m ([.ref a, .int x1] : List Value).toArray below meth c s.heap [] 0 0 (MQ below (qSi K) ([.ref a, .int x1] : List Value).toArray s 0 0 (fun _ => False)) (F0 m 30 ls []))
      (n : Nat) (x2_2 : Int32) (ls : Array Slot), sat (lp (fun q : Int32 => m_X4_isInside_s2 v_size x1 q) n x2_2) K2 → lv_has ls 3 [(0, .ref a), (1, .int x1), (2, .int x2_2)] → W p l e (headSpec wsX4_isInside ({ frames := 1, cells := 0, slots := 0, locals := 21 } : Room)).room s m ([.ref a, .int x1] : List Value).toArray below meth c s.heap [] 0 0 (MQ below (qSi K) ([.ref a, .int x1] : List Value).toArray s 0 0 (fun _ => False)) (F0 m 2 ls []) := by
    intro K2 hR2 hE2 n
    induction n with
    | zero => intro x2_2 ls h; exact (sat_lp0 h).elim
    | succ n ih =>
      intro x2_2 ls h hl
      have h := sat_lp h
      have h : sat (m_X4_isInside_s2 v_size x1 x2_2) (lk (fun s' => sat (lp (fun q : Int32 => m_X4_isInside_s2 v_size x1 q) n s') K2) K2) := h
      unfold m_X4_isInside_s2 at h
      refine lv_iload_n hx hb dX4_isInside_2 rfl (lv_at hl 2 rfl) ?_
      refine lv_aload_n hx hb dX4_isInside_3 rfl (lv_at hl 0 rfl) ?_
      refine va_get (D := D) (ci := 3) (v := .int v_size) (C := RX6) (T := TX6) (N := 2) hx hb hts iX6 hown hK hP 0 rfl rfl 0 (by decide) fl7 (fun _ h9 => h9) rfl dX4_isInside_4 ?_
      refine lv_icmp_ge (tgt := 30) hx hb dX4_isInside_7 (by decide) (fun c7 => ?_) (fun c7 => ?_)
      · have h := sat_t c7 h
        have h := lk_r (sat_some h)
        exact hE2 () ls h (lv_sub hl [] rfl)
      · have h := sat_f c7 h
        refine lv_aload_n hx hb dX4_isInside_10 rfl (lv_at hl 0 rfl) ?_
        refine lv_iload_n hx hb dX4_isInside_11 rfl (lv_at hl 1 rfl) ?_
        refine lv_iload_n hx hb dX4_isInside_12 rfl (lv_at hl 2 rfl) ?_
        refine cr_i (rs (As := [.int x1, .int x2_2]) (rest := [.ref a]) ⟨hx, hb, hml, hown, hts⟩ (c_X4_of l D y x1 x2_2 _ (sat_bind h)) (va_cwS 2 hts gX4_isInside_X4_of rfl rfl rfl (by decide +kernel) ⟨Nat.le_of_ble_eq_true rfl, Nat.le_of_ble_eq_true rfl⟩) hK hP [] rfl rfl hl.1 rfl (Nat.le_of_ble_eq_true rfl) dX4_isInside_13 ⟨Nat.zero_le _, Nat.zero_le _⟩) (fun r2 h => ?_)
        refine cr_i (rv (As := [.int r2]) (rest := []) ⟨hx, hb, hml, hown, hts⟩ (c_X6_has l D y a a_values v_size r2 _ (sat_bind h)) (cwV 1 hts gX4_isInside_X6_has rfl rfl rfl (by decide +kernel) ⟨Nat.le_of_ble_eq_true rfl, Nat.le_of_ble_eq_true rfl⟩) hK hP [0] rfl 0 3 rfl rfl rfl rfl hl.1 rfl (Nat.le_of_ble_eq_true rfl) dX4_isInside_16 ⟨Nat.zero_le _, Nat.zero_le _⟩) (fun r3 h => ?_)
        refine lv_if_ne (tgt := 24) hx hb dX4_isInside_19 (by decide) (fun c19 => ?_) (fun c19 => ?_)
        · have h := sat_f c19 h
          refine lv_iinc (v := x2_2 + 1) (lv' := [(2, .int (x2_2 + 1)), (0, .ref a), (1, .int x1)]) hx hb dX4_isInside_24 hl (k := 2) rfl rfl (by decide) rfl (fun ls hl => ?_)
          refine lv_goto (tgt := 2) hx hb dX4_isInside_27 (by decide) ?_
          have h := lk_l (sat_some h)
          exact ih (x2_2 + 1) ls h (lv_sub hl [1, 2, 0] rfl)
        · have h := sat_t c19 h
          refine lv_iconst (v := 0) hx hb dX4_isInside_22 (by decide) ?_
          have h := hR2 _ (lk_r (sat_some h))
          exact W.zret (v := 0) hx hb hr rfl (fun t ht _ => ⟨0, rfl, h, ht⟩) (fun _ hq => by cases hq) dX4_isInside_23
  have h := sat_bdS h
  refine hL2 _ (fun u h => ?_) (fun z2 ls h hl => ?_) 1000 0 ls h (lv_sub hl [1, 2, 0] rfl)
  · have h := lk_l h
    exact sat_some h
  · have h := lk_r h
    refine lv_iconst (v := 1) hx hb dX4_isInside_30 (by decide) ?_
    have h := sat_some h
    exact W.zret (v := 1) hx hb hr rfl (fun t ht _ => ⟨1, rfl, h, ht⟩) (fun _ hq => by cases hq) dX4_isInside_31

/-! X4_isOnto -/
set_option maxHeartbeats 4000000 in
set_option maxRecDepth 100000 in
theorem c_X4_isOnto (l : Launch) (D : va_G) (y : ClassId × ClassId × ClassId × ClassId) (a a_values : Nat) (v_size : Int32) (x1 : Int32) (K : Int32 → Prop) (h : sat (m_X4_isOnto v_size x1) K) : Met l yX4_isOnto wsX4_isOnto ({ frames := 1, cells := 0, slots := 0, locals := 21 } : Room) (pR D y ([.ref a, .int x1] : List Value) [(a, .inr (3, [.int v_size, .ref a_values]))]) (qSi K) 0 0 (fun _ => False) := by
  refine Met.ofW (cc := cX4_isOnto) (maxL := 4) (ret := (some .boolean)) (by decide) rfl ?_
  intro p e s m args below meth c s₁ B hml hv
  obtain ⟨rfl, hP, hK⟩ := hv
  have hx := B.exec
  have hb := B.bytes
  have hr := B.returns
  have hts := atoms_spec (ws := wsX4_isOnto) B.pre
  have hown : s.vm.findClass RX4 = some m.cls := findClass_of_methodNamed B.named
  have hlocks := B.notSynchronized
  have iX6 : ∀ w ∈ wsX60, w ∈ wsX4_isOnto := by decide +kernel
  have fl7 := hts (.fieldLink RX4 7 "AlgebraLaws$Tables" "size" "I") (by decide +kernel)
  have hl := lv_entry ([.ref a, .int x1] : List Value) (n := 4) (Nat.le_of_ble_eq_true rfl)
  rw [lg_entry_eq]
  generalize (lg_sl ([.ref a, .int x1] : List Value) ++ List.replicate (4 - (lg_sl ([.ref a, .int x1] : List Value)).length) Slot.unset).toArray = ls at hl ⊢
  have hl : lv_has ls 4 [(0, .ref a), (1, .int x1)] := hl
  unfold m_X4_isOnto at h
  refine lv_iconst (v := 0) hx hb dX4_isOnto_0 (by decide) ?_
  refine lv_istore_n (lv' := [(2, .int 0), (0, .ref a), (1, .int x1)]) hx hb dX4_isOnto_1 rfl hl (by decide) rfl (fun ls hl => ?_)
  refine lv_iconst (v := 0) hx hb dX4_isOnto_2 (by decide) ?_
  refine lv_istore_n (lv' := [(3, .int 0), (2, .int 0), (0, .ref a), (1, .int x1)]) hx hb dX4_isOnto_3 rfl hl (by decide) rfl (fun ls hl => ?_)
  have hL4 : ∀ (K4 : Int32 → Prop)
      (hE4 : ∀ (z4 : Int32) (ls : Array Slot), K4 z4 → lv_has ls 4 [(0, .ref a), (2, .int z4)] → W p l e (headSpec wsX4_isOnto ({ frames := 1, cells := 0, slots := 0, locals := 21 } : Room)).room s m ([.ref a, .int x1] : List Value).toArray below meth c s.heap [] 0 0 (MQ below (qSi K) ([.ref a, .int x1] : List Value).toArray s 0 0 (fun _ => False)) (F0 m 28 ls []))
      (n : Nat) (x2_4 : Int32) (x3_4 : Int32) (ls : Array Slot), sat (lp (fun q : (Int32 × Int32) => m_X4_isOnto_s4 v_size x1 q.1 q.2) n (x2_4, x3_4)) K4 → lv_has ls 4 [(0, .ref a), (1, .int x1), (2, .int x2_4), (3, .int x3_4)] → W p l e (headSpec wsX4_isOnto ({ frames := 1, cells := 0, slots := 0, locals := 21 } : Room)).room s m ([.ref a, .int x1] : List Value).toArray below meth c s.heap [] 0 0 (MQ below (qSi K) ([.ref a, .int x1] : List Value).toArray s 0 0 (fun _ => False)) (F0 m 4 ls []) := by
    intro K4 hE4 n
    induction n with
    | zero => intro x2_4 x3_4 ls h; exact (sat_lp0 h).elim
    | succ n ih =>
      intro x2_4 x3_4 ls h hl
      have h := sat_lp h
      have h : sat (m_X4_isOnto_s4 v_size x1 x2_4 x3_4) (lk (fun s' => sat (lp (fun q : (Int32 × Int32) => m_X4_isOnto_s4 v_size x1 q.1 q.2) n s') K4) K4) := h
      unfold m_X4_isOnto_s4 at h
      refine lv_iload_n hx hb dX4_isOnto_4 rfl (lv_at hl 3 rfl) ?_
      refine lv_aload_n hx hb dX4_isOnto_5 rfl (lv_at hl 0 rfl) ?_
      refine va_get (D := D) (ci := 3) (v := .int v_size) (C := RX6) (T := TX6) (N := 2) hx hb hts iX6 hown hK hP 0 rfl rfl 0 (by decide) fl7 (fun _ h9 => h9) rfl dX4_isOnto_6 ?_
      refine lv_icmp_ge (tgt := 28) hx hb dX4_isOnto_9 (by decide) (fun c9 => ?_) (fun c9 => ?_)
      · have h := sat_t c9 h
        have h := lk_r (sat_some h)
        exact hE4 x2_4 ls h (lv_sub hl [0, 2] rfl)
      · have h := sat_f c9 h
        refine lv_iload_n hx hb dX4_isOnto_12 rfl (lv_at hl 2 rfl) ?_
        refine lv_iconst (v := 1) hx hb dX4_isOnto_13 (by decide) ?_
        refine lv_iload_n hx hb dX4_isOnto_14 rfl (lv_at hl 1 rfl) ?_
        refine lv_iload_n hx hb dX4_isOnto_15 rfl (lv_at hl 3 rfl) ?_
        refine cr_i (rs (As := [.int x1, .int x3_4]) (rest := [.int 1, .int x2_4]) ⟨hx, hb, hml, hown, hts⟩ (c_X4_of l D y x1 x3_4 _ (sat_bind h)) (va_cwS 2 hts gX4_isOnto_X4_of rfl rfl rfl (by decide +kernel) ⟨Nat.le_of_ble_eq_true rfl, Nat.le_of_ble_eq_true rfl⟩) hK hP [] rfl rfl hl.1 rfl (Nat.le_of_ble_eq_true rfl) dX4_isOnto_16 ⟨Nat.zero_le _, Nat.zero_le _⟩) (fun r2 h => ?_)
        refine lv_ishl hx hb dX4_isOnto_19 ?_
        refine lv_ior hx hb dX4_isOnto_20 ?_
        refine lv_istore_n (lv' := [(2, .int (x2_4 ||| (1 <<< (r2 &&& 31)))), (0, .ref a), (1, .int x1), (3, .int x3_4)]) hx hb dX4_isOnto_21 rfl hl (by decide) rfl (fun ls hl => ?_)
        refine lv_iinc (v := x3_4 + 1) (lv' := [(3, .int (x3_4 + 1)), (2, .int (x2_4 ||| (1 <<< (r2 &&& 31)))), (0, .ref a), (1, .int x1)]) hx hb dX4_isOnto_22 hl (k := 3) rfl rfl (by decide) rfl (fun ls hl => ?_)
        refine lv_goto (tgt := 4) hx hb dX4_isOnto_25 (by decide) ?_
        have h := lk_l (sat_some h)
        exact ih (x2_4 ||| (1 <<< (r2 &&& 31))) (x3_4 + 1) ls h (lv_sub hl [2, 3, 1, 0] rfl)
  have h := sat_bind h
  refine hL4 _ (fun z4 ls h hl => ?_) 1000 0 0 ls h (lv_sub hl [2, 3, 1, 0] rfl)
  refine lv_iload_n hx hb dX4_isOnto_28 rfl (lv_at hl 1 rfl) ?_
  refine lv_aload_n hx hb dX4_isOnto_29 rfl (lv_at hl 0 rfl) ?_
  refine cr_i (rv (As := []) (rest := [.int z4]) ⟨hx, hb, hml, hown, hts⟩ (c_X6_allElements l D y a a_values v_size _ (sat_bind h)) (cwV 0 hts gX4_isOnto_X6_allElements rfl rfl rfl (by decide +kernel) ⟨Nat.le_of_ble_eq_true rfl, Nat.le_of_ble_eq_true rfl⟩) hK hP [0] rfl 0 3 rfl rfl rfl rfl hl.1 rfl (Nat.le_of_ble_eq_true rfl) dX4_isOnto_30 ⟨Nat.zero_le _, Nat.zero_le _⟩) (fun r3 h => ?_)
  refine lv_icmp_ne (tgt := 40) hx hb dX4_isOnto_33 (by decide) (fun c33 => ?_) (fun c33 => ?_)
  · have h := sat_f c33 h
    refine lv_iconst (v := 0) hx hb dX4_isOnto_40 (by decide) ?_
    have h := sat_some h
    exact W.zret (v := 0) hx hb hr rfl (fun t ht _ => ⟨0, rfl, h, ht⟩) (fun _ hq => by cases hq) dX4_isOnto_41
  · have h := sat_t c33 h
    refine lv_iconst (v := 1) hx hb dX4_isOnto_36 (by decide) ?_
    refine lv_goto (tgt := 41) hx hb dX4_isOnto_37 (by decide) ?_
    have h := sat_some h
    exact W.zret (v := 1) hx hb hr rfl (fun t ht _ => ⟨1, rfl, h, ht⟩) (fun _ hq => by cases hq) dX4_isOnto_41

/-! X4_goesAlong -/
set_option maxHeartbeats 4000000 in
set_option maxRecDepth 100000 in
theorem c_X4_goesAlong (l : Launch) (D : va_G) (y : ClassId × ClassId × ClassId × ClassId) (a a_values : Nat) (v_size : Int32) (v_values : Nat → Int32) (x1 : Int32) (K : Int32 → Prop) (h : sat (m_X4_goesAlong v_size v_values x1) K) : Met l yX4_goesAlong wsX4_goesAlong ({ frames := 2, cells := 0, slots := 0, locals := 43 } : Room) (pR D y ([.ref a, .int x1] : List Value) [(a, .inr (3, [.int v_size, .ref a_values])), (a_values, .inl (y.1, 20, .inl v_values))]) (qSi K) 0 0 (fun _ => False) := by
  refine Met.ofW (cc := cX4_goesAlong) (maxL := 4) (ret := (some .boolean)) (by decide) rfl ?_
  intro p e s m args below meth c s₁ B hml hv
  obtain ⟨rfl, hP, hK⟩ := hv
  have hx := B.exec
  have hb := B.bytes
  have hr := B.returns
  have hts := atoms_spec (ws := wsX4_goesAlong) B.pre
  have hown : s.vm.findClass RX4 = some m.cls := findClass_of_methodNamed B.named
  have hlocks := B.notSynchronized
  have iX6 : ∀ w ∈ wsX60, w ∈ wsX4_goesAlong := by decide +kernel
  have fl7 := hts (.fieldLink RX4 7 "AlgebraLaws$Tables" "size" "I") (by decide +kernel)
  have hl := lv_entry ([.ref a, .int x1] : List Value) (n := 4) (Nat.le_of_ble_eq_true rfl)
  rw [lg_entry_eq]
  generalize (lg_sl ([.ref a, .int x1] : List Value) ++ List.replicate (4 - (lg_sl ([.ref a, .int x1] : List Value)).length) Slot.unset).toArray = ls at hl ⊢
  have hl : lv_has ls 4 [(0, .ref a), (1, .int x1)] := hl
  unfold m_X4_goesAlong at h
  refine lv_iconst (v := 0) hx hb dX4_goesAlong_0 (by decide) ?_
  refine lv_istore_n (lv' := [(2, .int 0), (0, .ref a), (1, .int x1)]) hx hb dX4_goesAlong_1 rfl hl (by decide) rfl (fun ls hl => ?_)
  have hL2 : ∀ (K2 : (Int32 ⊕ Unit) → Prop)
      (hR2 : ∀ (u : Int32), K2 (.inl u) → K u)
      (hE2 : ∀ (z2 : Unit) (ls : Array Slot), K2 (.inr z2) → lv_has ls 4 [] → W p l e (headSpec wsX4_goesAlong ({ frames := 2, cells := 0, slots := 0, locals := 43 } : Room)).room s m ([.ref a, .int x1] : List Value).toArray below meth c s.heap [] 0 0 (MQ below (qSi K) ([.ref a, .int x1] : List Value).toArray s 0 0 (fun _ => False)) (F0 m 84 ls []))
      (n : Nat) (x2_2 : Int32) (ls : Array Slot), sat (lp (fun q : Int32 => m_X4_goesAlong_s2 v_size v_values x1 q) n x2_2) K2 → lv_has ls 4 [(0, .ref a), (1, .int x1), (2, .int x2_2)] → W p l e (headSpec wsX4_goesAlong ({ frames := 2, cells := 0, slots := 0, locals := 43 } : Room)).room s m ([.ref a, .int x1] : List Value).toArray below meth c s.heap [] 0 0 (MQ below (qSi K) ([.ref a, .int x1] : List Value).toArray s 0 0 (fun _ => False)) (F0 m 2 ls []) := by
    intro K2 hR2 hE2 n
    induction n with
    | zero => intro x2_2 ls h; exact (sat_lp0 h).elim
    | succ n ih =>
      intro x2_2 ls h hl
      have h := sat_lp h
      have h : sat (m_X4_goesAlong_s2 v_size v_values x1 x2_2) (lk (fun s' => sat (lp (fun q : Int32 => m_X4_goesAlong_s2 v_size v_values x1 q) n s') K2) K2) := h
      unfold m_X4_goesAlong_s2 at h
      refine lv_iload_n hx hb dX4_goesAlong_2 rfl (lv_at hl 2 rfl) ?_
      refine lv_aload_n hx hb dX4_goesAlong_3 rfl (lv_at hl 0 rfl) ?_
      refine va_get (D := D) (ci := 3) (v := .int v_size) (C := RX6) (T := TX6) (N := 2) hx hb hts iX6 hown hK hP 0 rfl rfl 0 (by decide) fl7 (fun _ h9 => h9) rfl dX4_goesAlong_4 ?_
      refine lv_icmp_ge (tgt := 84) hx hb dX4_goesAlong_7 (by decide) (fun c7 => ?_) (fun c7 => ?_)
      · have h := sat_t c7 h
        have h := lk_r (sat_some h)
        exact hE2 () ls h (lv_sub hl [] rfl)
      · have h := sat_f c7 h
        refine lv_iload_n hx hb dX4_goesAlong_10 rfl (lv_at hl 1 rfl) ?_
        refine lv_aload_n hx hb dX4_goesAlong_11 rfl (lv_at hl 0 rfl) ?_
        refine lv_iload_n hx hb dX4_goesAlong_12 rfl (lv_at hl 2 rfl) ?_
        refine cr_i (rv (As := [.int x2_2]) (rest := [.int x1]) ⟨hx, hb, hml, hown, hts⟩ (c_X6_one l D y a a_values v_size v_values x2_2 _ (sat_bind h)) (cwV 1 hts gX4_goesAlong_X6_one rfl rfl rfl (by decide +kernel) ⟨Nat.le_of_ble_eq_true rfl, Nat.le_of_ble_eq_true rfl⟩) hK hP [0, 1] rfl 0 3 rfl rfl rfl rfl hl.1 rfl (Nat.le_of_ble_eq_true rfl) dX4_goesAlong_13 ⟨Nat.zero_le _, Nat.zero_le _⟩) (fun r2 h => ?_)
        refine cr_i (rs (As := [.int x1, .int r2]) (rest := []) ⟨hx, hb, hml, hown, hts⟩ (c_X4_of l D y x1 r2 _ (sat_bind h)) (va_cwS 2 hts gX4_goesAlong_X4_of rfl rfl rfl (by decide +kernel) ⟨Nat.le_of_ble_eq_true rfl, Nat.le_of_ble_eq_true rfl⟩) hK hP [] rfl rfl hl.1 rfl (Nat.le_of_ble_eq_true rfl) dX4_goesAlong_16 ⟨Nat.zero_le _, Nat.zero_le _⟩) (fun r3 h => ?_)
        refine lv_aload_n hx hb dX4_goesAlong_19 rfl (lv_at hl 0 rfl) ?_
        refine lv_iload_n hx hb dX4_goesAlong_20 rfl (lv_at hl 1 rfl) ?_
        refine lv_iload_n hx hb dX4_goesAlong_21 rfl (lv_at hl 2 rfl) ?_
        refine cr_i (rs (As := [.int x1, .int x2_2]) (rest := [.ref a, .int r3]) ⟨hx, hb, hml, hown, hts⟩ (c_X4_of l D y x1 x2_2 _ (sat_bind h)) (va_cwS 2 hts gX4_goesAlong_X4_of rfl rfl rfl (by decide +kernel) ⟨Nat.le_of_ble_eq_true rfl, Nat.le_of_ble_eq_true rfl⟩) hK hP [] rfl rfl hl.1 rfl (Nat.le_of_ble_eq_true rfl) dX4_goesAlong_22 ⟨Nat.zero_le _, Nat.zero_le _⟩) (fun r4 h => ?_)
        refine cr_i (rv (As := [.int r4]) (rest := [.int r3]) ⟨hx, hb, hml, hown, hts⟩ (c_X6_one l D y a a_values v_size v_values r4 _ (sat_bind h)) (cwV 1 hts gX4_goesAlong_X6_one rfl rfl rfl (by decide +kernel) ⟨Nat.le_of_ble_eq_true rfl, Nat.le_of_ble_eq_true rfl⟩) hK hP [0, 1] rfl 0 3 rfl rfl rfl rfl hl.1 rfl (Nat.le_of_ble_eq_true rfl) dX4_goesAlong_25 ⟨Nat.zero_le _, Nat.zero_le _⟩) (fun r5 h => ?_)
        refine lv_icmp_eq (tgt := 33) hx hb dX4_goesAlong_28 (by decide) (fun c28 => ?_) (fun c28 => ?_)
        · have h := sat_t c28 h
          refine lv_iconst (v := 0) hx hb dX4_goesAlong_33 (by decide) ?_
          refine lv_istore_n (lv' := [(3, .int 0), (0, .ref a), (1, .int x1), (2, .int x2_2)]) hx hb dX4_goesAlong_34 rfl hl (by decide) rfl (fun ls hl => ?_)
          have hL35 : ∀ (K35 : (Int32 ⊕ Unit) → Prop)
              (hR35 : ∀ (u : Int32), K35 (.inl u) → K u)
              (hE35 : ∀ (z35 : Unit) (ls : Array Slot), K35 (.inr z35) → lv_has ls 4 [(0, .ref a), (1, .int x1), (2, .int x2_2)] → W p l e (headSpec wsX4_goesAlong ({ frames := 2, cells := 0, slots := 0, locals := 43 } : Room)).room s m ([.ref a, .int x1] : List Value).toArray below meth c s.heap [] 0 0 (MQ below (qSi K) ([.ref a, .int x1] : List Value).toArray s 0 0 (fun _ => False)) (F0 m 78 ls []))
              (n : Nat) (x3_35 : Int32) (ls : Array Slot), sat (lp (fun q : Int32 => m_X4_goesAlong_s35 v_size v_values x1 x2_2 q) n x3_35) K35 → lv_has ls 4 [(0, .ref a), (1, .int x1), (2, .int x2_2), (3, .int x3_35)] → W p l e (headSpec wsX4_goesAlong ({ frames := 2, cells := 0, slots := 0, locals := 43 } : Room)).room s m ([.ref a, .int x1] : List Value).toArray below meth c s.heap [] 0 0 (MQ below (qSi K) ([.ref a, .int x1] : List Value).toArray s 0 0 (fun _ => False)) (F0 m 35 ls []) := by
            intro K35 hR35 hE35 n
            induction n with
            | zero => intro x3_35 ls h; exact (sat_lp0 h).elim
            | succ n ih =>
              intro x3_35 ls h hl
              have h := sat_lp h
              have h : sat (m_X4_goesAlong_s35 v_size v_values x1 x2_2 x3_35) (lk (fun s' => sat (lp (fun q : Int32 => m_X4_goesAlong_s35 v_size v_values x1 x2_2 q) n s') K35) K35) := h
              unfold m_X4_goesAlong_s35 at h
              refine lv_iload_n hx hb dX4_goesAlong_35 rfl (lv_at hl 3 rfl) ?_
              refine lv_aload_n hx hb dX4_goesAlong_36 rfl (lv_at hl 0 rfl) ?_
              refine va_get (D := D) (ci := 3) (v := .int v_size) (C := RX6) (T := TX6) (N := 2) hx hb hts iX6 hown hK hP 0 rfl rfl 0 (by decide) fl7 (fun _ h9 => h9) rfl dX4_goesAlong_37 ?_
              refine lv_icmp_ge (tgt := 78) hx hb dX4_goesAlong_40 (by decide) (fun c40 => ?_) (fun c40 => ?_)
              · have h := sat_t c40 h
                have h := lk_r (sat_some h)
                exact hE35 () ls h (lv_sub hl [0, 1, 2] rfl)
              · have h := sat_f c40 h
                refine lv_iload_n hx hb dX4_goesAlong_43 rfl (lv_at hl 1 rfl) ?_
                refine lv_aload_n hx hb dX4_goesAlong_44 rfl (lv_at hl 0 rfl) ?_
                refine lv_iload_n hx hb dX4_goesAlong_45 rfl (lv_at hl 2 rfl) ?_
                refine lv_iload_n hx hb dX4_goesAlong_46 rfl (lv_at hl 3 rfl) ?_
                refine cr_i (rv (As := [.int x2_2, .int x3_35]) (rest := [.int x1]) ⟨hx, hb, hml, hown, hts⟩ (c_X6_two l D y a a_values v_size v_values x2_2 x3_35 _ (sat_bind h)) (cwV 2 hts gX4_goesAlong_X6_two rfl rfl rfl (by decide +kernel) ⟨Nat.le_of_ble_eq_true rfl, Nat.le_of_ble_eq_true rfl⟩) hK hP [0, 1] rfl 0 3 rfl rfl rfl rfl hl.1 rfl (Nat.le_of_ble_eq_true rfl) dX4_goesAlong_47 ⟨Nat.zero_le _, Nat.zero_le _⟩) (fun r7 h => ?_)
                refine cr_i (rs (As := [.int x1, .int r7]) (rest := []) ⟨hx, hb, hml, hown, hts⟩ (c_X4_of l D y x1 r7 _ (sat_bind h)) (va_cwS 2 hts gX4_goesAlong_X4_of rfl rfl rfl (by decide +kernel) ⟨Nat.le_of_ble_eq_true rfl, Nat.le_of_ble_eq_true rfl⟩) hK hP [] rfl rfl hl.1 rfl (Nat.le_of_ble_eq_true rfl) dX4_goesAlong_50 ⟨Nat.zero_le _, Nat.zero_le _⟩) (fun r8 h => ?_)
                refine lv_aload_n hx hb dX4_goesAlong_53 rfl (lv_at hl 0 rfl) ?_
                refine lv_iload_n hx hb dX4_goesAlong_54 rfl (lv_at hl 1 rfl) ?_
                refine lv_iload_n hx hb dX4_goesAlong_55 rfl (lv_at hl 2 rfl) ?_
                refine cr_i (rs (As := [.int x1, .int x2_2]) (rest := [.ref a, .int r8]) ⟨hx, hb, hml, hown, hts⟩ (c_X4_of l D y x1 x2_2 _ (sat_bind h)) (va_cwS 2 hts gX4_goesAlong_X4_of rfl rfl rfl (by decide +kernel) ⟨Nat.le_of_ble_eq_true rfl, Nat.le_of_ble_eq_true rfl⟩) hK hP [] rfl rfl hl.1 rfl (Nat.le_of_ble_eq_true rfl) dX4_goesAlong_56 ⟨Nat.zero_le _, Nat.zero_le _⟩) (fun r9 h => ?_)
                refine lv_iload_n hx hb dX4_goesAlong_59 rfl (lv_at hl 1 rfl) ?_
                refine lv_iload_n hx hb dX4_goesAlong_60 rfl (lv_at hl 3 rfl) ?_
                refine cr_i (rs (As := [.int x1, .int x3_35]) (rest := [.int r9, .ref a, .int r8]) ⟨hx, hb, hml, hown, hts⟩ (c_X4_of l D y x1 x3_35 _ (sat_bind h)) (va_cwS 2 hts gX4_goesAlong_X4_of rfl rfl rfl (by decide +kernel) ⟨Nat.le_of_ble_eq_true rfl, Nat.le_of_ble_eq_true rfl⟩) hK hP [] rfl rfl hl.1 rfl (Nat.le_of_ble_eq_true rfl) dX4_goesAlong_61 ⟨Nat.zero_le _, Nat.zero_le _⟩) (fun r10 h => ?_)
                refine cr_i (rv (As := [.int r9, .int r10]) (rest := [.int r8]) ⟨hx, hb, hml, hown, hts⟩ (c_X6_two l D y a a_values v_size v_values r9 r10 _ (sat_bind h)) (cwV 2 hts gX4_goesAlong_X6_two rfl rfl rfl (by decide +kernel) ⟨Nat.le_of_ble_eq_true rfl, Nat.le_of_ble_eq_true rfl⟩) hK hP [0, 1] rfl 0 3 rfl rfl rfl rfl hl.1 rfl (Nat.le_of_ble_eq_true rfl) dX4_goesAlong_64 ⟨Nat.zero_le _, Nat.zero_le _⟩) (fun r11 h => ?_)
                refine lv_icmp_eq (tgt := 72) hx hb dX4_goesAlong_67 (by decide) (fun c67 => ?_) (fun c67 => ?_)
                · have h := sat_t c67 h
                  refine lv_iinc (v := x3_35 + 1) (lv' := [(3, .int (x3_35 + 1)), (0, .ref a), (1, .int x1), (2, .int x2_2)]) hx hb dX4_goesAlong_72 hl (k := 3) rfl rfl (by decide) rfl (fun ls hl => ?_)
                  refine lv_goto (tgt := 35) hx hb dX4_goesAlong_75 (by decide) ?_
                  have h := lk_l (sat_some h)
                  exact ih (x3_35 + 1) ls h (lv_sub hl [1, 2, 3, 0] rfl)
                · have h := sat_f c67 h
                  refine lv_iconst (v := 0) hx hb dX4_goesAlong_70 (by decide) ?_
                  have h := hR35 _ (lk_r (sat_some h))
                  exact W.zret (v := 0) hx hb hr rfl (fun t ht _ => ⟨0, rfl, h, ht⟩) (fun _ hq => by cases hq) dX4_goesAlong_71
          have h := sat_bdS h
          refine hL35 _ (fun u h => ?_) (fun z35 ls h hl => ?_) 1000 0 ls h (lv_sub hl [1, 2, 3, 0] rfl)
          · have h := lk_l h
            exact hR2 _ (lk_r (sat_some h))
          · have h := lk_r h
            refine lv_iinc (v := x2_2 + 1) (lv' := [(2, .int (x2_2 + 1)), (0, .ref a), (1, .int x1)]) hx hb dX4_goesAlong_78 hl (k := 2) rfl rfl (by decide) rfl (fun ls hl => ?_)
            refine lv_goto (tgt := 2) hx hb dX4_goesAlong_81 (by decide) ?_
            have h := lk_l (sat_some h)
            exact ih (x2_2 + 1) ls h (lv_sub hl [1, 2, 0] rfl)
        · have h := sat_f c28 h
          refine lv_iconst (v := 0) hx hb dX4_goesAlong_31 (by decide) ?_
          have h := hR2 _ (lk_r (sat_some h))
          exact W.zret (v := 0) hx hb hr rfl (fun t ht _ => ⟨0, rfl, h, ht⟩) (fun _ hq => by cases hq) dX4_goesAlong_32
  have h := sat_bdS h
  refine hL2 _ (fun u h => ?_) (fun z2 ls h hl => ?_) 1000 0 ls h (lv_sub hl [1, 2, 0] rfl)
  · have h := lk_l h
    exact sat_some h
  · have h := lk_r h
    refine lv_iconst (v := 1) hx hb dX4_goesAlong_84 (by decide) ?_
    have h := sat_some h
    exact W.zret (v := 1) hx hb hr rfl (fun t ht _ => ⟨1, rfl, h, ht⟩) (fun _ hq => by cases hq) dX4_goesAlong_85

/-! X4_howMany -/
set_option maxHeartbeats 4000000 in
set_option maxRecDepth 100000 in
theorem c_X4_howMany (l : Launch) (D : va_G) (y : ClassId × ClassId × ClassId × ClassId) (a a_values : Nat) (v_size : Int32) (v_values : Nat → Int32) (x1 : Int32) (K : Int32 → Prop) (h : sat (m_X4_howMany v_size v_values x1) K) : Met l yX4_howMany wsX4_howMany ({ frames := 3, cells := 0, slots := 0, locals := 66 } : Room) (pR D y ([.ref a, .int x1] : List Value) [(a, .inr (3, [.int v_size, .ref a_values])), (a_values, .inl (y.1, 20, .inl v_values))]) (qSi K) 0 0 (fun _ => False) := by
  refine Met.ofW (cc := cX4_howMany) (maxL := 4) (ret := (some .int)) (by decide) rfl ?_
  intro p e s m args below meth c s₁ B hml hv
  obtain ⟨rfl, hP, hK⟩ := hv
  have hx := B.exec
  have hb := B.bytes
  have hr := B.returns
  have hts := atoms_spec (ws := wsX4_howMany) B.pre
  have hown : s.vm.findClass RX4 = some m.cls := findClass_of_methodNamed B.named
  have hlocks := B.notSynchronized
  have iX6 : ∀ w ∈ wsX60, w ∈ wsX4_howMany := by decide +kernel
  have fl7 := hts (.fieldLink RX4 7 "AlgebraLaws$Tables" "size" "I") (by decide +kernel)
  have hl := lv_entry ([.ref a, .int x1] : List Value) (n := 4) (Nat.le_of_ble_eq_true rfl)
  rw [lg_entry_eq]
  generalize (lg_sl ([.ref a, .int x1] : List Value) ++ List.replicate (4 - (lg_sl ([.ref a, .int x1] : List Value)).length) Slot.unset).toArray = ls at hl ⊢
  have hl : lv_has ls 4 [(0, .ref a), (1, .int x1)] := hl
  unfold m_X4_howMany at h
  refine lv_iconst (v := 0) hx hb dX4_howMany_0 (by decide) ?_
  refine lv_istore_n (lv' := [(2, .int 0), (0, .ref a), (1, .int x1)]) hx hb dX4_howMany_1 rfl hl (by decide) rfl (fun ls hl => ?_)
  refine lv_iconst (v := 0) hx hb dX4_howMany_2 (by decide) ?_
  refine lv_istore_n (lv' := [(3, .int 0), (2, .int 0), (0, .ref a), (1, .int x1)]) hx hb dX4_howMany_3 rfl hl (by decide) rfl (fun ls hl => ?_)
  have hL4 : ∀ (K4 : Int32 → Prop)
      (hE4 : ∀ (z4 : Int32) (ls : Array Slot), K4 z4 → lv_has ls 4 [(2, .int z4)] → W p l e (headSpec wsX4_howMany ({ frames := 3, cells := 0, slots := 0, locals := 66 } : Room)).room s m ([.ref a, .int x1] : List Value).toArray below meth c s.heap [] 0 0 (MQ below (qSi K) ([.ref a, .int x1] : List Value).toArray s 0 0 (fun _ => False)) (F0 m 53 ls []))
      (n : Nat) (x2_4 : Int32) (x3_4 : Int32) (ls : Array Slot), sat (lp (fun q : (Int32 × Int32) => m_X4_howMany_s4 v_size v_values x1 q.1 q.2) n (x2_4, x3_4)) K4 → lv_has ls 4 [(0, .ref a), (1, .int x1), (2, .int x2_4), (3, .int x3_4)] → W p l e (headSpec wsX4_howMany ({ frames := 3, cells := 0, slots := 0, locals := 66 } : Room)).room s m ([.ref a, .int x1] : List Value).toArray below meth c s.heap [] 0 0 (MQ below (qSi K) ([.ref a, .int x1] : List Value).toArray s 0 0 (fun _ => False)) (F0 m 4 ls []) := by
    intro K4 hE4 n
    induction n with
    | zero => intro x2_4 x3_4 ls h; exact (sat_lp0 h).elim
    | succ n ih =>
      intro x2_4 x3_4 ls h hl
      have h := sat_lp h
      have h : sat (m_X4_howMany_s4 v_size v_values x1 x2_4 x3_4) (lk (fun s' => sat (lp (fun q : (Int32 × Int32) => m_X4_howMany_s4 v_size v_values x1 q.1 q.2) n s') K4) K4) := h
      have hJ36 : ∀ (x2_36 : Int32) (x3_36 : Int32) (ls : Array Slot), sat (m_X4_howMany_j36 v_size v_values x2_36 x3_36) (lk (fun s' => sat (lp (fun q : (Int32 × Int32) => m_X4_howMany_s4 v_size v_values x1 q.1 q.2) n s') K4) K4) → lv_has ls 4 [(0, .ref a), (1, .int x1), (2, .int x2_36), (3, .int x3_36)] → W p l e (headSpec wsX4_howMany ({ frames := 3, cells := 0, slots := 0, locals := 66 } : Room)).room s m ([.ref a, .int x1] : List Value).toArray below meth c s.heap [] 0 0 (MQ below (qSi K) ([.ref a, .int x1] : List Value).toArray s 0 0 (fun _ => False)) (F0 m 36 ls []) := by
        intro x2_36 x3_36 ls h hl
        unfold m_X4_howMany_j36 at h
        refine lv_aload_n hx hb dX4_howMany_36 rfl (lv_at hl 0 rfl) ?_
        refine lv_iload_n hx hb dX4_howMany_37 rfl (lv_at hl 3 rfl) ?_
        refine cr_i (rs (As := [.ref a, .int x3_36]) (rest := []) ⟨hx, hb, hml, hown, hts⟩ (c_X4_goesAlong l D y a a_values v_size v_values x3_36 _ (sat_bind h)) (va_cwS 2 hts gX4_howMany_X4_goesAlong rfl rfl rfl (by decide +kernel) ⟨Nat.le_of_ble_eq_true rfl, Nat.le_of_ble_eq_true rfl⟩) hK hP [0, 1] rfl rfl hl.1 rfl (Nat.le_of_ble_eq_true rfl) dX4_howMany_38 ⟨Nat.zero_le _, Nat.zero_le _⟩) (fun r2 h => ?_)
        refine lv_if_eq (tgt := 47) hx hb dX4_howMany_41 (by decide) (fun c41 => ?_) (fun c41 => ?_)
        · have h := sat_t c41 h
          refine lv_iinc (v := x3_36 + 1) (lv' := [(3, .int (x3_36 + 1)), (0, .ref a), (1, .int x1), (2, .int x2_36)]) hx hb dX4_howMany_47 hl (k := 3) rfl rfl (by decide) rfl (fun ls hl => ?_)
          refine lv_goto (tgt := 4) hx hb dX4_howMany_50 (by decide) ?_
          have h := lk_l (sat_some h)
          exact ih x2_36 (x3_36 + 1) ls h (lv_sub hl [1, 2, 3, 0] rfl)
        · have h := sat_f c41 h
          refine lv_iinc (v := x2_36 + 1) (lv' := [(2, .int (x2_36 + 1)), (0, .ref a), (1, .int x1), (3, .int x3_36)]) hx hb dX4_howMany_44 hl (k := 2) rfl rfl (by decide) rfl (fun ls hl => ?_)
          refine lv_iinc (v := x3_36 + 1) (lv' := [(3, .int (x3_36 + 1)), (2, .int (x2_36 + 1)), (0, .ref a), (1, .int x1)]) hx hb dX4_howMany_47 hl (k := 3) rfl rfl (by decide) rfl (fun ls hl => ?_)
          refine lv_goto (tgt := 4) hx hb dX4_howMany_50 (by decide) ?_
          have h := lk_l (sat_some h)
          exact ih (x2_36 + 1) (x3_36 + 1) ls h (lv_sub hl [2, 3, 1, 0] rfl)
      unfold m_X4_howMany_s4 at h
      refine lv_iload_n hx hb dX4_howMany_4 rfl (lv_at hl 3 rfl) ?_
      refine lv_iconst (v := 1) hx hb dX4_howMany_5 (by decide) ?_
      refine lv_iconst (v := 2) hx hb dX4_howMany_6 (by decide) ?_
      refine lv_aload_n hx hb dX4_howMany_7 rfl (lv_at hl 0 rfl) ?_
      refine va_get (D := D) (ci := 3) (v := .int v_size) (C := RX6) (T := TX6) (N := 2) hx hb hts iX6 hown hK hP 0 rfl rfl 0 (by decide) fl7 (fun _ h9 => h9) rfl dX4_howMany_8 ?_
      refine lv_imul hx hb dX4_howMany_11 ?_
      refine lv_ishl hx hb dX4_howMany_12 ?_
      refine lv_icmp_ge (tgt := 53) hx hb dX4_howMany_13 (by decide) (fun c13 => ?_) (fun c13 => ?_)
      · have h := sat_t c13 h
        have h := lk_r (sat_some h)
        exact hE4 x2_4 ls h (lv_sub hl [2] rfl)
      · have h := sat_f c13 h
        refine lv_aload_n hx hb dX4_howMany_16 rfl (lv_at hl 0 rfl) ?_
        refine lv_iload_n hx hb dX4_howMany_17 rfl (lv_at hl 3 rfl) ?_
        refine cr_i (rs (As := [.ref a, .int x3_4]) (rest := []) ⟨hx, hb, hml, hown, hts⟩ (c_X4_isInside l D y a a_values v_size x3_4 _ (sat_bind h)) (va_cwS 2 hts gX4_howMany_X4_isInside rfl rfl rfl (by decide +kernel) ⟨Nat.le_of_ble_eq_true rfl, Nat.le_of_ble_eq_true rfl⟩) hK hP [0] rfl rfl hl.1 rfl (Nat.le_of_ble_eq_true rfl) dX4_howMany_18 ⟨Nat.zero_le _, Nat.zero_le _⟩) (fun r3 h => ?_)
        refine lv_if_eq (tgt := 47) hx hb dX4_howMany_21 (by decide) (fun c21 => ?_) (fun c21 => ?_)
        · have h := sat_t c21 h
          refine lv_iinc (v := x3_4 + 1) (lv' := [(3, .int (x3_4 + 1)), (0, .ref a), (1, .int x1), (2, .int x2_4)]) hx hb dX4_howMany_47 hl (k := 3) rfl rfl (by decide) rfl (fun ls hl => ?_)
          refine lv_goto (tgt := 4) hx hb dX4_howMany_50 (by decide) ?_
          have h := lk_l (sat_some h)
          exact ih x2_4 (x3_4 + 1) ls h (lv_sub hl [1, 2, 3, 0] rfl)
        · have h := sat_f c21 h
          refine lv_iload_n hx hb dX4_howMany_24 rfl (lv_at hl 1 rfl) ?_
          refine lv_if_eq (tgt := 36) hx hb dX4_howMany_25 (by decide) (fun c25 => ?_) (fun c25 => ?_)
          · have h := sat_t c25 h
            exact hJ36 x2_4 x3_4 ls h hl
          · have h := sat_f c25 h
            refine lv_aload_n hx hb dX4_howMany_28 rfl (lv_at hl 0 rfl) ?_
            refine lv_iload_n hx hb dX4_howMany_29 rfl (lv_at hl 3 rfl) ?_
            refine cr_i (rs (As := [.ref a, .int x3_4]) (rest := []) ⟨hx, hb, hml, hown, hts⟩ (c_X4_isOnto l D y a a_values v_size x3_4 _ (sat_bind h)) (va_cwS 2 hts gX4_howMany_X4_isOnto rfl rfl rfl (by decide +kernel) ⟨Nat.le_of_ble_eq_true rfl, Nat.le_of_ble_eq_true rfl⟩) hK hP [0] rfl rfl hl.1 rfl (Nat.le_of_ble_eq_true rfl) dX4_howMany_30 ⟨Nat.zero_le _, Nat.zero_le _⟩) (fun r4 h => ?_)
            refine lv_if_eq (tgt := 47) hx hb dX4_howMany_33 (by decide) (fun c33 => ?_) (fun c33 => ?_)
            · have h := sat_t c33 h
              refine lv_iinc (v := x3_4 + 1) (lv' := [(3, .int (x3_4 + 1)), (0, .ref a), (1, .int x1), (2, .int x2_4)]) hx hb dX4_howMany_47 hl (k := 3) rfl rfl (by decide) rfl (fun ls hl => ?_)
              refine lv_goto (tgt := 4) hx hb dX4_howMany_50 (by decide) ?_
              have h := lk_l (sat_some h)
              exact ih x2_4 (x3_4 + 1) ls h (lv_sub hl [1, 2, 3, 0] rfl)
            · have h := sat_f c33 h
              exact hJ36 x2_4 x3_4 ls h hl
  have h := sat_bind h
  refine hL4 _ (fun z4 ls h hl => ?_) 1000 0 0 ls h (lv_sub hl [2, 3, 1, 0] rfl)
  refine lv_iload_n hx hb dX4_howMany_53 rfl (lv_at hl 0 rfl) ?_
  have h := sat_some h
  exact W.iret (v := z4) hx hb hr (fun t ht _ => ⟨z4, rfl, h, ht⟩) (fun _ hq => by cases hq) dX4_howMany_54

/-! X1_least -/
set_option maxHeartbeats 4000000 in
set_option maxRecDepth 100000 in
theorem c_X1_least (l : Launch) (D : va_G) (y : ClassId × ClassId × ClassId × ClassId) (x0 : Int32) (x1 : Int32) (K : Int32 → Prop) (h : sat (m_X1_least x0 x1) K) : Met l yX1_least wsX1_least ({ frames := 0, cells := 0, slots := 0, locals := 0 } : Room) (pR D y ([.int x0, .int x1] : List Value) []) (qSi K) 0 0 (fun _ => False) := by
  refine Met.ofW (cc := cX1_least) (maxL := 2) (ret := (some .int)) (by decide) rfl ?_
  intro p e s m args below meth c s₁ B hml hv
  obtain ⟨rfl, hP, hK⟩ := hv
  have hx := B.exec
  have hb := B.bytes
  have hr := B.returns
  have hts := atoms_spec (ws := wsX1_least) B.pre
  have hown : s.vm.findClass RX1 = some m.cls := findClass_of_methodNamed B.named
  have hlocks := B.notSynchronized
  have hl := lv_entry ([.int x0, .int x1] : List Value) (n := 2) (Nat.le_of_ble_eq_true rfl)
  rw [lg_entry_eq]
  generalize (lg_sl ([.int x0, .int x1] : List Value) ++ List.replicate (2 - (lg_sl ([.int x0, .int x1] : List Value)).length) Slot.unset).toArray = ls at hl ⊢
  have hl : lv_has ls 2 [(0, .int x0), (1, .int x1)] := hl
  unfold m_X1_least at h
  refine lv_iload_n hx hb dX1_least_0 rfl (lv_at hl 0 rfl) ?_
  refine lv_bipush (v := 12) hx hb dX1_least_1 (by decide) ?_
  refine lv_iconst (v := 4) hx hb dX1_least_3 (by decide) ?_
  refine lv_iload_n hx hb dX1_least_4 rfl (lv_at hl 1 rfl) ?_
  refine lv_imul hx hb dX1_least_5 ?_
  refine lv_isub hx hb dX1_least_6 ?_
  refine lv_ishr hx hb dX1_least_7 ?_
  refine lv_iconst (v := 3) hx hb dX1_least_8 (by decide) ?_
  refine lv_iand hx hb dX1_least_9 ?_
  have h := sat_some h
  exact W.iret (v := (x0 >>> ((12 - (4 * x1)) &&& 31)) &&& 3) hx hb hr (fun t ht _ => ⟨(x0 >>> ((12 - (4 * x1)) &&& 31)) &&& 3, rfl, h, ht⟩) (fun _ hq => by cases hq) dX1_least_10

/-! X1_isOfFirst -/
set_option maxHeartbeats 4000000 in
set_option maxRecDepth 100000 in
theorem c_X1_isOfFirst (l : Launch) (D : va_G) (y : ClassId × ClassId × ClassId × ClassId) (x0 : Int32) (x1 : Int32) (K : Int32 → Prop) (h : sat (m_X1_isOfFirst x0 x1) K) : Met l yX1_isOfFirst wsX1_isOfFirst ({ frames := 1, cells := 0, slots := 0, locals := 21 } : Room) (pR D y ([.int x0, .int x1] : List Value) []) (qSi K) 0 0 (fun _ => False) := by
  refine Met.ofW (cc := cX1_isOfFirst) (maxL := 3) (ret := (some .boolean)) (by decide) rfl ?_
  intro p e s m args below meth c s₁ B hml hv
  obtain ⟨rfl, hP, hK⟩ := hv
  have hx := B.exec
  have hb := B.bytes
  have hr := B.returns
  have hts := atoms_spec (ws := wsX1_isOfFirst) B.pre
  have hown : s.vm.findClass RX1 = some m.cls := findClass_of_methodNamed B.named
  have hlocks := B.notSynchronized
  have hl := lv_entry ([.int x0, .int x1] : List Value) (n := 3) (Nat.le_of_ble_eq_true rfl)
  rw [lg_entry_eq]
  generalize (lg_sl ([.int x0, .int x1] : List Value) ++ List.replicate (3 - (lg_sl ([.int x0, .int x1] : List Value)).length) Slot.unset).toArray = ls at hl ⊢
  have hl : lv_has ls 3 [(0, .int x0), (1, .int x1)] := hl
  unfold m_X1_isOfFirst at h
  refine lv_iload_n hx hb dX1_isOfFirst_0 rfl (lv_at hl 0 rfl) ?_
  refine lv_istore_n (lv' := [(2, .int x0), (0, .int x0), (1, .int x1)]) hx hb dX1_isOfFirst_1 rfl hl (by decide) rfl (fun ls hl => ?_)
  have hL2 : ∀ (K2 : (Int32 ⊕ Unit) → Prop)
      (hR2 : ∀ (u : Int32), K2 (.inl u) → K u)
      (hE2 : ∀ (z2 : Unit) (ls : Array Slot), K2 (.inr z2) → lv_has ls 3 [] → W p l e (headSpec wsX1_isOfFirst ({ frames := 1, cells := 0, slots := 0, locals := 21 } : Room)).room s m ([.int x0, .int x1] : List Value).toArray below meth c s.heap [] 0 0 (MQ below (qSi K) ([.int x0, .int x1] : List Value).toArray s 0 0 (fun _ => False)) (F0 m 24 ls []))
      (n : Nat) (x2_2 : Int32) (ls : Array Slot), sat (lp (fun q : Int32 => m_X1_isOfFirst_s2 x1 q) n x2_2) K2 → lv_has ls 3 [(1, .int x1), (2, .int x2_2)] → W p l e (headSpec wsX1_isOfFirst ({ frames := 1, cells := 0, slots := 0, locals := 21 } : Room)).room s m ([.int x0, .int x1] : List Value).toArray below meth c s.heap [] 0 0 (MQ below (qSi K) ([.int x0, .int x1] : List Value).toArray s 0 0 (fun _ => False)) (F0 m 2 ls []) := by
    intro K2 hR2 hE2 n
    induction n with
    | zero => intro x2_2 ls h; exact (sat_lp0 h).elim
    | succ n ih =>
      intro x2_2 ls h hl
      have h := sat_lp h
      have h : sat (m_X1_isOfFirst_s2 x1 x2_2) (lk (fun s' => sat (lp (fun q : Int32 => m_X1_isOfFirst_s2 x1 q) n s') K2) K2) := h
      unfold m_X1_isOfFirst_s2 at h
      refine lv_iload_n hx hb dX1_isOfFirst_2 rfl (lv_at hl 1 rfl) ?_
      refine lv_iconst (v := 4) hx hb dX1_isOfFirst_3 (by decide) ?_
      refine lv_icmp_ge (tgt := 24) hx hb dX1_isOfFirst_4 (by decide) (fun c4 => ?_) (fun c4 => ?_)
      · have h := sat_t c4 h
        have h := lk_r (sat_some h)
        exact hE2 () ls h (lv_sub hl [] rfl)
      · have h := sat_f c4 h
        refine lv_iload_n hx hb dX1_isOfFirst_7 rfl (lv_at hl 0 rfl) ?_
        refine lv_iload_n hx hb dX1_isOfFirst_8 rfl (lv_at hl 1 rfl) ?_
        refine cr_i (rs (As := [.int x1, .int x2_2]) (rest := []) ⟨hx, hb, hml, hown, hts⟩ (c_X1_least l D y x1 x2_2 _ (sat_bind h)) (va_cwS 2 hts gX1_isOfFirst_X1_least rfl rfl rfl (by decide +kernel) ⟨Nat.le_of_ble_eq_true rfl, Nat.le_of_ble_eq_true rfl⟩) hK hP [] rfl rfl hl.1 rfl (Nat.le_of_ble_eq_true rfl) dX1_isOfFirst_9 ⟨Nat.zero_le _, Nat.zero_le _⟩) (fun r2 h => ?_)
        refine lv_iload_n hx hb dX1_isOfFirst_12 rfl (lv_at hl 1 rfl) ?_
        refine lv_icmp_eq (tgt := 18) hx hb dX1_isOfFirst_13 (by decide) (fun c13 => ?_) (fun c13 => ?_)
        · have h := sat_t c13 h
          refine lv_iinc (v := x2_2 + 1) (lv' := [(2, .int (x2_2 + 1)), (1, .int x1)]) hx hb dX1_isOfFirst_18 hl (k := 1) rfl rfl (by decide) rfl (fun ls hl => ?_)
          refine lv_goto (tgt := 2) hx hb dX1_isOfFirst_21 (by decide) ?_
          have h := lk_l (sat_some h)
          exact ih (x2_2 + 1) ls h (lv_sub hl [1, 0] rfl)
        · have h := sat_f c13 h
          refine lv_iconst (v := 0) hx hb dX1_isOfFirst_16 (by decide) ?_
          have h := hR2 _ (lk_r (sat_some h))
          exact W.zret (v := 0) hx hb hr rfl (fun t ht _ => ⟨0, rfl, h, ht⟩) (fun _ hq => by cases hq) dX1_isOfFirst_17
  have h := sat_bdS h
  refine hL2 _ (fun u h => ?_) (fun z2 ls h hl => ?_) 1000 x0 ls h (lv_sub hl [2, 0] rfl)
  · have h := lk_l h
    exact sat_some h
  · have h := lk_r h
    refine lv_iconst (v := 1) hx hb dX1_isOfFirst_24 (by decide) ?_
    have h := sat_some h
    exact W.zret (v := 1) hx hb hr rfl (fun t ht _ => ⟨1, rfl, h, ht⟩) (fun _ hq => by cases hq) dX1_isOfFirst_25

/-! X1_together -/
set_option maxHeartbeats 4000000 in
set_option maxRecDepth 100000 in
theorem c_X1_together (l : Launch) (D : va_G) (y : ClassId × ClassId × ClassId × ClassId) (x0 : Int32) (x1 : Int32) (x2 : Int32) (K : Int32 → Prop) (h : sat (m_X1_together x0 x1 x2) K) : Met l yX1_together wsX1_together ({ frames := 1, cells := 0, slots := 0, locals := 21 } : Room) (pR D y ([.int x0, .int x1, .int x2] : List Value) []) (qSi K) 0 0 (fun _ => False) := by
  refine Met.ofW (cc := cX1_together) (maxL := 3) (ret := (some .boolean)) (by decide) rfl ?_
  intro p e s m args below meth c s₁ B hml hv
  obtain ⟨rfl, hP, hK⟩ := hv
  have hx := B.exec
  have hb := B.bytes
  have hr := B.returns
  have hts := atoms_spec (ws := wsX1_together) B.pre
  have hown : s.vm.findClass RX1 = some m.cls := findClass_of_methodNamed B.named
  have hlocks := B.notSynchronized
  have hl := lv_entry ([.int x0, .int x1, .int x2] : List Value) (n := 3) (Nat.le_of_ble_eq_true rfl)
  rw [lg_entry_eq]
  generalize (lg_sl ([.int x0, .int x1, .int x2] : List Value) ++ List.replicate (3 - (lg_sl ([.int x0, .int x1, .int x2] : List Value)).length) Slot.unset).toArray = ls at hl ⊢
  have hl : lv_has ls 3 [(0, .int x0), (1, .int x1), (2, .int x2)] := hl
  unfold m_X1_together at h
  refine lv_iload_n hx hb dX1_together_0 rfl (lv_at hl 0 rfl) ?_
  refine lv_iload_n hx hb dX1_together_1 rfl (lv_at hl 1 rfl) ?_
  refine cr_i (rs (As := [.int x0, .int x1]) (rest := []) ⟨hx, hb, hml, hown, hts⟩ (c_X1_least l D y x0 x1 _ (sat_bind h)) (va_cwS 2 hts gX1_together_X1_least rfl rfl rfl (by decide +kernel) ⟨Nat.le_of_ble_eq_true rfl, Nat.le_of_ble_eq_true rfl⟩) hK hP [] rfl rfl hl.1 rfl (Nat.le_of_ble_eq_true rfl) dX1_together_2 ⟨Nat.zero_le _, Nat.zero_le _⟩) (fun r1 h => ?_)
  refine lv_iload_n hx hb dX1_together_5 rfl (lv_at hl 0 rfl) ?_
  refine lv_iload_n hx hb dX1_together_6 rfl (lv_at hl 2 rfl) ?_
  refine cr_i (rs (As := [.int x0, .int x2]) (rest := [.int r1]) ⟨hx, hb, hml, hown, hts⟩ (c_X1_least l D y x0 x2 _ (sat_bind h)) (va_cwS 2 hts gX1_together_X1_least rfl rfl rfl (by decide +kernel) ⟨Nat.le_of_ble_eq_true rfl, Nat.le_of_ble_eq_true rfl⟩) hK hP [] rfl rfl hl.1 rfl (Nat.le_of_ble_eq_true rfl) dX1_together_7 ⟨Nat.zero_le _, Nat.zero_le _⟩) (fun r2 h => ?_)
  refine lv_icmp_ne (tgt := 17) hx hb dX1_together_10 (by decide) (fun c10 => ?_) (fun c10 => ?_)
  · have h := sat_f c10 h
    refine lv_iconst (v := 0) hx hb dX1_together_17 (by decide) ?_
    have h := sat_some h
    exact W.zret (v := 0) hx hb hr rfl (fun t ht _ => ⟨0, rfl, h, ht⟩) (fun _ hq => by cases hq) dX1_together_18
  · have h := sat_t c10 h
    refine lv_iconst (v := 1) hx hb dX1_together_13 (by decide) ?_
    refine lv_goto (tgt := 18) hx hb dX1_together_14 (by decide) ?_
    have h := sat_some h
    exact W.zret (v := 1) hx hb hr rfl (fun t ht _ => ⟨1, rfl, h, ht⟩) (fun _ hq => by cases hq) dX1_together_18

/-! X1_goesAlong -/
set_option maxHeartbeats 4000000 in
set_option maxRecDepth 100000 in
theorem c_X1_goesAlong (l : Launch) (D : va_G) (y : ClassId × ClassId × ClassId × ClassId) (a a_values : Nat) (v_size : Int32) (v_values : Nat → Int32) (x1 : Int32) (K : Int32 → Prop) (h : sat (m_X1_goesAlong v_size v_values x1) K) : Met l yX1_goesAlong wsX1_goesAlong ({ frames := 2, cells := 0, slots := 0, locals := 43 } : Room) (pR D y ([.ref a, .int x1] : List Value) [(a, .inr (3, [.int v_size, .ref a_values])), (a_values, .inl (y.1, 20, .inl v_values))]) (qSi K) 0 0 (fun _ => False) := by
  refine Met.ofW (cc := cX1_goesAlong) (maxL := 5) (ret := (some .boolean)) (by decide) rfl ?_
  intro p e s m args below meth c s₁ B hml hv
  obtain ⟨rfl, hP, hK⟩ := hv
  have hx := B.exec
  have hb := B.bytes
  have hr := B.returns
  have hts := atoms_spec (ws := wsX1_goesAlong) B.pre
  have hown : s.vm.findClass RX1 = some m.cls := findClass_of_methodNamed B.named
  have hlocks := B.notSynchronized
  have iX6 : ∀ w ∈ wsX60, w ∈ wsX1_goesAlong := by decide +kernel
  have fl16 := hts (.fieldLink RX1 16 "AlgebraLaws$Tables" "size" "I") (by decide +kernel)
  have hl := lv_entry ([.ref a, .int x1] : List Value) (n := 5) (Nat.le_of_ble_eq_true rfl)
  rw [lg_entry_eq]
  generalize (lg_sl ([.ref a, .int x1] : List Value) ++ List.replicate (5 - (lg_sl ([.ref a, .int x1] : List Value)).length) Slot.unset).toArray = ls at hl ⊢
  have hl : lv_has ls 5 [(0, .ref a), (1, .int x1)] := hl
  unfold m_X1_goesAlong at h
  refine lv_iconst (v := 0) hx hb dX1_goesAlong_0 (by decide) ?_
  refine lv_istore_n (lv' := [(2, .int 0), (0, .ref a), (1, .int x1)]) hx hb dX1_goesAlong_1 rfl hl (by decide) rfl (fun ls hl => ?_)
  have hL2 : ∀ (K2 : (Int32 ⊕ Unit) → Prop)
      (hR2 : ∀ (u : Int32), K2 (.inl u) → K u)
      (hE2 : ∀ (z2 : Unit) (ls : Array Slot), K2 (.inr z2) → lv_has ls 5 [] → W p l e (headSpec wsX1_goesAlong ({ frames := 2, cells := 0, slots := 0, locals := 43 } : Room)).room s m ([.ref a, .int x1] : List Value).toArray below meth c s.heap [] 0 0 (MQ below (qSi K) ([.ref a, .int x1] : List Value).toArray s 0 0 (fun _ => False)) (F0 m 103 ls []))
      (n : Nat) (x2_2 : Int32) (ls : Array Slot), sat (lp (fun q : Int32 => m_X1_goesAlong_s2 v_size v_values x1 q) n x2_2) K2 → lv_has ls 5 [(0, .ref a), (1, .int x1), (2, .int x2_2)] → W p l e (headSpec wsX1_goesAlong ({ frames := 2, cells := 0, slots := 0, locals := 43 } : Room)).room s m ([.ref a, .int x1] : List Value).toArray below meth c s.heap [] 0 0 (MQ below (qSi K) ([.ref a, .int x1] : List Value).toArray s 0 0 (fun _ => False)) (F0 m 2 ls []) := by
    intro K2 hR2 hE2 n
    induction n with
    | zero => intro x2_2 ls h; exact (sat_lp0 h).elim
    | succ n ih =>
      intro x2_2 ls h hl
      have h := sat_lp h
      have h : sat (m_X1_goesAlong_s2 v_size v_values x1 x2_2) (lk (fun s' => sat (lp (fun q : Int32 => m_X1_goesAlong_s2 v_size v_values x1 q) n s') K2) K2) := h
      unfold m_X1_goesAlong_s2 at h
      refine lv_iload_n hx hb dX1_goesAlong_2 rfl (lv_at hl 2 rfl) ?_
      refine lv_aload_n hx hb dX1_goesAlong_3 rfl (lv_at hl 0 rfl) ?_
      refine va_get (D := D) (ci := 3) (v := .int v_size) (C := RX6) (T := TX6) (N := 2) hx hb hts iX6 hown hK hP 0 rfl rfl 0 (by decide) fl16 (fun _ h9 => h9) rfl dX1_goesAlong_4 ?_
      refine lv_icmp_ge (tgt := 103) hx hb dX1_goesAlong_7 (by decide) (fun c7 => ?_) (fun c7 => ?_)
      · have h := sat_t c7 h
        have h := lk_r (sat_some h)
        exact hE2 () ls h (lv_sub hl [] rfl)
      · have h := sat_f c7 h
        refine lv_iload_n hx hb dX1_goesAlong_10 rfl (lv_at hl 1 rfl) ?_
        refine lv_iload_n hx hb dX1_goesAlong_11 rfl (lv_at hl 2 rfl) ?_
        refine cr_i (rs (As := [.int x1, .int x2_2]) (rest := []) ⟨hx, hb, hml, hown, hts⟩ (c_X1_least l D y x1 x2_2 _ (sat_bind h)) (va_cwS 2 hts gX1_goesAlong_X1_least rfl rfl rfl (by decide +kernel) ⟨Nat.le_of_ble_eq_true rfl, Nat.le_of_ble_eq_true rfl⟩) hK hP [] rfl rfl hl.1 rfl (Nat.le_of_ble_eq_true rfl) dX1_goesAlong_12 ⟨Nat.zero_le _, Nat.zero_le _⟩) (fun r2 h => ?_)
        refine lv_istore_n (lv' := [(3, .int r2), (0, .ref a), (1, .int x1), (2, .int x2_2)]) hx hb dX1_goesAlong_15 rfl hl (by decide) rfl (fun ls hl => ?_)
        refine lv_iload_n hx hb dX1_goesAlong_16 rfl (lv_at hl 2 rfl) ?_
        refine lv_aload_n hx hb dX1_goesAlong_17 rfl (lv_at hl 1 rfl) ?_
        refine lv_iload_n hx hb dX1_goesAlong_18 rfl (lv_at hl 3 rfl) ?_
        refine cr_i (rv (As := [.int x2_2]) (rest := [.int x1]) ⟨hx, hb, hml, hown, hts⟩ (c_X6_one l D y a a_values v_size v_values x2_2 _ (sat_bind h)) (cwV 1 hts gX1_goesAlong_X6_one rfl rfl rfl (by decide +kernel) ⟨Nat.le_of_ble_eq_true rfl, Nat.le_of_ble_eq_true rfl⟩) hK hP [0, 1] rfl 0 3 rfl rfl rfl rfl hl.1 rfl (Nat.le_of_ble_eq_true rfl) dX1_goesAlong_19 ⟨Nat.zero_le _, Nat.zero_le _⟩) (fun r3 h => ?_)
        refine lv_aload_n hx hb dX1_goesAlong_22 rfl (lv_at hl 1 rfl) ?_
        refine lv_iload_n hx hb dX1_goesAlong_23 rfl (lv_at hl 0 rfl) ?_
        refine cr_i (rv (As := [.int r2]) (rest := [.int r3, .int x1]) ⟨hx, hb, hml, hown, hts⟩ (c_X6_one l D y a a_values v_size v_values r2 _ (sat_bind h)) (cwV 1 hts gX1_goesAlong_X6_one rfl rfl rfl (by decide +kernel) ⟨Nat.le_of_ble_eq_true rfl, Nat.le_of_ble_eq_true rfl⟩) hK hP [0, 1] rfl 0 3 rfl rfl rfl rfl hl.1 rfl (Nat.le_of_ble_eq_true rfl) dX1_goesAlong_24 ⟨Nat.zero_le _, Nat.zero_le _⟩) (fun r4 h => ?_)
        refine cr_i (rs (As := [.int x1, .int r3, .int r4]) (rest := []) ⟨hx, hb, hml, hown, hts⟩ (c_X1_together l D y x1 r3 r4 _ (sat_bind h)) (va_cwS 3 hts gX1_goesAlong_X1_together rfl rfl rfl (by decide +kernel) ⟨Nat.le_of_ble_eq_true rfl, Nat.le_of_ble_eq_true rfl⟩) hK hP [] rfl rfl hl.1 rfl (Nat.le_of_ble_eq_true rfl) dX1_goesAlong_27 ⟨Nat.zero_le _, Nat.zero_le _⟩) (fun r5 h => ?_)
        refine lv_if_ne (tgt := 35) hx hb dX1_goesAlong_30 (by decide) (fun c30 => ?_) (fun c30 => ?_)
        · have h := sat_f c30 h
          refine lv_iconst (v := 0) hx hb dX1_goesAlong_35 (by decide) ?_
          refine lv_istore (lv' := [(4, .int 0), (3, .int r2), (0, .ref a), (1, .int x1), (2, .int x2_2)]) hx hb dX1_goesAlong_36 hl (by decide) rfl (fun ls hl => ?_)
          have hL38 : ∀ (K38 : (Int32 ⊕ Unit) → Prop)
              (hR38 : ∀ (u : Int32), K38 (.inl u) → K u)
              (hE38 : ∀ (z38 : Unit) (ls : Array Slot), K38 (.inr z38) → lv_has ls 5 [(0, .ref a), (1, .int x1), (2, .int x2_2)] → W p l e (headSpec wsX1_goesAlong ({ frames := 2, cells := 0, slots := 0, locals := 43 } : Room)).room s m ([.ref a, .int x1] : List Value).toArray below meth c s.heap [] 0 0 (MQ below (qSi K) ([.ref a, .int x1] : List Value).toArray s 0 0 (fun _ => False)) (F0 m 97 ls []))
              (n : Nat) (x4_38 : Int32) (ls : Array Slot), sat (lp (fun q : Int32 => m_X1_goesAlong_s38 v_size v_values x1 x2_2 r2 q) n x4_38) K38 → lv_has ls 5 [(0, .ref a), (1, .int x1), (2, .int x2_2), (3, .int r2), (4, .int x4_38)] → W p l e (headSpec wsX1_goesAlong ({ frames := 2, cells := 0, slots := 0, locals := 43 } : Room)).room s m ([.ref a, .int x1] : List Value).toArray below meth c s.heap [] 0 0 (MQ below (qSi K) ([.ref a, .int x1] : List Value).toArray s 0 0 (fun _ => False)) (F0 m 38 ls []) := by
            intro K38 hR38 hE38 n
            induction n with
            | zero => intro x4_38 ls h; exact (sat_lp0 h).elim
            | succ n ih =>
              intro x4_38 ls h hl
              have h := sat_lp h
              have h : sat (m_X1_goesAlong_s38 v_size v_values x1 x2_2 r2 x4_38) (lk (fun s' => sat (lp (fun q : Int32 => m_X1_goesAlong_s38 v_size v_values x1 x2_2 r2 q) n s') K38) K38) := h
              unfold m_X1_goesAlong_s38 at h
              refine lv_iload hx hb dX1_goesAlong_38 (lv_at hl 4 rfl) ?_
              refine lv_aload_n hx hb dX1_goesAlong_40 rfl (lv_at hl 0 rfl) ?_
              refine va_get (D := D) (ci := 3) (v := .int v_size) (C := RX6) (T := TX6) (N := 2) hx hb hts iX6 hown hK hP 0 rfl rfl 0 (by decide) fl16 (fun _ h9 => h9) rfl dX1_goesAlong_41 ?_
              refine lv_icmp_ge (tgt := 97) hx hb dX1_goesAlong_44 (by decide) (fun c44 => ?_) (fun c44 => ?_)
              · have h := sat_t c44 h
                have h := lk_r (sat_some h)
                exact hE38 () ls h (lv_sub hl [0, 1, 2] rfl)
              · have h := sat_f c44 h
                refine lv_iload_n hx hb dX1_goesAlong_47 rfl (lv_at hl 1 rfl) ?_
                refine lv_aload_n hx hb dX1_goesAlong_48 rfl (lv_at hl 0 rfl) ?_
                refine lv_iload_n hx hb dX1_goesAlong_49 rfl (lv_at hl 2 rfl) ?_
                refine lv_iload hx hb dX1_goesAlong_50 (lv_at hl 4 rfl) ?_
                refine cr_i (rv (As := [.int x2_2, .int x4_38]) (rest := [.int x1]) ⟨hx, hb, hml, hown, hts⟩ (c_X6_two l D y a a_values v_size v_values x2_2 x4_38 _ (sat_bind h)) (cwV 2 hts gX1_goesAlong_X6_two rfl rfl rfl (by decide +kernel) ⟨Nat.le_of_ble_eq_true rfl, Nat.le_of_ble_eq_true rfl⟩) hK hP [0, 1] rfl 0 3 rfl rfl rfl rfl hl.1 rfl (Nat.le_of_ble_eq_true rfl) dX1_goesAlong_52 ⟨Nat.zero_le _, Nat.zero_le _⟩) (fun r7 h => ?_)
                refine lv_aload_n hx hb dX1_goesAlong_55 rfl (lv_at hl 0 rfl) ?_
                refine lv_iload_n hx hb dX1_goesAlong_56 rfl (lv_at hl 3 rfl) ?_
                refine lv_iload hx hb dX1_goesAlong_57 (lv_at hl 4 rfl) ?_
                refine cr_i (rv (As := [.int r2, .int x4_38]) (rest := [.int r7, .int x1]) ⟨hx, hb, hml, hown, hts⟩ (c_X6_two l D y a a_values v_size v_values r2 x4_38 _ (sat_bind h)) (cwV 2 hts gX1_goesAlong_X6_two rfl rfl rfl (by decide +kernel) ⟨Nat.le_of_ble_eq_true rfl, Nat.le_of_ble_eq_true rfl⟩) hK hP [0, 1] rfl 0 3 rfl rfl rfl rfl hl.1 rfl (Nat.le_of_ble_eq_true rfl) dX1_goesAlong_59 ⟨Nat.zero_le _, Nat.zero_le _⟩) (fun r8 h => ?_)
                refine cr_i (rs (As := [.int x1, .int r7, .int r8]) (rest := []) ⟨hx, hb, hml, hown, hts⟩ (c_X1_together l D y x1 r7 r8 _ (sat_bind h)) (va_cwS 3 hts gX1_goesAlong_X1_together rfl rfl rfl (by decide +kernel) ⟨Nat.le_of_ble_eq_true rfl, Nat.le_of_ble_eq_true rfl⟩) hK hP [] rfl rfl hl.1 rfl (Nat.le_of_ble_eq_true rfl) dX1_goesAlong_62 ⟨Nat.zero_le _, Nat.zero_le _⟩) (fun r9 h => ?_)
                refine lv_if_eq (tgt := 89) hx hb dX1_goesAlong_65 (by decide) (fun c65 => ?_) (fun c65 => ?_)
                · have h := sat_t c65 h
                  refine lv_iconst (v := 0) hx hb dX1_goesAlong_89 (by decide) ?_
                  have h := hR38 _ (lk_r (sat_some h))
                  exact W.zret (v := 0) hx hb hr rfl (fun t ht _ => ⟨0, rfl, h, ht⟩) (fun _ hq => by cases hq) dX1_goesAlong_90
                · have h := sat_f c65 h
                  refine lv_iload_n hx hb dX1_goesAlong_68 rfl (lv_at hl 1 rfl) ?_
                  refine lv_aload_n hx hb dX1_goesAlong_69 rfl (lv_at hl 0 rfl) ?_
                  refine lv_iload hx hb dX1_goesAlong_70 (lv_at hl 4 rfl) ?_
                  refine lv_iload_n hx hb dX1_goesAlong_72 rfl (lv_at hl 2 rfl) ?_
                  refine cr_i (rv (As := [.int x4_38, .int x2_2]) (rest := [.int x1]) ⟨hx, hb, hml, hown, hts⟩ (c_X6_two l D y a a_values v_size v_values x4_38 x2_2 _ (sat_bind h)) (cwV 2 hts gX1_goesAlong_X6_two rfl rfl rfl (by decide +kernel) ⟨Nat.le_of_ble_eq_true rfl, Nat.le_of_ble_eq_true rfl⟩) hK hP [0, 1] rfl 0 3 rfl rfl rfl rfl hl.1 rfl (Nat.le_of_ble_eq_true rfl) dX1_goesAlong_73 ⟨Nat.zero_le _, Nat.zero_le _⟩) (fun r10 h => ?_)
                  refine lv_aload_n hx hb dX1_goesAlong_76 rfl (lv_at hl 0 rfl) ?_
                  refine lv_iload hx hb dX1_goesAlong_77 (lv_at hl 4 rfl) ?_
                  refine lv_iload_n hx hb dX1_goesAlong_79 rfl (lv_at hl 3 rfl) ?_
                  refine cr_i (rv (As := [.int x4_38, .int r2]) (rest := [.int r10, .int x1]) ⟨hx, hb, hml, hown, hts⟩ (c_X6_two l D y a a_values v_size v_values x4_38 r2 _ (sat_bind h)) (cwV 2 hts gX1_goesAlong_X6_two rfl rfl rfl (by decide +kernel) ⟨Nat.le_of_ble_eq_true rfl, Nat.le_of_ble_eq_true rfl⟩) hK hP [0, 1] rfl 0 3 rfl rfl rfl rfl hl.1 rfl (Nat.le_of_ble_eq_true rfl) dX1_goesAlong_80 ⟨Nat.zero_le _, Nat.zero_le _⟩) (fun r11 h => ?_)
                  refine cr_i (rs (As := [.int x1, .int r10, .int r11]) (rest := []) ⟨hx, hb, hml, hown, hts⟩ (c_X1_together l D y x1 r10 r11 _ (sat_bind h)) (va_cwS 3 hts gX1_goesAlong_X1_together rfl rfl rfl (by decide +kernel) ⟨Nat.le_of_ble_eq_true rfl, Nat.le_of_ble_eq_true rfl⟩) hK hP [] rfl rfl hl.1 rfl (Nat.le_of_ble_eq_true rfl) dX1_goesAlong_83 ⟨Nat.zero_le _, Nat.zero_le _⟩) (fun r12 h => ?_)
                  refine lv_if_ne (tgt := 91) hx hb dX1_goesAlong_86 (by decide) (fun c86 => ?_) (fun c86 => ?_)
                  · have h := sat_f c86 h
                    refine lv_iinc (v := x4_38 + 1) (lv' := [(4, .int (x4_38 + 1)), (0, .ref a), (1, .int x1), (2, .int x2_2), (3, .int r2)]) hx hb dX1_goesAlong_91 hl (k := 4) rfl rfl (by decide) rfl (fun ls hl => ?_)
                    refine lv_goto (tgt := 38) hx hb dX1_goesAlong_94 (by decide) ?_
                    have h := lk_l (sat_some h)
                    exact ih (x4_38 + 1) ls h (lv_sub hl [1, 2, 3, 4, 0] rfl)
                  · have h := sat_t c86 h
                    refine lv_iconst (v := 0) hx hb dX1_goesAlong_89 (by decide) ?_
                    have h := hR38 _ (lk_r (sat_some h))
                    exact W.zret (v := 0) hx hb hr rfl (fun t ht _ => ⟨0, rfl, h, ht⟩) (fun _ hq => by cases hq) dX1_goesAlong_90
          have h := sat_bdS h
          refine hL38 _ (fun u h => ?_) (fun z38 ls h hl => ?_) 1000 0 ls h (lv_sub hl [2, 3, 4, 1, 0] rfl)
          · have h := lk_l h
            exact hR2 _ (lk_r (sat_some h))
          · have h := lk_r h
            refine lv_iinc (v := x2_2 + 1) (lv' := [(2, .int (x2_2 + 1)), (0, .ref a), (1, .int x1)]) hx hb dX1_goesAlong_97 hl (k := 2) rfl rfl (by decide) rfl (fun ls hl => ?_)
            refine lv_goto (tgt := 2) hx hb dX1_goesAlong_100 (by decide) ?_
            have h := lk_l (sat_some h)
            exact ih (x2_2 + 1) ls h (lv_sub hl [1, 2, 0] rfl)
        · have h := sat_t c30 h
          refine lv_iconst (v := 0) hx hb dX1_goesAlong_33 (by decide) ?_
          have h := hR2 _ (lk_r (sat_some h))
          exact W.zret (v := 0) hx hb hr rfl (fun t ht _ => ⟨0, rfl, h, ht⟩) (fun _ hq => by cases hq) dX1_goesAlong_34
  have h := sat_bdS h
  refine hL2 _ (fun u h => ?_) (fun z2 ls h hl => ?_) 1000 0 ls h (lv_sub hl [1, 2, 0] rfl)
  · have h := lk_l h
    exact sat_some h
  · have h := lk_r h
    refine lv_iconst (v := 1) hx hb dX1_goesAlong_103 (by decide) ?_
    have h := sat_some h
    exact W.zret (v := 1) hx hb hr rfl (fun t ht _ => ⟨1, rfl, h, ht⟩) (fun _ hq => by cases hq) dX1_goesAlong_104

/-! X1_seekIn -/
set_option maxHeartbeats 4000000 in
set_option maxRecDepth 100000 in
theorem c_X1_seekIn (l : Launch) (D : va_G) (y : ClassId × ClassId × ClassId × ClassId) (a a_partitions a1 a1_values : Nat) (v_found : Int32) (v_size : Int32) (v_partitions : Nat → Int32) (v1_size : Int32) (v1_values : Nat → Int32) (tS : Nat) (sz : Nat) (A : Nat → Prop) (hAe : va_A [(a, .inr (0, [.int v_found, .int v_size, .ref a_partitions])), (a_partitions, .inl (y.1, 15, .inl v_partitions)), (a1, .inr (3, [.int v1_size, .ref a1_values])), (a1_values, .inl (y.1, 20, .inl v1_values))] sz = A) (K : (Int32 × Int32 × (Nat → Int32)) → Prop) (h : sat (m_X1_seekIn v_found v_size v_partitions v1_size v1_values) K) : Met l yX1_seekIn wsX1_seekIn ({ frames := 3, cells := 0, slots := 0, locals := 67 } : Room) (pWS D y ([.ref a, .ref a1] : List Value) [(a, .inr (0, [.int v_found, .int v_size, .ref a_partitions])), (a_partitions, .inl (y.1, 15, .inl v_partitions)), (a1, .inr (3, [.int v1_size, .ref a1_values])), (a1_values, .inl (y.1, 20, .inl v1_values))] sz A tS) (va_Qv K (bW D y A (fun u : (Int32 × Int32 × (Nat → Int32)) => [(a, .inr (0, [.int u.1, .int u.2.1, .ref a_partitions])), (a_partitions, .inl (y.1, 15, .inl u.2.2)), (a1, .inr (3, [.int v1_size, .ref a1_values])), (a1_values, .inl (y.1, 20, .inl v1_values))])) A) 0 0 A := by
  refine Met.ofW (cc := cX1_seekIn) (maxL := 3) (ret := none) (by decide) rfl ?_
  intro p e s m args below meth c s₁ B hml hv
  obtain ⟨rfl, hsz, hP, hK, hD0, hT⟩ := hv
  have hx := B.exec
  have hb := B.bytes
  have hr := B.returns
  have hts := atoms_spec (ws := wsX1_seekIn) B.pre
  have hown : s.vm.findClass RX1 = some m.cls := findClass_of_methodNamed B.named
  have hlocks := B.notSynchronized
  subst hsz
  have hD : va_D A [(a, .inr (0, [.int v_found, .int v_size, .ref a_partitions])), (a_partitions, .inl (y.1, 15, .inl v_partitions)), (a1, .inr (3, [.int v1_size, .ref a1_values])), (a1_values, .inl (y.1, 20, .inl v1_values))] := hAe ▸ hD0.self
  have hA : ∀ q : Nat, s.heap.size ≤ q → A q := fun q h => hAe ▸ Or.inr h
  have hS : va_S A s.heap s.heap [] := va_S.rf
  have iX1 : ∀ w ∈ wsX10, w ∈ wsX1_seekIn := by decide +kernel
  have iX6 : ∀ w ∈ wsX60, w ∈ wsX1_seekIn := by decide +kernel
  have fl16 := hts (.fieldLink RX1 16 "AlgebraLaws$Tables" "size" "I") (by decide +kernel)
  have fl22 := hts (.fieldLink RX1 22 "AlgebraLaws$Congruences" "size" "I") (by decide +kernel)
  have fl23 := hts (.fieldLink RX1 23 "AlgebraLaws$Congruences" "found" "I") (by decide +kernel)
  have fl13 := hts (.fieldLink RX1 13 "AlgebraLaws$Congruences" "partitions" "[I") (by decide +kernel)
  have hl := lv_entry ([.ref a, .ref a1] : List Value) (n := 3) (Nat.le_of_ble_eq_true rfl)
  rw [lg_entry_eq]
  generalize (lg_sl ([.ref a, .ref a1] : List Value) ++ List.replicate (3 - (lg_sl ([.ref a, .ref a1] : List Value)).length) Slot.unset).toArray = ls at hl ⊢
  have hl : lv_has ls 3 [(0, .ref a), (1, .ref a1)] := hl
  unfold m_X1_seekIn at h
  refine lv_aload_n hx hb dX1_seekIn_0 rfl (lv_at hl 0 rfl) ?_
  refine lv_aload_n hx hb dX1_seekIn_1 rfl (lv_at hl 1 rfl) ?_
  refine va_get (D := D) (ci := 3) (v := .int v1_size) (C := RX6) (T := TX6) (N := 2) hx hb hts iX6 hown hK hP 2 rfl rfl 0 (by decide) fl16 (fun _ h9 => h9) rfl dX1_seekIn_2 ?_
  refine pf (D := D) (ci := 0) (v := .int v1_size) (ty := .int) (C := RX1) (T := TX1) (N := 3) (wn := [(a, .inr (0, [.int v_found, .int v1_size, .ref a_partitions])), (a_partitions, .inl (y.1, 15, .inl v_partitions)), (a1, .inr (3, [.int v1_size, .ref a1_values])), (a1_values, .inl (y.1, 20, .inl v1_values))]) hx hb hts iX1 tyX1 tyX1_ok nmX1 hown hK hP hD hS 0 rfl rfl 1 (by decide) fl22 (fun _ h9 => h9) rfl (by decide +kernel) rfl rfl (Nat.le_of_ble_eq_true rfl) dX1_seekIn_5 rfl (fun H locs hP hD hS => ?_)
  refine lv_aload_n hx hb dX1_seekIn_8 rfl (lv_at hl 0 rfl) ?_
  refine lv_iconst (v := 0) hx hb dX1_seekIn_9 (by decide) ?_
  refine pf (D := D) (ci := 0) (v := .int 0) (ty := .int) (C := RX1) (T := TX1) (N := 3) (wn := [(a, .inr (0, [.int 0, .int v1_size, .ref a_partitions])), (a_partitions, .inl (y.1, 15, .inl v_partitions)), (a1, .inr (3, [.int v1_size, .ref a1_values])), (a1_values, .inl (y.1, 20, .inl v1_values))]) hx hb hts iX1 tyX1 tyX1_ok nmX1 hown hK hP hD hS 0 rfl rfl 0 (by decide) fl23 (fun _ h9 => h9) rfl (by decide +kernel) rfl rfl (Nat.le_of_ble_eq_true rfl) dX1_seekIn_10 rfl (fun H locs hP hD hS => ?_)
  refine lv_iconst (v := 0) hx hb dX1_seekIn_13 (by decide) ?_
  refine lv_istore_n (lv' := [(2, .int 0), (0, .ref a), (1, .ref a1)]) hx hb dX1_seekIn_14 rfl hl (by decide) rfl (fun ls hl => ?_)
  have hL15 : ∀ (K15 : (Int32 × (Nat → Int32)) → Prop)
      (hE15 : ∀ (z15 : (Int32 × (Nat → Int32))) (ls : Array Slot) (H : Heap) (locs : List Loc), K15 z15 → lv_has ls 3 [] → va_P D vwCl [(a, .inr (0, [.int z15.1, .int v1_size, .ref a_partitions])), (a_partitions, .inl (y.1, 15, .inl z15.2)), (a1, .inr (3, [.int v1_size, .ref a1_values])), (a1_values, .inl (y.1, 20, .inl v1_values))] H → va_D A [(a, .inr (0, [.int z15.1, .int v1_size, .ref a_partitions])), (a_partitions, .inl (y.1, 15, .inl z15.2)), (a1, .inr (3, [.int v1_size, .ref a1_values])), (a1_values, .inl (y.1, 20, .inl v1_values))] → va_S A s.heap H locs → W p l e (headSpec wsX1_seekIn ({ frames := 3, cells := 0, slots := 0, locals := 67 } : Room)).room s m ([.ref a, .ref a1] : List Value).toArray below meth c H locs 0 0 (MQ below (va_Qv K (bW D y A (fun u : (Int32 × Int32 × (Nat → Int32)) => [(a, .inr (0, [.int u.1, .int u.2.1, .ref a_partitions])), (a_partitions, .inl (y.1, 15, .inl u.2.2)), (a1, .inr (3, [.int v1_size, .ref a1_values])), (a1_values, .inl (y.1, 20, .inl v1_values))])) A) ([.ref a, .ref a1] : List Value).toArray s 0 0 A) (F0 m 80 ls []))
      (n : Nat) (x2_15 : Int32) (v_found_15 : Int32) (v_partitions_15 : Nat → Int32) (ls : Array Slot) (H : Heap) (locs : List Loc), sat (lp (fun q : (Int32 × Int32 × (Nat → Int32)) => m_X1_seekIn_s15 v1_size v1_values q.1 q.2.1 q.2.2) n (x2_15, v_found_15, v_partitions_15)) K15 → lv_has ls 3 [(0, .ref a), (1, .ref a1), (2, .int x2_15)] → va_P D vwCl [(a, .inr (0, [.int v_found_15, .int v1_size, .ref a_partitions])), (a_partitions, .inl (y.1, 15, .inl v_partitions_15)), (a1, .inr (3, [.int v1_size, .ref a1_values])), (a1_values, .inl (y.1, 20, .inl v1_values))] H → va_D A [(a, .inr (0, [.int v_found_15, .int v1_size, .ref a_partitions])), (a_partitions, .inl (y.1, 15, .inl v_partitions_15)), (a1, .inr (3, [.int v1_size, .ref a1_values])), (a1_values, .inl (y.1, 20, .inl v1_values))] → va_S A s.heap H locs → W p l e (headSpec wsX1_seekIn ({ frames := 3, cells := 0, slots := 0, locals := 67 } : Room)).room s m ([.ref a, .ref a1] : List Value).toArray below meth c H locs 0 0 (MQ below (va_Qv K (bW D y A (fun u : (Int32 × Int32 × (Nat → Int32)) => [(a, .inr (0, [.int u.1, .int u.2.1, .ref a_partitions])), (a_partitions, .inl (y.1, 15, .inl u.2.2)), (a1, .inr (3, [.int v1_size, .ref a1_values])), (a1_values, .inl (y.1, 20, .inl v1_values))])) A) ([.ref a, .ref a1] : List Value).toArray s 0 0 A) (F0 m 15 ls []) := by
    intro K15 hE15 n
    induction n with
    | zero => intro x2_15 v_found_15 v_partitions_15 ls H locs h; exact (sat_lp0 h).elim
    | succ n ih =>
      intro x2_15 v_found_15 v_partitions_15 ls H locs h hl hP hD hS
      have h := sat_lp h
      have h : sat (m_X1_seekIn_s15 v1_size v1_values x2_15 v_found_15 v_partitions_15) (lk (fun s' => sat (lp (fun q : (Int32 × Int32 × (Nat → Int32)) => m_X1_seekIn_s15 v1_size v1_values q.1 q.2.1 q.2.2) n s') K15) K15) := h
      unfold m_X1_seekIn_s15 at h
      refine lv_iload_n hx hb dX1_seekIn_15 rfl (lv_at hl 2 rfl) ?_
      refine va_gets (own := RX1) hx hb hT.1 hS hown (hts (.fieldLink RX1 7 "AlgebraLaws$Congruences" "PARTITIONS" "[I") (by decide +kernel)) (fun _ h9 => h9) dX1_seekIn_16 ?_
      refine va_tlen (v := 15) hx hb hT.2 hS (by decide) dX1_seekIn_19 ?_
      refine lv_icmp_ge (tgt := 80) hx hb dX1_seekIn_20 (by decide) (fun c20 => ?_) (fun c20 => ?_)
      · have h := sat_t c20 h
        have h := lk_r (sat_some h)
        exact hE15 (v_found_15, v_partitions_15) ls H locs h (lv_sub hl [] rfl) hP hD hS
      · have h := sat_f c20 h
        refine lv_aload_n hx hb dX1_seekIn_23 rfl (lv_at hl 0 rfl) ?_
        refine va_get (D := D) (ci := 0) (v := .int v1_size) (C := RX1) (T := TX1) (N := 3) hx hb hts iX1 hown hK hP 0 rfl rfl 1 (by decide) fl22 (fun _ h9 => h9) rfl dX1_seekIn_24 ?_
        refine va_gets (own := RX1) hx hb hT.1 hS hown (hts (.fieldLink RX1 7 "AlgebraLaws$Congruences" "PARTITIONS" "[I") (by decide +kernel)) (fun _ h9 => h9) dX1_seekIn_27 ?_
        refine lv_iload_n hx hb dX1_seekIn_30 rfl (lv_at hl 2 rfl) ?_
        obtain ⟨r2, er2, hin, h⟩ := sat_rd h
        refine xt hx hb hT hS er2 hin dX1_seekIn_31 ?_
        refine cr_i (rs (As := [.int v1_size, .int r2]) (rest := []) ⟨hx, hb, hml, hown, hts⟩ (c_X1_isOfFirst l D y v1_size r2 _ (sat_bind h)) (va_cwS 2 hts gX1_seekIn_X1_isOfFirst rfl rfl rfl (by decide +kernel) ⟨Nat.le_of_ble_eq_true rfl, Nat.le_of_ble_eq_true rfl⟩) hK hP [] rfl rfl hl.1 rfl (Nat.le_of_ble_eq_true rfl) dX1_seekIn_32 ⟨Nat.zero_le _, Nat.zero_le _⟩) (fun r3 h => ?_)
        refine lv_if_eq (tgt := 74) hx hb dX1_seekIn_35 (by decide) (fun c35 => ?_) (fun c35 => ?_)
        · have h := sat_t c35 h
          refine lv_iinc (v := x2_15 + 1) (lv' := [(2, .int (x2_15 + 1)), (0, .ref a), (1, .ref a1)]) hx hb dX1_seekIn_74 hl (k := 2) rfl rfl (by decide) rfl (fun ls hl => ?_)
          refine lv_goto (tgt := 15) hx hb dX1_seekIn_77 (by decide) ?_
          have h := lk_l (sat_some h)
          exact ih (x2_15 + 1) v_found_15 v_partitions_15 ls H locs h (lv_sub hl [1, 2, 0] rfl) hP hD hS
        · have h := sat_f c35 h
          refine lv_aload_n hx hb dX1_seekIn_38 rfl (lv_at hl 1 rfl) ?_
          refine va_gets (own := RX1) hx hb hT.1 hS hown (hts (.fieldLink RX1 7 "AlgebraLaws$Congruences" "PARTITIONS" "[I") (by decide +kernel)) (fun _ h9 => h9) dX1_seekIn_39 ?_
          refine lv_iload_n hx hb dX1_seekIn_42 rfl (lv_at hl 2 rfl) ?_
          obtain ⟨r4, er4, hin, h⟩ := sat_rd h
          refine xt hx hb hT hS er4 hin dX1_seekIn_43 ?_
          refine cr_i (rs (As := [.ref a1, .int r4]) (rest := []) ⟨hx, hb, hml, hown, hts⟩ (c_X1_goesAlong l D y a1 a1_values v1_size v1_values r4 _ (sat_bind h)) (va_cwS 2 hts gX1_seekIn_X1_goesAlong rfl rfl rfl (by decide +kernel) ⟨Nat.le_of_ble_eq_true rfl, Nat.le_of_ble_eq_true rfl⟩) hK hP [2, 3] rfl rfl hl.1 rfl (Nat.le_of_ble_eq_true rfl) dX1_seekIn_44 ⟨Nat.zero_le _, Nat.zero_le _⟩) (fun r5 h => ?_)
          refine lv_if_eq (tgt := 74) hx hb dX1_seekIn_47 (by decide) (fun c47 => ?_) (fun c47 => ?_)
          · have h := sat_t c47 h
            refine lv_iinc (v := x2_15 + 1) (lv' := [(2, .int (x2_15 + 1)), (0, .ref a), (1, .ref a1)]) hx hb dX1_seekIn_74 hl (k := 2) rfl rfl (by decide) rfl (fun ls hl => ?_)
            refine lv_goto (tgt := 15) hx hb dX1_seekIn_77 (by decide) ?_
            have h := lk_l (sat_some h)
            exact ih (x2_15 + 1) v_found_15 v_partitions_15 ls H locs h (lv_sub hl [1, 2, 0] rfl) hP hD hS
          · have h := sat_f c47 h
            refine lv_aload_n hx hb dX1_seekIn_50 rfl (lv_at hl 0 rfl) ?_
            refine va_get (D := D) (ci := 0) (v := .ref a_partitions) (C := RX1) (T := TX1) (N := 3) hx hb hts iX1 hown hK hP 0 rfl rfl 2 (by decide) fl13 (fun _ h9 => h9) rfl dX1_seekIn_51 ?_
            refine lv_aload_n hx hb dX1_seekIn_54 rfl (lv_at hl 0 rfl) ?_
            refine va_get (D := D) (ci := 0) (v := .int v_found_15) (C := RX1) (T := TX1) (N := 3) hx hb hts iX1 hown hK hP 0 rfl rfl 0 (by decide) fl23 (fun _ h9 => h9) rfl dX1_seekIn_55 ?_
            refine va_gets (own := RX1) hx hb hT.1 hS hown (hts (.fieldLink RX1 7 "AlgebraLaws$Congruences" "PARTITIONS" "[I") (by decide +kernel)) (fun _ h9 => h9) dX1_seekIn_58 ?_
            refine lv_iload_n hx hb dX1_seekIn_61 rfl (lv_at hl 2 rfl) ?_
            obtain ⟨r6, er6, hin, h⟩ := sat_rd h
            refine xt hx hb hT hS er6 hin dX1_seekIn_62 ?_
            obtain ⟨f7, ef7, hin, h⟩ := sat_wrI h
            refine yi (wn := [(a, .inr (0, [.int v_found_15, .int v1_size, .ref a_partitions])), (a_partitions, .inl (y.1, 15, .inl f7)), (a1, .inr (3, [.int v1_size, .ref a1_values])), (a1_values, .inl (y.1, 20, .inl v1_values))]) hx hb hK hP hD hS 1 0 rfl rfl ef7 hin dX1_seekIn_63 rfl (fun H locs hP hD hS => ?_)
            refine lv_aload_n hx hb dX1_seekIn_64 rfl (lv_at hl 0 rfl) ?_
            refine lv_dup hx hb dX1_seekIn_65 rfl ?_
            refine va_get (D := D) (ci := 0) (v := .int v_found_15) (C := RX1) (T := TX1) (N := 3) hx hb hts iX1 hown hK hP 0 rfl rfl 0 (by decide) fl23 (fun _ h9 => h9) rfl dX1_seekIn_66 ?_
            refine lv_iconst (v := 1) hx hb dX1_seekIn_69 (by decide) ?_
            refine lv_iadd hx hb dX1_seekIn_70 ?_
            refine pf (D := D) (ci := 0) (v := .int (v_found_15 + 1)) (ty := .int) (C := RX1) (T := TX1) (N := 3) (wn := [(a, .inr (0, [.int (v_found_15 + 1), .int v1_size, .ref a_partitions])), (a_partitions, .inl (y.1, 15, .inl f7)), (a1, .inr (3, [.int v1_size, .ref a1_values])), (a1_values, .inl (y.1, 20, .inl v1_values))]) hx hb hts iX1 tyX1 tyX1_ok nmX1 hown hK hP hD hS 0 rfl rfl 0 (by decide) fl23 (fun _ h9 => h9) rfl (by decide +kernel) rfl rfl (Nat.le_of_ble_eq_true rfl) dX1_seekIn_71 rfl (fun H locs hP hD hS => ?_)
            refine lv_iinc (v := x2_15 + 1) (lv' := [(2, .int (x2_15 + 1)), (0, .ref a), (1, .ref a1)]) hx hb dX1_seekIn_74 hl (k := 2) rfl rfl (by decide) rfl (fun ls hl => ?_)
            refine lv_goto (tgt := 15) hx hb dX1_seekIn_77 (by decide) ?_
            have h := lk_l (sat_some h)
            exact ih (x2_15 + 1) (v_found_15 + 1) f7 ls H locs h (lv_sub hl [1, 2, 0] rfl) hP hD hS
  have h := sat_bind h
  refine hL15 _ (fun z15 ls H locs h hl hP hD hS => ?_) 1000 0 0 v_partitions ls H locs h (lv_sub hl [1, 2, 0] rfl) hP hD hS
  have h := sat_some h
  exact W.vret hx hb hr (fun t ht hW => ⟨⟨(z15.1, v1_size, z15.2), rfl, h, by rw [ht]; exact hP, va_K.moved hW.alike hK, hD⟩, hS.F ht⟩) hS.2.2 dX1_seekIn_80

/-! X1_isThere -/
set_option maxHeartbeats 4000000 in
set_option maxRecDepth 100000 in
theorem c_X1_isThere (l : Launch) (D : va_G) (y : ClassId × ClassId × ClassId × ClassId) (a a_partitions : Nat) (v_found : Int32) (v_size : Int32) (v_partitions : Nat → Int32) (x1 : Int32) (K : Int32 → Prop) (h : sat (m_X1_isThere v_found x1) K) : Met l yX1_isThere wsX1_isThere ({ frames := 0, cells := 0, slots := 0, locals := 0 } : Room) (pR D y ([.ref a, .int x1] : List Value) [(a, .inr (0, [.int v_found, .int v_size, .ref a_partitions])), (a_partitions, .inl (y.1, 15, .inl v_partitions))]) (qSi K) 0 0 (fun _ => False) := by
  refine Met.ofW (cc := cX1_isThere) (maxL := 2) (ret := (some .boolean)) (by decide) rfl ?_
  intro p e s m args below meth c s₁ B hml hv
  obtain ⟨rfl, hP, hK⟩ := hv
  have hx := B.exec
  have hb := B.bytes
  have hr := B.returns
  have hts := atoms_spec (ws := wsX1_isThere) B.pre
  have hown : s.vm.findClass RX1 = some m.cls := findClass_of_methodNamed B.named
  have hlocks := B.notSynchronized
  have iX1 : ∀ w ∈ wsX10, w ∈ wsX1_isThere := by decide +kernel
  have fl23 := hts (.fieldLink RX1 23 "AlgebraLaws$Congruences" "found" "I") (by decide +kernel)
  have fl13 := hts (.fieldLink RX1 13 "AlgebraLaws$Congruences" "partitions" "[I") (by decide +kernel)
  have hl := lv_entry ([.ref a, .int x1] : List Value) (n := 2) (Nat.le_of_ble_eq_true rfl)
  rw [lg_entry_eq]
  generalize (lg_sl ([.ref a, .int x1] : List Value) ++ List.replicate (2 - (lg_sl ([.ref a, .int x1] : List Value)).length) Slot.unset).toArray = ls at hl ⊢
  have hl : lv_has ls 2 [(0, .ref a), (1, .int x1)] := hl
  unfold m_X1_isThere at h
  refine lv_iload_n hx hb dX1_isThere_0 rfl (lv_at hl 1 rfl) ?_
  refine lv_if_lt (tgt := 25) hx hb dX1_isThere_1 (by decide) (fun c1 => ?_) (fun c1 => ?_)
  · have h := sat_t c1 h
    refine lv_iconst (v := 0) hx hb dX1_isThere_25 (by decide) ?_
    have h := sat_some h
    exact W.zret (v := 0) hx hb hr rfl (fun t ht _ => ⟨0, rfl, h, ht⟩) (fun _ hq => by cases hq) dX1_isThere_26
  · have h := sat_f c1 h
    refine lv_iload_n hx hb dX1_isThere_4 rfl (lv_at hl 1 rfl) ?_
    refine lv_aload_n hx hb dX1_isThere_5 rfl (lv_at hl 0 rfl) ?_
    refine va_get (D := D) (ci := 0) (v := .int v_found) (C := RX1) (T := TX1) (N := 3) hx hb hts iX1 hown hK hP 0 rfl rfl 0 (by decide) fl23 (fun _ h9 => h9) rfl dX1_isThere_6 ?_
    refine lv_icmp_ge (tgt := 25) hx hb dX1_isThere_9 (by decide) (fun c9 => ?_) (fun c9 => ?_)
    · have h := sat_t c9 h
      refine lv_iconst (v := 0) hx hb dX1_isThere_25 (by decide) ?_
      have h := sat_some h
      exact W.zret (v := 0) hx hb hr rfl (fun t ht _ => ⟨0, rfl, h, ht⟩) (fun _ hq => by cases hq) dX1_isThere_26
    · have h := sat_f c9 h
      refine lv_iload_n hx hb dX1_isThere_12 rfl (lv_at hl 1 rfl) ?_
      refine lv_aload_n hx hb dX1_isThere_13 rfl (lv_at hl 0 rfl) ?_
      refine va_get (D := D) (ci := 0) (v := .ref a_partitions) (C := RX1) (T := TX1) (N := 3) hx hb hts iX1 hown hK hP 0 rfl rfl 2 (by decide) fl13 (fun _ h9 => h9) rfl dX1_isThere_14 ?_
      refine va_alen (v := 15) hx hb hK hP 1 0 rfl rfl rfl dX1_isThere_17 ?_
      refine lv_icmp_ge (tgt := 25) hx hb dX1_isThere_18 (by decide) (fun c18 => ?_) (fun c18 => ?_)
      · have h := sat_t c18 h
        refine lv_iconst (v := 0) hx hb dX1_isThere_25 (by decide) ?_
        have h := sat_some h
        exact W.zret (v := 0) hx hb hr rfl (fun t ht _ => ⟨0, rfl, h, ht⟩) (fun _ hq => by cases hq) dX1_isThere_26
      · have h := sat_f c18 h
        refine lv_iconst (v := 1) hx hb dX1_isThere_21 (by decide) ?_
        refine lv_goto (tgt := 26) hx hb dX1_isThere_22 (by decide) ?_
        have h := sat_some h
        exact W.zret (v := 1) hx hb hr rfl (fun t ht _ => ⟨1, rfl, h, ht⟩) (fun _ hq => by cases hq) dX1_isThere_26

/-! X1_partition -/
set_option maxHeartbeats 4000000 in
set_option maxRecDepth 100000 in
theorem c_X1_partition (l : Launch) (D : va_G) (y : ClassId × ClassId × ClassId × ClassId) (a a_partitions : Nat) (v_found : Int32) (v_size : Int32) (v_partitions : Nat → Int32) (x1 : Int32) (K : Int32 → Prop) (h : sat (m_X1_partition v_found v_partitions x1) K) : Met l yX1_partition wsX1_partition ({ frames := 1, cells := 0, slots := 0, locals := 21 } : Room) (pR D y ([.ref a, .int x1] : List Value) [(a, .inr (0, [.int v_found, .int v_size, .ref a_partitions])), (a_partitions, .inl (y.1, 15, .inl v_partitions))]) (qSi K) 0 0 (fun _ => False) := by
  refine Met.ofW (cc := cX1_partition) (maxL := 2) (ret := (some .int)) (by decide) rfl ?_
  intro p e s m args below meth c s₁ B hml hv
  obtain ⟨rfl, hP, hK⟩ := hv
  have hx := B.exec
  have hb := B.bytes
  have hr := B.returns
  have hts := atoms_spec (ws := wsX1_partition) B.pre
  have hown : s.vm.findClass RX1 = some m.cls := findClass_of_methodNamed B.named
  have hlocks := B.notSynchronized
  have iX1 : ∀ w ∈ wsX10, w ∈ wsX1_partition := by decide +kernel
  have fl13 := hts (.fieldLink RX1 13 "AlgebraLaws$Congruences" "partitions" "[I") (by decide +kernel)
  have hl := lv_entry ([.ref a, .int x1] : List Value) (n := 2) (Nat.le_of_ble_eq_true rfl)
  rw [lg_entry_eq]
  generalize (lg_sl ([.ref a, .int x1] : List Value) ++ List.replicate (2 - (lg_sl ([.ref a, .int x1] : List Value)).length) Slot.unset).toArray = ls at hl ⊢
  have hl : lv_has ls 2 [(0, .ref a), (1, .int x1)] := hl
  unfold m_X1_partition at h
  refine lv_aload_n hx hb dX1_partition_0 rfl (lv_at hl 0 rfl) ?_
  refine lv_iload_n hx hb dX1_partition_1 rfl (lv_at hl 1 rfl) ?_
  refine cr_i (rv (As := [.int x1]) (rest := []) ⟨hx, hb, hml, hown, hts⟩ (c_X1_isThere l D y a a_partitions v_found v_size v_partitions x1 _ (sat_bind h)) (cwV 1 hts gX1_partition_X1_isThere rfl rfl rfl (by decide +kernel) ⟨Nat.le_of_ble_eq_true rfl, Nat.le_of_ble_eq_true rfl⟩) hK hP [0, 1] rfl 0 0 rfl rfl rfl rfl hl.1 rfl (Nat.le_of_ble_eq_true rfl) dX1_partition_2 ⟨Nat.zero_le _, Nat.zero_le _⟩) (fun r1 h => ?_)
  refine lv_if_eq (tgt := 17) hx hb dX1_partition_5 (by decide) (fun c5 => ?_) (fun c5 => ?_)
  · have h := sat_t c5 h
    refine lv_iconst (v := 0) hx hb dX1_partition_17 (by decide) ?_
    have h := sat_some h
    exact W.iret (v := 0) hx hb hr (fun t ht _ => ⟨0, rfl, h, ht⟩) (fun _ hq => by cases hq) dX1_partition_18
  · have h := sat_f c5 h
    refine lv_aload_n hx hb dX1_partition_8 rfl (lv_at hl 0 rfl) ?_
    refine va_get (D := D) (ci := 0) (v := .ref a_partitions) (C := RX1) (T := TX1) (N := 3) hx hb hts iX1 hown hK hP 0 rfl rfl 2 (by decide) fl13 (fun _ h9 => h9) rfl dX1_partition_9 ?_
    refine lv_iload_n hx hb dX1_partition_12 rfl (lv_at hl 1 rfl) ?_
    obtain ⟨r2, er2, hin, h⟩ := sat_rd h
    refine xi hx hb hK hP 1 0 rfl rfl er2 hin dX1_partition_13 ?_
    refine lv_goto (tgt := 18) hx hb dX1_partition_14 (by decide) ?_
    have h := sat_some h
    exact W.iret (v := r2) hx hb hr (fun t ht _ => ⟨r2, rfl, h, ht⟩) (fun _ hq => by cases hq) dX1_partition_18

/-! X1_nameOf -/
set_option maxHeartbeats 4000000 in
set_option maxRecDepth 100000 in
theorem c_X1_nameOf (l : Launch) (D : va_G) (y : ClassId × ClassId × ClassId × ClassId) (a a_partitions : Nat) (v_found : Int32) (v_size : Int32) (v_partitions : Nat → Int32) (x1 : Int32) (K : Int32 → Prop) (h : sat (m_X1_nameOf v_found v_size v_partitions x1) K) : Met l yX1_nameOf wsX1_nameOf ({ frames := 2, cells := 0, slots := 0, locals := 42 } : Room) (pR D y ([.ref a, .int x1] : List Value) [(a, .inr (0, [.int v_found, .int v_size, .ref a_partitions])), (a_partitions, .inl (y.1, 15, .inl v_partitions))]) (qSi K) 0 0 (fun _ => False) := by
  refine Met.ofW (cc := cX1_nameOf) (maxL := 4) (ret := (some .int)) (by decide) rfl ?_
  intro p e s m args below meth c s₁ B hml hv
  obtain ⟨rfl, hP, hK⟩ := hv
  have hx := B.exec
  have hb := B.bytes
  have hr := B.returns
  have hts := atoms_spec (ws := wsX1_nameOf) B.pre
  have hown : s.vm.findClass RX1 = some m.cls := findClass_of_methodNamed B.named
  have hlocks := B.notSynchronized
  have iX1 : ∀ w ∈ wsX10, w ∈ wsX1_nameOf := by decide +kernel
  have fl22 := hts (.fieldLink RX1 22 "AlgebraLaws$Congruences" "size" "I") (by decide +kernel)
  have hl := lv_entry ([.ref a, .int x1] : List Value) (n := 4) (Nat.le_of_ble_eq_true rfl)
  rw [lg_entry_eq]
  generalize (lg_sl ([.ref a, .int x1] : List Value) ++ List.replicate (4 - (lg_sl ([.ref a, .int x1] : List Value)).length) Slot.unset).toArray = ls at hl ⊢
  have hl : lv_has ls 4 [(0, .ref a), (1, .int x1)] := hl
  unfold m_X1_nameOf at h
  refine lv_iconst (v := 0) hx hb dX1_nameOf_0 (by decide) ?_
  refine lv_istore_n (lv' := [(2, .int 0), (0, .ref a), (1, .int x1)]) hx hb dX1_nameOf_1 rfl hl (by decide) rfl (fun ls hl => ?_)
  refine lv_iconst (v := 0) hx hb dX1_nameOf_2 (by decide) ?_
  refine lv_istore_n (lv' := [(3, .int 0), (2, .int 0), (0, .ref a), (1, .int x1)]) hx hb dX1_nameOf_3 rfl hl (by decide) rfl (fun ls hl => ?_)
  have hL4 : ∀ (K4 : Int32 → Prop)
      (hE4 : ∀ (z4 : Int32) (ls : Array Slot), K4 z4 → lv_has ls 4 [(2, .int z4)] → W p l e (headSpec wsX1_nameOf ({ frames := 2, cells := 0, slots := 0, locals := 42 } : Room)).room s m ([.ref a, .int x1] : List Value).toArray below meth c s.heap [] 0 0 (MQ below (qSi K) ([.ref a, .int x1] : List Value).toArray s 0 0 (fun _ => False)) (F0 m 33 ls []))
      (n : Nat) (x2_4 : Int32) (x3_4 : Int32) (ls : Array Slot), sat (lp (fun q : (Int32 × Int32) => m_X1_nameOf_s4 v_found v_size v_partitions x1 q.1 q.2) n (x2_4, x3_4)) K4 → lv_has ls 4 [(0, .ref a), (1, .int x1), (2, .int x2_4), (3, .int x3_4)] → W p l e (headSpec wsX1_nameOf ({ frames := 2, cells := 0, slots := 0, locals := 42 } : Room)).room s m ([.ref a, .int x1] : List Value).toArray below meth c s.heap [] 0 0 (MQ below (qSi K) ([.ref a, .int x1] : List Value).toArray s 0 0 (fun _ => False)) (F0 m 4 ls []) := by
    intro K4 hE4 n
    induction n with
    | zero => intro x2_4 x3_4 ls h; exact (sat_lp0 h).elim
    | succ n ih =>
      intro x2_4 x3_4 ls h hl
      have h := sat_lp h
      have h : sat (m_X1_nameOf_s4 v_found v_size v_partitions x1 x2_4 x3_4) (lk (fun s' => sat (lp (fun q : (Int32 × Int32) => m_X1_nameOf_s4 v_found v_size v_partitions x1 q.1 q.2) n s') K4) K4) := h
      unfold m_X1_nameOf_s4 at h
      refine lv_iload_n hx hb dX1_nameOf_4 rfl (lv_at hl 3 rfl) ?_
      refine lv_aload_n hx hb dX1_nameOf_5 rfl (lv_at hl 0 rfl) ?_
      refine va_get (D := D) (ci := 0) (v := .int v_size) (C := RX1) (T := TX1) (N := 3) hx hb hts iX1 hown hK hP 0 rfl rfl 1 (by decide) fl22 (fun _ h9 => h9) rfl dX1_nameOf_6 ?_
      refine lv_icmp_ge (tgt := 33) hx hb dX1_nameOf_9 (by decide) (fun c9 => ?_) (fun c9 => ?_)
      · have h := sat_t c9 h
        have h := lk_r (sat_some h)
        exact hE4 x2_4 ls h (lv_sub hl [2] rfl)
      · have h := sat_f c9 h
        refine lv_bipush (v := 10) hx hb dX1_nameOf_12 (by decide) ?_
        refine lv_iload_n hx hb dX1_nameOf_14 rfl (lv_at hl 2 rfl) ?_
        refine lv_imul hx hb dX1_nameOf_15 ?_
        refine lv_aload_n hx hb dX1_nameOf_16 rfl (lv_at hl 0 rfl) ?_
        refine lv_iload_n hx hb dX1_nameOf_17 rfl (lv_at hl 1 rfl) ?_
        refine cr_i (rv (As := [.int x1]) (rest := [.int (10 * x2_4)]) ⟨hx, hb, hml, hown, hts⟩ (c_X1_partition l D y a a_partitions v_found v_size v_partitions x1 _ (sat_bind h)) (cwV 1 hts gX1_nameOf_X1_partition rfl rfl rfl (by decide +kernel) ⟨Nat.le_of_ble_eq_true rfl, Nat.le_of_ble_eq_true rfl⟩) hK hP [0, 1] rfl 0 0 rfl rfl rfl rfl hl.1 rfl (Nat.le_of_ble_eq_true rfl) dX1_nameOf_18 ⟨Nat.zero_le _, Nat.zero_le _⟩) (fun r2 h => ?_)
        refine lv_iload_n hx hb dX1_nameOf_21 rfl (lv_at hl 3 rfl) ?_
        refine cr_i (rs (As := [.int r2, .int x3_4]) (rest := [.int (10 * x2_4)]) ⟨hx, hb, hml, hown, hts⟩ (c_X1_least l D y r2 x3_4 _ (sat_bind h)) (va_cwS 2 hts gX1_nameOf_X1_least rfl rfl rfl (by decide +kernel) ⟨Nat.le_of_ble_eq_true rfl, Nat.le_of_ble_eq_true rfl⟩) hK hP [] rfl rfl hl.1 rfl (Nat.le_of_ble_eq_true rfl) dX1_nameOf_22 ⟨Nat.zero_le _, Nat.zero_le _⟩) (fun r3 h => ?_)
        refine lv_iadd hx hb dX1_nameOf_25 ?_
        refine lv_istore_n (lv' := [(2, .int ((10 * x2_4) + r3)), (0, .ref a), (1, .int x1), (3, .int x3_4)]) hx hb dX1_nameOf_26 rfl hl (by decide) rfl (fun ls hl => ?_)
        refine lv_iinc (v := x3_4 + 1) (lv' := [(3, .int (x3_4 + 1)), (2, .int ((10 * x2_4) + r3)), (0, .ref a), (1, .int x1)]) hx hb dX1_nameOf_27 hl (k := 3) rfl rfl (by decide) rfl (fun ls hl => ?_)
        refine lv_goto (tgt := 4) hx hb dX1_nameOf_30 (by decide) ?_
        have h := lk_l (sat_some h)
        exact ih ((10 * x2_4) + r3) (x3_4 + 1) ls h (lv_sub hl [2, 3, 1, 0] rfl)
  have h := sat_bind h
  refine hL4 _ (fun z4 ls h hl => ?_) 1000 0 0 ls h (lv_sub hl [2, 3, 1, 0] rfl)
  refine lv_iload_n hx hb dX1_nameOf_33 rfl (lv_at hl 0 rfl) ?_
  have h := sat_some h
  exact W.iret (v := z4) hx hb hr (fun t ht _ => ⟨z4, rfl, h, ht⟩) (fun _ hq => by cases hq) dX1_nameOf_34

/-! X1_finestWith -/
set_option maxHeartbeats 4000000 in
set_option maxRecDepth 100000 in
theorem c_X1_finestWith (l : Launch) (D : va_G) (y : ClassId × ClassId × ClassId × ClassId) (a a_partitions : Nat) (v_found : Int32) (v_size : Int32) (v_partitions : Nat → Int32) (x1 : Int32) (x2 : Int32) (K : Int32 → Prop) (h : sat (m_X1_finestWith v_found v_partitions x1 x2) K) : Met l yX1_finestWith wsX1_finestWith ({ frames := 2, cells := 0, slots := 0, locals := 43 } : Room) (pR D y ([.ref a, .int x1, .int x2] : List Value) [(a, .inr (0, [.int v_found, .int v_size, .ref a_partitions])), (a_partitions, .inl (y.1, 15, .inl v_partitions))]) (qSi K) 0 0 (fun _ => False) := by
  refine Met.ofW (cc := cX1_finestWith) (maxL := 4) (ret := (some .int)) (by decide) rfl ?_
  intro p e s m args below meth c s₁ B hml hv
  obtain ⟨rfl, hP, hK⟩ := hv
  have hx := B.exec
  have hb := B.bytes
  have hr := B.returns
  have hts := atoms_spec (ws := wsX1_finestWith) B.pre
  have hown : s.vm.findClass RX1 = some m.cls := findClass_of_methodNamed B.named
  have hlocks := B.notSynchronized
  have iX1 : ∀ w ∈ wsX10, w ∈ wsX1_finestWith := by decide +kernel
  have fl23 := hts (.fieldLink RX1 23 "AlgebraLaws$Congruences" "found" "I") (by decide +kernel)
  have hl := lv_entry ([.ref a, .int x1, .int x2] : List Value) (n := 4) (Nat.le_of_ble_eq_true rfl)
  rw [lg_entry_eq]
  generalize (lg_sl ([.ref a, .int x1, .int x2] : List Value) ++ List.replicate (4 - (lg_sl ([.ref a, .int x1, .int x2] : List Value)).length) Slot.unset).toArray = ls at hl ⊢
  have hl : lv_has ls 4 [(0, .ref a), (1, .int x1), (2, .int x2)] := hl
  unfold m_X1_finestWith at h
  refine lv_aload_n hx hb dX1_finestWith_0 rfl (lv_at hl 0 rfl) ?_
  refine va_get (D := D) (ci := 0) (v := .int v_found) (C := RX1) (T := TX1) (N := 3) hx hb hts iX1 hown hK hP 0 rfl rfl 0 (by decide) fl23 (fun _ h9 => h9) rfl dX1_finestWith_1 ?_
  refine lv_iconst (v := 1) hx hb dX1_finestWith_4 (by decide) ?_
  refine lv_isub hx hb dX1_finestWith_5 ?_
  refine lv_istore_n (lv' := [(3, .int (v_found - 1)), (0, .ref a), (1, .int x1), (2, .int x2)]) hx hb dX1_finestWith_6 rfl hl (by decide) rfl (fun ls hl => ?_)
  have hL7 : ∀ (K7 : (Int32 ⊕ Unit) → Prop)
      (hR7 : ∀ (u : Int32), K7 (.inl u) → K u)
      (hE7 : ∀ (z7 : Unit) (ls : Array Slot), K7 (.inr z7) → lv_has ls 4 [] → W p l e (headSpec wsX1_finestWith ({ frames := 2, cells := 0, slots := 0, locals := 43 } : Room)).room s m ([.ref a, .int x1, .int x2] : List Value).toArray below meth c s.heap [] 0 0 (MQ below (qSi K) ([.ref a, .int x1, .int x2] : List Value).toArray s 0 0 (fun _ => False)) (F0 m 32 ls []))
      (n : Nat) (x3_7 : Int32) (ls : Array Slot), sat (lp (fun q : Int32 => m_X1_finestWith_s7 v_found v_partitions x1 x2 q) n x3_7) K7 → lv_has ls 4 [(0, .ref a), (1, .int x1), (2, .int x2), (3, .int x3_7)] → W p l e (headSpec wsX1_finestWith ({ frames := 2, cells := 0, slots := 0, locals := 43 } : Room)).room s m ([.ref a, .int x1, .int x2] : List Value).toArray below meth c s.heap [] 0 0 (MQ below (qSi K) ([.ref a, .int x1, .int x2] : List Value).toArray s 0 0 (fun _ => False)) (F0 m 7 ls []) := by
    intro K7 hR7 hE7 n
    induction n with
    | zero => intro x3_7 ls h; exact (sat_lp0 h).elim
    | succ n ih =>
      intro x3_7 ls h hl
      have h := sat_lp h
      have h : sat (m_X1_finestWith_s7 v_found v_partitions x1 x2 x3_7) (lk (fun s' => sat (lp (fun q : Int32 => m_X1_finestWith_s7 v_found v_partitions x1 x2 q) n s') K7) K7) := h
      unfold m_X1_finestWith_s7 at h
      refine lv_iload_n hx hb dX1_finestWith_7 rfl (lv_at hl 3 rfl) ?_
      refine lv_if_le (tgt := 32) hx hb dX1_finestWith_8 (by decide) (fun c8 => ?_) (fun c8 => ?_)
      · have h := sat_t c8 h
        have h := lk_r (sat_some h)
        exact hE7 () ls h (lv_sub hl [] rfl)
      · have h := sat_f c8 h
        refine lv_aload_n hx hb dX1_finestWith_11 rfl (lv_at hl 0 rfl) ?_
        refine lv_iload_n hx hb dX1_finestWith_12 rfl (lv_at hl 3 rfl) ?_
        refine cr_i (rv (As := [.int x3_7]) (rest := []) ⟨hx, hb, hml, hown, hts⟩ (c_X1_partition l D y a a_partitions v_found v_size v_partitions x3_7 _ (sat_bind h)) (cwV 1 hts gX1_finestWith_X1_partition rfl rfl rfl (by decide +kernel) ⟨Nat.le_of_ble_eq_true rfl, Nat.le_of_ble_eq_true rfl⟩) hK hP [0, 1] rfl 0 0 rfl rfl rfl rfl hl.1 rfl (Nat.le_of_ble_eq_true rfl) dX1_finestWith_13 ⟨Nat.zero_le _, Nat.zero_le _⟩) (fun r2 h => ?_)
        refine lv_iload_n hx hb dX1_finestWith_16 rfl (lv_at hl 1 rfl) ?_
        refine lv_iload_n hx hb dX1_finestWith_17 rfl (lv_at hl 2 rfl) ?_
        refine cr_i (rs (As := [.int r2, .int x1, .int x2]) (rest := []) ⟨hx, hb, hml, hown, hts⟩ (c_X1_together l D y r2 x1 x2 _ (sat_bind h)) (va_cwS 3 hts gX1_finestWith_X1_together rfl rfl rfl (by decide +kernel) ⟨Nat.le_of_ble_eq_true rfl, Nat.le_of_ble_eq_true rfl⟩) hK hP [] rfl rfl hl.1 rfl (Nat.le_of_ble_eq_true rfl) dX1_finestWith_18 ⟨Nat.zero_le _, Nat.zero_le _⟩) (fun r3 h => ?_)
        refine lv_if_eq (tgt := 26) hx hb dX1_finestWith_21 (by decide) (fun c21 => ?_) (fun c21 => ?_)
        · have h := sat_t c21 h
          refine lv_iinc (v := x3_7 + (-1)) (lv' := [(3, .int (x3_7 + (-1))), (0, .ref a), (1, .int x1), (2, .int x2)]) hx hb dX1_finestWith_26 hl (k := 3) rfl rfl (by decide) rfl (fun ls hl => ?_)
          refine lv_goto (tgt := 7) hx hb dX1_finestWith_29 (by decide) ?_
          have h := lk_l (sat_some h)
          exact ih (x3_7 + (-1)) ls h (lv_sub hl [1, 2, 3, 0] rfl)
        · have h := sat_f c21 h
          refine lv_iload_n hx hb dX1_finestWith_24 rfl (lv_at hl 3 rfl) ?_
          have h := hR7 _ (lk_r (sat_some h))
          exact W.iret (v := x3_7) hx hb hr (fun t ht _ => ⟨x3_7, rfl, h, ht⟩) (fun _ hq => by cases hq) dX1_finestWith_25
  have h := sat_bdS h
  refine hL7 _ (fun u h => ?_) (fun z7 ls h hl => ?_) 1000 (v_found - 1) ls h (lv_sub hl [1, 2, 3, 0] rfl)
  · have h := lk_l h
    exact sat_some h
  · have h := lk_r h
    refine lv_iconst (v := 0) hx hb dX1_finestWith_32 (by decide) ?_
    have h := sat_some h
    exact W.iret (v := 0) hx hb hr (fun t ht _ => ⟨0, rfl, h, ht⟩) (fun _ hq => by cases hq) dX1_finestWith_33

/-! X1_isFiner -/
set_option maxHeartbeats 4000000 in
set_option maxRecDepth 100000 in
theorem c_X1_isFiner (l : Launch) (D : va_G) (y : ClassId × ClassId × ClassId × ClassId) (a a_partitions : Nat) (v_found : Int32) (v_size : Int32) (v_partitions : Nat → Int32) (x1 : Int32) (x2 : Int32) (K : Int32 → Prop) (h : sat (m_X1_isFiner v_found v_size v_partitions x1 x2) K) : Met l yX1_isFiner wsX1_isFiner ({ frames := 2, cells := 0, slots := 0, locals := 43 } : Room) (pR D y ([.ref a, .int x1, .int x2] : List Value) [(a, .inr (0, [.int v_found, .int v_size, .ref a_partitions])), (a_partitions, .inl (y.1, 15, .inl v_partitions))]) (qSi K) 0 0 (fun _ => False) := by
  refine Met.ofW (cc := cX1_isFiner) (maxL := 4) (ret := (some .boolean)) (by decide) rfl ?_
  intro p e s m args below meth c s₁ B hml hv
  obtain ⟨rfl, hP, hK⟩ := hv
  have hx := B.exec
  have hb := B.bytes
  have hr := B.returns
  have hts := atoms_spec (ws := wsX1_isFiner) B.pre
  have hown : s.vm.findClass RX1 = some m.cls := findClass_of_methodNamed B.named
  have hlocks := B.notSynchronized
  have iX1 : ∀ w ∈ wsX10, w ∈ wsX1_isFiner := by decide +kernel
  have fl22 := hts (.fieldLink RX1 22 "AlgebraLaws$Congruences" "size" "I") (by decide +kernel)
  have hl := lv_entry ([.ref a, .int x1, .int x2] : List Value) (n := 4) (Nat.le_of_ble_eq_true rfl)
  rw [lg_entry_eq]
  generalize (lg_sl ([.ref a, .int x1, .int x2] : List Value) ++ List.replicate (4 - (lg_sl ([.ref a, .int x1, .int x2] : List Value)).length) Slot.unset).toArray = ls at hl ⊢
  have hl : lv_has ls 4 [(0, .ref a), (1, .int x1), (2, .int x2)] := hl
  unfold m_X1_isFiner at h
  refine lv_iconst (v := 0) hx hb dX1_isFiner_0 (by decide) ?_
  refine lv_istore_n (lv' := [(3, .int 0), (0, .ref a), (1, .int x1), (2, .int x2)]) hx hb dX1_isFiner_1 rfl hl (by decide) rfl (fun ls hl => ?_)
  have hL2 : ∀ (K2 : (Int32 ⊕ Unit) → Prop)
      (hR2 : ∀ (u : Int32), K2 (.inl u) → K u)
      (hE2 : ∀ (z2 : Unit) (ls : Array Slot), K2 (.inr z2) → lv_has ls 4 [] → W p l e (headSpec wsX1_isFiner ({ frames := 2, cells := 0, slots := 0, locals := 43 } : Room)).room s m ([.ref a, .int x1, .int x2] : List Value).toArray below meth c s.heap [] 0 0 (MQ below (qSi K) ([.ref a, .int x1, .int x2] : List Value).toArray s 0 0 (fun _ => False)) (F0 m 39 ls []))
      (n : Nat) (x3_2 : Int32) (ls : Array Slot), sat (lp (fun q : Int32 => m_X1_isFiner_s2 v_found v_size v_partitions x1 x2 q) n x3_2) K2 → lv_has ls 4 [(0, .ref a), (1, .int x1), (2, .int x2), (3, .int x3_2)] → W p l e (headSpec wsX1_isFiner ({ frames := 2, cells := 0, slots := 0, locals := 43 } : Room)).room s m ([.ref a, .int x1, .int x2] : List Value).toArray below meth c s.heap [] 0 0 (MQ below (qSi K) ([.ref a, .int x1, .int x2] : List Value).toArray s 0 0 (fun _ => False)) (F0 m 2 ls []) := by
    intro K2 hR2 hE2 n
    induction n with
    | zero => intro x3_2 ls h; exact (sat_lp0 h).elim
    | succ n ih =>
      intro x3_2 ls h hl
      have h := sat_lp h
      have h : sat (m_X1_isFiner_s2 v_found v_size v_partitions x1 x2 x3_2) (lk (fun s' => sat (lp (fun q : Int32 => m_X1_isFiner_s2 v_found v_size v_partitions x1 x2 q) n s') K2) K2) := h
      unfold m_X1_isFiner_s2 at h
      refine lv_iload_n hx hb dX1_isFiner_2 rfl (lv_at hl 3 rfl) ?_
      refine lv_aload_n hx hb dX1_isFiner_3 rfl (lv_at hl 0 rfl) ?_
      refine va_get (D := D) (ci := 0) (v := .int v_size) (C := RX1) (T := TX1) (N := 3) hx hb hts iX1 hown hK hP 0 rfl rfl 1 (by decide) fl22 (fun _ h9 => h9) rfl dX1_isFiner_4 ?_
      refine lv_icmp_ge (tgt := 39) hx hb dX1_isFiner_7 (by decide) (fun c7 => ?_) (fun c7 => ?_)
      · have h := sat_t c7 h
        have h := lk_r (sat_some h)
        exact hE2 () ls h (lv_sub hl [] rfl)
      · have h := sat_f c7 h
        refine lv_aload_n hx hb dX1_isFiner_10 rfl (lv_at hl 0 rfl) ?_
        refine lv_iload_n hx hb dX1_isFiner_11 rfl (lv_at hl 2 rfl) ?_
        refine cr_i (rv (As := [.int x2]) (rest := []) ⟨hx, hb, hml, hown, hts⟩ (c_X1_partition l D y a a_partitions v_found v_size v_partitions x2 _ (sat_bind h)) (cwV 1 hts gX1_isFiner_X1_partition rfl rfl rfl (by decide +kernel) ⟨Nat.le_of_ble_eq_true rfl, Nat.le_of_ble_eq_true rfl⟩) hK hP [0, 1] rfl 0 0 rfl rfl rfl rfl hl.1 rfl (Nat.le_of_ble_eq_true rfl) dX1_isFiner_12 ⟨Nat.zero_le _, Nat.zero_le _⟩) (fun r2 h => ?_)
        refine lv_iload_n hx hb dX1_isFiner_15 rfl (lv_at hl 3 rfl) ?_
        refine lv_aload_n hx hb dX1_isFiner_16 rfl (lv_at hl 0 rfl) ?_
        refine lv_iload_n hx hb dX1_isFiner_17 rfl (lv_at hl 1 rfl) ?_
        refine cr_i (rv (As := [.int x1]) (rest := [.int x3_2, .int r2]) ⟨hx, hb, hml, hown, hts⟩ (c_X1_partition l D y a a_partitions v_found v_size v_partitions x1 _ (sat_bind h)) (cwV 1 hts gX1_isFiner_X1_partition rfl rfl rfl (by decide +kernel) ⟨Nat.le_of_ble_eq_true rfl, Nat.le_of_ble_eq_true rfl⟩) hK hP [0, 1] rfl 0 0 rfl rfl rfl rfl hl.1 rfl (Nat.le_of_ble_eq_true rfl) dX1_isFiner_18 ⟨Nat.zero_le _, Nat.zero_le _⟩) (fun r3 h => ?_)
        refine lv_iload_n hx hb dX1_isFiner_21 rfl (lv_at hl 3 rfl) ?_
        refine cr_i (rs (As := [.int r3, .int x3_2]) (rest := [.int x3_2, .int r2]) ⟨hx, hb, hml, hown, hts⟩ (c_X1_least l D y r3 x3_2 _ (sat_bind h)) (va_cwS 2 hts gX1_isFiner_X1_least rfl rfl rfl (by decide +kernel) ⟨Nat.le_of_ble_eq_true rfl, Nat.le_of_ble_eq_true rfl⟩) hK hP [] rfl rfl hl.1 rfl (Nat.le_of_ble_eq_true rfl) dX1_isFiner_22 ⟨Nat.zero_le _, Nat.zero_le _⟩) (fun r4 h => ?_)
        refine cr_i (rs (As := [.int r2, .int x3_2, .int r4]) (rest := []) ⟨hx, hb, hml, hown, hts⟩ (c_X1_together l D y r2 x3_2 r4 _ (sat_bind h)) (va_cwS 3 hts gX1_isFiner_X1_together rfl rfl rfl (by decide +kernel) ⟨Nat.le_of_ble_eq_true rfl, Nat.le_of_ble_eq_true rfl⟩) hK hP [] rfl rfl hl.1 rfl (Nat.le_of_ble_eq_true rfl) dX1_isFiner_25 ⟨Nat.zero_le _, Nat.zero_le _⟩) (fun r5 h => ?_)
        refine lv_if_ne (tgt := 33) hx hb dX1_isFiner_28 (by decide) (fun c28 => ?_) (fun c28 => ?_)
        · have h := sat_f c28 h
          refine lv_iinc (v := x3_2 + 1) (lv' := [(3, .int (x3_2 + 1)), (0, .ref a), (1, .int x1), (2, .int x2)]) hx hb dX1_isFiner_33 hl (k := 3) rfl rfl (by decide) rfl (fun ls hl => ?_)
          refine lv_goto (tgt := 2) hx hb dX1_isFiner_36 (by decide) ?_
          have h := lk_l (sat_some h)
          exact ih (x3_2 + 1) ls h (lv_sub hl [1, 2, 3, 0] rfl)
        · have h := sat_t c28 h
          refine lv_iconst (v := 0) hx hb dX1_isFiner_31 (by decide) ?_
          have h := hR2 _ (lk_r (sat_some h))
          exact W.zret (v := 0) hx hb hr rfl (fun t ht _ => ⟨0, rfl, h, ht⟩) (fun _ hq => by cases hq) dX1_isFiner_32
  have h := sat_bdS h
  refine hL2 _ (fun u h => ?_) (fun z2 ls h hl => ?_) 1000 0 ls h (lv_sub hl [1, 2, 3, 0] rfl)
  · have h := lk_l h
    exact sat_some h
  · have h := lk_r h
    refine lv_iconst (v := 1) hx hb dX1_isFiner_39 (by decide) ?_
    have h := sat_some h
    exact W.zret (v := 1) hx hb hr rfl (fun t ht _ => ⟨1, rfl, h, ht⟩) (fun _ hq => by cases hq) dX1_isFiner_40

/-! X1_join -/
set_option maxHeartbeats 4000000 in
set_option maxRecDepth 100000 in
theorem c_X1_join (l : Launch) (D : va_G) (y : ClassId × ClassId × ClassId × ClassId) (a a_partitions : Nat) (v_found : Int32) (v_size : Int32) (v_partitions : Nat → Int32) (x1 : Int32) (x2 : Int32) (K : Int32 → Prop) (h : sat (m_X1_join v_found v_size v_partitions x1 x2) K) : Met l yX1_join wsX1_join ({ frames := 3, cells := 0, slots := 0, locals := 66 } : Room) (pR D y ([.ref a, .int x1, .int x2] : List Value) [(a, .inr (0, [.int v_found, .int v_size, .ref a_partitions])), (a_partitions, .inl (y.1, 15, .inl v_partitions))]) (qSi K) 0 0 (fun _ => False) := by
  refine Met.ofW (cc := cX1_join) (maxL := 4) (ret := (some .int)) (by decide) rfl ?_
  intro p e s m args below meth c s₁ B hml hv
  obtain ⟨rfl, hP, hK⟩ := hv
  have hx := B.exec
  have hb := B.bytes
  have hr := B.returns
  have hts := atoms_spec (ws := wsX1_join) B.pre
  have hown : s.vm.findClass RX1 = some m.cls := findClass_of_methodNamed B.named
  have hlocks := B.notSynchronized
  have iX1 : ∀ w ∈ wsX10, w ∈ wsX1_join := by decide +kernel
  have fl23 := hts (.fieldLink RX1 23 "AlgebraLaws$Congruences" "found" "I") (by decide +kernel)
  have hl := lv_entry ([.ref a, .int x1, .int x2] : List Value) (n := 4) (Nat.le_of_ble_eq_true rfl)
  rw [lg_entry_eq]
  generalize (lg_sl ([.ref a, .int x1, .int x2] : List Value) ++ List.replicate (4 - (lg_sl ([.ref a, .int x1, .int x2] : List Value)).length) Slot.unset).toArray = ls at hl ⊢
  have hl : lv_has ls 4 [(0, .ref a), (1, .int x1), (2, .int x2)] := hl
  unfold m_X1_join at h
  refine lv_aload_n hx hb dX1_join_0 rfl (lv_at hl 0 rfl) ?_
  refine va_get (D := D) (ci := 0) (v := .int v_found) (C := RX1) (T := TX1) (N := 3) hx hb hts iX1 hown hK hP 0 rfl rfl 0 (by decide) fl23 (fun _ h9 => h9) rfl dX1_join_1 ?_
  refine lv_iconst (v := 1) hx hb dX1_join_4 (by decide) ?_
  refine lv_isub hx hb dX1_join_5 ?_
  refine lv_istore_n (lv' := [(3, .int (v_found - 1)), (0, .ref a), (1, .int x1), (2, .int x2)]) hx hb dX1_join_6 rfl hl (by decide) rfl (fun ls hl => ?_)
  have hL7 : ∀ (K7 : (Int32 ⊕ Unit) → Prop)
      (hR7 : ∀ (u : Int32), K7 (.inl u) → K u)
      (hE7 : ∀ (z7 : Unit) (ls : Array Slot), K7 (.inr z7) → lv_has ls 4 [] → W p l e (headSpec wsX1_join ({ frames := 3, cells := 0, slots := 0, locals := 66 } : Room)).room s m ([.ref a, .int x1, .int x2] : List Value).toArray below meth c s.heap [] 0 0 (MQ below (qSi K) ([.ref a, .int x1, .int x2] : List Value).toArray s 0 0 (fun _ => False)) (F0 m 37 ls []))
      (n : Nat) (x3_7 : Int32) (ls : Array Slot), sat (lp (fun q : Int32 => m_X1_join_s7 v_found v_size v_partitions x1 x2 q) n x3_7) K7 → lv_has ls 4 [(0, .ref a), (1, .int x1), (2, .int x2), (3, .int x3_7)] → W p l e (headSpec wsX1_join ({ frames := 3, cells := 0, slots := 0, locals := 66 } : Room)).room s m ([.ref a, .int x1, .int x2] : List Value).toArray below meth c s.heap [] 0 0 (MQ below (qSi K) ([.ref a, .int x1, .int x2] : List Value).toArray s 0 0 (fun _ => False)) (F0 m 7 ls []) := by
    intro K7 hR7 hE7 n
    induction n with
    | zero => intro x3_7 ls h; exact (sat_lp0 h).elim
    | succ n ih =>
      intro x3_7 ls h hl
      have h := sat_lp h
      have h : sat (m_X1_join_s7 v_found v_size v_partitions x1 x2 x3_7) (lk (fun s' => sat (lp (fun q : Int32 => m_X1_join_s7 v_found v_size v_partitions x1 x2 q) n s') K7) K7) := h
      unfold m_X1_join_s7 at h
      refine lv_iload_n hx hb dX1_join_7 rfl (lv_at hl 3 rfl) ?_
      refine lv_if_le (tgt := 37) hx hb dX1_join_8 (by decide) (fun c8 => ?_) (fun c8 => ?_)
      · have h := sat_t c8 h
        have h := lk_r (sat_some h)
        exact hE7 () ls h (lv_sub hl [] rfl)
      · have h := sat_f c8 h
        refine lv_aload_n hx hb dX1_join_11 rfl (lv_at hl 0 rfl) ?_
        refine lv_iload_n hx hb dX1_join_12 rfl (lv_at hl 1 rfl) ?_
        refine lv_iload_n hx hb dX1_join_13 rfl (lv_at hl 3 rfl) ?_
        refine cr_i (rv (As := [.int x1, .int x3_7]) (rest := []) ⟨hx, hb, hml, hown, hts⟩ (c_X1_isFiner l D y a a_partitions v_found v_size v_partitions x1 x3_7 _ (sat_bind h)) (cwV 2 hts gX1_join_X1_isFiner rfl rfl rfl (by decide +kernel) ⟨Nat.le_of_ble_eq_true rfl, Nat.le_of_ble_eq_true rfl⟩) hK hP [0, 1] rfl 0 0 rfl rfl rfl rfl hl.1 rfl (Nat.le_of_ble_eq_true rfl) dX1_join_14 ⟨Nat.zero_le _, Nat.zero_le _⟩) (fun r2 h => ?_)
        refine lv_if_eq (tgt := 31) hx hb dX1_join_17 (by decide) (fun c17 => ?_) (fun c17 => ?_)
        · have h := sat_t c17 h
          refine lv_iinc (v := x3_7 + (-1)) (lv' := [(3, .int (x3_7 + (-1))), (0, .ref a), (1, .int x1), (2, .int x2)]) hx hb dX1_join_31 hl (k := 3) rfl rfl (by decide) rfl (fun ls hl => ?_)
          refine lv_goto (tgt := 7) hx hb dX1_join_34 (by decide) ?_
          have h := lk_l (sat_some h)
          exact ih (x3_7 + (-1)) ls h (lv_sub hl [1, 2, 3, 0] rfl)
        · have h := sat_f c17 h
          refine lv_aload_n hx hb dX1_join_20 rfl (lv_at hl 0 rfl) ?_
          refine lv_iload_n hx hb dX1_join_21 rfl (lv_at hl 2 rfl) ?_
          refine lv_iload_n hx hb dX1_join_22 rfl (lv_at hl 3 rfl) ?_
          refine cr_i (rv (As := [.int x2, .int x3_7]) (rest := []) ⟨hx, hb, hml, hown, hts⟩ (c_X1_isFiner l D y a a_partitions v_found v_size v_partitions x2 x3_7 _ (sat_bind h)) (cwV 2 hts gX1_join_X1_isFiner rfl rfl rfl (by decide +kernel) ⟨Nat.le_of_ble_eq_true rfl, Nat.le_of_ble_eq_true rfl⟩) hK hP [0, 1] rfl 0 0 rfl rfl rfl rfl hl.1 rfl (Nat.le_of_ble_eq_true rfl) dX1_join_23 ⟨Nat.zero_le _, Nat.zero_le _⟩) (fun r3 h => ?_)
          refine lv_if_eq (tgt := 31) hx hb dX1_join_26 (by decide) (fun c26 => ?_) (fun c26 => ?_)
          · have h := sat_t c26 h
            refine lv_iinc (v := x3_7 + (-1)) (lv' := [(3, .int (x3_7 + (-1))), (0, .ref a), (1, .int x1), (2, .int x2)]) hx hb dX1_join_31 hl (k := 3) rfl rfl (by decide) rfl (fun ls hl => ?_)
            refine lv_goto (tgt := 7) hx hb dX1_join_34 (by decide) ?_
            have h := lk_l (sat_some h)
            exact ih (x3_7 + (-1)) ls h (lv_sub hl [1, 2, 3, 0] rfl)
          · have h := sat_f c26 h
            refine lv_iload_n hx hb dX1_join_29 rfl (lv_at hl 3 rfl) ?_
            have h := hR7 _ (lk_r (sat_some h))
            exact W.iret (v := x3_7) hx hb hr (fun t ht _ => ⟨x3_7, rfl, h, ht⟩) (fun _ hq => by cases hq) dX1_join_30
  have h := sat_bdS h
  refine hL7 _ (fun u h => ?_) (fun z7 ls h hl => ?_) 1000 (v_found - 1) ls h (lv_sub hl [1, 2, 3, 0] rfl)
  · have h := lk_l h
    exact sat_some h
  · have h := lk_r h
    refine lv_iconst (v := 0) hx hb dX1_join_37 (by decide) ?_
    have h := sat_some h
    exact W.iret (v := 0) hx hb hr (fun t ht _ => ⟨0, rfl, h, ht⟩) (fun _ hq => by cases hq) dX1_join_38

/-! X1_meet -/
set_option maxHeartbeats 4000000 in
set_option maxRecDepth 100000 in
theorem c_X1_meet (l : Launch) (D : va_G) (y : ClassId × ClassId × ClassId × ClassId) (a a_partitions : Nat) (v_found : Int32) (v_size : Int32) (v_partitions : Nat → Int32) (x1 : Int32) (x2 : Int32) (K : Int32 → Prop) (h : sat (m_X1_meet v_found v_size v_partitions x1 x2) K) : Met l yX1_meet wsX1_meet ({ frames := 3, cells := 0, slots := 0, locals := 66 } : Room) (pR D y ([.ref a, .int x1, .int x2] : List Value) [(a, .inr (0, [.int v_found, .int v_size, .ref a_partitions])), (a_partitions, .inl (y.1, 15, .inl v_partitions))]) (qSi K) 0 0 (fun _ => False) := by
  refine Met.ofW (cc := cX1_meet) (maxL := 4) (ret := (some .int)) (by decide) rfl ?_
  intro p e s m args below meth c s₁ B hml hv
  obtain ⟨rfl, hP, hK⟩ := hv
  have hx := B.exec
  have hb := B.bytes
  have hr := B.returns
  have hts := atoms_spec (ws := wsX1_meet) B.pre
  have hown : s.vm.findClass RX1 = some m.cls := findClass_of_methodNamed B.named
  have hlocks := B.notSynchronized
  have iX1 : ∀ w ∈ wsX10, w ∈ wsX1_meet := by decide +kernel
  have fl23 := hts (.fieldLink RX1 23 "AlgebraLaws$Congruences" "found" "I") (by decide +kernel)
  have hl := lv_entry ([.ref a, .int x1, .int x2] : List Value) (n := 4) (Nat.le_of_ble_eq_true rfl)
  rw [lg_entry_eq]
  generalize (lg_sl ([.ref a, .int x1, .int x2] : List Value) ++ List.replicate (4 - (lg_sl ([.ref a, .int x1, .int x2] : List Value)).length) Slot.unset).toArray = ls at hl ⊢
  have hl : lv_has ls 4 [(0, .ref a), (1, .int x1), (2, .int x2)] := hl
  unfold m_X1_meet at h
  refine lv_iconst (v := 0) hx hb dX1_meet_0 (by decide) ?_
  refine lv_istore_n (lv' := [(3, .int 0), (0, .ref a), (1, .int x1), (2, .int x2)]) hx hb dX1_meet_1 rfl hl (by decide) rfl (fun ls hl => ?_)
  have hL2 : ∀ (K2 : (Int32 ⊕ Unit) → Prop)
      (hR2 : ∀ (u : Int32), K2 (.inl u) → K u)
      (hE2 : ∀ (z2 : Unit) (ls : Array Slot), K2 (.inr z2) → lv_has ls 4 [(0, .ref a)] → W p l e (headSpec wsX1_meet ({ frames := 3, cells := 0, slots := 0, locals := 66 } : Room)).room s m ([.ref a, .int x1, .int x2] : List Value).toArray below meth c s.heap [] 0 0 (MQ below (qSi K) ([.ref a, .int x1, .int x2] : List Value).toArray s 0 0 (fun _ => False)) (F0 m 36 ls []))
      (n : Nat) (x3_2 : Int32) (ls : Array Slot), sat (lp (fun q : Int32 => m_X1_meet_s2 v_found v_size v_partitions x1 x2 q) n x3_2) K2 → lv_has ls 4 [(0, .ref a), (1, .int x1), (2, .int x2), (3, .int x3_2)] → W p l e (headSpec wsX1_meet ({ frames := 3, cells := 0, slots := 0, locals := 66 } : Room)).room s m ([.ref a, .int x1, .int x2] : List Value).toArray below meth c s.heap [] 0 0 (MQ below (qSi K) ([.ref a, .int x1, .int x2] : List Value).toArray s 0 0 (fun _ => False)) (F0 m 2 ls []) := by
    intro K2 hR2 hE2 n
    induction n with
    | zero => intro x3_2 ls h; exact (sat_lp0 h).elim
    | succ n ih =>
      intro x3_2 ls h hl
      have h := sat_lp h
      have h : sat (m_X1_meet_s2 v_found v_size v_partitions x1 x2 x3_2) (lk (fun s' => sat (lp (fun q : Int32 => m_X1_meet_s2 v_found v_size v_partitions x1 x2 q) n s') K2) K2) := h
      unfold m_X1_meet_s2 at h
      refine lv_iload_n hx hb dX1_meet_2 rfl (lv_at hl 3 rfl) ?_
      refine lv_aload_n hx hb dX1_meet_3 rfl (lv_at hl 0 rfl) ?_
      refine va_get (D := D) (ci := 0) (v := .int v_found) (C := RX1) (T := TX1) (N := 3) hx hb hts iX1 hown hK hP 0 rfl rfl 0 (by decide) fl23 (fun _ h9 => h9) rfl dX1_meet_4 ?_
      refine lv_icmp_ge (tgt := 36) hx hb dX1_meet_7 (by decide) (fun c7 => ?_) (fun c7 => ?_)
      · have h := sat_t c7 h
        have h := lk_r (sat_some h)
        exact hE2 () ls h (lv_sub hl [0] rfl)
      · have h := sat_f c7 h
        refine lv_aload_n hx hb dX1_meet_10 rfl (lv_at hl 0 rfl) ?_
        refine lv_iload_n hx hb dX1_meet_11 rfl (lv_at hl 3 rfl) ?_
        refine lv_iload_n hx hb dX1_meet_12 rfl (lv_at hl 1 rfl) ?_
        refine cr_i (rv (As := [.int x3_2, .int x1]) (rest := []) ⟨hx, hb, hml, hown, hts⟩ (c_X1_isFiner l D y a a_partitions v_found v_size v_partitions x3_2 x1 _ (sat_bind h)) (cwV 2 hts gX1_meet_X1_isFiner rfl rfl rfl (by decide +kernel) ⟨Nat.le_of_ble_eq_true rfl, Nat.le_of_ble_eq_true rfl⟩) hK hP [0, 1] rfl 0 0 rfl rfl rfl rfl hl.1 rfl (Nat.le_of_ble_eq_true rfl) dX1_meet_13 ⟨Nat.zero_le _, Nat.zero_le _⟩) (fun r2 h => ?_)
        refine lv_if_eq (tgt := 30) hx hb dX1_meet_16 (by decide) (fun c16 => ?_) (fun c16 => ?_)
        · have h := sat_t c16 h
          refine lv_iinc (v := x3_2 + 1) (lv' := [(3, .int (x3_2 + 1)), (0, .ref a), (1, .int x1), (2, .int x2)]) hx hb dX1_meet_30 hl (k := 3) rfl rfl (by decide) rfl (fun ls hl => ?_)
          refine lv_goto (tgt := 2) hx hb dX1_meet_33 (by decide) ?_
          have h := lk_l (sat_some h)
          exact ih (x3_2 + 1) ls h (lv_sub hl [1, 2, 3, 0] rfl)
        · have h := sat_f c16 h
          refine lv_aload_n hx hb dX1_meet_19 rfl (lv_at hl 0 rfl) ?_
          refine lv_iload_n hx hb dX1_meet_20 rfl (lv_at hl 3 rfl) ?_
          refine lv_iload_n hx hb dX1_meet_21 rfl (lv_at hl 2 rfl) ?_
          refine cr_i (rv (As := [.int x3_2, .int x2]) (rest := []) ⟨hx, hb, hml, hown, hts⟩ (c_X1_isFiner l D y a a_partitions v_found v_size v_partitions x3_2 x2 _ (sat_bind h)) (cwV 2 hts gX1_meet_X1_isFiner rfl rfl rfl (by decide +kernel) ⟨Nat.le_of_ble_eq_true rfl, Nat.le_of_ble_eq_true rfl⟩) hK hP [0, 1] rfl 0 0 rfl rfl rfl rfl hl.1 rfl (Nat.le_of_ble_eq_true rfl) dX1_meet_22 ⟨Nat.zero_le _, Nat.zero_le _⟩) (fun r3 h => ?_)
          refine lv_if_eq (tgt := 30) hx hb dX1_meet_25 (by decide) (fun c25 => ?_) (fun c25 => ?_)
          · have h := sat_t c25 h
            refine lv_iinc (v := x3_2 + 1) (lv' := [(3, .int (x3_2 + 1)), (0, .ref a), (1, .int x1), (2, .int x2)]) hx hb dX1_meet_30 hl (k := 3) rfl rfl (by decide) rfl (fun ls hl => ?_)
            refine lv_goto (tgt := 2) hx hb dX1_meet_33 (by decide) ?_
            have h := lk_l (sat_some h)
            exact ih (x3_2 + 1) ls h (lv_sub hl [1, 2, 3, 0] rfl)
          · have h := sat_f c25 h
            refine lv_iload_n hx hb dX1_meet_28 rfl (lv_at hl 3 rfl) ?_
            have h := hR2 _ (lk_r (sat_some h))
            exact W.iret (v := x3_2) hx hb hr (fun t ht _ => ⟨x3_2, rfl, h, ht⟩) (fun _ hq => by cases hq) dX1_meet_29
  have h := sat_bdS h
  refine hL2 _ (fun u h => ?_) (fun z2 ls h hl => ?_) 1000 0 ls h (lv_sub hl [1, 2, 3, 0] rfl)
  · have h := lk_l h
    exact sat_some h
  · have h := lk_r h
    refine lv_aload_n hx hb dX1_meet_36 rfl (lv_at hl 0 rfl) ?_
    refine va_get (D := D) (ci := 0) (v := .int v_found) (C := RX1) (T := TX1) (N := 3) hx hb hts iX1 hown hK hP 0 rfl rfl 0 (by decide) fl23 (fun _ h9 => h9) rfl dX1_meet_37 ?_
    refine lv_iconst (v := 1) hx hb dX1_meet_40 (by decide) ?_
    refine lv_isub hx hb dX1_meet_41 ?_
    have h := sat_some h
    exact W.iret (v := v_found - 1) hx hb hr (fun t ht _ => ⟨v_found - 1, rfl, h, ht⟩) (fun _ hq => by cases hq) dX1_meet_42
