/-! X1_isLinked -/
set_option maxHeartbeats 4000000 in
set_option maxRecDepth 100000 in
theorem c_X1_isLinked (l : Launch) (D : va_G) (y : ClassId × ClassId × ClassId × ClassId) (a a_partitions : Nat) (v_found : Int32) (v_size : Int32) (v_partitions : Nat → Int32) (x1 : Int32) (x2 : Int32) (x3 : Int32) (x4 : Int32) (K : Int32 → Prop) (h : sat (m_X1_isLinked v_found v_size v_partitions x1 x2 x3 x4) K) : Met l yX1_isLinked wsX1_isLinked ({ frames := 2, cells := 0, slots := 0, locals := 43 } : Room) (pR D y ([.ref a, .int x1, .int x2, .int x3, .int x4] : List Value) [(a, .inr (0, [.int v_found, .int v_size, .ref a_partitions])), (a_partitions, .inl (y.1, 15, .inl v_partitions))]) (qSi K) 0 0 (fun _ => False) := by
  refine Met.ofW (cc := cX1_isLinked) (maxL := 6) (ret := (some .boolean)) (by decide) rfl ?_
  intro p e s m args below meth c s₁ B hml hv
  obtain ⟨rfl, hP, hK⟩ := hv
  have hx := B.exec
  have hb := B.bytes
  have hr := B.returns
  have hts := atoms_spec (ws := wsX1_isLinked) B.pre
  have hown : s.vm.findClass RX1 = some m.cls := findClass_of_methodNamed B.named
  have hlocks := B.notSynchronized
  have iX1 : ∀ w ∈ wsX10, w ∈ wsX1_isLinked := by decide +kernel
  have fl22 := hts (.fieldLink RX1 22 "AlgebraLaws$Congruences" "size" "I") (by decide +kernel)
  have hl := lv_entry ([.ref a, .int x1, .int x2, .int x3, .int x4] : List Value) (n := 6) (Nat.le_of_ble_eq_true rfl)
  rw [lg_entry_eq]
  generalize (lg_sl ([.ref a, .int x1, .int x2, .int x3, .int x4] : List Value) ++ List.replicate (6 - (lg_sl ([.ref a, .int x1, .int x2, .int x3, .int x4] : List Value)).length) Slot.unset).toArray = ls at hl ⊢
  have hl : lv_has ls 6 [(0, .ref a), (1, .int x1), (2, .int x2), (3, .int x3), (4, .int x4)] := hl
  unfold m_X1_isLinked at h
  refine lv_iconst (v := 0) hx hb dX1_isLinked_0 (by decide) ?_
  refine lv_istore (lv' := [(5, .int 0), (0, .ref a), (1, .int x1), (2, .int x2), (3, .int x3), (4, .int x4)]) hx hb dX1_isLinked_1 hl (by decide) rfl (fun ls hl => ?_)
  have hL3 : ∀ (K3 : (Int32 ⊕ Unit) → Prop)
      (hR3 : ∀ (u : Int32), K3 (.inl u) → K u)
      (hE3 : ∀ (z3 : Unit) (ls : Array Slot), K3 (.inr z3) → lv_has ls 6 [] → W p l e (headSpec wsX1_isLinked ({ frames := 2, cells := 0, slots := 0, locals := 43 } : Room)).room s m ([.ref a, .int x1, .int x2, .int x3, .int x4] : List Value).toArray below meth c s.heap [] 0 0 (MQ below (qSi K) ([.ref a, .int x1, .int x2, .int x3, .int x4] : List Value).toArray s 0 0 (fun _ => False)) (F0 m 49 ls []))
      (n : Nat) (x5_3 : Int32) (ls : Array Slot), sat (lp (fun q : Int32 => m_X1_isLinked_s3 v_found v_size v_partitions x1 x2 x3 x4 q) n x5_3) K3 → lv_has ls 6 [(0, .ref a), (1, .int x1), (2, .int x2), (3, .int x3), (4, .int x4), (5, .int x5_3)] → W p l e (headSpec wsX1_isLinked ({ frames := 2, cells := 0, slots := 0, locals := 43 } : Room)).room s m ([.ref a, .int x1, .int x2, .int x3, .int x4] : List Value).toArray below meth c s.heap [] 0 0 (MQ below (qSi K) ([.ref a, .int x1, .int x2, .int x3, .int x4] : List Value).toArray s 0 0 (fun _ => False)) (F0 m 3 ls []) := by
    intro K3 hR3 hE3 n
    induction n with
    | zero => intro x5_3 ls h; exact (sat_lp0 h).elim
    | succ n ih =>
      intro x5_3 ls h hl
      have h := sat_lp h
      have h : sat (m_X1_isLinked_s3 v_found v_size v_partitions x1 x2 x3 x4 x5_3) (lk (fun s' => sat (lp (fun q : Int32 => m_X1_isLinked_s3 v_found v_size v_partitions x1 x2 x3 x4 q) n s') K3) K3) := h
      unfold m_X1_isLinked_s3 at h
      refine lv_iload hx hb dX1_isLinked_3 (lv_at hl 5 rfl) ?_
      refine lv_aload_n hx hb dX1_isLinked_5 rfl (lv_at hl 0 rfl) ?_
      refine va_get (D := D) (ci := 0) (v := .int v_size) (C := RX1) (T := TX1) (N := 3) hx hb hts iX1 hown hK hP 0 rfl rfl 1 (by decide) fl22 (fun _ h9 => h9) rfl dX1_isLinked_6 ?_
      refine lv_icmp_ge (tgt := 49) hx hb dX1_isLinked_9 (by decide) (fun c9 => ?_) (fun c9 => ?_)
      · have h := sat_t c9 h
        have h := lk_r (sat_some h)
        exact hE3 () ls h (lv_sub hl [] rfl)
      · have h := sat_f c9 h
        refine lv_aload_n hx hb dX1_isLinked_12 rfl (lv_at hl 0 rfl) ?_
        refine lv_iload_n hx hb dX1_isLinked_13 rfl (lv_at hl 1 rfl) ?_
        refine cr_i (rv (As := [.int x1]) (rest := []) ⟨hx, hb, hml, hown, hts⟩ (c_X1_partition l D y a a_partitions v_found v_size v_partitions x1 _ (sat_bind h)) (cwV 1 hts gX1_isLinked_X1_partition rfl rfl rfl (by decide +kernel) ⟨Nat.le_of_ble_eq_true rfl, Nat.le_of_ble_eq_true rfl⟩) hK hP [0, 1] rfl 0 0 rfl rfl rfl rfl hl.1 rfl (Nat.le_of_ble_eq_true rfl) dX1_isLinked_14 ⟨Nat.zero_le _, Nat.zero_le _⟩) (fun r2 h => ?_)
        refine lv_iload_n hx hb dX1_isLinked_17 rfl (lv_at hl 3 rfl) ?_
        refine lv_iload hx hb dX1_isLinked_18 (lv_at hl 5 rfl) ?_
        refine cr_i (rs (As := [.int r2, .int x3, .int x5_3]) (rest := []) ⟨hx, hb, hml, hown, hts⟩ (c_X1_together l D y r2 x3 x5_3 _ (sat_bind h)) (va_cwS 3 hts gX1_isLinked_X1_together rfl rfl rfl (by decide +kernel) ⟨Nat.le_of_ble_eq_true rfl, Nat.le_of_ble_eq_true rfl⟩) hK hP [] rfl rfl hl.1 rfl (Nat.le_of_ble_eq_true rfl) dX1_isLinked_20 ⟨Nat.zero_le _, Nat.zero_le _⟩) (fun r3 h => ?_)
        refine lv_if_eq (tgt := 43) hx hb dX1_isLinked_23 (by decide) (fun c23 => ?_) (fun c23 => ?_)
        · have h := sat_t c23 h
          refine lv_iinc (v := x5_3 + 1) (lv' := [(5, .int (x5_3 + 1)), (0, .ref a), (1, .int x1), (2, .int x2), (3, .int x3), (4, .int x4)]) hx hb dX1_isLinked_43 hl (k := 5) rfl rfl (by decide) rfl (fun ls hl => ?_)
          refine lv_goto (tgt := 3) hx hb dX1_isLinked_46 (by decide) ?_
          have h := lk_l (sat_some h)
          exact ih (x5_3 + 1) ls h (lv_sub hl [1, 2, 3, 4, 5, 0] rfl)
        · have h := sat_f c23 h
          refine lv_aload_n hx hb dX1_isLinked_26 rfl (lv_at hl 0 rfl) ?_
          refine lv_iload_n hx hb dX1_isLinked_27 rfl (lv_at hl 2 rfl) ?_
          refine cr_i (rv (As := [.int x2]) (rest := []) ⟨hx, hb, hml, hown, hts⟩ (c_X1_partition l D y a a_partitions v_found v_size v_partitions x2 _ (sat_bind h)) (cwV 1 hts gX1_isLinked_X1_partition rfl rfl rfl (by decide +kernel) ⟨Nat.le_of_ble_eq_true rfl, Nat.le_of_ble_eq_true rfl⟩) hK hP [0, 1] rfl 0 0 rfl rfl rfl rfl hl.1 rfl (Nat.le_of_ble_eq_true rfl) dX1_isLinked_28 ⟨Nat.zero_le _, Nat.zero_le _⟩) (fun r4 h => ?_)
          refine lv_iload hx hb dX1_isLinked_31 (lv_at hl 5 rfl) ?_
          refine lv_iload hx hb dX1_isLinked_33 (lv_at hl 4 rfl) ?_
          refine cr_i (rs (As := [.int r4, .int x5_3, .int x4]) (rest := []) ⟨hx, hb, hml, hown, hts⟩ (c_X1_together l D y r4 x5_3 x4 _ (sat_bind h)) (va_cwS 3 hts gX1_isLinked_X1_together rfl rfl rfl (by decide +kernel) ⟨Nat.le_of_ble_eq_true rfl, Nat.le_of_ble_eq_true rfl⟩) hK hP [] rfl rfl hl.1 rfl (Nat.le_of_ble_eq_true rfl) dX1_isLinked_35 ⟨Nat.zero_le _, Nat.zero_le _⟩) (fun r5 h => ?_)
          refine lv_if_eq (tgt := 43) hx hb dX1_isLinked_38 (by decide) (fun c38 => ?_) (fun c38 => ?_)
          · have h := sat_t c38 h
            refine lv_iinc (v := x5_3 + 1) (lv' := [(5, .int (x5_3 + 1)), (0, .ref a), (1, .int x1), (2, .int x2), (3, .int x3), (4, .int x4)]) hx hb dX1_isLinked_43 hl (k := 5) rfl rfl (by decide) rfl (fun ls hl => ?_)
            refine lv_goto (tgt := 3) hx hb dX1_isLinked_46 (by decide) ?_
            have h := lk_l (sat_some h)
            exact ih (x5_3 + 1) ls h (lv_sub hl [1, 2, 3, 4, 5, 0] rfl)
          · have h := sat_f c38 h
            refine lv_iconst (v := 1) hx hb dX1_isLinked_41 (by decide) ?_
            have h := hR3 _ (lk_r (sat_some h))
            exact W.zret (v := 1) hx hb hr rfl (fun t ht _ => ⟨1, rfl, h, ht⟩) (fun _ hq => by cases hq) dX1_isLinked_42
  have h := sat_bdS h
  refine hL3 _ (fun u h => ?_) (fun z3 ls h hl => ?_) 1000 0 ls h (lv_sub hl [1, 2, 3, 4, 5, 0] rfl)
  · have h := lk_l h
    exact sat_some h
  · have h := lk_r h
    refine lv_iconst (v := 0) hx hb dX1_isLinked_49 (by decide) ?_
    have h := sat_some h
    exact W.zret (v := 0) hx hb hr rfl (fun t ht _ => ⟨0, rfl, h, ht⟩) (fun _ hq => by cases hq) dX1_isLinked_50

/-! X1_permute -/
set_option maxHeartbeats 4000000 in
set_option maxRecDepth 100000 in
theorem c_X1_permute (l : Launch) (D : va_G) (y : ClassId × ClassId × ClassId × ClassId) (a a_partitions : Nat) (v_found : Int32) (v_size : Int32) (v_partitions : Nat → Int32) (x1 : Int32) (x2 : Int32) (K : Int32 → Prop) (h : sat (m_X1_permute v_found v_size v_partitions x1 x2) K) : Met l yX1_permute wsX1_permute ({ frames := 3, cells := 0, slots := 0, locals := 68 } : Room) (pR D y ([.ref a, .int x1, .int x2] : List Value) [(a, .inr (0, [.int v_found, .int v_size, .ref a_partitions])), (a_partitions, .inl (y.1, 15, .inl v_partitions))]) (qSi K) 0 0 (fun _ => False) := by
  refine Met.ofW (cc := cX1_permute) (maxL := 5) (ret := (some .boolean)) (by decide) rfl ?_
  intro p e s m args below meth c s₁ B hml hv
  obtain ⟨rfl, hP, hK⟩ := hv
  have hx := B.exec
  have hb := B.bytes
  have hr := B.returns
  have hts := atoms_spec (ws := wsX1_permute) B.pre
  have hown : s.vm.findClass RX1 = some m.cls := findClass_of_methodNamed B.named
  have hlocks := B.notSynchronized
  have iX1 : ∀ w ∈ wsX10, w ∈ wsX1_permute := by decide +kernel
  have fl22 := hts (.fieldLink RX1 22 "AlgebraLaws$Congruences" "size" "I") (by decide +kernel)
  have hl := lv_entry ([.ref a, .int x1, .int x2] : List Value) (n := 5) (Nat.le_of_ble_eq_true rfl)
  rw [lg_entry_eq]
  generalize (lg_sl ([.ref a, .int x1, .int x2] : List Value) ++ List.replicate (5 - (lg_sl ([.ref a, .int x1, .int x2] : List Value)).length) Slot.unset).toArray = ls at hl ⊢
  have hl : lv_has ls 5 [(0, .ref a), (1, .int x1), (2, .int x2)] := hl
  unfold m_X1_permute at h
  refine lv_iconst (v := 0) hx hb dX1_permute_0 (by decide) ?_
  refine lv_istore_n (lv' := [(3, .int 0), (0, .ref a), (1, .int x1), (2, .int x2)]) hx hb dX1_permute_1 rfl hl (by decide) rfl (fun ls hl => ?_)
  have hL2 : ∀ (K2 : (Int32 ⊕ Unit) → Prop)
      (hR2 : ∀ (u : Int32), K2 (.inl u) → K u)
      (hE2 : ∀ (z2 : Unit) (ls : Array Slot), K2 (.inr z2) → lv_has ls 5 [] → W p l e (headSpec wsX1_permute ({ frames := 3, cells := 0, slots := 0, locals := 68 } : Room)).room s m ([.ref a, .int x1, .int x2] : List Value).toArray below meth c s.heap [] 0 0 (MQ below (qSi K) ([.ref a, .int x1, .int x2] : List Value).toArray s 0 0 (fun _ => False)) (F0 m 60 ls []))
      (n : Nat) (x3_2 : Int32) (ls : Array Slot), sat (lp (fun q : Int32 => m_X1_permute_s2 v_found v_size v_partitions x1 x2 q) n x3_2) K2 → lv_has ls 5 [(0, .ref a), (1, .int x1), (2, .int x2), (3, .int x3_2)] → W p l e (headSpec wsX1_permute ({ frames := 3, cells := 0, slots := 0, locals := 68 } : Room)).room s m ([.ref a, .int x1, .int x2] : List Value).toArray below meth c s.heap [] 0 0 (MQ below (qSi K) ([.ref a, .int x1, .int x2] : List Value).toArray s 0 0 (fun _ => False)) (F0 m 2 ls []) := by
    intro K2 hR2 hE2 n
    induction n with
    | zero => intro x3_2 ls h; exact (sat_lp0 h).elim
    | succ n ih =>
      intro x3_2 ls h hl
      have h := sat_lp h
      have h : sat (m_X1_permute_s2 v_found v_size v_partitions x1 x2 x3_2) (lk (fun s' => sat (lp (fun q : Int32 => m_X1_permute_s2 v_found v_size v_partitions x1 x2 q) n s') K2) K2) := h
      unfold m_X1_permute_s2 at h
      refine lv_iload_n hx hb dX1_permute_2 rfl (lv_at hl 3 rfl) ?_
      refine lv_aload_n hx hb dX1_permute_3 rfl (lv_at hl 0 rfl) ?_
      refine va_get (D := D) (ci := 0) (v := .int v_size) (C := RX1) (T := TX1) (N := 3) hx hb hts iX1 hown hK hP 0 rfl rfl 1 (by decide) fl22 (fun _ h9 => h9) rfl dX1_permute_4 ?_
      refine lv_icmp_ge (tgt := 60) hx hb dX1_permute_7 (by decide) (fun c7 => ?_) (fun c7 => ?_)
      · have h := sat_t c7 h
        have h := lk_r (sat_some h)
        exact hE2 () ls h (lv_sub hl [] rfl)
      · have h := sat_f c7 h
        refine lv_iconst (v := 0) hx hb dX1_permute_10 (by decide) ?_
        refine lv_istore (lv' := [(4, .int 0), (0, .ref a), (1, .int x1), (2, .int x2), (3, .int x3_2)]) hx hb dX1_permute_11 hl (by decide) rfl (fun ls hl => ?_)
        have hL13 : ∀ (K13 : (Int32 ⊕ Unit) → Prop)
            (hR13 : ∀ (u : Int32), K13 (.inl u) → K u)
            (hE13 : ∀ (z13 : Unit) (ls : Array Slot), K13 (.inr z13) → lv_has ls 5 [(0, .ref a), (1, .int x1), (2, .int x2), (3, .int x3_2)] → W p l e (headSpec wsX1_permute ({ frames := 3, cells := 0, slots := 0, locals := 68 } : Room)).room s m ([.ref a, .int x1, .int x2] : List Value).toArray below meth c s.heap [] 0 0 (MQ below (qSi K) ([.ref a, .int x1, .int x2] : List Value).toArray s 0 0 (fun _ => False)) (F0 m 54 ls []))
            (n : Nat) (x4_13 : Int32) (ls : Array Slot), sat (lp (fun q : Int32 => m_X1_permute_s13 v_found v_size v_partitions x1 x2 x3_2 q) n x4_13) K13 → lv_has ls 5 [(0, .ref a), (1, .int x1), (2, .int x2), (3, .int x3_2), (4, .int x4_13)] → W p l e (headSpec wsX1_permute ({ frames := 3, cells := 0, slots := 0, locals := 68 } : Room)).room s m ([.ref a, .int x1, .int x2] : List Value).toArray below meth c s.heap [] 0 0 (MQ below (qSi K) ([.ref a, .int x1, .int x2] : List Value).toArray s 0 0 (fun _ => False)) (F0 m 13 ls []) := by
          intro K13 hR13 hE13 n
          induction n with
          | zero => intro x4_13 ls h; exact (sat_lp0 h).elim
          | succ n ih =>
            intro x4_13 ls h hl
            have h := sat_lp h
            have h : sat (m_X1_permute_s13 v_found v_size v_partitions x1 x2 x3_2 x4_13) (lk (fun s' => sat (lp (fun q : Int32 => m_X1_permute_s13 v_found v_size v_partitions x1 x2 x3_2 q) n s') K13) K13) := h
            unfold m_X1_permute_s13 at h
            refine lv_iload hx hb dX1_permute_13 (lv_at hl 4 rfl) ?_
            refine lv_aload_n hx hb dX1_permute_15 rfl (lv_at hl 0 rfl) ?_
            refine va_get (D := D) (ci := 0) (v := .int v_size) (C := RX1) (T := TX1) (N := 3) hx hb hts iX1 hown hK hP 0 rfl rfl 1 (by decide) fl22 (fun _ h9 => h9) rfl dX1_permute_16 ?_
            refine lv_icmp_ge (tgt := 54) hx hb dX1_permute_19 (by decide) (fun c19 => ?_) (fun c19 => ?_)
            · have h := sat_t c19 h
              have h := lk_r (sat_some h)
              exact hE13 () ls h (lv_sub hl [0, 1, 2, 3] rfl)
            · have h := sat_f c19 h
              refine lv_aload_n hx hb dX1_permute_22 rfl (lv_at hl 0 rfl) ?_
              refine lv_iload_n hx hb dX1_permute_23 rfl (lv_at hl 1 rfl) ?_
              refine lv_iload_n hx hb dX1_permute_24 rfl (lv_at hl 2 rfl) ?_
              refine lv_iload_n hx hb dX1_permute_25 rfl (lv_at hl 3 rfl) ?_
              refine lv_iload hx hb dX1_permute_26 (lv_at hl 4 rfl) ?_
              refine cr_i (rv (As := [.int x1, .int x2, .int x3_2, .int x4_13]) (rest := []) ⟨hx, hb, hml, hown, hts⟩ (c_X1_isLinked l D y a a_partitions v_found v_size v_partitions x1 x2 x3_2 x4_13 _ (sat_bind h)) (cwV 4 hts gX1_permute_X1_isLinked rfl rfl rfl (by decide +kernel) ⟨Nat.le_of_ble_eq_true rfl, Nat.le_of_ble_eq_true rfl⟩) hK hP [0, 1] rfl 0 0 rfl rfl rfl rfl hl.1 rfl (Nat.le_of_ble_eq_true rfl) dX1_permute_28 ⟨Nat.zero_le _, Nat.zero_le _⟩) (fun r3 h => ?_)
              refine lv_if_eq (tgt := 48) hx hb dX1_permute_31 (by decide) (fun c31 => ?_) (fun c31 => ?_)
              · have h := sat_t c31 h
                refine lv_iinc (v := x4_13 + 1) (lv' := [(4, .int (x4_13 + 1)), (0, .ref a), (1, .int x1), (2, .int x2), (3, .int x3_2)]) hx hb dX1_permute_48 hl (k := 4) rfl rfl (by decide) rfl (fun ls hl => ?_)
                refine lv_goto (tgt := 13) hx hb dX1_permute_51 (by decide) ?_
                have h := lk_l (sat_some h)
                exact ih (x4_13 + 1) ls h (lv_sub hl [1, 2, 3, 4, 0] rfl)
              · have h := sat_f c31 h
                refine lv_aload_n hx hb dX1_permute_34 rfl (lv_at hl 0 rfl) ?_
                refine lv_iload_n hx hb dX1_permute_35 rfl (lv_at hl 2 rfl) ?_
                refine lv_iload_n hx hb dX1_permute_36 rfl (lv_at hl 1 rfl) ?_
                refine lv_iload_n hx hb dX1_permute_37 rfl (lv_at hl 3 rfl) ?_
                refine lv_iload hx hb dX1_permute_38 (lv_at hl 4 rfl) ?_
                refine cr_i (rv (As := [.int x2, .int x1, .int x3_2, .int x4_13]) (rest := []) ⟨hx, hb, hml, hown, hts⟩ (c_X1_isLinked l D y a a_partitions v_found v_size v_partitions x2 x1 x3_2 x4_13 _ (sat_bind h)) (cwV 4 hts gX1_permute_X1_isLinked rfl rfl rfl (by decide +kernel) ⟨Nat.le_of_ble_eq_true rfl, Nat.le_of_ble_eq_true rfl⟩) hK hP [0, 1] rfl 0 0 rfl rfl rfl rfl hl.1 rfl (Nat.le_of_ble_eq_true rfl) dX1_permute_40 ⟨Nat.zero_le _, Nat.zero_le _⟩) (fun r4 h => ?_)
                refine lv_if_ne (tgt := 48) hx hb dX1_permute_43 (by decide) (fun c43 => ?_) (fun c43 => ?_)
                · have h := sat_f c43 h
                  refine lv_iinc (v := x4_13 + 1) (lv' := [(4, .int (x4_13 + 1)), (0, .ref a), (1, .int x1), (2, .int x2), (3, .int x3_2)]) hx hb dX1_permute_48 hl (k := 4) rfl rfl (by decide) rfl (fun ls hl => ?_)
                  refine lv_goto (tgt := 13) hx hb dX1_permute_51 (by decide) ?_
                  have h := lk_l (sat_some h)
                  exact ih (x4_13 + 1) ls h (lv_sub hl [1, 2, 3, 4, 0] rfl)
                · have h := sat_t c43 h
                  refine lv_iconst (v := 0) hx hb dX1_permute_46 (by decide) ?_
                  have h := hR13 _ (lk_r (sat_some h))
                  exact W.zret (v := 0) hx hb hr rfl (fun t ht _ => ⟨0, rfl, h, ht⟩) (fun _ hq => by cases hq) dX1_permute_47
        have h := sat_bdS h
        refine hL13 _ (fun u h => ?_) (fun z13 ls h hl => ?_) 1000 0 ls h (lv_sub hl [1, 2, 3, 4, 0] rfl)
        · have h := lk_l h
          exact hR2 _ (lk_r (sat_some h))
        · have h := lk_r h
          refine lv_iinc (v := x3_2 + 1) (lv' := [(3, .int (x3_2 + 1)), (0, .ref a), (1, .int x1), (2, .int x2)]) hx hb dX1_permute_54 hl (k := 3) rfl rfl (by decide) rfl (fun ls hl => ?_)
          refine lv_goto (tgt := 2) hx hb dX1_permute_57 (by decide) ?_
          have h := lk_l (sat_some h)
          exact ih (x3_2 + 1) ls h (lv_sub hl [1, 2, 3, 0] rfl)
  have h := sat_bdS h
  refine hL2 _ (fun u h => ?_) (fun z2 ls h hl => ?_) 1000 0 ls h (lv_sub hl [1, 2, 3, 0] rfl)
  · have h := lk_l h
    exact sat_some h
  · have h := lk_r h
    refine lv_iconst (v := 1) hx hb dX1_permute_60 (by decide) ?_
    have h := sat_some h
    exact W.zret (v := 1) hx hb hr rfl (fun t ht _ => ⟨1, rfl, h, ht⟩) (fun _ hq => by cases hq) dX1_permute_61

/-! X2_loseAll -/
set_option maxHeartbeats 4000000 in
set_option maxRecDepth 100000 in
theorem c_X2_loseAll (l : Launch) (D : va_G) (y : ClassId × ClassId × ClassId × ClassId) (a a_places a_values : Nat) (v_known : Int32) (sz : Nat) (A : Nat → Prop) (hAe : va_A [(a, .inr (1, [.int v_known, .ref a_places, .ref a_values]))] sz = A) (K : Int32 → Prop) (h : sat (m_X2_loseAll v_known) K) : Met l yX2_loseAll wsX2_loseAll ({ frames := 0, cells := 0, slots := 0, locals := 0 } : Room) (pW D y ([.ref a] : List Value) [(a, .inr (1, [.int v_known, .ref a_places, .ref a_values]))] sz) (va_Qv K (bW D y A (fun u : Int32 => [(a, .inr (1, [.int u, .ref a_places, .ref a_values]))])) A) 0 0 A := by
  refine Met.ofW (cc := cX2_loseAll) (maxL := 1) (ret := none) (by decide) rfl ?_
  intro p e s m args below meth c s₁ B hml hv
  obtain ⟨rfl, hsz, hP, hK, hD0⟩ := hv
  have hx := B.exec
  have hb := B.bytes
  have hr := B.returns
  have hts := atoms_spec (ws := wsX2_loseAll) B.pre
  have hown : s.vm.findClass RX2 = some m.cls := findClass_of_methodNamed B.named
  have hlocks := B.notSynchronized
  subst hsz
  have hD : va_D A [(a, .inr (1, [.int v_known, .ref a_places, .ref a_values]))] := hAe ▸ hD0.self
  have hA : ∀ q : Nat, s.heap.size ≤ q → A q := fun q h => hAe ▸ Or.inr h
  have hS : va_S A s.heap s.heap [] := va_S.rf
  have iX2 : ∀ w ∈ wsX20, w ∈ wsX2_loseAll := by decide +kernel
  have fl16 := hts (.fieldLink RX2 16 "AlgebraLaws$History" "known" "I") (by decide +kernel)
  have hl := lv_entry ([.ref a] : List Value) (n := 1) (Nat.le_of_ble_eq_true rfl)
  rw [lg_entry_eq]
  generalize (lg_sl ([.ref a] : List Value) ++ List.replicate (1 - (lg_sl ([.ref a] : List Value)).length) Slot.unset).toArray = ls at hl ⊢
  have hl : lv_has ls 1 [(0, .ref a)] := hl
  unfold m_X2_loseAll at h
  refine lv_aload_n hx hb dX2_loseAll_0 rfl (lv_at hl 0 rfl) ?_
  refine lv_iconst (v := 0) hx hb dX2_loseAll_1 (by decide) ?_
  refine pf (D := D) (ci := 1) (v := .int 0) (ty := .int) (C := RX2) (T := TX2) (N := 3) (wn := [(a, .inr (1, [.int 0, .ref a_places, .ref a_values]))]) hx hb hts iX2 tyX2 tyX2_ok nmX2 hown hK hP hD hS 0 rfl rfl 0 (by decide) fl16 (fun _ h9 => h9) rfl (by decide +kernel) rfl rfl (Nat.le_of_ble_eq_true rfl) dX2_loseAll_2 rfl (fun H locs hP hD hS => ?_)
  have h := sat_some h
  exact W.vret hx hb hr (fun t ht hW => ⟨⟨0, rfl, h, by rw [ht]; exact hP, va_K.moved hW.alike hK, hD⟩, hS.F ht⟩) hS.2.2 dX2_loseAll_5

/-! X2_loseOldest -/
set_option maxHeartbeats 4000000 in
set_option maxRecDepth 100000 in
theorem c_X2_loseOldest (l : Launch) (D : va_G) (y : ClassId × ClassId × ClassId × ClassId) (a a_places a_values : Nat) (v_known : Int32) (v_places : Nat → Int32) (v_values : Nat → Int32) (sz : Nat) (A : Nat → Prop) (hAe : va_A [(a, .inr (1, [.int v_known, .ref a_places, .ref a_values])), (a_places, .inl (y.1, 12, .inl v_places)), (a_values, .inl (y.1, 12, .inl v_values))] sz = A) (K : (Int32 × (Nat → Int32) × (Nat → Int32)) → Prop) (h : sat (m_X2_loseOldest v_known v_places v_values) K) : Met l yX2_loseOldest wsX2_loseOldest ({ frames := 1, cells := 0, slots := 0, locals := 40 } : Room) (pW D y ([.ref a] : List Value) [(a, .inr (1, [.int v_known, .ref a_places, .ref a_values])), (a_places, .inl (y.1, 12, .inl v_places)), (a_values, .inl (y.1, 12, .inl v_values))] sz) (va_Qv K (bW D y A (fun u : (Int32 × (Nat → Int32) × (Nat → Int32)) => [(a, .inr (1, [.int u.1, .ref a_places, .ref a_values])), (a_places, .inl (y.1, 12, .inl u.2.1)), (a_values, .inl (y.1, 12, .inl u.2.2))])) A) 0 0 A := by
  refine Met.ofW (cc := cX2_loseOldest) (maxL := 1) (ret := none) (by decide) rfl ?_
  intro p e s m args below meth c s₁ B hml hv
  obtain ⟨rfl, hsz, hP, hK, hD0⟩ := hv
  have hx := B.exec
  have hb := B.bytes
  have hr := B.returns
  have hts := atoms_spec (ws := wsX2_loseOldest) B.pre
  have hown : s.vm.findClass RX2 = some m.cls := findClass_of_methodNamed B.named
  have hlocks := B.notSynchronized
  subst hsz
  have hD : va_D A [(a, .inr (1, [.int v_known, .ref a_places, .ref a_values])), (a_places, .inl (y.1, 12, .inl v_places)), (a_values, .inl (y.1, 12, .inl v_values))] := hAe ▸ hD0.self
  have hA : ∀ q : Nat, s.heap.size ≤ q → A q := fun q h => hAe ▸ Or.inr h
  have hS : va_S A s.heap s.heap [] := va_S.rf
  have iX2 : ∀ w ∈ wsX20, w ∈ wsX2_loseOldest := by decide +kernel
  have fl9 := hts (.fieldLink RX2 9 "AlgebraLaws$History" "places" "[I") (by decide +kernel)
  have fl13 := hts (.fieldLink RX2 13 "AlgebraLaws$History" "values" "[I") (by decide +kernel)
  have fl16 := hts (.fieldLink RX2 16 "AlgebraLaws$History" "known" "I") (by decide +kernel)
  have hl := lv_entry ([.ref a] : List Value) (n := 1) (Nat.le_of_ble_eq_true rfl)
  rw [lg_entry_eq]
  generalize (lg_sl ([.ref a] : List Value) ++ List.replicate (1 - (lg_sl ([.ref a] : List Value)).length) Slot.unset).toArray = ls at hl ⊢
  have hl : lv_has ls 1 [(0, .ref a)] := hl
  unfold m_X2_loseOldest at h
  refine lv_aload_n hx hb dX2_loseOldest_0 rfl (lv_at hl 0 rfl) ?_
  refine va_get (D := D) (ci := 1) (v := .ref a_places) (C := RX2) (T := TX2) (N := 3) hx hb hts iX2 hown hK hP 0 rfl rfl 1 (by decide) fl9 (fun _ h9 => h9) rfl dX2_loseOldest_1 ?_
  refine lv_iconst (v := 1) hx hb dX2_loseOldest_4 (by decide) ?_
  refine lv_aload_n hx hb dX2_loseOldest_5 rfl (lv_at hl 0 rfl) ?_
  refine va_get (D := D) (ci := 1) (v := .ref a_places) (C := RX2) (T := TX2) (N := 3) hx hb hts iX2 hown hK hP 0 rfl rfl 1 (by decide) fl9 (fun _ h9 => h9) rfl dX2_loseOldest_6 ?_
  refine lv_iconst (v := 0) hx hb dX2_loseOldest_9 (by decide) ?_
  refine lv_bipush (v := 11) hx hb dX2_loseOldest_10 (by decide) ?_
  obtain ⟨f1, ef1, h⟩ := sat_nm h
  refine cpy (wn := [(a, .inr (1, [.int v_known, .ref a_places, .ref a_values])), (a_places, .inl (y.1, 12, .inl f1)), (a_values, .inl (y.1, 12, .inl v_values))]) hx hb (by rw [hml]; exact hl.1.symm) hown (hts (.methodLink RX2 23 arraycopyName) (by decide +kernel)) (hts (.native arraycopyName) (by decide +kernel)) (hts (.static arraycopyName) (by decide +kernel)) (hts (.initialized "java/lang/System") (by decide +kernel)) hK hP hD hS 1 1 0 0 rfl rfl rfl rfl 1 0 11 ef1 (by decide) (Nat.le_of_ble_eq_true rfl) (Nat.le_of_ble_eq_true rfl) dX2_loseOldest_12 rfl (fun H locs hP hD hS => ?_)
  refine lv_aload_n hx hb dX2_loseOldest_15 rfl (lv_at hl 0 rfl) ?_
  refine va_get (D := D) (ci := 1) (v := .ref a_values) (C := RX2) (T := TX2) (N := 3) hx hb hts iX2 hown hK hP 0 rfl rfl 2 (by decide) fl13 (fun _ h9 => h9) rfl dX2_loseOldest_16 ?_
  refine lv_iconst (v := 1) hx hb dX2_loseOldest_19 (by decide) ?_
  refine lv_aload_n hx hb dX2_loseOldest_20 rfl (lv_at hl 0 rfl) ?_
  refine va_get (D := D) (ci := 1) (v := .ref a_values) (C := RX2) (T := TX2) (N := 3) hx hb hts iX2 hown hK hP 0 rfl rfl 2 (by decide) fl13 (fun _ h9 => h9) rfl dX2_loseOldest_21 ?_
  refine lv_iconst (v := 0) hx hb dX2_loseOldest_24 (by decide) ?_
  refine lv_bipush (v := 11) hx hb dX2_loseOldest_25 (by decide) ?_
  obtain ⟨f2, ef2, h⟩ := sat_nm h
  refine cpy (wn := [(a, .inr (1, [.int v_known, .ref a_places, .ref a_values])), (a_places, .inl (y.1, 12, .inl f1)), (a_values, .inl (y.1, 12, .inl f2))]) hx hb (by rw [hml]; exact hl.1.symm) hown (hts (.methodLink RX2 23 arraycopyName) (by decide +kernel)) (hts (.native arraycopyName) (by decide +kernel)) (hts (.static arraycopyName) (by decide +kernel)) (hts (.initialized "java/lang/System") (by decide +kernel)) hK hP hD hS 2 2 0 0 rfl rfl rfl rfl 1 0 11 ef2 (by decide) (Nat.le_of_ble_eq_true rfl) (Nat.le_of_ble_eq_true rfl) dX2_loseOldest_27 rfl (fun H locs hP hD hS => ?_)
  refine lv_aload_n hx hb dX2_loseOldest_30 rfl (lv_at hl 0 rfl) ?_
  refine lv_bipush (v := 11) hx hb dX2_loseOldest_31 (by decide) ?_
  refine pf (D := D) (ci := 1) (v := .int 11) (ty := .int) (C := RX2) (T := TX2) (N := 3) (wn := [(a, .inr (1, [.int 11, .ref a_places, .ref a_values])), (a_places, .inl (y.1, 12, .inl f1)), (a_values, .inl (y.1, 12, .inl f2))]) hx hb hts iX2 tyX2 tyX2_ok nmX2 hown hK hP hD hS 0 rfl rfl 0 (by decide) fl16 (fun _ h9 => h9) rfl (by decide +kernel) rfl rfl (Nat.le_of_ble_eq_true rfl) dX2_loseOldest_33 rfl (fun H locs hP hD hS => ?_)
  have h := sat_some h
  exact W.vret hx hb hr (fun t ht hW => ⟨⟨(11, f1, f2), rfl, h, by rw [ht]; exact hP, va_K.moved hW.alike hK, hD⟩, hS.F ht⟩) hS.2.2 dX2_loseOldest_36

/-! X2_note -/
set_option maxHeartbeats 4000000 in
set_option maxRecDepth 100000 in
theorem c_X2_note (l : Launch) (D : va_G) (y : ClassId × ClassId × ClassId × ClassId) (a a_places a_values : Nat) (v_known : Int32) (v_places : Nat → Int32) (v_values : Nat → Int32) (x1 : Int32) (x2 : Int32) (sz : Nat) (A : Nat → Prop) (hAe : va_A [(a, .inr (1, [.int v_known, .ref a_places, .ref a_values])), (a_places, .inl (y.1, 12, .inl v_places)), (a_values, .inl (y.1, 12, .inl v_values))] sz = A) (K : (Int32 × (Nat → Int32) × (Nat → Int32)) → Prop) (h : sat (m_X2_note v_known v_places v_values x1 x2) K) : Met l yX2_note wsX2_note ({ frames := 2, cells := 0, slots := 0, locals := 60 } : Room) (pW D y ([.ref a, .int x1, .int x2] : List Value) [(a, .inr (1, [.int v_known, .ref a_places, .ref a_values])), (a_places, .inl (y.1, 12, .inl v_places)), (a_values, .inl (y.1, 12, .inl v_values))] sz) (va_Qv K (bW D y A (fun u : (Int32 × (Nat → Int32) × (Nat → Int32)) => [(a, .inr (1, [.int u.1, .ref a_places, .ref a_values])), (a_places, .inl (y.1, 12, .inl u.2.1)), (a_values, .inl (y.1, 12, .inl u.2.2))])) A) 0 0 A := by
  refine Met.ofW (cc := cX2_note) (maxL := 3) (ret := none) (by decide) rfl ?_
  intro p e s m args below meth c s₁ B hml hv
  obtain ⟨rfl, hsz, hP, hK, hD0⟩ := hv
  have hx := B.exec
  have hb := B.bytes
  have hr := B.returns
  have hts := atoms_spec (ws := wsX2_note) B.pre
  have hown : s.vm.findClass RX2 = some m.cls := findClass_of_methodNamed B.named
  have hlocks := B.notSynchronized
  subst hsz
  have hD : va_D A [(a, .inr (1, [.int v_known, .ref a_places, .ref a_values])), (a_places, .inl (y.1, 12, .inl v_places)), (a_values, .inl (y.1, 12, .inl v_values))] := hAe ▸ hD0.self
  have hA : ∀ q : Nat, s.heap.size ≤ q → A q := fun q h => hAe ▸ Or.inr h
  have hS : va_S A s.heap s.heap [] := va_S.rf
  have iX2 : ∀ w ∈ wsX20, w ∈ wsX2_note := by decide +kernel
  have fl9 := hts (.fieldLink RX2 9 "AlgebraLaws$History" "places" "[I") (by decide +kernel)
  have fl16 := hts (.fieldLink RX2 16 "AlgebraLaws$History" "known" "I") (by decide +kernel)
  have fl13 := hts (.fieldLink RX2 13 "AlgebraLaws$History" "values" "[I") (by decide +kernel)
  have hl := lv_entry ([.ref a, .int x1, .int x2] : List Value) (n := 3) (Nat.le_of_ble_eq_true rfl)
  rw [lg_entry_eq]
  generalize (lg_sl ([.ref a, .int x1, .int x2] : List Value) ++ List.replicate (3 - (lg_sl ([.ref a, .int x1, .int x2] : List Value)).length) Slot.unset).toArray = ls at hl ⊢
  have hl : lv_has ls 3 [(0, .ref a), (1, .int x1), (2, .int x2)] := hl
  have hJ13 : ∀ (v_known_13 : Int32) (v_places_13 : Nat → Int32) (v_values_13 : Nat → Int32) (ls : Array Slot) (H : Heap) (locs : List Loc), sat (m_X2_note_j13 x1 x2 v_known_13 v_places_13 v_values_13) K → lv_has ls 3 [(0, .ref a), (1, .int x1), (2, .int x2)] → va_P D vwCl [(a, .inr (1, [.int v_known_13, .ref a_places, .ref a_values])), (a_places, .inl (y.1, 12, .inl v_places_13)), (a_values, .inl (y.1, 12, .inl v_values_13))] H → va_D A [(a, .inr (1, [.int v_known_13, .ref a_places, .ref a_values])), (a_places, .inl (y.1, 12, .inl v_places_13)), (a_values, .inl (y.1, 12, .inl v_values_13))] → va_S A s.heap H locs → W p l e (headSpec wsX2_note ({ frames := 2, cells := 0, slots := 0, locals := 60 } : Room)).room s m ([.ref a, .int x1, .int x2] : List Value).toArray below meth c H locs 0 0 (MQ below (va_Qv K (bW D y A (fun u : (Int32 × (Nat → Int32) × (Nat → Int32)) => [(a, .inr (1, [.int u.1, .ref a_places, .ref a_values])), (a_places, .inl (y.1, 12, .inl u.2.1)), (a_values, .inl (y.1, 12, .inl u.2.2))])) A) ([.ref a, .int x1, .int x2] : List Value).toArray s 0 0 A) (F0 m 13 ls []) := by
    intro v_known_13 v_places_13 v_values_13 ls H locs h hl hP hD hS
    unfold m_X2_note_j13 at h
    refine lv_aload_n hx hb dX2_note_13 rfl (lv_at hl 0 rfl) ?_
    refine va_get (D := D) (ci := 1) (v := .ref a_places) (C := RX2) (T := TX2) (N := 3) hx hb hts iX2 hown hK hP 0 rfl rfl 1 (by decide) fl9 (fun _ h9 => h9) rfl dX2_note_14 ?_
    refine lv_aload_n hx hb dX2_note_17 rfl (lv_at hl 0 rfl) ?_
    refine va_get (D := D) (ci := 1) (v := .int v_known_13) (C := RX2) (T := TX2) (N := 3) hx hb hts iX2 hown hK hP 0 rfl rfl 0 (by decide) fl16 (fun _ h9 => h9) rfl dX2_note_18 ?_
    refine lv_iload_n hx hb dX2_note_21 rfl (lv_at hl 1 rfl) ?_
    obtain ⟨f1, ef1, hin, h⟩ := sat_wrI h
    refine yi (wn := [(a, .inr (1, [.int v_known_13, .ref a_places, .ref a_values])), (a_places, .inl (y.1, 12, .inl f1)), (a_values, .inl (y.1, 12, .inl v_values_13))]) hx hb hK hP hD hS 1 0 rfl rfl ef1 hin dX2_note_22 rfl (fun H locs hP hD hS => ?_)
    refine lv_aload_n hx hb dX2_note_23 rfl (lv_at hl 0 rfl) ?_
    refine va_get (D := D) (ci := 1) (v := .ref a_values) (C := RX2) (T := TX2) (N := 3) hx hb hts iX2 hown hK hP 0 rfl rfl 2 (by decide) fl13 (fun _ h9 => h9) rfl dX2_note_24 ?_
    refine lv_aload_n hx hb dX2_note_27 rfl (lv_at hl 0 rfl) ?_
    refine va_get (D := D) (ci := 1) (v := .int v_known_13) (C := RX2) (T := TX2) (N := 3) hx hb hts iX2 hown hK hP 0 rfl rfl 0 (by decide) fl16 (fun _ h9 => h9) rfl dX2_note_28 ?_
    refine lv_iload_n hx hb dX2_note_31 rfl (lv_at hl 2 rfl) ?_
    obtain ⟨f2, ef2, hin, h⟩ := sat_wrI h
    refine yi (wn := [(a, .inr (1, [.int v_known_13, .ref a_places, .ref a_values])), (a_places, .inl (y.1, 12, .inl f1)), (a_values, .inl (y.1, 12, .inl f2))]) hx hb hK hP hD hS 2 0 rfl rfl ef2 hin dX2_note_32 rfl (fun H locs hP hD hS => ?_)
    refine lv_aload_n hx hb dX2_note_33 rfl (lv_at hl 0 rfl) ?_
    refine lv_dup hx hb dX2_note_34 rfl ?_
    refine va_get (D := D) (ci := 1) (v := .int v_known_13) (C := RX2) (T := TX2) (N := 3) hx hb hts iX2 hown hK hP 0 rfl rfl 0 (by decide) fl16 (fun _ h9 => h9) rfl dX2_note_35 ?_
    refine lv_iconst (v := 1) hx hb dX2_note_38 (by decide) ?_
    refine lv_iadd hx hb dX2_note_39 ?_
    refine pf (D := D) (ci := 1) (v := .int (v_known_13 + 1)) (ty := .int) (C := RX2) (T := TX2) (N := 3) (wn := [(a, .inr (1, [.int (v_known_13 + 1), .ref a_places, .ref a_values])), (a_places, .inl (y.1, 12, .inl f1)), (a_values, .inl (y.1, 12, .inl f2))]) hx hb hts iX2 tyX2 tyX2_ok nmX2 hown hK hP hD hS 0 rfl rfl 0 (by decide) fl16 (fun _ h9 => h9) rfl (by decide +kernel) rfl rfl (Nat.le_of_ble_eq_true rfl) dX2_note_40 rfl (fun H locs hP hD hS => ?_)
    have h := sat_some h
    exact W.vret hx hb hr (fun t ht hW => ⟨⟨(v_known_13 + 1, f1, f2), rfl, h, by rw [ht]; exact hP, va_K.moved hW.alike hK, hD⟩, hS.F ht⟩) hS.2.2 dX2_note_43
  unfold m_X2_note at h
  refine lv_aload_n hx hb dX2_note_0 rfl (lv_at hl 0 rfl) ?_
  refine va_get (D := D) (ci := 1) (v := .int v_known) (C := RX2) (T := TX2) (N := 3) hx hb hts iX2 hown hK hP 0 rfl rfl 0 (by decide) fl16 (fun _ h9 => h9) rfl dX2_note_1 ?_
  refine lv_bipush (v := 12) hx hb dX2_note_4 (by decide) ?_
  refine lv_icmp_lt (tgt := 13) hx hb dX2_note_6 (by decide) (fun c6 => ?_) (fun c6 => ?_)
  · have h := sat_t c6 h
    exact hJ13 v_known v_places v_values ls s.heap [] h hl hP hD hS
  · have h := sat_f c6 h
    refine lv_aload_n hx hb dX2_note_9 rfl (lv_at hl 0 rfl) ?_
    refine cw_v (wn := fun u3 => [(a, .inr (1, [.int u3.1, .ref a_places, .ref a_values])), (a_places, .inl (y.1, 12, .inl u3.2.1)), (a_values, .inl (y.1, 12, .inl u3.2.2))]) (wr := []) (wv (As := []) (rest := []) ⟨hx, hb, hml, hown, hts⟩ (c_X2_loseOldest l D y a a_places a_values v_known v_places v_values _ _ rfl _ (sat_bind h)) (cwV 0 hts gX2_note_X2_loseOldest rfl rfl rfl (by decide +kernel) ⟨Nat.le_of_ble_eq_true rfl, Nat.le_of_ble_eq_true rfl⟩) hK hP hD [0, 1, 2] rfl rfl rfl 0 1 rfl rfl rfl rfl hl.1 rfl (Nat.le_of_ble_eq_true rfl) dX2_note_10 ⟨Nat.zero_le _, Nat.zero_le _⟩) hS hP hD hA [0, 1, 2] [] [0, 1, 2] rfl rfl rfl (by decide) (fun _ => rfl) rfl (fun _ => rfl) (fun u3 H locs h hP hD hS => ?_)
    exact hJ13 u3.1 u3.2.1 u3.2.2 ls H locs h hl hP hD hS

/-! X2_takeBackIn -/
set_option maxHeartbeats 4000000 in
set_option maxRecDepth 100000 in
theorem c_X2_takeBackIn (l : Launch) (D : va_G) (y : ClassId × ClassId × ClassId × ClassId) (a a_places a_values a1 a1_values : Nat) (v_known : Int32) (v_places : Nat → Int32) (v_values : Nat → Int32) (v1_size : Int32) (v1_values : Nat → Int32) (sz : Nat) (A : Nat → Prop) (hAe : va_A [(a, .inr (1, [.int v_known, .ref a_places, .ref a_values])), (a_places, .inl (y.1, 12, .inl v_places)), (a_values, .inl (y.1, 12, .inl v_values)), (a1, .inr (3, [.int v1_size, .ref a1_values])), (a1_values, .inl (y.1, 20, .inl v1_values))] sz = A) (K : (Int32 × (Nat → Int32)) → Prop) (h : sat (m_X2_takeBackIn v_known v_places v_values v1_values) K) : Met l yX2_takeBackIn wsX2_takeBackIn ({ frames := 1, cells := 0, slots := 0, locals := 22 } : Room) (pW D y ([.ref a, .ref a1] : List Value) [(a, .inr (1, [.int v_known, .ref a_places, .ref a_values])), (a_places, .inl (y.1, 12, .inl v_places)), (a_values, .inl (y.1, 12, .inl v_values)), (a1, .inr (3, [.int v1_size, .ref a1_values])), (a1_values, .inl (y.1, 20, .inl v1_values))] sz) (va_Qv K (bW D y A (fun u : (Int32 × (Nat → Int32)) => [(a, .inr (1, [.int u.1, .ref a_places, .ref a_values])), (a_places, .inl (y.1, 12, .inl v_places)), (a_values, .inl (y.1, 12, .inl v_values)), (a1, .inr (3, [.int v1_size, .ref a1_values])), (a1_values, .inl (y.1, 20, .inl u.2))])) A) 0 0 A := by
  refine Met.ofW (cc := cX2_takeBackIn) (maxL := 2) (ret := none) (by decide) rfl ?_
  intro p e s m args below meth c s₁ B hml hv
  obtain ⟨rfl, hsz, hP, hK, hD0⟩ := hv
  have hx := B.exec
  have hb := B.bytes
  have hr := B.returns
  have hts := atoms_spec (ws := wsX2_takeBackIn) B.pre
  have hown : s.vm.findClass RX2 = some m.cls := findClass_of_methodNamed B.named
  have hlocks := B.notSynchronized
  subst hsz
  have hD : va_D A [(a, .inr (1, [.int v_known, .ref a_places, .ref a_values])), (a_places, .inl (y.1, 12, .inl v_places)), (a_values, .inl (y.1, 12, .inl v_values)), (a1, .inr (3, [.int v1_size, .ref a1_values])), (a1_values, .inl (y.1, 20, .inl v1_values))] := hAe ▸ hD0.self
  have hA : ∀ q : Nat, s.heap.size ≤ q → A q := fun q h => hAe ▸ Or.inr h
  have hS : va_S A s.heap s.heap [] := va_S.rf
  have iX2 : ∀ w ∈ wsX20, w ∈ wsX2_takeBackIn := by decide +kernel
  have fl16 := hts (.fieldLink RX2 16 "AlgebraLaws$History" "known" "I") (by decide +kernel)
  have fl9 := hts (.fieldLink RX2 9 "AlgebraLaws$History" "places" "[I") (by decide +kernel)
  have fl13 := hts (.fieldLink RX2 13 "AlgebraLaws$History" "values" "[I") (by decide +kernel)
  have hl := lv_entry ([.ref a, .ref a1] : List Value) (n := 2) (Nat.le_of_ble_eq_true rfl)
  rw [lg_entry_eq]
  generalize (lg_sl ([.ref a, .ref a1] : List Value) ++ List.replicate (2 - (lg_sl ([.ref a, .ref a1] : List Value)).length) Slot.unset).toArray = ls at hl ⊢
  have hl : lv_has ls 2 [(0, .ref a), (1, .ref a1)] := hl
  unfold m_X2_takeBackIn at h
  refine lv_aload_n hx hb dX2_takeBackIn_0 rfl (lv_at hl 0 rfl) ?_
  refine va_get (D := D) (ci := 1) (v := .int v_known) (C := RX2) (T := TX2) (N := 3) hx hb hts iX2 hown hK hP 0 rfl rfl 0 (by decide) fl16 (fun _ h9 => h9) rfl dX2_takeBackIn_1 ?_
  refine lv_if_le (tgt := 48) hx hb dX2_takeBackIn_4 (by decide) (fun c4 => ?_) (fun c4 => ?_)
  · have h := sat_t c4 h
    have h := sat_some h
    exact W.vret hx hb hr (fun t ht hW => ⟨⟨(v_known, v1_values), rfl, h, by rw [ht]; exact hP, va_K.moved hW.alike hK, hD⟩, hS.F ht⟩) hS.2.2 dX2_takeBackIn_48
  · have h := sat_f c4 h
    refine lv_aload_n hx hb dX2_takeBackIn_7 rfl (lv_at hl 0 rfl) ?_
    refine va_get (D := D) (ci := 1) (v := .int v_known) (C := RX2) (T := TX2) (N := 3) hx hb hts iX2 hown hK hP 0 rfl rfl 0 (by decide) fl16 (fun _ h9 => h9) rfl dX2_takeBackIn_8 ?_
    refine lv_bipush (v := 12) hx hb dX2_takeBackIn_11 (by decide) ?_
    refine lv_icmp_gt (tgt := 48) hx hb dX2_takeBackIn_13 (by decide) (fun c13 => ?_) (fun c13 => ?_)
    · have h := sat_t c13 h
      have h := sat_some h
      exact W.vret hx hb hr (fun t ht hW => ⟨⟨(v_known, v1_values), rfl, h, by rw [ht]; exact hP, va_K.moved hW.alike hK, hD⟩, hS.F ht⟩) hS.2.2 dX2_takeBackIn_48
    · have h := sat_f c13 h
      refine lv_aload_n hx hb dX2_takeBackIn_16 rfl (lv_at hl 0 rfl) ?_
      refine lv_dup hx hb dX2_takeBackIn_17 rfl ?_
      refine va_get (D := D) (ci := 1) (v := .int v_known) (C := RX2) (T := TX2) (N := 3) hx hb hts iX2 hown hK hP 0 rfl rfl 0 (by decide) fl16 (fun _ h9 => h9) rfl dX2_takeBackIn_18 ?_
      refine lv_iconst (v := 1) hx hb dX2_takeBackIn_21 (by decide) ?_
      refine lv_isub hx hb dX2_takeBackIn_22 ?_
      refine pf (D := D) (ci := 1) (v := .int (v_known - 1)) (ty := .int) (C := RX2) (T := TX2) (N := 3) (wn := [(a, .inr (1, [.int (v_known - 1), .ref a_places, .ref a_values])), (a_places, .inl (y.1, 12, .inl v_places)), (a_values, .inl (y.1, 12, .inl v_values)), (a1, .inr (3, [.int v1_size, .ref a1_values])), (a1_values, .inl (y.1, 20, .inl v1_values))]) hx hb hts iX2 tyX2 tyX2_ok nmX2 hown hK hP hD hS 0 rfl rfl 0 (by decide) fl16 (fun _ h9 => h9) rfl (by decide +kernel) rfl rfl (Nat.le_of_ble_eq_true rfl) dX2_takeBackIn_23 rfl (fun H locs hP hD hS => ?_)
      refine lv_aload_n hx hb dX2_takeBackIn_26 rfl (lv_at hl 1 rfl) ?_
      refine lv_aload_n hx hb dX2_takeBackIn_27 rfl (lv_at hl 0 rfl) ?_
      refine va_get (D := D) (ci := 1) (v := .ref a_places) (C := RX2) (T := TX2) (N := 3) hx hb hts iX2 hown hK hP 0 rfl rfl 1 (by decide) fl9 (fun _ h9 => h9) rfl dX2_takeBackIn_28 ?_
      refine lv_aload_n hx hb dX2_takeBackIn_31 rfl (lv_at hl 0 rfl) ?_
      refine va_get (D := D) (ci := 1) (v := .int (v_known - 1)) (C := RX2) (T := TX2) (N := 3) hx hb hts iX2 hown hK hP 0 rfl rfl 0 (by decide) fl16 (fun _ h9 => h9) rfl dX2_takeBackIn_32 ?_
      obtain ⟨r1, er1, hin, h⟩ := sat_rd h
      refine xi hx hb hK hP 1 0 rfl rfl er1 hin dX2_takeBackIn_35 ?_
      refine lv_aload_n hx hb dX2_takeBackIn_36 rfl (lv_at hl 0 rfl) ?_
      refine va_get (D := D) (ci := 1) (v := .ref a_values) (C := RX2) (T := TX2) (N := 3) hx hb hts iX2 hown hK hP 0 rfl rfl 2 (by decide) fl13 (fun _ h9 => h9) rfl dX2_takeBackIn_37 ?_
      refine lv_aload_n hx hb dX2_takeBackIn_40 rfl (lv_at hl 0 rfl) ?_
      refine va_get (D := D) (ci := 1) (v := .int (v_known - 1)) (C := RX2) (T := TX2) (N := 3) hx hb hts iX2 hown hK hP 0 rfl rfl 0 (by decide) fl16 (fun _ h9 => h9) rfl dX2_takeBackIn_41 ?_
      obtain ⟨r2, er2, hin, h⟩ := sat_rd h
      refine xi hx hb hK hP 2 0 rfl rfl er2 hin dX2_takeBackIn_44 ?_
      refine cw_v (wn := fun u3 => [(a, .inr (1, [.int (v_known - 1), .ref a_places, .ref a_values])), (a_places, .inl (y.1, 12, .inl v_places)), (a_values, .inl (y.1, 12, .inl v_values)), (a1, .inr (3, [.int v1_size, .ref a1_values])), (a1_values, .inl (y.1, 20, .inl u3))]) (wr := [(a, .inr (1, [.int (v_known - 1), .ref a_places, .ref a_values])), (a_places, .inl (y.1, 12, .inl v_places)), (a_values, .inl (y.1, 12, .inl v_values))]) (wv (As := [.int r1, .int r2]) (rest := []) ⟨hx, hb, hml, hown, hts⟩ (c_X6_put l D y a1 a1_values v1_size v1_values r1 r2 _ _ rfl _ (sat_bind h)) (cwV 2 hts gX2_takeBackIn_X6_put rfl rfl rfl (by decide +kernel) ⟨Nat.le_of_ble_eq_true rfl, Nat.le_of_ble_eq_true rfl⟩) hK hP hD [3, 4] rfl rfl rfl 3 3 rfl rfl rfl rfl hl.1 rfl (Nat.le_of_ble_eq_true rfl) dX2_takeBackIn_45 ⟨Nat.zero_le _, Nat.zero_le _⟩) hS hP hD hA [3, 4] [0, 1, 2] [0, 1, 2, 3, 4] rfl rfl rfl (by decide) (fun _ => rfl) rfl (fun _ => rfl) (fun u3 H locs h hP hD hS => ?_)
      have h := sat_some h
      exact W.vret hx hb hr (fun t ht hW => ⟨⟨(v_known - 1, u3), rfl, h, by rw [ht]; exact hP, va_K.moved hW.alike hK, hD⟩, hS.F ht⟩) hS.2.2 dX2_takeBackIn_48

/-! X5_opens -/
set_option maxHeartbeats 4000000 in
set_option maxRecDepth 100000 in
theorem c_X5_opens (l : Launch) (D : va_G) (y : ClassId × ClassId × ClassId × ClassId) (a a_told : Nat) (v_items : Int32) (v_item : Int32) (v_figures : Int32) (x1 : Int32) (sz : Nat) (A : Nat → Prop) (hAe : va_A [(a, .inr (2, [.ref a_told, .int v_items, .int v_item, .int v_figures]))] sz = A) (K : Int32 → (Int32 × Int32) → Prop) (h : sat (m_X5_opens v_items v_item v_figures x1) (pK K)) : Met l yX5_opens wsX5_opens ({ frames := 0, cells := 0, slots := 0, locals := 0 } : Room) (pW D y ([.ref a, .int x1] : List Value) [(a, .inr (2, [.ref a_told, .int v_items, .int v_item, .int v_figures]))] sz) (va_Qi K (bW D y A (fun u : (Int32 × Int32) => [(a, .inr (2, [.ref a_told, .int v_items, .int u.1, .int u.2]))])) A) 0 0 A := by
  refine Met.ofW (cc := cX5_opens) (maxL := 3) (ret := (some .boolean)) (by decide) rfl ?_
  intro p e s m args below meth c s₁ B hml hv
  obtain ⟨rfl, hsz, hP, hK, hD0⟩ := hv
  have hx := B.exec
  have hb := B.bytes
  have hr := B.returns
  have hts := atoms_spec (ws := wsX5_opens) B.pre
  have hown : s.vm.findClass RX5 = some m.cls := findClass_of_methodNamed B.named
  have hlocks := B.notSynchronized
  subst hsz
  have hD : va_D A [(a, .inr (2, [.ref a_told, .int v_items, .int v_item, .int v_figures]))] := hAe ▸ hD0.self
  have hA : ∀ q : Nat, s.heap.size ≤ q → A q := fun q h => hAe ▸ Or.inr h
  have hS : va_S A s.heap s.heap [] := va_S.rf
  have iX5 : ∀ w ∈ wsX50, w ∈ wsX5_opens := by decide +kernel
  have fl24 := hts (.fieldLink RX5 24 "AlgebraLaws$Reader" "item" "I") (by decide +kernel)
  have fl41 := hts (.fieldLink RX5 41 "AlgebraLaws$Reader" "figures" "I") (by decide +kernel)
  have fl20 := hts (.fieldLink RX5 20 "AlgebraLaws$Reader" "items" "I") (by decide +kernel)
  have hl := lv_entry ([.ref a, .int x1] : List Value) (n := 3) (Nat.le_of_ble_eq_true rfl)
  rw [lg_entry_eq]
  generalize (lg_sl ([.ref a, .int x1] : List Value) ++ List.replicate (3 - (lg_sl ([.ref a, .int x1] : List Value)).length) Slot.unset).toArray = ls at hl ⊢
  have hl : lv_has ls 3 [(0, .ref a), (1, .int x1)] := hl
  have hJ30 : ∀ (t0_30 : Int32) (v_item_30 : Int32) (v_figures_30 : Int32) (ls : Array Slot) (H : Heap) (locs : List Loc), sat (m_X5_opens_j30 x1 t0_30 v_item_30 v_figures_30) (pK K) → lv_has ls 3 [(0, .ref a), (1, .int x1)] → va_P D vwCl [(a, .inr (2, [.ref a_told, .int v_items, .int v_item_30, .int v_figures_30]))] H → va_D A [(a, .inr (2, [.ref a_told, .int v_items, .int v_item_30, .int v_figures_30]))] → va_S A s.heap H locs → W p l e (headSpec wsX5_opens ({ frames := 0, cells := 0, slots := 0, locals := 0 } : Room)).room s m ([.ref a, .int x1] : List Value).toArray below meth c H locs 0 0 (MQ below (va_Qi K (bW D y A (fun u : (Int32 × Int32) => [(a, .inr (2, [.ref a_told, .int v_items, .int u.1, .int u.2]))])) A) ([.ref a, .int x1] : List Value).toArray s 0 0 A) (F0 m 30 ls [.int t0_30]) := by
    intro t0_30 v_item_30 v_figures_30 ls H locs h hl hP hD hS
    unfold m_X5_opens_j30 at h
    refine lv_istore_n (lv' := [(2, .int t0_30), (0, .ref a), (1, .int x1)]) hx hb dX5_opens_30 rfl hl (by decide) rfl (fun ls hl => ?_)
    refine lv_iload_n hx hb dX5_opens_31 rfl (lv_at hl 0 rfl) ?_
    refine lv_if_eq (tgt := 45) hx hb dX5_opens_32 (by decide) (fun c32 => ?_) (fun c32 => ?_)
    · have h := sat_t c32 h
      refine lv_iload_n hx hb dX5_opens_45 rfl (lv_at hl 0 rfl) ?_
      obtain ⟨hz, h⟩ := sat_gd h
      have h := sat_some h
      exact W.zret (v := t0_30) hx hb hr (zn hz) (fun t ht hW => ⟨⟨t0_30, (v_item_30, v_figures_30), rfl, h, by rw [ht]; exact hP, va_K.moved hW.alike hK, hD⟩, hS.F ht⟩) hS.2.2 dX5_opens_46
    · have h := sat_f c32 h
      refine lv_aload_n hx hb dX5_opens_35 rfl (lv_at hl 1 rfl) ?_
      refine lv_iload_n hx hb dX5_opens_36 rfl (lv_at hl 2 rfl) ?_
      refine pf (D := D) (ci := 2) (v := .int x1) (ty := .int) (C := RX5) (T := TX5) (N := 4) (wn := [(a, .inr (2, [.ref a_told, .int v_items, .int x1, .int v_figures_30]))]) hx hb hts iX5 tyX5 tyX5_ok nmX5 hown hK hP hD hS 0 rfl rfl 2 (by decide) fl24 (fun _ h9 => h9) rfl (by decide +kernel) rfl rfl (Nat.le_of_ble_eq_true rfl) dX5_opens_37 rfl (fun H locs hP hD hS => ?_)
      refine lv_aload_n hx hb dX5_opens_40 rfl (lv_at hl 1 rfl) ?_
      refine lv_iconst (v := 0) hx hb dX5_opens_41 (by decide) ?_
      refine pf (D := D) (ci := 2) (v := .int 0) (ty := .int) (C := RX5) (T := TX5) (N := 4) (wn := [(a, .inr (2, [.ref a_told, .int v_items, .int x1, .int 0]))]) hx hb hts iX5 tyX5 tyX5_ok nmX5 hown hK hP hD hS 0 rfl rfl 3 (by decide) fl41 (fun _ h9 => h9) rfl (by decide +kernel) rfl rfl (Nat.le_of_ble_eq_true rfl) dX5_opens_42 rfl (fun H locs hP hD hS => ?_)
      refine lv_iload_n hx hb dX5_opens_45 rfl (lv_at hl 0 rfl) ?_
      obtain ⟨hz, h⟩ := sat_gd h
      have h := sat_some h
      exact W.zret (v := t0_30) hx hb hr (zn hz) (fun t ht hW => ⟨⟨t0_30, (x1, 0), rfl, h, by rw [ht]; exact hP, va_K.moved hW.alike hK, hD⟩, hS.F ht⟩) hS.2.2 dX5_opens_46
  have hJ29 : ∀ (v_item_29 : Int32) (v_figures_29 : Int32) (ls : Array Slot) (H : Heap) (locs : List Loc), sat (m_X5_opens_j29 x1 v_item_29 v_figures_29) (pK K) → lv_has ls 3 [(0, .ref a), (1, .int x1)] → va_P D vwCl [(a, .inr (2, [.ref a_told, .int v_items, .int v_item_29, .int v_figures_29]))] H → va_D A [(a, .inr (2, [.ref a_told, .int v_items, .int v_item_29, .int v_figures_29]))] → va_S A s.heap H locs → W p l e (headSpec wsX5_opens ({ frames := 0, cells := 0, slots := 0, locals := 0 } : Room)).room s m ([.ref a, .int x1] : List Value).toArray below meth c H locs 0 0 (MQ below (va_Qi K (bW D y A (fun u : (Int32 × Int32) => [(a, .inr (2, [.ref a_told, .int v_items, .int u.1, .int u.2]))])) A) ([.ref a, .int x1] : List Value).toArray s 0 0 A) (F0 m 29 ls []) := by
    intro v_item_29 v_figures_29 ls H locs h hl hP hD hS
    unfold m_X5_opens_j29 at h
    refine lv_iconst (v := 0) hx hb dX5_opens_29 (by decide) ?_
    exact hJ30 0 v_item_29 v_figures_29 ls H locs h hl hP hD hS
  have hJ25 : ∀ (v_item_25 : Int32) (v_figures_25 : Int32) (ls : Array Slot) (H : Heap) (locs : List Loc), sat (m_X5_opens_j25 x1 v_item_25 v_figures_25) (pK K) → lv_has ls 3 [(0, .ref a), (1, .int x1)] → va_P D vwCl [(a, .inr (2, [.ref a_told, .int v_items, .int v_item_25, .int v_figures_25]))] H → va_D A [(a, .inr (2, [.ref a_told, .int v_items, .int v_item_25, .int v_figures_25]))] → va_S A s.heap H locs → W p l e (headSpec wsX5_opens ({ frames := 0, cells := 0, slots := 0, locals := 0 } : Room)).room s m ([.ref a, .int x1] : List Value).toArray below meth c H locs 0 0 (MQ below (va_Qi K (bW D y A (fun u : (Int32 × Int32) => [(a, .inr (2, [.ref a_told, .int v_items, .int u.1, .int u.2]))])) A) ([.ref a, .int x1] : List Value).toArray s 0 0 A) (F0 m 25 ls []) := by
    intro v_item_25 v_figures_25 ls H locs h hl hP hD hS
    unfold m_X5_opens_j25 at h
    refine lv_iconst (v := 1) hx hb dX5_opens_25 (by decide) ?_
    refine lv_goto (tgt := 30) hx hb dX5_opens_26 (by decide) ?_
    exact hJ30 1 v_item_25 v_figures_25 ls H locs h hl hP hD hS
  unfold m_X5_opens at h
  refine lv_iload_n hx hb dX5_opens_0 rfl (lv_at hl 1 rfl) ?_
  refine lv_bipush (v := 102) hx hb dX5_opens_1 (by decide) ?_
  refine lv_icmp_eq (tgt := 25) hx hb dX5_opens_3 (by decide) (fun c3 => ?_) (fun c3 => ?_)
  · have h := sat_t c3 h
    exact hJ25 v_item v_figures ls s.heap [] h hl hP hD hS
  · have h := sat_f c3 h
    refine lv_iload_n hx hb dX5_opens_6 rfl (lv_at hl 1 rfl) ?_
    refine lv_bipush (v := 103) hx hb dX5_opens_7 (by decide) ?_
    refine lv_icmp_eq (tgt := 25) hx hb dX5_opens_9 (by decide) (fun c9 => ?_) (fun c9 => ?_)
    · have h := sat_t c9 h
      exact hJ25 v_item v_figures ls s.heap [] h hl hP hD hS
    · have h := sat_f c9 h
      refine lv_iload_n hx hb dX5_opens_12 rfl (lv_at hl 1 rfl) ?_
      refine lv_bipush (v := 110) hx hb dX5_opens_13 (by decide) ?_
      refine lv_icmp_ne (tgt := 29) hx hb dX5_opens_15 (by decide) (fun c15 => ?_) (fun c15 => ?_)
      · have h := sat_f c15 h
        exact hJ29 v_item v_figures ls s.heap [] h hl hP hD hS
      · have h := sat_t c15 h
        refine lv_aload_n hx hb dX5_opens_18 rfl (lv_at hl 0 rfl) ?_
        refine va_get (D := D) (ci := 2) (v := .int v_items) (C := RX5) (T := TX5) (N := 4) hx hb hts iX5 hown hK hP 0 rfl rfl 1 (by decide) fl20 (fun _ h9 => h9) rfl dX5_opens_19 ?_
        refine lv_if_ne (tgt := 29) hx hb dX5_opens_22 (by decide) (fun c22 => ?_) (fun c22 => ?_)
        · have h := sat_f c22 h
          exact hJ29 v_item v_figures ls s.heap [] h hl hP hD hS
        · have h := sat_t c22 h
          exact hJ25 v_item v_figures ls s.heap [] h hl hP hD hS

/-! X5_figuresDue -/
set_option maxHeartbeats 4000000 in
set_option maxRecDepth 100000 in
theorem c_X5_figuresDue (l : Launch) (D : va_G) (y : ClassId × ClassId × ClassId × ClassId) (a a_told a_told_values : Nat) (v_items : Int32) (v_item : Int32) (v_figures : Int32) (v_told_size : Int32) (K : Int32 → Prop) (h : sat (m_X5_figuresDue v_item v_told_size) K) : Met l yX5_figuresDue wsX5_figuresDue ({ frames := 0, cells := 0, slots := 0, locals := 0 } : Room) (pR D y ([.ref a] : List Value) [(a, .inr (2, [.ref a_told, .int v_items, .int v_item, .int v_figures])), (a_told, .inr (3, [.int v_told_size, .ref a_told_values]))]) (qSi K) 0 0 (fun _ => False) := by
  refine Met.ofW (cc := cX5_figuresDue) (maxL := 1) (ret := (some .int)) (by decide) rfl ?_
  intro p e s m args below meth c s₁ B hml hv
  obtain ⟨rfl, hP, hK⟩ := hv
  have hx := B.exec
  have hb := B.bytes
  have hr := B.returns
  have hts := atoms_spec (ws := wsX5_figuresDue) B.pre
  have hown : s.vm.findClass RX5 = some m.cls := findClass_of_methodNamed B.named
  have hlocks := B.notSynchronized
  have iX5 : ∀ w ∈ wsX50, w ∈ wsX5_figuresDue := by decide +kernel
  have iX6 : ∀ w ∈ wsX60, w ∈ wsX5_figuresDue := by decide +kernel
  have fl24 := hts (.fieldLink RX5 24 "AlgebraLaws$Reader" "item" "I") (by decide +kernel)
  have fl10 := hts (.fieldLink RX5 10 "AlgebraLaws$Reader" "told" "LAlgebraLaws$Tables;") (by decide +kernel)
  have fl48 := hts (.fieldLink RX5 48 "AlgebraLaws$Tables" "size" "I") (by decide +kernel)
  have hl := lv_entry ([.ref a] : List Value) (n := 1) (Nat.le_of_ble_eq_true rfl)
  rw [lg_entry_eq]
  generalize (lg_sl ([.ref a] : List Value) ++ List.replicate (1 - (lg_sl ([.ref a] : List Value)).length) Slot.unset).toArray = ls at hl ⊢
  have hl : lv_has ls 1 [(0, .ref a)] := hl
  unfold m_X5_figuresDue at h
  refine lv_aload_n hx hb dX5_figuresDue_0 rfl (lv_at hl 0 rfl) ?_
  refine va_get (D := D) (ci := 2) (v := .int v_item) (C := RX5) (T := TX5) (N := 4) hx hb hts iX5 hown hK hP 0 rfl rfl 2 (by decide) fl24 (fun _ h9 => h9) rfl dX5_figuresDue_1 ?_
  by_cases c4_102 : v_item = 102
  · have h := sat_t c4_102 h
    refine lv_lookup (tgt := 32) (off := 28) hx hb dX5_figuresDue_4 rfl (by rw [c4_102]; rfl) (by decide) ?_
    refine lv_aload_n hx hb dX5_figuresDue_32 rfl (lv_at hl 0 rfl) ?_
    refine va_get (D := D) (ci := 2) (v := .ref a_told) (C := RX5) (T := TX5) (N := 4) hx hb hts iX5 hown hK hP 0 rfl rfl 0 (by decide) fl10 (fun _ h9 => h9) rfl dX5_figuresDue_33 ?_
    refine va_get (D := D) (ci := 3) (v := .int v_told_size) (C := RX6) (T := TX6) (N := 2) hx hb hts iX6 hown hK hP 1 rfl rfl 0 (by decide) fl48 (fun _ h9 => h9) rfl dX5_figuresDue_36 ?_
    refine lv_aload_n hx hb dX5_figuresDue_39 rfl (lv_at hl 0 rfl) ?_
    refine va_get (D := D) (ci := 2) (v := .ref a_told) (C := RX5) (T := TX5) (N := 4) hx hb hts iX5 hown hK hP 0 rfl rfl 0 (by decide) fl10 (fun _ h9 => h9) rfl dX5_figuresDue_40 ?_
    refine va_get (D := D) (ci := 3) (v := .int v_told_size) (C := RX6) (T := TX6) (N := 2) hx hb hts iX6 hown hK hP 1 rfl rfl 0 (by decide) fl48 (fun _ h9 => h9) rfl dX5_figuresDue_43 ?_
    refine lv_imul hx hb dX5_figuresDue_46 ?_
    have h := sat_some h
    exact W.iret (v := v_told_size * v_told_size) hx hb hr (fun t ht _ => ⟨v_told_size * v_told_size, rfl, h, ht⟩) (fun _ hq => by cases hq) dX5_figuresDue_47
  have h := sat_f c4_102 h
  by_cases c4_103 : v_item = 103
  · have h := sat_t c4_103 h
    refine lv_lookup (tgt := 48) (off := 44) hx hb dX5_figuresDue_4 rfl (by rw [c4_103]; rfl) (by decide) ?_
    refine lv_aload_n hx hb dX5_figuresDue_48 rfl (lv_at hl 0 rfl) ?_
    refine va_get (D := D) (ci := 2) (v := .ref a_told) (C := RX5) (T := TX5) (N := 4) hx hb hts iX5 hown hK hP 0 rfl rfl 0 (by decide) fl10 (fun _ h9 => h9) rfl dX5_figuresDue_49 ?_
    refine va_get (D := D) (ci := 3) (v := .int v_told_size) (C := RX6) (T := TX6) (N := 2) hx hb hts iX6 hown hK hP 1 rfl rfl 0 (by decide) fl48 (fun _ h9 => h9) rfl dX5_figuresDue_52 ?_
    have h := sat_some h
    exact W.iret (v := v_told_size) hx hb hr (fun t ht _ => ⟨v_told_size, rfl, h, ht⟩) (fun _ hq => by cases hq) dX5_figuresDue_55
  have h := sat_f c4_103 h
  have e4_102 : (v_item).toInt ≠ 102 := fun q => c4_102 (Int32.toInt_inj.mp (q.trans rfl))
  have e4_103 : (v_item).toInt ≠ 103 := fun q => c4_103 (Int32.toInt_inj.mp (q.trans rfl))
  refine lv_lookup (tgt := 56) (off := 52) hx hb dX5_figuresDue_4 rfl (by simp [Op.lookupswitch.offset, e4_102, Ne.symm e4_102, e4_103, Ne.symm e4_103]) (by decide) ?_
  refine lv_iconst (v := 1) hx hb dX5_figuresDue_56 (by decide) ?_
  have h := sat_some h
  exact W.iret (v := 1) hx hb hr (fun t ht _ => ⟨1, rfl, h, ht⟩) (fun _ hq => by cases hq) dX5_figuresDue_57

/-! X5_ends -/
set_option maxHeartbeats 4000000 in
set_option maxRecDepth 100000 in
theorem c_X5_ends (l : Launch) (D : va_G) (y : ClassId × ClassId × ClassId × ClassId) (a a_told a_told_values : Nat) (v_items : Int32) (v_item : Int32) (v_figures : Int32) (v_told_size : Int32) (sz : Nat) (A : Nat → Prop) (hAe : va_A [(a, .inr (2, [.ref a_told, .int v_items, .int v_item, .int v_figures])), (a_told, .inr (3, [.int v_told_size, .ref a_told_values]))] sz = A) (K : Int32 → (Int32 × Int32) → Prop) (h : sat (m_X5_ends v_items v_item v_figures v_told_size) (pK K)) : Met l yX5_ends wsX5_ends ({ frames := 1, cells := 0, slots := 0, locals := 20 } : Room) (pW D y ([.ref a] : List Value) [(a, .inr (2, [.ref a_told, .int v_items, .int v_item, .int v_figures])), (a_told, .inr (3, [.int v_told_size, .ref a_told_values]))] sz) (va_Qi K (bW D y A (fun u : (Int32 × Int32) => [(a, .inr (2, [.ref a_told, .int u.1, .int u.2, .int v_figures])), (a_told, .inr (3, [.int v_told_size, .ref a_told_values]))])) A) 0 0 A := by
  refine Met.ofW (cc := cX5_ends) (maxL := 1) (ret := (some .boolean)) (by decide) rfl ?_
  intro p e s m args below meth c s₁ B hml hv
  obtain ⟨rfl, hsz, hP, hK, hD0⟩ := hv
  have hx := B.exec
  have hb := B.bytes
  have hr := B.returns
  have hts := atoms_spec (ws := wsX5_ends) B.pre
  have hown : s.vm.findClass RX5 = some m.cls := findClass_of_methodNamed B.named
  have hlocks := B.notSynchronized
  subst hsz
  have hD : va_D A [(a, .inr (2, [.ref a_told, .int v_items, .int v_item, .int v_figures])), (a_told, .inr (3, [.int v_told_size, .ref a_told_values]))] := hAe ▸ hD0.self
  have hA : ∀ q : Nat, s.heap.size ≤ q → A q := fun q h => hAe ▸ Or.inr h
  have hS : va_S A s.heap s.heap [] := va_S.rf
  have iX5 : ∀ w ∈ wsX50, w ∈ wsX5_ends := by decide +kernel
  have fl41 := hts (.fieldLink RX5 41 "AlgebraLaws$Reader" "figures" "I") (by decide +kernel)
  have fl20 := hts (.fieldLink RX5 20 "AlgebraLaws$Reader" "items" "I") (by decide +kernel)
  have fl24 := hts (.fieldLink RX5 24 "AlgebraLaws$Reader" "item" "I") (by decide +kernel)
  have hl := lv_entry ([.ref a] : List Value) (n := 1) (Nat.le_of_ble_eq_true rfl)
  rw [lg_entry_eq]
  generalize (lg_sl ([.ref a] : List Value) ++ List.replicate (1 - (lg_sl ([.ref a] : List Value)).length) Slot.unset).toArray = ls at hl ⊢
  have hl : lv_has ls 1 [(0, .ref a)] := hl
  unfold m_X5_ends at h
  refine lv_aload_n hx hb dX5_ends_0 rfl (lv_at hl 0 rfl) ?_
  refine va_get (D := D) (ci := 2) (v := .int v_figures) (C := RX5) (T := TX5) (N := 4) hx hb hts iX5 hown hK hP 0 rfl rfl 3 (by decide) fl41 (fun _ h9 => h9) rfl dX5_ends_1 ?_
  refine lv_aload_n hx hb dX5_ends_4 rfl (lv_at hl 0 rfl) ?_
  refine cr_i (rv (As := []) (rest := [.int v_figures]) ⟨hx, hb, hml, hown, hts⟩ (c_X5_figuresDue l D y a a_told a_told_values v_items v_item v_figures v_told_size _ (sat_bind h)) (cwV 0 hts gX5_ends_X5_figuresDue rfl rfl rfl (by decide +kernel) ⟨Nat.le_of_ble_eq_true rfl, Nat.le_of_ble_eq_true rfl⟩) hK hP [0, 1] rfl 0 2 rfl rfl rfl rfl hl.1 rfl (Nat.le_of_ble_eq_true rfl) dX5_ends_5 ⟨Nat.zero_le _, Nat.zero_le _⟩) (fun r1 h => ?_)
  refine lv_icmp_ge (tgt := 13) hx hb dX5_ends_8 (by decide) (fun c8 => ?_) (fun c8 => ?_)
  · have h := sat_t c8 h
    refine lv_aload_n hx hb dX5_ends_13 rfl (lv_at hl 0 rfl) ?_
    refine lv_dup hx hb dX5_ends_14 rfl ?_
    refine va_get (D := D) (ci := 2) (v := .int v_items) (C := RX5) (T := TX5) (N := 4) hx hb hts iX5 hown hK hP 0 rfl rfl 1 (by decide) fl20 (fun _ h9 => h9) rfl dX5_ends_15 ?_
    refine lv_iconst (v := 1) hx hb dX5_ends_18 (by decide) ?_
    refine lv_iadd hx hb dX5_ends_19 ?_
    refine pf (D := D) (ci := 2) (v := .int (v_items + 1)) (ty := .int) (C := RX5) (T := TX5) (N := 4) (wn := [(a, .inr (2, [.ref a_told, .int (v_items + 1), .int v_item, .int v_figures])), (a_told, .inr (3, [.int v_told_size, .ref a_told_values]))]) hx hb hts iX5 tyX5 tyX5_ok nmX5 hown hK hP hD hS 0 rfl rfl 1 (by decide) fl20 (fun _ h9 => h9) rfl (by decide +kernel) rfl rfl (Nat.le_of_ble_eq_true rfl) dX5_ends_20 rfl (fun H locs hP hD hS => ?_)
    refine lv_aload_n hx hb dX5_ends_23 rfl (lv_at hl 0 rfl) ?_
    refine lv_iconst (v := 0) hx hb dX5_ends_24 (by decide) ?_
    refine pf (D := D) (ci := 2) (v := .int 0) (ty := .int) (C := RX5) (T := TX5) (N := 4) (wn := [(a, .inr (2, [.ref a_told, .int (v_items + 1), .int 0, .int v_figures])), (a_told, .inr (3, [.int v_told_size, .ref a_told_values]))]) hx hb hts iX5 tyX5 tyX5_ok nmX5 hown hK hP hD hS 0 rfl rfl 2 (by decide) fl24 (fun _ h9 => h9) rfl (by decide +kernel) rfl rfl (Nat.le_of_ble_eq_true rfl) dX5_ends_25 rfl (fun H locs hP hD hS => ?_)
    refine lv_iconst (v := 1) hx hb dX5_ends_28 (by decide) ?_
    have h := sat_some h
    exact W.zret (v := 1) hx hb hr rfl (fun t ht hW => ⟨⟨1, (v_items + 1, 0), rfl, h, by rw [ht]; exact hP, va_K.moved hW.alike hK, hD⟩, hS.F ht⟩) hS.2.2 dX5_ends_29
  · have h := sat_f c8 h
    refine lv_iconst (v := 0) hx hb dX5_ends_11 (by decide) ?_
    have h := sat_some h
    exact W.zret (v := 0) hx hb hr rfl (fun t ht hW => ⟨⟨0, (v_items, v_item), rfl, h, by rw [ht]; exact hP, va_K.moved hW.alike hK, hD⟩, hS.F ht⟩) hS.2.2 dX5_ends_12

/-! X5_takesSize -/
set_option maxHeartbeats 4000000 in
set_option maxRecDepth 100000 in
theorem c_X5_takesSize (l : Launch) (D : va_G) (y : ClassId × ClassId × ClassId × ClassId) (a a_told a_told_values : Nat) (v_items : Int32) (v_item : Int32) (v_figures : Int32) (v_told_size : Int32) (v_told_values : Nat → Int32) (x1 : Int32) (sz : Nat) (A : Nat → Prop) (hAe : va_A [(a, .inr (2, [.ref a_told, .int v_items, .int v_item, .int v_figures])), (a_told, .inr (3, [.int v_told_size, .ref a_told_values])), (a_told_values, .inl (y.1, 20, .inl v_told_values))] sz = A) (K : Int32 → (Int32 × (Nat → Int32)) → Prop) (h : sat (m_X5_takesSize v_told_size v_told_values x1) (pK K)) : Met l yX5_takesSize wsX5_takesSize ({ frames := 2, cells := 0, slots := 0, locals := 44 } : Room) (pW D y ([.ref a, .int x1] : List Value) [(a, .inr (2, [.ref a_told, .int v_items, .int v_item, .int v_figures])), (a_told, .inr (3, [.int v_told_size, .ref a_told_values])), (a_told_values, .inl (y.1, 20, .inl v_told_values))] sz) (va_Qi K (bW D y A (fun u : (Int32 × (Nat → Int32)) => [(a, .inr (2, [.ref a_told, .int v_items, .int v_item, .int v_figures])), (a_told, .inr (3, [.int u.1, .ref a_told_values])), (a_told_values, .inl (y.1, 20, .inl u.2))])) A) 0 0 A := by
  refine Met.ofW (cc := cX5_takesSize) (maxL := 2) (ret := (some .boolean)) (by decide) rfl ?_
  intro p e s m args below meth c s₁ B hml hv
  obtain ⟨rfl, hsz, hP, hK, hD0⟩ := hv
  have hx := B.exec
  have hb := B.bytes
  have hr := B.returns
  have hts := atoms_spec (ws := wsX5_takesSize) B.pre
  have hown : s.vm.findClass RX5 = some m.cls := findClass_of_methodNamed B.named
  have hlocks := B.notSynchronized
  subst hsz
  have hD : va_D A [(a, .inr (2, [.ref a_told, .int v_items, .int v_item, .int v_figures])), (a_told, .inr (3, [.int v_told_size, .ref a_told_values])), (a_told_values, .inl (y.1, 20, .inl v_told_values))] := hAe ▸ hD0.self
  have hA : ∀ q : Nat, s.heap.size ≤ q → A q := fun q h => hAe ▸ Or.inr h
  have hS : va_S A s.heap s.heap [] := va_S.rf
  have iX5 : ∀ w ∈ wsX50, w ∈ wsX5_takesSize := by decide +kernel
  have fl10 := hts (.fieldLink RX5 10 "AlgebraLaws$Reader" "told" "LAlgebraLaws$Tables;") (by decide +kernel)
  have hl := lv_entry ([.ref a, .int x1] : List Value) (n := 2) (Nat.le_of_ble_eq_true rfl)
  rw [lg_entry_eq]
  generalize (lg_sl ([.ref a, .int x1] : List Value) ++ List.replicate (2 - (lg_sl ([.ref a, .int x1] : List Value)).length) Slot.unset).toArray = ls at hl ⊢
  have hl : lv_has ls 2 [(0, .ref a), (1, .int x1)] := hl
  unfold m_X5_takesSize at h
  refine lv_iload_n hx hb dX5_takesSize_0 rfl (lv_at hl 1 rfl) ?_
  refine lv_iconst (v := 1) hx hb dX5_takesSize_1 (by decide) ?_
  refine lv_icmp_lt (tgt := 10) hx hb dX5_takesSize_2 (by decide) (fun c2 => ?_) (fun c2 => ?_)
  · have h := sat_t c2 h
    refine lv_iconst (v := 0) hx hb dX5_takesSize_10 (by decide) ?_
    have h := sat_some h
    exact W.zret (v := 0) hx hb hr rfl (fun t ht hW => ⟨⟨0, (v_told_size, v_told_values), rfl, h, by rw [ht]; exact hP, va_K.moved hW.alike hK, hD⟩, hS.F ht⟩) hS.2.2 dX5_takesSize_11
  · have h := sat_f c2 h
    refine lv_iload_n hx hb dX5_takesSize_5 rfl (lv_at hl 1 rfl) ?_
    refine lv_iconst (v := 4) hx hb dX5_takesSize_6 (by decide) ?_
    refine lv_icmp_le (tgt := 12) hx hb dX5_takesSize_7 (by decide) (fun c7 => ?_) (fun c7 => ?_)
    · have h := sat_t c7 h
      refine lv_aload_n hx hb dX5_takesSize_12 rfl (lv_at hl 0 rfl) ?_
      refine va_get (D := D) (ci := 2) (v := .ref a_told) (C := RX5) (T := TX5) (N := 4) hx hb hts iX5 hown hK hP 0 rfl rfl 0 (by decide) fl10 (fun _ h9 => h9) rfl dX5_takesSize_13 ?_
      refine lv_iload_n hx hb dX5_takesSize_16 rfl (lv_at hl 1 rfl) ?_
      refine cw_v (wn := fun u1 => [(a, .inr (2, [.ref a_told, .int v_items, .int v_item, .int v_figures])), (a_told, .inr (3, [.int u1.1, .ref a_told_values])), (a_told_values, .inl (y.1, 20, .inl u1.2))]) (wr := [(a, .inr (2, [.ref a_told, .int v_items, .int v_item, .int v_figures]))]) (wv (As := [.int x1]) (rest := []) ⟨hx, hb, hml, hown, hts⟩ (c_X6_startOver l D y a_told a_told_values v_told_size v_told_values x1 _ _ rfl _ (sat_bind h)) (cwV 1 hts gX5_takesSize_X6_startOver rfl rfl rfl (by decide +kernel) ⟨Nat.le_of_ble_eq_true rfl, Nat.le_of_ble_eq_true rfl⟩) hK hP hD [1, 2] rfl rfl rfl 1 3 rfl rfl rfl rfl hl.1 rfl (Nat.le_of_ble_eq_true rfl) dX5_takesSize_17 ⟨Nat.zero_le _, Nat.zero_le _⟩) hS hP hD hA [1, 2] [0] [0, 1, 2] rfl rfl rfl (by decide) (fun _ => rfl) rfl (fun _ => rfl) (fun u1 H locs h hP hD hS => ?_)
      refine lv_iconst (v := 1) hx hb dX5_takesSize_20 (by decide) ?_
      have h := sat_some h
      exact W.zret (v := 1) hx hb hr rfl (fun t ht hW => ⟨⟨1, (u1.1, u1.2), rfl, h, by rw [ht]; exact hP, va_K.moved hW.alike hK, hD⟩, hS.F ht⟩) hS.2.2 dX5_takesSize_21
    · have h := sat_f c7 h
      refine lv_iconst (v := 0) hx hb dX5_takesSize_10 (by decide) ?_
      have h := sat_some h
      exact W.zret (v := 0) hx hb hr rfl (fun t ht hW => ⟨⟨0, (v_told_size, v_told_values), rfl, h, by rw [ht]; exact hP, va_K.moved hW.alike hK, hD⟩, hS.F ht⟩) hS.2.2 dX5_takesSize_11

/-! X5_placeOfFigure -/
set_option maxHeartbeats 4000000 in
set_option maxRecDepth 100000 in
theorem c_X5_placeOfFigure (l : Launch) (D : va_G) (y : ClassId × ClassId × ClassId × ClassId) (a a_told a_told_values : Nat) (v_items : Int32) (v_item : Int32) (v_figures : Int32) (v_told_size : Int32) (K : Int32 → Prop) (h : sat (m_X5_placeOfFigure v_figures v_told_size) K) : Met l yX5_placeOfFigure wsX5_placeOfFigure ({ frames := 1, cells := 0, slots := 0, locals := 21 } : Room) (pR D y ([.ref a] : List Value) [(a, .inr (2, [.ref a_told, .int v_items, .int v_item, .int v_figures])), (a_told, .inr (3, [.int v_told_size, .ref a_told_values]))]) (qSi K) 0 0 (fun _ => False) := by
  refine Met.ofW (cc := cX5_placeOfFigure) (maxL := 2) (ret := (some .int)) (by decide) rfl ?_
  intro p e s m args below meth c s₁ B hml hv
  obtain ⟨rfl, hP, hK⟩ := hv
  have hx := B.exec
  have hb := B.bytes
  have hr := B.returns
  have hts := atoms_spec (ws := wsX5_placeOfFigure) B.pre
  have hown : s.vm.findClass RX5 = some m.cls := findClass_of_methodNamed B.named
  have hlocks := B.notSynchronized
  have iX5 : ∀ w ∈ wsX50, w ∈ wsX5_placeOfFigure := by decide +kernel
  have iX6 : ∀ w ∈ wsX60, w ∈ wsX5_placeOfFigure := by decide +kernel
  have fl10 := hts (.fieldLink RX5 10 "AlgebraLaws$Reader" "told" "LAlgebraLaws$Tables;") (by decide +kernel)
  have fl48 := hts (.fieldLink RX5 48 "AlgebraLaws$Tables" "size" "I") (by decide +kernel)
  have fl41 := hts (.fieldLink RX5 41 "AlgebraLaws$Reader" "figures" "I") (by decide +kernel)
  have hl := lv_entry ([.ref a] : List Value) (n := 2) (Nat.le_of_ble_eq_true rfl)
  rw [lg_entry_eq]
  generalize (lg_sl ([.ref a] : List Value) ++ List.replicate (2 - (lg_sl ([.ref a] : List Value)).length) Slot.unset).toArray = ls at hl ⊢
  have hl : lv_has ls 2 [(0, .ref a)] := hl
  unfold m_X5_placeOfFigure at h
  refine lv_iconst (v := 1) hx hb dX5_placeOfFigure_0 (by decide) ?_
  refine lv_aload_n hx hb dX5_placeOfFigure_1 rfl (lv_at hl 0 rfl) ?_
  refine va_get (D := D) (ci := 2) (v := .ref a_told) (C := RX5) (T := TX5) (N := 4) hx hb hts iX5 hown hK hP 0 rfl rfl 0 (by decide) fl10 (fun _ h9 => h9) rfl dX5_placeOfFigure_2 ?_
  refine va_get (D := D) (ci := 3) (v := .int v_told_size) (C := RX6) (T := TX6) (N := 2) hx hb hts iX6 hown hK hP 1 rfl rfl 0 (by decide) fl48 (fun _ h9 => h9) rfl dX5_placeOfFigure_5 ?_
  obtain ⟨r1, er1, h⟩ := sat_nm h
  refine va_mmax hx hb (by rw [hml]; exact hl.1.symm) hown (hts (.methodLink RX5 71 Lib.Math.max.name) (by decide +kernel)) (hts (.static Lib.Math.max.name) (by decide +kernel)) (hts (.initialized "java/lang/Math") (by decide +kernel)) (hts (.code Lib.Math.max.name Lib.Math.max.code 2 (some .int)) (by decide +kernel)) (Nat.le_of_ble_eq_true rfl) (Nat.le_of_ble_eq_true rfl) (Nat.zero_le _) (Nat.zero_le _) dX5_placeOfFigure_8 ?_
  refine tI er1 ?_
  refine lv_istore_n (lv' := [(1, .int r1), (0, .ref a)]) hx hb dX5_placeOfFigure_11 rfl hl (by decide) rfl (fun ls hl => ?_)
  refine lv_aload_n hx hb dX5_placeOfFigure_12 rfl (lv_at hl 1 rfl) ?_
  refine va_get (D := D) (ci := 2) (v := .int v_figures) (C := RX5) (T := TX5) (N := 4) hx hb hts iX5 hown hK hP 0 rfl rfl 3 (by decide) fl41 (fun _ h9 => h9) rfl dX5_placeOfFigure_13 ?_
  refine lv_iload_n hx hb dX5_placeOfFigure_16 rfl (lv_at hl 0 rfl) ?_
  obtain ⟨hne, h⟩ := sat_gd h
  refine lv_idiv hx hb dX5_placeOfFigure_17 hne ?_
  refine lv_aload_n hx hb dX5_placeOfFigure_18 rfl (lv_at hl 1 rfl) ?_
  refine va_get (D := D) (ci := 2) (v := .int v_figures) (C := RX5) (T := TX5) (N := 4) hx hb hts iX5 hown hK hP 0 rfl rfl 3 (by decide) fl41 (fun _ h9 => h9) rfl dX5_placeOfFigure_19 ?_
  refine lv_iload_n hx hb dX5_placeOfFigure_22 rfl (lv_at hl 0 rfl) ?_
  obtain ⟨hne, h⟩ := sat_gd h
  refine lv_irem hx hb dX5_placeOfFigure_23 hne ?_
  refine cr_i (rs (As := [.int (v_figures / r1), .int (v_figures - v_figures / r1 * r1)]) (rest := []) ⟨hx, hb, hml, hown, hts⟩ (c_X6_placeOfTwo l D y (v_figures / r1) (v_figures - v_figures / r1 * r1) _ (sat_bind h)) (va_cwS 2 hts gX5_placeOfFigure_X6_placeOfTwo rfl rfl rfl (by decide +kernel) ⟨Nat.le_of_ble_eq_true rfl, Nat.le_of_ble_eq_true rfl⟩) hK hP [] rfl rfl hl.1 rfl (Nat.le_of_ble_eq_true rfl) dX5_placeOfFigure_24 ⟨Nat.zero_le _, Nat.zero_le _⟩) (fun r2 h => ?_)
  have h := sat_some h
  exact W.iret (v := r2) hx hb hr (fun t ht _ => ⟨r2, rfl, h, ht⟩) (fun _ hq => by cases hq) dX5_placeOfFigure_27

/-! X5_takesValue -/
set_option maxHeartbeats 4000000 in
set_option maxRecDepth 100000 in
theorem c_X5_takesValue (l : Launch) (D : va_G) (y : ClassId × ClassId × ClassId × ClassId) (a a_told a_told_values : Nat) (v_items : Int32) (v_item : Int32) (v_figures : Int32) (v_told_size : Int32) (v_told_values : Nat → Int32) (x1 : Int32) (sz : Nat) (A : Nat → Prop) (hAe : va_A [(a, .inr (2, [.ref a_told, .int v_items, .int v_item, .int v_figures])), (a_told, .inr (3, [.int v_told_size, .ref a_told_values])), (a_told_values, .inl (y.1, 20, .inl v_told_values))] sz = A) (K : Int32 → ((Nat → Int32)) → Prop) (h : sat (m_X5_takesValue v_item v_figures v_told_size v_told_values x1) (pK K)) : Met l yX5_takesValue wsX5_takesValue ({ frames := 2, cells := 0, slots := 0, locals := 42 } : Room) (pW D y ([.ref a, .int x1] : List Value) [(a, .inr (2, [.ref a_told, .int v_items, .int v_item, .int v_figures])), (a_told, .inr (3, [.int v_told_size, .ref a_told_values])), (a_told_values, .inl (y.1, 20, .inl v_told_values))] sz) (va_Qi K (bW D y A (fun u : ((Nat → Int32)) => [(a, .inr (2, [.ref a_told, .int v_items, .int v_item, .int v_figures])), (a_told, .inr (3, [.int v_told_size, .ref a_told_values])), (a_told_values, .inl (y.1, 20, .inl u))])) A) 0 0 A := by
  refine Met.ofW (cc := cX5_takesValue) (maxL := 2) (ret := (some .boolean)) (by decide) rfl ?_
  intro p e s m args below meth c s₁ B hml hv
  obtain ⟨rfl, hsz, hP, hK, hD0⟩ := hv
  have hx := B.exec
  have hb := B.bytes
  have hr := B.returns
  have hts := atoms_spec (ws := wsX5_takesValue) B.pre
  have hown : s.vm.findClass RX5 = some m.cls := findClass_of_methodNamed B.named
  have hlocks := B.notSynchronized
  subst hsz
  have hD : va_D A [(a, .inr (2, [.ref a_told, .int v_items, .int v_item, .int v_figures])), (a_told, .inr (3, [.int v_told_size, .ref a_told_values])), (a_told_values, .inl (y.1, 20, .inl v_told_values))] := hAe ▸ hD0.self
  have hA : ∀ q : Nat, s.heap.size ≤ q → A q := fun q h => hAe ▸ Or.inr h
  have hS : va_S A s.heap s.heap [] := va_S.rf
  have iX5 : ∀ w ∈ wsX50, w ∈ wsX5_takesValue := by decide +kernel
  have fl10 := hts (.fieldLink RX5 10 "AlgebraLaws$Reader" "told" "LAlgebraLaws$Tables;") (by decide +kernel)
  have fl24 := hts (.fieldLink RX5 24 "AlgebraLaws$Reader" "item" "I") (by decide +kernel)
  have fl41 := hts (.fieldLink RX5 41 "AlgebraLaws$Reader" "figures" "I") (by decide +kernel)
  have hl := lv_entry ([.ref a, .int x1] : List Value) (n := 2) (Nat.le_of_ble_eq_true rfl)
  rw [lg_entry_eq]
  generalize (lg_sl ([.ref a, .int x1] : List Value) ++ List.replicate (2 - (lg_sl ([.ref a, .int x1] : List Value)).length) Slot.unset).toArray = ls at hl ⊢
  have hl : lv_has ls 2 [(0, .ref a), (1, .int x1)] := hl
  have hJ40 : ∀ (t1_40 : Int32) (v_told_values_40 : Nat → Int32) (ls : Array Slot) (H : Heap) (locs : List Loc), sat (m_X5_takesValue_j40 x1 t1_40 v_told_values_40) (pK K) → lv_has ls 2 [(1, .int x1)] → va_P D vwCl [(a, .inr (2, [.ref a_told, .int v_items, .int v_item, .int v_figures])), (a_told, .inr (3, [.int v_told_size, .ref a_told_values])), (a_told_values, .inl (y.1, 20, .inl v_told_values_40))] H → va_D A [(a, .inr (2, [.ref a_told, .int v_items, .int v_item, .int v_figures])), (a_told, .inr (3, [.int v_told_size, .ref a_told_values])), (a_told_values, .inl (y.1, 20, .inl v_told_values_40))] → va_S A s.heap H locs → W p l e (headSpec wsX5_takesValue ({ frames := 2, cells := 0, slots := 0, locals := 42 } : Room)).room s m ([.ref a, .int x1] : List Value).toArray below meth c H locs 0 0 (MQ below (va_Qi K (bW D y A (fun u : ((Nat → Int32)) => [(a, .inr (2, [.ref a_told, .int v_items, .int v_item, .int v_figures])), (a_told, .inr (3, [.int v_told_size, .ref a_told_values])), (a_told_values, .inl (y.1, 20, .inl u))])) A) ([.ref a, .int x1] : List Value).toArray s 0 0 A) (F0 m 40 ls [.int t1_40, .ref a_told]) := by
    intro t1_40 v_told_values_40 ls H locs h hl hP hD hS
    unfold m_X5_takesValue_j40 at h
    refine lv_iload_n hx hb dX5_takesValue_40 rfl (lv_at hl 0 rfl) ?_
    refine cw_v (wn := fun u1 => [(a, .inr (2, [.ref a_told, .int v_items, .int v_item, .int v_figures])), (a_told, .inr (3, [.int v_told_size, .ref a_told_values])), (a_told_values, .inl (y.1, 20, .inl u1))]) (wr := [(a, .inr (2, [.ref a_told, .int v_items, .int v_item, .int v_figures]))]) (wv (As := [.int t1_40, .int x1]) (rest := []) ⟨hx, hb, hml, hown, hts⟩ (c_X6_put l D y a_told a_told_values v_told_size v_told_values_40 t1_40 x1 _ _ rfl _ (sat_bind h)) (cwV 2 hts gX5_takesValue_X6_put rfl rfl rfl (by decide +kernel) ⟨Nat.le_of_ble_eq_true rfl, Nat.le_of_ble_eq_true rfl⟩) hK hP hD [1, 2] rfl rfl rfl 1 3 rfl rfl rfl rfl hl.1 rfl (Nat.le_of_ble_eq_true rfl) dX5_takesValue_41 ⟨Nat.zero_le _, Nat.zero_le _⟩) hS hP hD hA [1, 2] [0] [0, 1, 2] rfl rfl rfl (by decide) (fun _ => rfl) rfl (fun _ => rfl) (fun u1 H locs h hP hD hS => ?_)
    refine lv_iconst (v := 1) hx hb dX5_takesValue_44 (by decide) ?_
    have h := sat_some h
    exact W.zret (v := 1) hx hb hr rfl (fun t ht hW => ⟨⟨1, u1, rfl, h, by rw [ht]; exact hP, va_K.moved hW.alike hK, hD⟩, hS.F ht⟩) hS.2.2 dX5_takesValue_45
  unfold m_X5_takesValue at h
  refine lv_aload_n hx hb dX5_takesValue_0 rfl (lv_at hl 0 rfl) ?_
  refine va_get (D := D) (ci := 2) (v := .ref a_told) (C := RX5) (T := TX5) (N := 4) hx hb hts iX5 hown hK hP 0 rfl rfl 0 (by decide) fl10 (fun _ h9 => h9) rfl dX5_takesValue_1 ?_
  refine lv_iload_n hx hb dX5_takesValue_4 rfl (lv_at hl 1 rfl) ?_
  refine cr_i (rv (As := [.int x1]) (rest := []) ⟨hx, hb, hml, hown, hts⟩ (c_X6_has l D y a_told a_told_values v_told_size x1 _ (sat_bind h)) (cwV 1 hts gX5_takesValue_X6_has rfl rfl rfl (by decide +kernel) ⟨Nat.le_of_ble_eq_true rfl, Nat.le_of_ble_eq_true rfl⟩) hK hP [1] rfl 1 3 rfl rfl rfl rfl hl.1 rfl (Nat.le_of_ble_eq_true rfl) dX5_takesValue_5 ⟨Nat.zero_le _, Nat.zero_le _⟩) (fun r2 h => ?_)
  refine lv_if_ne (tgt := 13) hx hb dX5_takesValue_8 (by decide) (fun c8 => ?_) (fun c8 => ?_)
  · have h := sat_f c8 h
    refine lv_aload_n hx hb dX5_takesValue_13 rfl (lv_at hl 0 rfl) ?_
    refine va_get (D := D) (ci := 2) (v := .ref a_told) (C := RX5) (T := TX5) (N := 4) hx hb hts iX5 hown hK hP 0 rfl rfl 0 (by decide) fl10 (fun _ h9 => h9) rfl dX5_takesValue_14 ?_
    refine lv_aload_n hx hb dX5_takesValue_17 rfl (lv_at hl 0 rfl) ?_
    refine va_get (D := D) (ci := 2) (v := .int v_item) (C := RX5) (T := TX5) (N := 4) hx hb hts iX5 hown hK hP 0 rfl rfl 2 (by decide) fl24 (fun _ h9 => h9) rfl dX5_takesValue_18 ?_
    refine lv_bipush (v := 103) hx hb dX5_takesValue_21 (by decide) ?_
    refine lv_icmp_ne (tgt := 36) hx hb dX5_takesValue_23 (by decide) (fun c23 => ?_) (fun c23 => ?_)
    · have h := sat_f c23 h
      refine lv_aload_n hx hb dX5_takesValue_36 rfl (lv_at hl 0 rfl) ?_
      refine cr_i (rv (As := []) (rest := [.ref a_told]) ⟨hx, hb, hml, hown, hts⟩ (c_X5_placeOfFigure l D y a a_told a_told_values v_items v_item v_figures v_told_size _ (sat_bind h)) (cwV 0 hts gX5_takesValue_X5_placeOfFigure rfl rfl rfl (by decide +kernel) ⟨Nat.le_of_ble_eq_true rfl, Nat.le_of_ble_eq_true rfl⟩) hK hP [0, 1] rfl 0 2 rfl rfl rfl rfl hl.1 rfl (Nat.le_of_ble_eq_true rfl) dX5_takesValue_37 ⟨Nat.zero_le _, Nat.zero_le _⟩) (fun r3 h => ?_)
      exact hJ40 r3 v_told_values ls s.heap [] h (lv_sub hl [1] rfl) hP hD hS
    · have h := sat_t c23 h
      refine lv_aload_n hx hb dX5_takesValue_26 rfl (lv_at hl 0 rfl) ?_
      refine va_get (D := D) (ci := 2) (v := .int v_figures) (C := RX5) (T := TX5) (N := 4) hx hb hts iX5 hown hK hP 0 rfl rfl 3 (by decide) fl41 (fun _ h9 => h9) rfl dX5_takesValue_27 ?_
      refine cr_i (rs (As := [.int v_figures]) (rest := [.ref a_told]) ⟨hx, hb, hml, hown, hts⟩ (c_X6_placeOfOne l D y v_figures _ (sat_bind h)) (va_cwS 1 hts gX5_takesValue_X6_placeOfOne rfl rfl rfl (by decide +kernel) ⟨Nat.le_of_ble_eq_true rfl, Nat.le_of_ble_eq_true rfl⟩) hK hP [] rfl rfl hl.1 rfl (Nat.le_of_ble_eq_true rfl) dX5_takesValue_30 ⟨Nat.zero_le _, Nat.zero_le _⟩) (fun r4 h => ?_)
      refine lv_goto (tgt := 40) hx hb dX5_takesValue_33 (by decide) ?_
      exact hJ40 r4 v_told_values ls s.heap [] h (lv_sub hl [1] rfl) hP hD hS
  · have h := sat_t c8 h
    refine lv_iconst (v := 0) hx hb dX5_takesValue_11 (by decide) ?_
    have h := sat_some h
    exact W.zret (v := 0) hx hb hr rfl (fun t ht hW => ⟨⟨0, v_told_values, rfl, h, by rw [ht]; exact hP, va_K.moved hW.alike hK, hD⟩, hS.F ht⟩) hS.2.2 dX5_takesValue_12

/-! X5_takesFigure -/
set_option maxHeartbeats 4000000 in
set_option maxRecDepth 100000 in
theorem c_X5_takesFigure (l : Launch) (D : va_G) (y : ClassId × ClassId × ClassId × ClassId) (a a_told a_told_values : Nat) (v_items : Int32) (v_item : Int32) (v_figures : Int32) (v_told_size : Int32) (v_told_values : Nat → Int32) (x1 : Int32) (sz : Nat) (A : Nat → Prop) (hAe : va_A [(a, .inr (2, [.ref a_told, .int v_items, .int v_item, .int v_figures])), (a_told, .inr (3, [.int v_told_size, .ref a_told_values])), (a_told_values, .inl (y.1, 20, .inl v_told_values))] sz = A) (K : Int32 → (Int32 × Int32 × (Nat → Int32)) → Prop) (h : sat (m_X5_takesFigure v_item v_figures v_told_size v_told_values x1) (pK K)) : Met l yX5_takesFigure wsX5_takesFigure ({ frames := 3, cells := 0, slots := 0, locals := 65 } : Room) (pW D y ([.ref a, .int x1] : List Value) [(a, .inr (2, [.ref a_told, .int v_items, .int v_item, .int v_figures])), (a_told, .inr (3, [.int v_told_size, .ref a_told_values])), (a_told_values, .inl (y.1, 20, .inl v_told_values))] sz) (va_Qi K (bW D y A (fun u : (Int32 × Int32 × (Nat → Int32)) => [(a, .inr (2, [.ref a_told, .int v_items, .int v_item, .int u.1])), (a_told, .inr (3, [.int u.2.1, .ref a_told_values])), (a_told_values, .inl (y.1, 20, .inl u.2.2))])) A) 0 0 A := by
  refine Met.ofW (cc := cX5_takesFigure) (maxL := 3) (ret := (some .boolean)) (by decide) rfl ?_
  intro p e s m args below meth c s₁ B hml hv
  obtain ⟨rfl, hsz, hP, hK, hD0⟩ := hv
  have hx := B.exec
  have hb := B.bytes
  have hr := B.returns
  have hts := atoms_spec (ws := wsX5_takesFigure) B.pre
  have hown : s.vm.findClass RX5 = some m.cls := findClass_of_methodNamed B.named
  have hlocks := B.notSynchronized
  subst hsz
  have hD : va_D A [(a, .inr (2, [.ref a_told, .int v_items, .int v_item, .int v_figures])), (a_told, .inr (3, [.int v_told_size, .ref a_told_values])), (a_told_values, .inl (y.1, 20, .inl v_told_values))] := hAe ▸ hD0.self
  have hA : ∀ q : Nat, s.heap.size ≤ q → A q := fun q h => hAe ▸ Or.inr h
  have hS : va_S A s.heap s.heap [] := va_S.rf
  have iX5 : ∀ w ∈ wsX50, w ∈ wsX5_takesFigure := by decide +kernel
  have fl41 := hts (.fieldLink RX5 41 "AlgebraLaws$Reader" "figures" "I") (by decide +kernel)
  have fl24 := hts (.fieldLink RX5 24 "AlgebraLaws$Reader" "item" "I") (by decide +kernel)
  have hl := lv_entry ([.ref a, .int x1] : List Value) (n := 3) (Nat.le_of_ble_eq_true rfl)
  rw [lg_entry_eq]
  generalize (lg_sl ([.ref a, .int x1] : List Value) ++ List.replicate (3 - (lg_sl ([.ref a, .int x1] : List Value)).length) Slot.unset).toArray = ls at hl ⊢
  have hl : lv_has ls 3 [(0, .ref a), (1, .int x1)] := hl
  have hJ35 : ∀ (t0_35 : Int32) (v_figures_35 : Int32) (v_told_size_35 : Int32) (v_told_values_35 : Nat → Int32) (ls : Array Slot) (H : Heap) (locs : List Loc), sat (m_X5_takesFigure_j35 t0_35 v_figures_35 v_told_size_35 v_told_values_35) (pK K) → lv_has ls 3 [(0, .ref a)] → va_P D vwCl [(a, .inr (2, [.ref a_told, .int v_items, .int v_item, .int v_figures_35])), (a_told, .inr (3, [.int v_told_size_35, .ref a_told_values])), (a_told_values, .inl (y.1, 20, .inl v_told_values_35))] H → va_D A [(a, .inr (2, [.ref a_told, .int v_items, .int v_item, .int v_figures_35])), (a_told, .inr (3, [.int v_told_size_35, .ref a_told_values])), (a_told_values, .inl (y.1, 20, .inl v_told_values_35))] → va_S A s.heap H locs → W p l e (headSpec wsX5_takesFigure ({ frames := 3, cells := 0, slots := 0, locals := 65 } : Room)).room s m ([.ref a, .int x1] : List Value).toArray below meth c H locs 0 0 (MQ below (va_Qi K (bW D y A (fun u : (Int32 × Int32 × (Nat → Int32)) => [(a, .inr (2, [.ref a_told, .int v_items, .int v_item, .int u.1])), (a_told, .inr (3, [.int u.2.1, .ref a_told_values])), (a_told_values, .inl (y.1, 20, .inl u.2.2))])) A) ([.ref a, .int x1] : List Value).toArray s 0 0 A) (F0 m 35 ls [.int t0_35]) := by
    intro t0_35 v_figures_35 v_told_size_35 v_told_values_35 ls H locs h hl hP hD hS
    unfold m_X5_takesFigure_j35 at h
    refine lv_istore_n (lv' := [(2, .int t0_35), (0, .ref a)]) hx hb dX5_takesFigure_35 rfl hl (by decide) rfl (fun ls hl => ?_)
    refine lv_iload_n hx hb dX5_takesFigure_36 rfl (lv_at hl 0 rfl) ?_
    refine lv_if_eq (tgt := 50) hx hb dX5_takesFigure_37 (by decide) (fun c37 => ?_) (fun c37 => ?_)
    · have h := sat_t c37 h
      refine lv_iload_n hx hb dX5_takesFigure_50 rfl (lv_at hl 0 rfl) ?_
      obtain ⟨hz, h⟩ := sat_gd h
      have h := sat_some h
      exact W.zret (v := t0_35) hx hb hr (zn hz) (fun t ht hW => ⟨⟨t0_35, (v_figures_35, v_told_size_35, v_told_values_35), rfl, h, by rw [ht]; exact hP, va_K.moved hW.alike hK, hD⟩, hS.F ht⟩) hS.2.2 dX5_takesFigure_51
    · have h := sat_f c37 h
      refine lv_aload_n hx hb dX5_takesFigure_40 rfl (lv_at hl 1 rfl) ?_
      refine lv_dup hx hb dX5_takesFigure_41 rfl ?_
      refine va_get (D := D) (ci := 2) (v := .int v_figures_35) (C := RX5) (T := TX5) (N := 4) hx hb hts iX5 hown hK hP 0 rfl rfl 3 (by decide) fl41 (fun _ h9 => h9) rfl dX5_takesFigure_42 ?_
      refine lv_iconst (v := 1) hx hb dX5_takesFigure_45 (by decide) ?_
      refine lv_iadd hx hb dX5_takesFigure_46 ?_
      refine pf (D := D) (ci := 2) (v := .int (v_figures_35 + 1)) (ty := .int) (C := RX5) (T := TX5) (N := 4) (wn := [(a, .inr (2, [.ref a_told, .int v_items, .int v_item, .int (v_figures_35 + 1)])), (a_told, .inr (3, [.int v_told_size_35, .ref a_told_values])), (a_told_values, .inl (y.1, 20, .inl v_told_values_35))]) hx hb hts iX5 tyX5 tyX5_ok nmX5 hown hK hP hD hS 0 rfl rfl 3 (by decide) fl41 (fun _ h9 => h9) rfl (by decide +kernel) rfl rfl (Nat.le_of_ble_eq_true rfl) dX5_takesFigure_47 rfl (fun H locs hP hD hS => ?_)
      refine lv_iload_n hx hb dX5_takesFigure_50 rfl (lv_at hl 0 rfl) ?_
      obtain ⟨hz, h⟩ := sat_gd h
      have h := sat_some h
      exact W.zret (v := t0_35) hx hb hr (zn hz) (fun t ht hW => ⟨⟨t0_35, (v_figures_35 + 1, v_told_size_35, v_told_values_35), rfl, h, by rw [ht]; exact hP, va_K.moved hW.alike hK, hD⟩, hS.F ht⟩) hS.2.2 dX5_takesFigure_51
  unfold m_X5_takesFigure at h
  refine lv_aload_n hx hb dX5_takesFigure_0 rfl (lv_at hl 0 rfl) ?_
  refine va_get (D := D) (ci := 2) (v := .int v_figures) (C := RX5) (T := TX5) (N := 4) hx hb hts iX5 hown hK hP 0 rfl rfl 3 (by decide) fl41 (fun _ h9 => h9) rfl dX5_takesFigure_1 ?_
  refine lv_aload_n hx hb dX5_takesFigure_4 rfl (lv_at hl 0 rfl) ?_
  refine cr_i (rv (As := []) (rest := [.int v_figures]) ⟨hx, hb, hml, hown, hts⟩ (c_X5_figuresDue l D y a a_told a_told_values v_items v_item v_figures v_told_size _ (sat_bind h)) (cwV 0 hts gX5_takesFigure_X5_figuresDue rfl rfl rfl (by decide +kernel) ⟨Nat.le_of_ble_eq_true rfl, Nat.le_of_ble_eq_true rfl⟩) hK hP [0, 1] rfl 0 2 rfl rfl rfl rfl hl.1 rfl (Nat.le_of_ble_eq_true rfl) dX5_takesFigure_5 ⟨Nat.zero_le _, Nat.zero_le _⟩) (fun r1 h => ?_)
  refine lv_icmp_lt (tgt := 13) hx hb dX5_takesFigure_8 (by decide) (fun c8 => ?_) (fun c8 => ?_)
  · have h := sat_t c8 h
    refine lv_aload_n hx hb dX5_takesFigure_13 rfl (lv_at hl 0 rfl) ?_
    refine va_get (D := D) (ci := 2) (v := .int v_item) (C := RX5) (T := TX5) (N := 4) hx hb hts iX5 hown hK hP 0 rfl rfl 2 (by decide) fl24 (fun _ h9 => h9) rfl dX5_takesFigure_14 ?_
    refine lv_bipush (v := 110) hx hb dX5_takesFigure_17 (by decide) ?_
    refine lv_icmp_ne (tgt := 30) hx hb dX5_takesFigure_19 (by decide) (fun c19 => ?_) (fun c19 => ?_)
    · have h := sat_f c19 h
      refine lv_aload_n hx hb dX5_takesFigure_30 rfl (lv_at hl 0 rfl) ?_
      refine lv_iload_n hx hb dX5_takesFigure_31 rfl (lv_at hl 1 rfl) ?_
      refine cw_i (wn := fun u2 => [(a, .inr (2, [.ref a_told, .int v_items, .int v_item, .int v_figures])), (a_told, .inr (3, [.int v_told_size, .ref a_told_values])), (a_told_values, .inl (y.1, 20, .inl u2))]) (wr := []) (wv (As := [.int x1]) (rest := []) ⟨hx, hb, hml, hown, hts⟩ (c_X5_takesValue l D y a a_told a_told_values v_items v_item v_figures v_told_size v_told_values x1 _ _ rfl _ (sat_bd2 h)) (cwV 1 hts gX5_takesFigure_X5_takesValue rfl rfl rfl (by decide +kernel) ⟨Nat.le_of_ble_eq_true rfl, Nat.le_of_ble_eq_true rfl⟩) hK hP hD [0, 1, 2] rfl rfl rfl 0 2 rfl rfl rfl rfl hl.1 rfl (Nat.le_of_ble_eq_true rfl) dX5_takesFigure_32 ⟨Nat.zero_le _, Nat.zero_le _⟩) hS hP hD hA [0, 1, 2] [] [0, 1, 2] rfl rfl rfl (by decide) (fun _ => rfl) rfl (fun _ => rfl) (fun r3 u2 H locs h hP hD hS => ?_)
      exact hJ35 r3 v_figures v_told_size u2 ls H locs h (lv_sub hl [0] rfl) hP hD hS
    · have h := sat_t c19 h
      refine lv_aload_n hx hb dX5_takesFigure_22 rfl (lv_at hl 0 rfl) ?_
      refine lv_iload_n hx hb dX5_takesFigure_23 rfl (lv_at hl 1 rfl) ?_
      refine cw_i (wn := fun u4 => [(a, .inr (2, [.ref a_told, .int v_items, .int v_item, .int v_figures])), (a_told, .inr (3, [.int u4.1, .ref a_told_values])), (a_told_values, .inl (y.1, 20, .inl u4.2))]) (wr := []) (wv (As := [.int x1]) (rest := []) ⟨hx, hb, hml, hown, hts⟩ (c_X5_takesSize l D y a a_told a_told_values v_items v_item v_figures v_told_size v_told_values x1 _ _ rfl _ (sat_bd2 h)) (cwV 1 hts gX5_takesFigure_X5_takesSize rfl rfl rfl (by decide +kernel) ⟨Nat.le_of_ble_eq_true rfl, Nat.le_of_ble_eq_true rfl⟩) hK hP hD [0, 1, 2] rfl rfl rfl 0 2 rfl rfl rfl rfl hl.1 rfl (Nat.le_of_ble_eq_true rfl) dX5_takesFigure_24 ⟨Nat.zero_le _, Nat.zero_le _⟩) hS hP hD hA [0, 1, 2] [] [0, 1, 2] rfl rfl rfl (by decide) (fun _ => rfl) rfl (fun _ => rfl) (fun r5 u4 H locs h hP hD hS => ?_)
      refine lv_goto (tgt := 35) hx hb dX5_takesFigure_27 (by decide) ?_
      exact hJ35 r5 v_figures u4.1 u4.2 ls H locs h (lv_sub hl [0] rfl) hP hD hS
  · have h := sat_f c8 h
    refine lv_iconst (v := 0) hx hb dX5_takesFigure_11 (by decide) ?_
    have h := sat_some h
    exact W.zret (v := 0) hx hb hr rfl (fun t ht hW => ⟨⟨0, (v_figures, v_told_size, v_told_values), rfl, h, by rw [ht]; exact hP, va_K.moved hW.alike hK, hD⟩, hS.F ht⟩) hS.2.2 dX5_takesFigure_12

/-! X5_takes -/
set_option maxHeartbeats 4000000 in
set_option maxRecDepth 100000 in
theorem c_X5_takes (l : Launch) (D : va_G) (y : ClassId × ClassId × ClassId × ClassId) (a a_told a_told_values : Nat) (v_items : Int32) (v_item : Int32) (v_figures : Int32) (v_told_size : Int32) (v_told_values : Nat → Int32) (x1 : Int32) (sz : Nat) (A : Nat → Prop) (hAe : va_A [(a, .inr (2, [.ref a_told, .int v_items, .int v_item, .int v_figures])), (a_told, .inr (3, [.int v_told_size, .ref a_told_values])), (a_told_values, .inl (y.1, 20, .inl v_told_values))] sz = A) (K : Int32 → (Int32 × Int32 × Int32 × Int32 × (Nat → Int32)) → Prop) (h : sat (m_X5_takes v_items v_item v_figures v_told_size v_told_values x1) (pK K)) : Met l yX5_takes wsX5_takes ({ frames := 4, cells := 0, slots := 0, locals := 87 } : Room) (pW D y ([.ref a, .int x1] : List Value) [(a, .inr (2, [.ref a_told, .int v_items, .int v_item, .int v_figures])), (a_told, .inr (3, [.int v_told_size, .ref a_told_values])), (a_told_values, .inl (y.1, 20, .inl v_told_values))] sz) (va_Qi K (bW D y A (fun u : (Int32 × Int32 × Int32 × Int32 × (Nat → Int32)) => [(a, .inr (2, [.ref a_told, .int u.1, .int u.2.1, .int u.2.2.1])), (a_told, .inr (3, [.int u.2.2.2.1, .ref a_told_values])), (a_told_values, .inl (y.1, 20, .inl u.2.2.2.2))])) A) 0 0 A := by
  refine Met.ofW (cc := cX5_takes) (maxL := 2) (ret := (some .boolean)) (by decide) rfl ?_
  intro p e s m args below meth c s₁ B hml hv
  obtain ⟨rfl, hsz, hP, hK, hD0⟩ := hv
  have hx := B.exec
  have hb := B.bytes
  have hr := B.returns
  have hts := atoms_spec (ws := wsX5_takes) B.pre
  have hown : s.vm.findClass RX5 = some m.cls := findClass_of_methodNamed B.named
  have hlocks := B.notSynchronized
  subst hsz
  have hD : va_D A [(a, .inr (2, [.ref a_told, .int v_items, .int v_item, .int v_figures])), (a_told, .inr (3, [.int v_told_size, .ref a_told_values])), (a_told_values, .inl (y.1, 20, .inl v_told_values))] := hAe ▸ hD0.self
  have hA : ∀ q : Nat, s.heap.size ≤ q → A q := fun q h => hAe ▸ Or.inr h
  have hS : va_S A s.heap s.heap [] := va_S.rf
  have iX5 : ∀ w ∈ wsX50, w ∈ wsX5_takes := by decide +kernel
  have fl24 := hts (.fieldLink RX5 24 "AlgebraLaws$Reader" "item" "I") (by decide +kernel)
  have hl := lv_entry ([.ref a, .int x1] : List Value) (n := 2) (Nat.le_of_ble_eq_true rfl)
  rw [lg_entry_eq]
  generalize (lg_sl ([.ref a, .int x1] : List Value) ++ List.replicate (2 - (lg_sl ([.ref a, .int x1] : List Value)).length) Slot.unset).toArray = ls at hl ⊢
  have hl : lv_has ls 2 [(0, .ref a), (1, .int x1)] := hl
  unfold m_X5_takes at h
  refine lv_aload_n hx hb dX5_takes_0 rfl (lv_at hl 0 rfl) ?_
  refine va_get (D := D) (ci := 2) (v := .int v_item) (C := RX5) (T := TX5) (N := 4) hx hb hts iX5 hown hK hP 0 rfl rfl 2 (by decide) fl24 (fun _ h9 => h9) rfl dX5_takes_1 ?_
  refine lv_if_ne (tgt := 13) hx hb dX5_takes_4 (by decide) (fun c4 => ?_) (fun c4 => ?_)
  · have h := sat_f c4 h
    refine lv_iload_n hx hb dX5_takes_13 rfl (lv_at hl 1 rfl) ?_
    refine lv_bipush (v := 59) hx hb dX5_takes_14 (by decide) ?_
    refine lv_icmp_ne (tgt := 24) hx hb dX5_takes_16 (by decide) (fun c16 => ?_) (fun c16 => ?_)
    · have h := sat_f c16 h
      refine lv_iload_n hx hb dX5_takes_24 rfl (lv_at hl 1 rfl) ?_
      refine lv_bipush (v := 48) hx hb dX5_takes_25 (by decide) ?_
      refine lv_icmp_lt (tgt := 51) hx hb dX5_takes_27 (by decide) (fun c27 => ?_) (fun c27 => ?_)
      · have h := sat_t c27 h
        refine lv_iconst (v := 0) hx hb dX5_takes_51 (by decide) ?_
        have h := sat_some h
        exact W.zret (v := 0) hx hb hr rfl (fun t ht hW => ⟨⟨0, (v_items, v_item, v_figures, v_told_size, v_told_values), rfl, h, by rw [ht]; exact hP, va_K.moved hW.alike hK, hD⟩, hS.F ht⟩) hS.2.2 dX5_takes_52
      · have h := sat_f c27 h
        refine lv_iload_n hx hb dX5_takes_30 rfl (lv_at hl 1 rfl) ?_
        refine lv_bipush (v := 57) hx hb dX5_takes_31 (by decide) ?_
        refine lv_icmp_gt (tgt := 51) hx hb dX5_takes_33 (by decide) (fun c33 => ?_) (fun c33 => ?_)
        · have h := sat_t c33 h
          refine lv_iconst (v := 0) hx hb dX5_takes_51 (by decide) ?_
          have h := sat_some h
          exact W.zret (v := 0) hx hb hr rfl (fun t ht hW => ⟨⟨0, (v_items, v_item, v_figures, v_told_size, v_told_values), rfl, h, by rw [ht]; exact hP, va_K.moved hW.alike hK, hD⟩, hS.F ht⟩) hS.2.2 dX5_takes_52
        · have h := sat_f c33 h
          refine lv_aload_n hx hb dX5_takes_36 rfl (lv_at hl 0 rfl) ?_
          refine lv_iload_n hx hb dX5_takes_37 rfl (lv_at hl 1 rfl) ?_
          refine lv_bipush (v := 48) hx hb dX5_takes_38 (by decide) ?_
          refine lv_isub hx hb dX5_takes_40 ?_
          refine cw_i (wn := fun u1 => [(a, .inr (2, [.ref a_told, .int v_items, .int v_item, .int u1.1])), (a_told, .inr (3, [.int u1.2.1, .ref a_told_values])), (a_told_values, .inl (y.1, 20, .inl u1.2.2))]) (wr := []) (wv (As := [.int (x1 - 48)]) (rest := []) ⟨hx, hb, hml, hown, hts⟩ (c_X5_takesFigure l D y a a_told a_told_values v_items v_item v_figures v_told_size v_told_values (x1 - 48) _ _ rfl _ (sat_bd2 h)) (cwV 1 hts gX5_takes_X5_takesFigure rfl rfl rfl (by decide +kernel) ⟨Nat.le_of_ble_eq_true rfl, Nat.le_of_ble_eq_true rfl⟩) hK hP hD [0, 1, 2] rfl rfl rfl 0 2 rfl rfl rfl rfl hl.1 rfl (Nat.le_of_ble_eq_true rfl) dX5_takes_41 ⟨Nat.zero_le _, Nat.zero_le _⟩) hS hP hD hA [0, 1, 2] [] [0, 1, 2] rfl rfl rfl (by decide) (fun _ => rfl) rfl (fun _ => rfl) (fun r2 u1 H locs h hP hD hS => ?_)
          refine lv_if_eq (tgt := 51) hx hb dX5_takes_44 (by decide) (fun c44 => ?_) (fun c44 => ?_)
          · have h := sat_t c44 h
            refine lv_iconst (v := 0) hx hb dX5_takes_51 (by decide) ?_
            have h := sat_some h
            exact W.zret (v := 0) hx hb hr rfl (fun t ht hW => ⟨⟨0, (v_items, v_item, u1.1, u1.2.1, u1.2.2), rfl, h, by rw [ht]; exact hP, va_K.moved hW.alike hK, hD⟩, hS.F ht⟩) hS.2.2 dX5_takes_52
          · have h := sat_f c44 h
            refine lv_iconst (v := 1) hx hb dX5_takes_47 (by decide) ?_
            refine lv_goto (tgt := 52) hx hb dX5_takes_48 (by decide) ?_
            have h := sat_some h
            exact W.zret (v := 1) hx hb hr rfl (fun t ht hW => ⟨⟨1, (v_items, v_item, u1.1, u1.2.1, u1.2.2), rfl, h, by rw [ht]; exact hP, va_K.moved hW.alike hK, hD⟩, hS.F ht⟩) hS.2.2 dX5_takes_52
    · have h := sat_t c16 h
      refine lv_aload_n hx hb dX5_takes_19 rfl (lv_at hl 0 rfl) ?_
      refine cw_i (wn := fun u3 => [(a, .inr (2, [.ref a_told, .int u3.1, .int u3.2, .int v_figures])), (a_told, .inr (3, [.int v_told_size, .ref a_told_values])), (a_told_values, .inl (y.1, 20, .inl v_told_values))]) (wr := [(a_told_values, .inl (y.1, 20, .inl v_told_values))]) (wv (As := []) (rest := []) ⟨hx, hb, hml, hown, hts⟩ (c_X5_ends l D y a a_told a_told_values v_items v_item v_figures v_told_size _ _ rfl _ (sat_bd2 h)) (cwV 0 hts gX5_takes_X5_ends rfl rfl rfl (by decide +kernel) ⟨Nat.le_of_ble_eq_true rfl, Nat.le_of_ble_eq_true rfl⟩) hK hP hD [0, 1] rfl rfl rfl 0 2 rfl rfl rfl rfl hl.1 rfl (Nat.le_of_ble_eq_true rfl) dX5_takes_20 ⟨Nat.zero_le _, Nat.zero_le _⟩) hS hP hD hA [0, 1] [2] [1, 2, 0] rfl rfl rfl (by decide) (fun _ => rfl) rfl (fun _ => rfl) (fun r4 u3 H locs h hP hD hS => ?_)
      obtain ⟨hz, h⟩ := sat_gd h
      have h := sat_some h
      exact W.zret (v := r4) hx hb hr (zn hz) (fun t ht hW => ⟨⟨r4, (u3.1, u3.2, v_figures, v_told_size, v_told_values), rfl, h, by rw [ht]; exact hP, va_K.moved hW.alike hK, hD⟩, hS.F ht⟩) hS.2.2 dX5_takes_23
  · have h := sat_t c4 h
    refine lv_aload_n hx hb dX5_takes_7 rfl (lv_at hl 0 rfl) ?_
    refine lv_iload_n hx hb dX5_takes_8 rfl (lv_at hl 1 rfl) ?_
    refine cw_i (wn := fun u5 => [(a, .inr (2, [.ref a_told, .int v_items, .int u5.1, .int u5.2])), (a_told, .inr (3, [.int v_told_size, .ref a_told_values])), (a_told_values, .inl (y.1, 20, .inl v_told_values))]) (wr := [(a_told, .inr (3, [.int v_told_size, .ref a_told_values])), (a_told_values, .inl (y.1, 20, .inl v_told_values))]) (wv (As := [.int x1]) (rest := []) ⟨hx, hb, hml, hown, hts⟩ (c_X5_opens l D y a a_told v_items v_item v_figures x1 _ _ rfl _ (sat_bd2 h)) (cwV 1 hts gX5_takes_X5_opens rfl rfl rfl (by decide +kernel) ⟨Nat.le_of_ble_eq_true rfl, Nat.le_of_ble_eq_true rfl⟩) hK hP hD [0] rfl rfl rfl 0 2 rfl rfl rfl rfl hl.1 rfl (Nat.le_of_ble_eq_true rfl) dX5_takes_9 ⟨Nat.zero_le _, Nat.zero_le _⟩) hS hP hD hA [0] [1, 2] [2, 0, 1] rfl rfl rfl (by decide) (fun _ => rfl) rfl (fun _ => rfl) (fun r6 u5 H locs h hP hD hS => ?_)
    obtain ⟨hz, h⟩ := sat_gd h
    have h := sat_some h
    exact W.zret (v := r6) hx hb hr (zn hz) (fun t ht hW => ⟨⟨r6, (v_items, u5.1, u5.2, v_told_size, v_told_values), rfl, h, by rw [ht]; exact hP, va_K.moved hW.alike hK, hD⟩, hS.F ht⟩) hS.2.2 dX5_takes_12

/-! X5_faultOf -/
set_option maxHeartbeats 4000000 in
set_option maxRecDepth 100000 in
theorem c_X5_faultOf (l : Launch) (D : va_G) (y : ClassId × ClassId × ClassId × ClassId) (a a_told a_told_values a1 : Nat) (v_items : Int32) (v_item : Int32) (v_figures : Int32) (v_told_size : Int32) (v_told_values : Nat → Int32) (v1 : Nat → Int32) (x2 : Int32) (sz : Nat) (A : Nat → Prop) (hAe : va_A [(a, .inr (2, [.ref a_told, .int v_items, .int v_item, .int v_figures])), (a_told, .inr (3, [.int v_told_size, .ref a_told_values])), (a_told_values, .inl (y.1, 20, .inl v_told_values)), (a1, .inl (y.1, 60, .inl v1))] sz = A) (K : Int32 → (Int32 × Int32 × Int32 × Int32 × (Nat → Int32)) → Prop) (h : sat (m_X5_faultOf v_items v_item v_figures v_told_size v_told_values v1 x2) (pK K)) : Met l yX5_faultOf wsX5_faultOf ({ frames := 5, cells := 0, slots := 0, locals := 108 } : Room) (pW D y ([.ref a, .ref a1, .int x2] : List Value) [(a, .inr (2, [.ref a_told, .int v_items, .int v_item, .int v_figures])), (a_told, .inr (3, [.int v_told_size, .ref a_told_values])), (a_told_values, .inl (y.1, 20, .inl v_told_values)), (a1, .inl (y.1, 60, .inl v1))] sz) (va_Qi K (bW D y A (fun u : (Int32 × Int32 × Int32 × Int32 × (Nat → Int32)) => [(a, .inr (2, [.ref a_told, .int u.1, .int u.2.1, .int u.2.2.1])), (a_told, .inr (3, [.int u.2.2.2.1, .ref a_told_values])), (a_told_values, .inl (y.1, 20, .inl u.2.2.2.2)), (a1, .inl (y.1, 60, .inl v1))])) A) 0 0 A := by
  refine Met.ofW (cc := cX5_faultOf) (maxL := 4) (ret := (some .int)) (by decide) rfl ?_
  intro p e s m args below meth c s₁ B hml hv
  obtain ⟨rfl, hsz, hP, hK, hD0⟩ := hv
  have hx := B.exec
  have hb := B.bytes
  have hr := B.returns
  have hts := atoms_spec (ws := wsX5_faultOf) B.pre
  have hown : s.vm.findClass RX5 = some m.cls := findClass_of_methodNamed B.named
  have hlocks := B.notSynchronized
  subst hsz
  have hD : va_D A [(a, .inr (2, [.ref a_told, .int v_items, .int v_item, .int v_figures])), (a_told, .inr (3, [.int v_told_size, .ref a_told_values])), (a_told_values, .inl (y.1, 20, .inl v_told_values)), (a1, .inl (y.1, 60, .inl v1))] := hAe ▸ hD0.self
  have hA : ∀ q : Nat, s.heap.size ≤ q → A q := fun q h => hAe ▸ Or.inr h
  have hS : va_S A s.heap s.heap [] := va_S.rf
  have iX5 : ∀ w ∈ wsX50, w ∈ wsX5_faultOf := by decide +kernel
  have fl24 := hts (.fieldLink RX5 24 "AlgebraLaws$Reader" "item" "I") (by decide +kernel)
  have fl10 := hts (.fieldLink RX5 10 "AlgebraLaws$Reader" "told" "LAlgebraLaws$Tables;") (by decide +kernel)
  have fl20 := hts (.fieldLink RX5 20 "AlgebraLaws$Reader" "items" "I") (by decide +kernel)
  have hl := lv_entry ([.ref a, .ref a1, .int x2] : List Value) (n := 4) (Nat.le_of_ble_eq_true rfl)
  rw [lg_entry_eq]
  generalize (lg_sl ([.ref a, .ref a1, .int x2] : List Value) ++ List.replicate (4 - (lg_sl ([.ref a, .ref a1, .int x2] : List Value)).length) Slot.unset).toArray = ls at hl ⊢
  have hl : lv_has ls 4 [(0, .ref a), (1, .ref a1), (2, .int x2)] := hl
  have hJ57 : ∀ (v_items_57 : Int32) (v_item_57 : Int32) (v_figures_57 : Int32) (v_told_size_57 : Int32) (v_told_values_57 : Nat → Int32) (ls : Array Slot) (H : Heap) (locs : List Loc), sat (m_X5_faultOf_j57 x2 v_items_57 v_item_57 v_figures_57 v_told_size_57 v_told_values_57) (pK K) → lv_has ls 4 [(0, .ref a), (2, .int x2)] → va_P D vwCl [(a, .inr (2, [.ref a_told, .int v_items_57, .int v_item_57, .int v_figures_57])), (a_told, .inr (3, [.int v_told_size_57, .ref a_told_values])), (a_told_values, .inl (y.1, 20, .inl v_told_values_57)), (a1, .inl (y.1, 60, .inl v1))] H → va_D A [(a, .inr (2, [.ref a_told, .int v_items_57, .int v_item_57, .int v_figures_57])), (a_told, .inr (3, [.int v_told_size_57, .ref a_told_values])), (a_told_values, .inl (y.1, 20, .inl v_told_values_57)), (a1, .inl (y.1, 60, .inl v1))] → va_S A s.heap H locs → W p l e (headSpec wsX5_faultOf ({ frames := 5, cells := 0, slots := 0, locals := 108 } : Room)).room s m ([.ref a, .ref a1, .int x2] : List Value).toArray below meth c H locs 0 0 (MQ below (va_Qi K (bW D y A (fun u : (Int32 × Int32 × Int32 × Int32 × (Nat → Int32)) => [(a, .inr (2, [.ref a_told, .int u.1, .int u.2.1, .int u.2.2.1])), (a_told, .inr (3, [.int u.2.2.2.1, .ref a_told_values])), (a_told_values, .inl (y.1, 20, .inl u.2.2.2.2)), (a1, .inl (y.1, 60, .inl v1))])) A) ([.ref a, .ref a1, .int x2] : List Value).toArray s 0 0 A) (F0 m 57 ls []) := by
    intro v_items_57 v_item_57 v_figures_57 v_told_size_57 v_told_values_57 ls H locs h hl hP hD hS
    unfold m_X5_faultOf_j57 at h
    refine lv_aload_n hx hb dX5_faultOf_57 rfl (lv_at hl 0 rfl) ?_
    refine va_get (D := D) (ci := 2) (v := .int v_item_57) (C := RX5) (T := TX5) (N := 4) hx hb hts iX5 hown hK hP 0 rfl rfl 2 (by decide) fl24 (fun _ h9 => h9) rfl dX5_faultOf_58 ?_
    refine lv_if_ne (tgt := 68) hx hb dX5_faultOf_61 (by decide) (fun c61 => ?_) (fun c61 => ?_)
    · have h := sat_f c61 h
      refine lv_iload_n hx hb dX5_faultOf_68 rfl (lv_at hl 1 rfl) ?_
      have h := sat_some h
      exact W.iret (v := x2) hx hb hr (fun t ht hW => ⟨⟨x2, (v_items_57, v_item_57, v_figures_57, v_told_size_57, v_told_values_57), rfl, h, by rw [ht]; exact hP, va_K.moved hW.alike hK, hD⟩, hS.F ht⟩) hS.2.2 dX5_faultOf_69
    · have h := sat_t c61 h
      refine lv_iconst (v := (-1)) hx hb dX5_faultOf_64 (by decide) ?_
      refine lv_goto (tgt := 69) hx hb dX5_faultOf_65 (by decide) ?_
      have h := sat_some h
      exact W.iret (v := (-1)) hx hb hr (fun t ht hW => ⟨⟨(-1), (v_items_57, v_item_57, v_figures_57, v_told_size_57, v_told_values_57), rfl, h, by rw [ht]; exact hP, va_K.moved hW.alike hK, hD⟩, hS.F ht⟩) hS.2.2 dX5_faultOf_69
  unfold m_X5_faultOf at h
  refine lv_aload_n hx hb dX5_faultOf_0 rfl (lv_at hl 0 rfl) ?_
  refine va_get (D := D) (ci := 2) (v := .ref a_told) (C := RX5) (T := TX5) (N := 4) hx hb hts iX5 hown hK hP 0 rfl rfl 0 (by decide) fl10 (fun _ h9 => h9) rfl dX5_faultOf_1 ?_
  refine lv_iconst (v := 2) hx hb dX5_faultOf_4 (by decide) ?_
  refine cw_v (wn := fun u1 => [(a, .inr (2, [.ref a_told, .int v_items, .int v_item, .int v_figures])), (a_told, .inr (3, [.int u1.1, .ref a_told_values])), (a_told_values, .inl (y.1, 20, .inl u1.2)), (a1, .inl (y.1, 60, .inl v1))]) (wr := [(a, .inr (2, [.ref a_told, .int v_items, .int v_item, .int v_figures])), (a1, .inl (y.1, 60, .inl v1))]) (wv (As := [.int 2]) (rest := []) ⟨hx, hb, hml, hown, hts⟩ (c_X6_startOver l D y a_told a_told_values v_told_size v_told_values 2 _ _ rfl _ (sat_bind h)) (cwV 1 hts gX5_faultOf_X6_startOver rfl rfl rfl (by decide +kernel) ⟨Nat.le_of_ble_eq_true rfl, Nat.le_of_ble_eq_true rfl⟩) hK hP hD [1, 2] rfl rfl rfl 1 3 rfl rfl rfl rfl hl.1 rfl (Nat.le_of_ble_eq_true rfl) dX5_faultOf_5 ⟨Nat.zero_le _, Nat.zero_le _⟩) hS hP hD hA [1, 2] [0, 3] [0, 2, 3, 1] rfl rfl rfl (by decide) (fun _ => rfl) rfl (fun _ => rfl) (fun u1 H locs h hP hD hS => ?_)
  refine lv_aload_n hx hb dX5_faultOf_8 rfl (lv_at hl 0 rfl) ?_
  refine lv_iconst (v := 0) hx hb dX5_faultOf_9 (by decide) ?_
  refine pf (D := D) (ci := 2) (v := .int 0) (ty := .int) (C := RX5) (T := TX5) (N := 4) (wn := [(a, .inr (2, [.ref a_told, .int 0, .int v_item, .int v_figures])), (a_told, .inr (3, [.int u1.1, .ref a_told_values])), (a_told_values, .inl (y.1, 20, .inl u1.2)), (a1, .inl (y.1, 60, .inl v1))]) hx hb hts iX5 tyX5 tyX5_ok nmX5 hown hK hP hD hS 0 rfl rfl 1 (by decide) fl20 (fun _ h9 => h9) rfl (by decide +kernel) rfl rfl (Nat.le_of_ble_eq_true rfl) dX5_faultOf_10 rfl (fun H locs hP hD hS => ?_)
  refine lv_aload_n hx hb dX5_faultOf_13 rfl (lv_at hl 0 rfl) ?_
  refine lv_iconst (v := 0) hx hb dX5_faultOf_14 (by decide) ?_
  refine pf (D := D) (ci := 2) (v := .int 0) (ty := .int) (C := RX5) (T := TX5) (N := 4) (wn := [(a, .inr (2, [.ref a_told, .int 0, .int 0, .int v_figures])), (a_told, .inr (3, [.int u1.1, .ref a_told_values])), (a_told_values, .inl (y.1, 20, .inl u1.2)), (a1, .inl (y.1, 60, .inl v1))]) hx hb hts iX5 tyX5 tyX5_ok nmX5 hown hK hP hD hS 0 rfl rfl 2 (by decide) fl24 (fun _ h9 => h9) rfl (by decide +kernel) rfl rfl (Nat.le_of_ble_eq_true rfl) dX5_faultOf_15 rfl (fun H locs hP hD hS => ?_)
  refine lv_iconst (v := 0) hx hb dX5_faultOf_18 (by decide) ?_
  refine lv_istore_n (lv' := [(3, .int 0), (0, .ref a), (1, .ref a1), (2, .int x2)]) hx hb dX5_faultOf_19 rfl hl (by decide) rfl (fun ls hl => ?_)
  have hL20 : ∀ (K20 : ((Int32 × (Int32 × Int32 × Int32 × Int32 × (Nat → Int32))) ⊕ (Int32 × Int32 × Int32 × Int32 × (Nat → Int32))) → Prop)
      (hR20 : ∀ (u : (Int32 × (Int32 × Int32 × Int32 × Int32 × (Nat → Int32)))), K20 (.inl u) → pK K u)
      (hE20 : ∀ (z20 : (Int32 × Int32 × Int32 × Int32 × (Nat → Int32))) (ls : Array Slot) (H : Heap) (locs : List Loc), K20 (.inr z20) → lv_has ls 4 [(0, .ref a), (2, .int x2)] → va_P D vwCl [(a, .inr (2, [.ref a_told, .int z20.1, .int z20.2.1, .int z20.2.2.1])), (a_told, .inr (3, [.int z20.2.2.2.1, .ref a_told_values])), (a_told_values, .inl (y.1, 20, .inl z20.2.2.2.2)), (a1, .inl (y.1, 60, .inl v1))] H → va_D A [(a, .inr (2, [.ref a_told, .int z20.1, .int z20.2.1, .int z20.2.2.1])), (a_told, .inr (3, [.int z20.2.2.2.1, .ref a_told_values])), (a_told_values, .inl (y.1, 20, .inl z20.2.2.2.2)), (a1, .inl (y.1, 60, .inl v1))] → va_S A s.heap H locs → W p l e (headSpec wsX5_faultOf ({ frames := 5, cells := 0, slots := 0, locals := 108 } : Room)).room s m ([.ref a, .ref a1, .int x2] : List Value).toArray below meth c H locs 0 0 (MQ below (va_Qi K (bW D y A (fun u : (Int32 × Int32 × Int32 × Int32 × (Nat → Int32)) => [(a, .inr (2, [.ref a_told, .int u.1, .int u.2.1, .int u.2.2.1])), (a_told, .inr (3, [.int u.2.2.2.1, .ref a_told_values])), (a_told_values, .inl (y.1, 20, .inl u.2.2.2.2)), (a1, .inl (y.1, 60, .inl v1))])) A) ([.ref a, .ref a1, .int x2] : List Value).toArray s 0 0 A) (F0 m 57 ls []))
      (n : Nat) (x3_20 : Int32) (v_items_20 : Int32) (v_item_20 : Int32) (v_figures_20 : Int32) (v_told_size_20 : Int32) (v_told_values_20 : Nat → Int32) (ls : Array Slot) (H : Heap) (locs : List Loc), sat (lp (fun q : (Int32 × Int32 × Int32 × Int32 × Int32 × (Nat → Int32)) => m_X5_faultOf_s20 v1 x2 q.1 q.2.1 q.2.2.1 q.2.2.2.1 q.2.2.2.2.1 q.2.2.2.2.2) n (x3_20, v_items_20, v_item_20, v_figures_20, v_told_size_20, v_told_values_20)) K20 → lv_has ls 4 [(0, .ref a), (1, .ref a1), (2, .int x2), (3, .int x3_20)] → va_P D vwCl [(a, .inr (2, [.ref a_told, .int v_items_20, .int v_item_20, .int v_figures_20])), (a_told, .inr (3, [.int v_told_size_20, .ref a_told_values])), (a_told_values, .inl (y.1, 20, .inl v_told_values_20)), (a1, .inl (y.1, 60, .inl v1))] H → va_D A [(a, .inr (2, [.ref a_told, .int v_items_20, .int v_item_20, .int v_figures_20])), (a_told, .inr (3, [.int v_told_size_20, .ref a_told_values])), (a_told_values, .inl (y.1, 20, .inl v_told_values_20)), (a1, .inl (y.1, 60, .inl v1))] → va_S A s.heap H locs → W p l e (headSpec wsX5_faultOf ({ frames := 5, cells := 0, slots := 0, locals := 108 } : Room)).room s m ([.ref a, .ref a1, .int x2] : List Value).toArray below meth c H locs 0 0 (MQ below (va_Qi K (bW D y A (fun u : (Int32 × Int32 × Int32 × Int32 × (Nat → Int32)) => [(a, .inr (2, [.ref a_told, .int u.1, .int u.2.1, .int u.2.2.1])), (a_told, .inr (3, [.int u.2.2.2.1, .ref a_told_values])), (a_told_values, .inl (y.1, 20, .inl u.2.2.2.2)), (a1, .inl (y.1, 60, .inl v1))])) A) ([.ref a, .ref a1, .int x2] : List Value).toArray s 0 0 A) (F0 m 20 ls []) := by
    intro K20 hR20 hE20 n
    induction n with
    | zero => intro x3_20 v_items_20 v_item_20 v_figures_20 v_told_size_20 v_told_values_20 ls H locs h; exact (sat_lp0 h).elim
    | succ n ih =>
      intro x3_20 v_items_20 v_item_20 v_figures_20 v_told_size_20 v_told_values_20 ls H locs h hl hP hD hS
      have h := sat_lp h
      have h : sat (m_X5_faultOf_s20 v1 x2 x3_20 v_items_20 v_item_20 v_figures_20 v_told_size_20 v_told_values_20) (lk (fun s' => sat (lp (fun q : (Int32 × Int32 × Int32 × Int32 × Int32 × (Nat → Int32)) => m_X5_faultOf_s20 v1 x2 q.1 q.2.1 q.2.2.1 q.2.2.2.1 q.2.2.2.2.1 q.2.2.2.2.2) n s') K20) K20) := h
      unfold m_X5_faultOf_s20 at h
      refine lv_iload_n hx hb dX5_faultOf_20 rfl (lv_at hl 3 rfl) ?_
      refine lv_iload_n hx hb dX5_faultOf_21 rfl (lv_at hl 2 rfl) ?_
      refine lv_icmp_ge (tgt := 57) hx hb dX5_faultOf_22 (by decide) (fun c22 => ?_) (fun c22 => ?_)
      · have h := sat_t c22 h
        have h := lk_r (sat_some h)
        exact hE20 (v_items_20, v_item_20, v_figures_20, v_told_size_20, v_told_values_20) ls H locs h (lv_sub hl [0, 2] rfl) hP hD hS
      · have h := sat_f c22 h
        refine lv_iload_n hx hb dX5_faultOf_25 rfl (lv_at hl 3 rfl) ?_
        refine lv_aload_n hx hb dX5_faultOf_26 rfl (lv_at hl 1 rfl) ?_
        refine va_alen (v := 60) hx hb hK hP 3 0 rfl rfl rfl dX5_faultOf_27 ?_
        refine lv_icmp_ge (tgt := 57) hx hb dX5_faultOf_28 (by decide) (fun c28 => ?_) (fun c28 => ?_)
        · have h := sat_t c28 h
          have h := lk_r (sat_some h)
          exact hE20 (v_items_20, v_item_20, v_figures_20, v_told_size_20, v_told_values_20) ls H locs h (lv_sub hl [0, 2] rfl) hP hD hS
        · have h := sat_f c28 h
          refine lv_aload_n hx hb dX5_faultOf_31 rfl (lv_at hl 1 rfl) ?_
          refine lv_iload_n hx hb dX5_faultOf_32 rfl (lv_at hl 3 rfl) ?_
          obtain ⟨r3, er3, hin, h⟩ := sat_rd h
          refine xi hx hb hK hP 3 0 rfl rfl er3 hin dX5_faultOf_33 ?_
          refine lv_bipush (v := 32) hx hb dX5_faultOf_34 (by decide) ?_
          refine lv_icmp_eq (tgt := 51) hx hb dX5_faultOf_36 (by decide) (fun c36 => ?_) (fun c36 => ?_)
          · have h := sat_t c36 h
            refine lv_iinc (v := x3_20 + 1) (lv' := [(3, .int (x3_20 + 1)), (0, .ref a), (1, .ref a1), (2, .int x2)]) hx hb dX5_faultOf_51 hl (k := 3) rfl rfl (by decide) rfl (fun ls hl => ?_)
            refine lv_goto (tgt := 20) hx hb dX5_faultOf_54 (by decide) ?_
            have h := lk_l (sat_some h)
            exact ih (x3_20 + 1) v_items_20 v_item_20 v_figures_20 v_told_size_20 v_told_values_20 ls H locs h (lv_sub hl [1, 2, 3, 0] rfl) hP hD hS
          · have h := sat_f c36 h
            refine lv_aload_n hx hb dX5_faultOf_39 rfl (lv_at hl 0 rfl) ?_
            refine lv_aload_n hx hb dX5_faultOf_40 rfl (lv_at hl 1 rfl) ?_
            refine lv_iload_n hx hb dX5_faultOf_41 rfl (lv_at hl 3 rfl) ?_
            obtain ⟨r4, er4, hin, h⟩ := sat_rd h
            refine xi hx hb hK hP 3 0 rfl rfl er4 hin dX5_faultOf_42 ?_
            refine cw_i (wn := fun u5 => [(a, .inr (2, [.ref a_told, .int u5.1, .int u5.2.1, .int u5.2.2.1])), (a_told, .inr (3, [.int u5.2.2.2.1, .ref a_told_values])), (a_told_values, .inl (y.1, 20, .inl u5.2.2.2.2)), (a1, .inl (y.1, 60, .inl v1))]) (wr := [(a1, .inl (y.1, 60, .inl v1))]) (wv (As := [.int r4]) (rest := []) ⟨hx, hb, hml, hown, hts⟩ (c_X5_takes l D y a a_told a_told_values v_items_20 v_item_20 v_figures_20 v_told_size_20 v_told_values_20 r4 _ _ rfl _ (sat_bd2 h)) (cwV 1 hts gX5_faultOf_X5_takes rfl rfl rfl (by decide +kernel) ⟨Nat.le_of_ble_eq_true rfl, Nat.le_of_ble_eq_true rfl⟩) hK hP hD [0, 1, 2] rfl rfl rfl 0 2 rfl rfl rfl rfl hl.1 rfl (Nat.le_of_ble_eq_true rfl) dX5_faultOf_43 ⟨Nat.zero_le _, Nat.zero_le _⟩) hS hP hD hA [0, 1, 2] [3] [1, 2, 3, 0] rfl rfl rfl (by decide) (fun _ => rfl) rfl (fun _ => rfl) (fun r6 u5 H locs h hP hD hS => ?_)
            refine lv_if_ne (tgt := 51) hx hb dX5_faultOf_46 (by decide) (fun c46 => ?_) (fun c46 => ?_)
            · have h := sat_f c46 h
              refine lv_iinc (v := x3_20 + 1) (lv' := [(3, .int (x3_20 + 1)), (0, .ref a), (1, .ref a1), (2, .int x2)]) hx hb dX5_faultOf_51 hl (k := 3) rfl rfl (by decide) rfl (fun ls hl => ?_)
              refine lv_goto (tgt := 20) hx hb dX5_faultOf_54 (by decide) ?_
              have h := lk_l (sat_some h)
              exact ih (x3_20 + 1) u5.1 u5.2.1 u5.2.2.1 u5.2.2.2.1 u5.2.2.2.2 ls H locs h (lv_sub hl [1, 2, 3, 0] rfl) hP hD hS
            · have h := sat_t c46 h
              refine lv_iload_n hx hb dX5_faultOf_49 rfl (lv_at hl 3 rfl) ?_
              have h := hR20 _ (lk_r (sat_some h))
              exact W.iret (v := x3_20) hx hb hr (fun t ht hW => ⟨⟨x3_20, (u5.1, u5.2.1, u5.2.2.1, u5.2.2.2.1, u5.2.2.2.2), rfl, h, by rw [ht]; exact hP, va_K.moved hW.alike hK, hD⟩, hS.F ht⟩) hS.2.2 dX5_faultOf_50
  have h := sat_bdS h
  refine hL20 _ (fun u h => ?_) (fun z20 ls H locs h hl hP hD hS => ?_) 1000 0 0 0 v_figures u1.1 u1.2 ls H locs h (lv_sub hl [1, 2, 3, 0] rfl) hP hD hS
  · have h := lk_l h
    exact sat_some h
  · have h := lk_r h
    exact hJ57 z20.1 z20.2.1 z20.2.2.1 z20.2.2.2.1 z20.2.2.2.2 ls H locs h hl hP hD hS

/-! J7_fill_53178 -/
set_option maxHeartbeats 4000000 in
set_option maxRecDepth 100000 in
theorem c_J7_fill_53178 (l : Launch) (D : va_G) (y : ClassId × ClassId × ClassId × ClassId) (a : Nat) (v : Nat → Int32) (x1 : Int32) (sz : Nat) (A : Nat → Prop) (hAe : va_A [(a, .inl (y.1, 512, .inl v))] sz = A) (K : ((Nat → Int32)) → Prop) (h : sat (m_J7_fill_53178 v x1) K) : Met l yJ7_fill_53178 wsJ7_fill_53178 ({ frames := 0, cells := 0, slots := 0, locals := 0 } : Room) (pW D y ([.ref a, .int x1] : List Value) [(a, .inl (y.1, 512, .inl v))] sz) (va_Qv K (bW D y A (fun u : ((Nat → Int32)) => [(a, .inl (y.1, 512, .inl u))])) A) 0 0 A := by
  refine Met.ofW (cc := cJ7_fill_53178) (maxL := 4) (ret := none) (by decide) rfl ?_
  intro p e s m args below meth c s₁ B hml hv
  obtain ⟨rfl, hsz, hP, hK, hD0⟩ := hv
  have hx := B.exec
  have hb := B.bytes
  have hr := B.returns
  have hts := atoms_spec (ws := wsJ7_fill_53178) B.pre
  have hown : s.vm.findClass RJ7 = some m.cls := findClass_of_methodNamed B.named
  have hlocks := B.notSynchronized
  subst hsz
  have hD : va_D A [(a, .inl (y.1, 512, .inl v))] := hAe ▸ hD0.self
  have hA : ∀ q : Nat, s.heap.size ≤ q → A q := fun q h => hAe ▸ Or.inr h
  have hS : va_S A s.heap s.heap [] := va_S.rf
  have hl := lv_entry ([.ref a, .int x1] : List Value) (n := 4) (Nat.le_of_ble_eq_true rfl)
  rw [lg_entry_eq]
  generalize (lg_sl ([.ref a, .int x1] : List Value) ++ List.replicate (4 - (lg_sl ([.ref a, .int x1] : List Value)).length) Slot.unset).toArray = ls at hl ⊢
  have hl : lv_has ls 4 [(0, .ref a), (1, .int x1)] := hl
  unfold m_J7_fill_53178 at h
  refine lv_iconst (v := 0) hx hb dJ7_fill_53178_0 (by decide) ?_
  refine lv_istore_n (lv' := [(2, .int 0), (0, .ref a), (1, .int x1)]) hx hb dJ7_fill_53178_1 rfl hl (by decide) rfl (fun ls hl => ?_)
  refine lv_aload_n hx hb dJ7_fill_53178_2 rfl (lv_at hl 1 rfl) ?_
  refine va_alen (v := 512) hx hb hK hP 0 0 rfl rfl rfl dJ7_fill_53178_3 ?_
  refine lv_istore_n (lv' := [(3, .int 512), (2, .int 0), (0, .ref a), (1, .int x1)]) hx hb dJ7_fill_53178_4 rfl hl (by decide) rfl (fun ls hl => ?_)
  have hL5 : ∀ (K5 : ((Nat → Int32)) → Prop)
      (hE5 : ∀ (z5 : ((Nat → Int32))) (ls : Array Slot) (H : Heap) (locs : List Loc), K5 z5 → lv_has ls 4 [] → va_P D vwCl [(a, .inl (y.1, 512, .inl z5))] H → va_D A [(a, .inl (y.1, 512, .inl z5))] → va_S A s.heap H locs → W p l e (headSpec wsJ7_fill_53178 ({ frames := 0, cells := 0, slots := 0, locals := 0 } : Room)).room s m ([.ref a, .int x1] : List Value).toArray below meth c H locs 0 0 (MQ below (va_Qv K (bW D y A (fun u : ((Nat → Int32)) => [(a, .inl (y.1, 512, .inl u))])) A) ([.ref a, .int x1] : List Value).toArray s 0 0 A) (F0 m 20 ls []))
      (n : Nat) (x2_5 : Int32) (v_5 : Nat → Int32) (ls : Array Slot) (H : Heap) (locs : List Loc), sat (lp (fun q : (Int32 × (Nat → Int32)) => m_J7_fill_53178_s5 x1 q.1 q.2) n (x2_5, v_5)) K5 → lv_has ls 4 [(0, .ref a), (1, .int x1), (2, .int x2_5), (3, .int 512)] → va_P D vwCl [(a, .inl (y.1, 512, .inl v_5))] H → va_D A [(a, .inl (y.1, 512, .inl v_5))] → va_S A s.heap H locs → W p l e (headSpec wsJ7_fill_53178 ({ frames := 0, cells := 0, slots := 0, locals := 0 } : Room)).room s m ([.ref a, .int x1] : List Value).toArray below meth c H locs 0 0 (MQ below (va_Qv K (bW D y A (fun u : ((Nat → Int32)) => [(a, .inl (y.1, 512, .inl u))])) A) ([.ref a, .int x1] : List Value).toArray s 0 0 A) (F0 m 5 ls []) := by
    intro K5 hE5 n
    induction n with
    | zero => intro x2_5 v_5 ls H locs h; exact (sat_lp0 h).elim
    | succ n ih =>
      intro x2_5 v_5 ls H locs h hl hP hD hS
      have h := sat_lp h
      have h : sat (m_J7_fill_53178_s5 x1 x2_5 v_5) (lk (fun s' => sat (lp (fun q : (Int32 × (Nat → Int32)) => m_J7_fill_53178_s5 x1 q.1 q.2) n s') K5) K5) := h
      unfold m_J7_fill_53178_s5 at h
      refine lv_iload_n hx hb dJ7_fill_53178_5 rfl (lv_at hl 2 rfl) ?_
      refine lv_iload_n hx hb dJ7_fill_53178_6 rfl (lv_at hl 3 rfl) ?_
      refine lv_icmp_ge (tgt := 20) hx hb dJ7_fill_53178_7 (by decide) (fun c7 => ?_) (fun c7 => ?_)
      · have h := sat_t c7 h
        have h := lk_r (sat_some h)
        exact hE5 v_5 ls H locs h (lv_sub hl [] rfl) hP hD hS
      · have h := sat_f c7 h
        refine lv_aload_n hx hb dJ7_fill_53178_10 rfl (lv_at hl 0 rfl) ?_
        refine lv_iload_n hx hb dJ7_fill_53178_11 rfl (lv_at hl 2 rfl) ?_
        refine lv_iload_n hx hb dJ7_fill_53178_12 rfl (lv_at hl 1 rfl) ?_
        obtain ⟨f2, ef2, hin, h⟩ := sat_wrI h
        refine yi (wn := [(a, .inl (y.1, 512, .inl f2))]) hx hb hK hP hD hS 0 0 rfl rfl ef2 hin dJ7_fill_53178_13 rfl (fun H locs hP hD hS => ?_)
        refine lv_iinc (v := x2_5 + 1) (lv' := [(2, .int (x2_5 + 1)), (0, .ref a), (1, .int x1), (3, .int 512)]) hx hb dJ7_fill_53178_14 hl (k := 2) rfl rfl (by decide) rfl (fun ls hl => ?_)
        refine lv_goto (tgt := 5) hx hb dJ7_fill_53178_17 (by decide) ?_
        have h := lk_l (sat_some h)
        exact ih (x2_5 + 1) f2 ls H locs h (lv_sub hl [1, 2, 0, 3] rfl) hP hD hS
  have h := sat_bind h
  refine hL5 _ (fun z5 ls H locs h hl hP hD hS => ?_) 1000 0 v ls s.heap [] h (lv_sub hl [2, 3, 1, 0] rfl) hP hD hS
  have h := sat_some h
  exact W.vret hx hb hr (fun t ht hW => ⟨⟨z5, rfl, h, by rw [ht]; exact hP, va_K.moved hW.alike hK, hD⟩, hS.F ht⟩) hS.2.2 dJ7_fill_53178_20

/-! X7_startOver -/
set_option maxHeartbeats 4000000 in
set_option maxRecDepth 100000 in
theorem c_X7_startOver (l : Launch) (D : va_G) (y : ClassId × ClassId × ClassId × ClassId) (a a_slots a_rows a_lowBehind a_highBehind : Nat) (v_howMany : Int32) (v_rounds : Int32) (v_isFound : Int32) (v_firstLetter : Int64) (v_secondLetter : Int64) (v_thirdLetter : Int64) (v_goal : Int64) (v_width : Int32) (v_slots : Nat → Int32) (sz : Nat) (A : Nat → Prop) (hAe : va_A [(a, .inr (4, [.int v_howMany, .int v_rounds, .int v_isFound, .ref a_rows, .ref a_slots, .long v_firstLetter, .long v_secondLetter, .long v_thirdLetter, .long v_goal, .int v_width, .ref a_lowBehind, .ref a_highBehind])), (a_slots, .inl (y.1, 512, .inl v_slots))] sz = A) (K : (Int32 × Int32 × Int64 × Int64 × Int64 × Int64 × Int32 × (Nat → Int32)) → Prop) (h : sat (m_X7_startOver v_howMany v_rounds v_firstLetter v_secondLetter v_thirdLetter v_goal v_width v_slots) K) : Met l yX7_startOver wsX7_startOver ({ frames := 1, cells := 0, slots := 0, locals := 23 } : Room) (pW D y ([.ref a] : List Value) [(a, .inr (4, [.int v_howMany, .int v_rounds, .int v_isFound, .ref a_rows, .ref a_slots, .long v_firstLetter, .long v_secondLetter, .long v_thirdLetter, .long v_goal, .int v_width, .ref a_lowBehind, .ref a_highBehind])), (a_slots, .inl (y.1, 512, .inl v_slots))] sz) (va_Qv K (bW D y A (fun u : (Int32 × Int32 × Int64 × Int64 × Int64 × Int64 × Int32 × (Nat → Int32)) => [(a, .inr (4, [.int u.1, .int u.2.1, .int v_isFound, .ref a_rows, .ref a_slots, .long u.2.2.1, .long u.2.2.2.1, .long u.2.2.2.2.1, .long u.2.2.2.2.2.1, .int u.2.2.2.2.2.2.1, .ref a_lowBehind, .ref a_highBehind])), (a_slots, .inl (y.1, 512, .inl u.2.2.2.2.2.2.2))])) A) 0 0 A := by
  refine Met.ofW (cc := cX7_startOver) (maxL := 1) (ret := none) (by decide) rfl ?_
  intro p e s m args below meth c s₁ B hml hv
  obtain ⟨rfl, hsz, hP, hK, hD0⟩ := hv
  have hx := B.exec
  have hb := B.bytes
  have hr := B.returns
  have hts := atoms_spec (ws := wsX7_startOver) B.pre
  have hown : s.vm.findClass RX7 = some m.cls := findClass_of_methodNamed B.named
  have hlocks := B.notSynchronized
  subst hsz
  have hD : va_D A [(a, .inr (4, [.int v_howMany, .int v_rounds, .int v_isFound, .ref a_rows, .ref a_slots, .long v_firstLetter, .long v_secondLetter, .long v_thirdLetter, .long v_goal, .int v_width, .ref a_lowBehind, .ref a_highBehind])), (a_slots, .inl (y.1, 512, .inl v_slots))] := hAe ▸ hD0.self
  have hA : ∀ q : Nat, s.heap.size ≤ q → A q := fun q h => hAe ▸ Or.inr h
  have hS : va_S A s.heap s.heap [] := va_S.rf
  have iX7 : ∀ w ∈ wsX70, w ∈ wsX7_startOver := by decide +kernel
  have fl46 := hts (.fieldLink RX7 46 "AlgebraLaws$Terms" "howMany" "I") (by decide +kernel)
  have fl49 := hts (.fieldLink RX7 49 "AlgebraLaws$Terms" "rounds" "I") (by decide +kernel)
  have fl13 := hts (.fieldLink RX7 13 "AlgebraLaws$Terms" "slots" "[I") (by decide +kernel)
  have fl58 := hts (.fieldLink RX7 58 "AlgebraLaws$Terms" "firstLetter" "J") (by decide +kernel)
  have fl61 := hts (.fieldLink RX7 61 "AlgebraLaws$Terms" "secondLetter" "J") (by decide +kernel)
  have fl64 := hts (.fieldLink RX7 64 "AlgebraLaws$Terms" "thirdLetter" "J") (by decide +kernel)
  have fl38 := hts (.fieldLink RX7 38 "AlgebraLaws$Terms" "goal" "J") (by decide +kernel)
  have fl67 := hts (.fieldLink RX7 67 "AlgebraLaws$Terms" "width" "I") (by decide +kernel)
  have hl := lv_entry ([.ref a] : List Value) (n := 1) (Nat.le_of_ble_eq_true rfl)
  rw [lg_entry_eq]
  generalize (lg_sl ([.ref a] : List Value) ++ List.replicate (1 - (lg_sl ([.ref a] : List Value)).length) Slot.unset).toArray = ls at hl ⊢
  have hl : lv_has ls 1 [(0, .ref a)] := hl
  unfold m_X7_startOver at h
  refine lv_aload_n hx hb dX7_startOver_0 rfl (lv_at hl 0 rfl) ?_
  refine lv_iconst (v := 0) hx hb dX7_startOver_1 (by decide) ?_
  refine pf (D := D) (ci := 4) (v := .int 0) (ty := .int) (C := RX7) (T := TX7) (N := 12) (wn := [(a, .inr (4, [.int 0, .int v_rounds, .int v_isFound, .ref a_rows, .ref a_slots, .long v_firstLetter, .long v_secondLetter, .long v_thirdLetter, .long v_goal, .int v_width, .ref a_lowBehind, .ref a_highBehind])), (a_slots, .inl (y.1, 512, .inl v_slots))]) hx hb hts iX7 tyX7 tyX7_ok nmX7 hown hK hP hD hS 0 rfl rfl 0 (by decide) fl46 (fun _ h9 => h9) rfl (by decide +kernel) rfl rfl (Nat.le_of_ble_eq_true rfl) dX7_startOver_2 rfl (fun H locs hP hD hS => ?_)
  refine lv_aload_n hx hb dX7_startOver_5 rfl (lv_at hl 0 rfl) ?_
  refine lv_iconst (v := 0) hx hb dX7_startOver_6 (by decide) ?_
  refine pf (D := D) (ci := 4) (v := .int 0) (ty := .int) (C := RX7) (T := TX7) (N := 12) (wn := [(a, .inr (4, [.int 0, .int 0, .int v_isFound, .ref a_rows, .ref a_slots, .long v_firstLetter, .long v_secondLetter, .long v_thirdLetter, .long v_goal, .int v_width, .ref a_lowBehind, .ref a_highBehind])), (a_slots, .inl (y.1, 512, .inl v_slots))]) hx hb hts iX7 tyX7 tyX7_ok nmX7 hown hK hP hD hS 0 rfl rfl 1 (by decide) fl49 (fun _ h9 => h9) rfl (by decide +kernel) rfl rfl (Nat.le_of_ble_eq_true rfl) dX7_startOver_7 rfl (fun H locs hP hD hS => ?_)
  refine lv_aload_n hx hb dX7_startOver_10 rfl (lv_at hl 0 rfl) ?_
  refine va_get (D := D) (ci := 4) (v := .ref a_slots) (C := RX7) (T := TX7) (N := 12) hx hb hts iX7 hown hK hP 0 rfl rfl 4 (by decide) fl13 (fun _ h9 => h9) rfl dX7_startOver_11 ?_
  refine lv_iconst (v := 0) hx hb dX7_startOver_14 (by decide) ?_
  refine cw_v (wn := fun u1 => [(a, .inr (4, [.int 0, .int 0, .int v_isFound, .ref a_rows, .ref a_slots, .long v_firstLetter, .long v_secondLetter, .long v_thirdLetter, .long v_goal, .int v_width, .ref a_lowBehind, .ref a_highBehind])), (a_slots, .inl (y.1, 512, .inl u1))]) (wr := [(a, .inr (4, [.int 0, .int 0, .int v_isFound, .ref a_rows, .ref a_slots, .long v_firstLetter, .long v_secondLetter, .long v_thirdLetter, .long v_goal, .int v_width, .ref a_lowBehind, .ref a_highBehind]))]) (wsc (As := [.ref a_slots, .int 0]) (rest := []) ⟨hx, hb, hml, hown, hts⟩ (c_J7_fill_53178 l D y a_slots v_slots 0 _ _ rfl _ (sat_bind h)) (va_cwS 2 hts gX7_startOver_J7_fill_53178 rfl rfl rfl (by decide +kernel) ⟨Nat.le_of_ble_eq_true rfl, Nat.le_of_ble_eq_true rfl⟩) hK hP hD [1] rfl rfl rfl rfl hl.1 rfl (Nat.le_of_ble_eq_true rfl) dX7_startOver_15 ⟨Nat.zero_le _, Nat.zero_le _⟩) hS hP hD hA [1] [0] [0, 1] rfl rfl rfl (by decide) (fun _ => rfl) rfl (fun _ => rfl) (fun u1 H locs h hP hD hS => ?_)
  refine lv_aload_n hx hb dX7_startOver_18 rfl (lv_at hl 0 rfl) ?_
  refine lv_lconst (v := 0) hx hb dX7_startOver_19 (by decide) ?_
  refine pf (D := D) (ci := 4) (v := .long (0 : Int64)) (ty := .long) (C := RX7) (T := TX7) (N := 12) (wn := [(a, .inr (4, [.int 0, .int 0, .int v_isFound, .ref a_rows, .ref a_slots, .long (0 : Int64), .long v_secondLetter, .long v_thirdLetter, .long v_goal, .int v_width, .ref a_lowBehind, .ref a_highBehind])), (a_slots, .inl (y.1, 512, .inl u1))]) hx hb hts iX7 tyX7 tyX7_ok nmX7 hown hK hP hD hS 0 rfl rfl 5 (by decide) fl58 (fun _ h9 => h9) rfl (by decide +kernel) rfl rfl (Nat.le_of_ble_eq_true rfl) dX7_startOver_20 rfl (fun H locs hP hD hS => ?_)
  refine lv_aload_n hx hb dX7_startOver_23 rfl (lv_at hl 0 rfl) ?_
  refine lv_lconst (v := 0) hx hb dX7_startOver_24 (by decide) ?_
  refine pf (D := D) (ci := 4) (v := .long (0 : Int64)) (ty := .long) (C := RX7) (T := TX7) (N := 12) (wn := [(a, .inr (4, [.int 0, .int 0, .int v_isFound, .ref a_rows, .ref a_slots, .long (0 : Int64), .long (0 : Int64), .long v_thirdLetter, .long v_goal, .int v_width, .ref a_lowBehind, .ref a_highBehind])), (a_slots, .inl (y.1, 512, .inl u1))]) hx hb hts iX7 tyX7 tyX7_ok nmX7 hown hK hP hD hS 0 rfl rfl 6 (by decide) fl61 (fun _ h9 => h9) rfl (by decide +kernel) rfl rfl (Nat.le_of_ble_eq_true rfl) dX7_startOver_25 rfl (fun H locs hP hD hS => ?_)
  refine lv_aload_n hx hb dX7_startOver_28 rfl (lv_at hl 0 rfl) ?_
  refine lv_lconst (v := 0) hx hb dX7_startOver_29 (by decide) ?_
  refine pf (D := D) (ci := 4) (v := .long (0 : Int64)) (ty := .long) (C := RX7) (T := TX7) (N := 12) (wn := [(a, .inr (4, [.int 0, .int 0, .int v_isFound, .ref a_rows, .ref a_slots, .long (0 : Int64), .long (0 : Int64), .long (0 : Int64), .long v_goal, .int v_width, .ref a_lowBehind, .ref a_highBehind])), (a_slots, .inl (y.1, 512, .inl u1))]) hx hb hts iX7 tyX7 tyX7_ok nmX7 hown hK hP hD hS 0 rfl rfl 7 (by decide) fl64 (fun _ h9 => h9) rfl (by decide +kernel) rfl rfl (Nat.le_of_ble_eq_true rfl) dX7_startOver_30 rfl (fun H locs hP hD hS => ?_)
  refine lv_aload_n hx hb dX7_startOver_33 rfl (lv_at hl 0 rfl) ?_
  refine lv_lconst (v := 0) hx hb dX7_startOver_34 (by decide) ?_
  refine pf (D := D) (ci := 4) (v := .long (0 : Int64)) (ty := .long) (C := RX7) (T := TX7) (N := 12) (wn := [(a, .inr (4, [.int 0, .int 0, .int v_isFound, .ref a_rows, .ref a_slots, .long (0 : Int64), .long (0 : Int64), .long (0 : Int64), .long (0 : Int64), .int v_width, .ref a_lowBehind, .ref a_highBehind])), (a_slots, .inl (y.1, 512, .inl u1))]) hx hb hts iX7 tyX7 tyX7_ok nmX7 hown hK hP hD hS 0 rfl rfl 8 (by decide) fl38 (fun _ h9 => h9) rfl (by decide +kernel) rfl rfl (Nat.le_of_ble_eq_true rfl) dX7_startOver_35 rfl (fun H locs hP hD hS => ?_)
  refine lv_aload_n hx hb dX7_startOver_38 rfl (lv_at hl 0 rfl) ?_
  refine lv_iconst (v := 0) hx hb dX7_startOver_39 (by decide) ?_
  refine pf (D := D) (ci := 4) (v := .int 0) (ty := .int) (C := RX7) (T := TX7) (N := 12) (wn := [(a, .inr (4, [.int 0, .int 0, .int v_isFound, .ref a_rows, .ref a_slots, .long (0 : Int64), .long (0 : Int64), .long (0 : Int64), .long (0 : Int64), .int 0, .ref a_lowBehind, .ref a_highBehind])), (a_slots, .inl (y.1, 512, .inl u1))]) hx hb hts iX7 tyX7 tyX7_ok nmX7 hown hK hP hD hS 0 rfl rfl 9 (by decide) fl67 (fun _ h9 => h9) rfl (by decide +kernel) rfl rfl (Nat.le_of_ble_eq_true rfl) dX7_startOver_40 rfl (fun H locs hP hD hS => ?_)
  have h := sat_some h
  exact W.vret hx hb hr (fun t ht hW => ⟨⟨(0, 0, (0 : Int64), (0 : Int64), (0 : Int64), (0 : Int64), 0, u1), rfl, h, by rw [ht]; exact hP, va_K.moved hW.alike hK, hD⟩, hS.F ht⟩) hS.2.2 dX7_startOver_43
