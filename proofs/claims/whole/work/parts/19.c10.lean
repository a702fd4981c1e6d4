/-! X9_pair -/
set_option maxHeartbeats 4000000 in
set_option maxRecDepth 100000 in
theorem c_X9_pair (l : Launch) (D : va_G) (y : ClassId × ClassId × ClassId × ClassId) (a a_congruences a_now a_undos a_seen a_isKept a_kept a_text a_read a_terms : Nat) (v_undoMany : Int32) (v_undoAt : Int32) (v_seenMany : Int32) (v_letterMany : Int32) (v_readAt : Int32) (v_tokenAt : Int32) (v_token : Int32) (v_faultAt : Int32) (v_readItems : Int32) (v_congruenceMany : Int32) (v_termMany : Int32) (v_rounds : Int32) (v_congruences : Nat → Int32) (v_now : Nat → Int32) (x1 : Int32) (x2 : Int32) (x3 : Int32) (sz : Nat) (A : Nat → Prop) (hAe : va_A [(a, .inr (6, [.ref a_now, .int v_undoMany, .int v_undoAt, .ref a_undos, .int v_seenMany, .ref a_seen, .ref a_isKept, .ref a_kept, .int v_letterMany, .ref a_text, .int v_readAt, .int v_tokenAt, .int v_token, .int v_faultAt, .int v_readItems, .ref a_read, .int v_congruenceMany, .ref a_congruences, .int v_termMany, .int v_rounds, .ref a_terms])), (a_congruences, .inl (y.1, 16, .inl v_congruences)), (a_now, .inl (y.1, 21, .inl v_now))] sz = A) (K : Int32 → (Int32 × (Nat → Int32)) → Prop) (h : sat (m_X9_pair v_congruenceMany v_congruences v_now x1 x2 x3) (pK K)) : Met l yX9_pair wsX9_pair ({ frames := 4, cells := 0, slots := 0, locals := 97 } : Room) (pW D y ([.ref a, .int x1, .int x2, .int x3] : List Value) [(a, .inr (6, [.ref a_now, .int v_undoMany, .int v_undoAt, .ref a_undos, .int v_seenMany, .ref a_seen, .ref a_isKept, .ref a_kept, .int v_letterMany, .ref a_text, .int v_readAt, .int v_tokenAt, .int v_token, .int v_faultAt, .int v_readItems, .ref a_read, .int v_congruenceMany, .ref a_congruences, .int v_termMany, .int v_rounds, .ref a_terms])), (a_congruences, .inl (y.1, 16, .inl v_congruences)), (a_now, .inl (y.1, 21, .inl v_now))] sz) (va_Qi K (bW D y A (fun u : (Int32 × (Nat → Int32)) => [(a, .inr (6, [.ref a_now, .int v_undoMany, .int v_undoAt, .ref a_undos, .int v_seenMany, .ref a_seen, .ref a_isKept, .ref a_kept, .int v_letterMany, .ref a_text, .int v_readAt, .int v_tokenAt, .int v_token, .int v_faultAt, .int v_readItems, .ref a_read, .int u.1, .ref a_congruences, .int v_termMany, .int v_rounds, .ref a_terms])), (a_congruences, .inl (y.1, 16, .inl u.2)), (a_now, .inl (y.1, 21, .inl v_now))])) A) 0 0 A := by
  refine Met.ofW (cc := cX9_pair) (maxL := 6) (ret := (some .int)) (by decide) rfl ?_
  intro p e s m args below meth c s₁ B hml hv
  obtain ⟨rfl, hsz, hP, hK, hD0⟩ := hv
  have hx := B.exec
  have hb := B.bytes
  have hr := B.returns
  have hts := atoms_spec (ws := wsX9_pair) B.pre
  have hown : s.vm.findClass RX9 = some m.cls := findClass_of_methodNamed B.named
  have hlocks := B.notSynchronized
  subst hsz
  have hD : va_D A [(a, .inr (6, [.ref a_now, .int v_undoMany, .int v_undoAt, .ref a_undos, .int v_seenMany, .ref a_seen, .ref a_isKept, .ref a_kept, .int v_letterMany, .ref a_text, .int v_readAt, .int v_tokenAt, .int v_token, .int v_faultAt, .int v_readItems, .ref a_read, .int v_congruenceMany, .ref a_congruences, .int v_termMany, .int v_rounds, .ref a_terms])), (a_congruences, .inl (y.1, 16, .inl v_congruences)), (a_now, .inl (y.1, 21, .inl v_now))] := hAe ▸ hD0.self
  have hA : ∀ q : Nat, s.heap.size ≤ q → A q := fun q h => hAe ▸ Or.inr h
  have hS : va_S A s.heap s.heap [] := va_S.rf
  have iX9 : ∀ w ∈ wsX90, w ∈ wsX9_pair := by decide +kernel
  have fl145 := hts (.fieldLink RX9 145 "AlgebraLawsModel" "congruenceMany" "I") (by decide +kernel)
  have fl32 := hts (.fieldLink RX9 32 "AlgebraLawsModel" "congruences" "[I") (by decide +kernel)
  have hl := lv_entry ([.ref a, .int x1, .int x2, .int x3] : List Value) (n := 6) (Nat.le_of_ble_eq_true rfl)
  rw [lg_entry_eq]
  generalize (lg_sl ([.ref a, .int x1, .int x2, .int x3] : List Value) ++ List.replicate (6 - (lg_sl ([.ref a, .int x1, .int x2, .int x3] : List Value)).length) Slot.unset).toArray = ls at hl ⊢
  have hl : lv_has ls 6 [(0, .ref a), (1, .int x1), (2, .int x2), (3, .int x3)] := hl
  have hJ79 : ∀ (t1_79 : Int32) (t2_79 : Int32) (t3_79 : Int32) (v_congruenceMany_79 : Int32) (v_congruences_79 : Nat → Int32) (ls : Array Slot) (H : Heap) (locs : List Loc), sat (m_X9_pair_j79 v_now t1_79 t2_79 t3_79 v_congruenceMany_79 v_congruences_79) (pK K) → lv_has ls 6 [] → va_P D vwCl [(a, .inr (6, [.ref a_now, .int v_undoMany, .int v_undoAt, .ref a_undos, .int v_seenMany, .ref a_seen, .ref a_isKept, .ref a_kept, .int v_letterMany, .ref a_text, .int v_readAt, .int v_tokenAt, .int v_token, .int v_faultAt, .int v_readItems, .ref a_read, .int v_congruenceMany_79, .ref a_congruences, .int v_termMany, .int v_rounds, .ref a_terms])), (a_congruences, .inl (y.1, 16, .inl v_congruences_79)), (a_now, .inl (y.1, 21, .inl v_now))] H → va_D A [(a, .inr (6, [.ref a_now, .int v_undoMany, .int v_undoAt, .ref a_undos, .int v_seenMany, .ref a_seen, .ref a_isKept, .ref a_kept, .int v_letterMany, .ref a_text, .int v_readAt, .int v_tokenAt, .int v_token, .int v_faultAt, .int v_readItems, .ref a_read, .int v_congruenceMany_79, .ref a_congruences, .int v_termMany, .int v_rounds, .ref a_terms])), (a_congruences, .inl (y.1, 16, .inl v_congruences_79)), (a_now, .inl (y.1, 21, .inl v_now))] → va_S A s.heap H locs → W p l e (headSpec wsX9_pair ({ frames := 4, cells := 0, slots := 0, locals := 97 } : Room)).room s m ([.ref a, .int x1, .int x2, .int x3] : List Value).toArray below meth c H locs 0 0 (MQ below (va_Qi K (bW D y A (fun u : (Int32 × (Nat → Int32)) => [(a, .inr (6, [.ref a_now, .int v_undoMany, .int v_undoAt, .ref a_undos, .int v_seenMany, .ref a_seen, .ref a_isKept, .ref a_kept, .int v_letterMany, .ref a_text, .int v_readAt, .int v_tokenAt, .int v_token, .int v_faultAt, .int v_readItems, .ref a_read, .int u.1, .ref a_congruences, .int v_termMany, .int v_rounds, .ref a_terms])), (a_congruences, .inl (y.1, 16, .inl u.2)), (a_now, .inl (y.1, 21, .inl v_now))])) A) ([.ref a, .int x1, .int x2, .int x3] : List Value).toArray s 0 0 A) (F0 m 79 ls [.int t3_79, .int t2_79, .int t1_79, .ref a]) := by
    intro t1_79 t2_79 t3_79 v_congruenceMany_79 v_congruences_79 ls H locs h hl hP hD hS
    unfold m_X9_pair_j79 at h
    refine cr_i (rv (As := [.int t1_79, .int t2_79, .int t3_79]) (rest := []) ⟨hx, hb, hml, hown, hts⟩ (c_X9_between l D y a a_congruences a_now a_undos a_seen a_isKept a_kept a_text a_read a_terms v_undoMany v_undoAt v_seenMany v_letterMany v_readAt v_tokenAt v_token v_faultAt v_readItems v_congruenceMany_79 v_termMany v_rounds v_congruences_79 v_now t1_79 t2_79 t3_79 _ (sat_bind h)) (cwV 3 hts gX9_pair_X9_between rfl rfl rfl (by decide +kernel) ⟨Nat.le_of_ble_eq_true rfl, Nat.le_of_ble_eq_true rfl⟩) hK hP [0, 1, 2] rfl 0 6 rfl rfl rfl rfl hl.1 rfl (Nat.le_of_ble_eq_true rfl) dX9_pair_79 ⟨Nat.zero_le _, Nat.zero_le _⟩) (fun r1 h => ?_)
    refine lv_goto (tgt := 120) hx hb dX9_pair_82 (by decide) ?_
    have h := sat_some h
    exact W.iret (v := r1) hx hb hr (fun t ht hW => ⟨⟨r1, (v_congruenceMany_79, v_congruences_79), rfl, h, by rw [ht]; exact hP, va_K.moved hW.alike hK, hD⟩, hS.F ht⟩) hS.2.2 dX9_pair_120
  unfold m_X9_pair at h
  refine lv_aload_n hx hb dX9_pair_0 rfl (lv_at hl 0 rfl) ?_
  refine cw_v (wn := fun u2 => [(a, .inr (6, [.ref a_now, .int v_undoMany, .int v_undoAt, .ref a_undos, .int v_seenMany, .ref a_seen, .ref a_isKept, .ref a_kept, .int v_letterMany, .ref a_text, .int v_readAt, .int v_tokenAt, .int v_token, .int v_faultAt, .int v_readItems, .ref a_read, .int u2.1, .ref a_congruences, .int v_termMany, .int v_rounds, .ref a_terms])), (a_congruences, .inl (y.1, 16, .inl u2.2)), (a_now, .inl (y.1, 21, .inl v_now))]) (wr := []) (wv (As := []) (rest := []) ⟨hx, hb, hml, hown, hts⟩ (c_X9_layCongruences l D y a a_congruences a_now a_undos a_seen a_isKept a_kept a_text a_read a_terms v_undoMany v_undoAt v_seenMany v_letterMany v_readAt v_tokenAt v_token v_faultAt v_readItems v_congruenceMany v_termMany v_rounds v_congruences v_now _ _ rfl _ (sat_bind h)) (cwV 0 hts gX9_pair_X9_layCongruences rfl rfl rfl (by decide +kernel) ⟨Nat.le_of_ble_eq_true rfl, Nat.le_of_ble_eq_true rfl⟩) hK hP hD [0, 1, 2] rfl rfl rfl 0 6 rfl rfl rfl rfl hl.1 rfl (Nat.le_of_ble_eq_true rfl) dX9_pair_1 ⟨Nat.zero_le _, Nat.zero_le _⟩) hS hP hD hA [0, 1, 2] [] [0, 1, 2] rfl rfl rfl (by decide) (fun _ => rfl) rfl (fun _ => rfl) (fun u2 H locs h hP hD hS => ?_)
  refine lv_iload_n hx hb dX9_pair_4 rfl (lv_at hl 1 rfl) ?_
  refine lv_iconst (v := 0) hx hb dX9_pair_5 (by decide) ?_
  refine lv_aload_n hx hb dX9_pair_6 rfl (lv_at hl 0 rfl) ?_
  refine va_get (D := D) (ci := 6) (v := .int u2.1) (C := RX9) (T := TX9) (N := 21) hx hb hts iX9 hown hK hP 0 rfl rfl 16 (by decide) fl145 (fun _ h9 => h9) rfl dX9_pair_7 ?_
  refine lv_iconst (v := 1) hx hb dX9_pair_10 (by decide) ?_
  refine lv_isub hx hb dX9_pair_11 ?_
  refine cr_i (rs (As := [.int x1, .int 0, .int (u2.1 - 1)]) (rest := []) ⟨hx, hb, hml, hown, hts⟩ (c_X9_in l D y x1 0 (u2.1 - 1) _ (sat_bind h)) (va_cwS 3 hts gX9_pair_X9_in rfl rfl rfl (by decide +kernel) ⟨Nat.le_of_ble_eq_true rfl, Nat.le_of_ble_eq_true rfl⟩) hK hP [] rfl rfl hl.1 rfl (Nat.le_of_ble_eq_true rfl) dX9_pair_12 ⟨Nat.zero_le _, Nat.zero_le _⟩) (fun r3 h => ?_)
  refine lv_if_eq (tgt := 41) hx hb dX9_pair_15 (by decide) (fun c15 => ?_) (fun c15 => ?_)
  · have h := sat_t c15 h
    refine lv_bipush (v := (-2)) hx hb dX9_pair_41 (by decide) ?_
    have h := sat_some h
    exact W.iret (v := (-2)) hx hb hr (fun t ht hW => ⟨⟨(-2), (u2.1, u2.2), rfl, h, by rw [ht]; exact hP, va_K.moved hW.alike hK, hD⟩, hS.F ht⟩) hS.2.2 dX9_pair_43
  · have h := sat_f c15 h
    refine lv_iload_n hx hb dX9_pair_18 rfl (lv_at hl 2 rfl) ?_
    refine lv_iconst (v := 0) hx hb dX9_pair_19 (by decide) ?_
    refine lv_aload_n hx hb dX9_pair_20 rfl (lv_at hl 0 rfl) ?_
    refine va_get (D := D) (ci := 6) (v := .int u2.1) (C := RX9) (T := TX9) (N := 21) hx hb hts iX9 hown hK hP 0 rfl rfl 16 (by decide) fl145 (fun _ h9 => h9) rfl dX9_pair_21 ?_
    refine lv_iconst (v := 1) hx hb dX9_pair_24 (by decide) ?_
    refine lv_isub hx hb dX9_pair_25 ?_
    refine cr_i (rs (As := [.int x2, .int 0, .int (u2.1 - 1)]) (rest := []) ⟨hx, hb, hml, hown, hts⟩ (c_X9_in l D y x2 0 (u2.1 - 1) _ (sat_bind h)) (va_cwS 3 hts gX9_pair_X9_in rfl rfl rfl (by decide +kernel) ⟨Nat.le_of_ble_eq_true rfl, Nat.le_of_ble_eq_true rfl⟩) hK hP [] rfl rfl hl.1 rfl (Nat.le_of_ble_eq_true rfl) dX9_pair_26 ⟨Nat.zero_le _, Nat.zero_le _⟩) (fun r4 h => ?_)
    refine lv_if_eq (tgt := 41) hx hb dX9_pair_29 (by decide) (fun c29 => ?_) (fun c29 => ?_)
    · have h := sat_t c29 h
      refine lv_bipush (v := (-2)) hx hb dX9_pair_41 (by decide) ?_
      have h := sat_some h
      exact W.iret (v := (-2)) hx hb hr (fun t ht hW => ⟨⟨(-2), (u2.1, u2.2), rfl, h, by rw [ht]; exact hP, va_K.moved hW.alike hK, hD⟩, hS.F ht⟩) hS.2.2 dX9_pair_43
    · have h := sat_f c29 h
      refine lv_iload_n hx hb dX9_pair_32 rfl (lv_at hl 3 rfl) ?_
      refine lv_iconst (v := 0) hx hb dX9_pair_33 (by decide) ?_
      refine lv_iconst (v := 3) hx hb dX9_pair_34 (by decide) ?_
      refine cr_i (rs (As := [.int x3, .int 0, .int 3]) (rest := []) ⟨hx, hb, hml, hown, hts⟩ (c_X9_in l D y x3 0 3 _ (sat_bind h)) (va_cwS 3 hts gX9_pair_X9_in rfl rfl rfl (by decide +kernel) ⟨Nat.le_of_ble_eq_true rfl, Nat.le_of_ble_eq_true rfl⟩) hK hP [] rfl rfl hl.1 rfl (Nat.le_of_ble_eq_true rfl) dX9_pair_35 ⟨Nat.zero_le _, Nat.zero_le _⟩) (fun r5 h => ?_)
      refine lv_if_ne (tgt := 44) hx hb dX9_pair_38 (by decide) (fun c38 => ?_) (fun c38 => ?_)
      · have h := sat_f c38 h
        refine lv_aload_n hx hb dX9_pair_44 rfl (lv_at hl 0 rfl) ?_
        refine va_get (D := D) (ci := 6) (v := .ref a_congruences) (C := RX9) (T := TX9) (N := 21) hx hb hts iX9 hown hK hP 0 rfl rfl 17 (by decide) fl32 (fun _ h9 => h9) rfl dX9_pair_45 ?_
        refine lv_iload_n hx hb dX9_pair_48 rfl (lv_at hl 1 rfl) ?_
        obtain ⟨r6, er6, hin, h⟩ := sat_rd h
        refine xi hx hb hK hP 1 0 rfl rfl er6 hin dX9_pair_49 ?_
        refine lv_istore (lv' := [(4, .int r6), (0, .ref a), (1, .int x1), (2, .int x2), (3, .int x3)]) hx hb dX9_pair_50 hl (by decide) rfl (fun ls hl => ?_)
        refine lv_aload_n hx hb dX9_pair_52 rfl (lv_at hl 1 rfl) ?_
        refine va_get (D := D) (ci := 6) (v := .ref a_congruences) (C := RX9) (T := TX9) (N := 21) hx hb hts iX9 hown hK hP 0 rfl rfl 17 (by decide) fl32 (fun _ h9 => h9) rfl dX9_pair_53 ?_
        refine lv_iload_n hx hb dX9_pair_56 rfl (lv_at hl 3 rfl) ?_
        obtain ⟨r7, er7, hin, h⟩ := sat_rd h
        refine xi hx hb hK hP 1 0 rfl rfl er7 hin dX9_pair_57 ?_
        refine lv_istore (lv' := [(5, .int r7), (4, .int r6), (0, .ref a), (1, .int x1), (2, .int x2), (3, .int x3)]) hx hb dX9_pair_58 hl (by decide) rfl (fun ls hl => ?_)
        refine lv_iload_n hx hb dX9_pair_60 rfl (lv_at hl 5 rfl) ?_
        refine lv_iconst (v := 2) hx hb dX9_pair_61 (by decide) ?_
        refine lv_icmp_ge (tgt := 85) hx hb dX9_pair_62 (by decide) (fun c62 => ?_) (fun c62 => ?_)
        · have h := sat_t c62 h
          refine lv_iload_n hx hb dX9_pair_85 rfl (lv_at hl 5 rfl) ?_
          refine lv_iconst (v := 2) hx hb dX9_pair_86 (by decide) ?_
          refine lv_icmp_ne (tgt := 104) hx hb dX9_pair_87 (by decide) (fun c87 => ?_) (fun c87 => ?_)
          · have h := sat_f c87 h
            refine lv_aload_n hx hb dX9_pair_104 rfl (lv_at hl 2 rfl) ?_
            refine lv_iload hx hb dX9_pair_105 (lv_at hl 1 rfl) ?_
            refine lv_iload hx hb dX9_pair_107 (lv_at hl 0 rfl) ?_
            refine cr_i (rv (As := [.int r6, .int r7]) (rest := []) ⟨hx, hb, hml, hown, hts⟩ (c_X9_isFiner l D y a a_now a_undos a_seen a_isKept a_kept a_text a_read a_congruences a_terms v_undoMany v_undoAt v_seenMany v_letterMany v_readAt v_tokenAt v_token v_faultAt v_readItems u2.1 v_termMany v_rounds v_now r6 r7 _ (sat_bind h)) (cwV 2 hts gX9_pair_X9_isFiner rfl rfl rfl (by decide +kernel) ⟨Nat.le_of_ble_eq_true rfl, Nat.le_of_ble_eq_true rfl⟩) hK hP [0, 2] rfl 0 6 rfl rfl rfl rfl hl.1 rfl (Nat.le_of_ble_eq_true rfl) dX9_pair_109 ⟨Nat.zero_le _, Nat.zero_le _⟩) (fun r8 h => ?_)
            refine lv_if_eq (tgt := 119) hx hb dX9_pair_112 (by decide) (fun c112 => ?_) (fun c112 => ?_)
            · have h := sat_t c112 h
              refine lv_iconst (v := 0) hx hb dX9_pair_119 (by decide) ?_
              have h := sat_some h
              exact W.iret (v := 0) hx hb hr (fun t ht hW => ⟨⟨0, (u2.1, u2.2), rfl, h, by rw [ht]; exact hP, va_K.moved hW.alike hK, hD⟩, hS.F ht⟩) hS.2.2 dX9_pair_120
            · have h := sat_f c112 h
              refine lv_iconst (v := 1) hx hb dX9_pair_115 (by decide) ?_
              refine lv_goto (tgt := 120) hx hb dX9_pair_116 (by decide) ?_
              have h := sat_some h
              exact W.iret (v := 1) hx hb hr (fun t ht hW => ⟨⟨1, (u2.1, u2.2), rfl, h, by rw [ht]; exact hP, va_K.moved hW.alike hK, hD⟩, hS.F ht⟩) hS.2.2 dX9_pair_120
          · have h := sat_t c87 h
            refine lv_aload_n hx hb dX9_pair_90 rfl (lv_at hl 2 rfl) ?_
            refine lv_iload hx hb dX9_pair_91 (lv_at hl 1 rfl) ?_
            refine lv_iload hx hb dX9_pair_93 (lv_at hl 0 rfl) ?_
            refine cr_i (rv (As := [.int r6, .int r7]) (rest := []) ⟨hx, hb, hml, hown, hts⟩ (c_X9_permute l D y a a_now a_undos a_seen a_isKept a_kept a_text a_read a_congruences a_terms v_undoMany v_undoAt v_seenMany v_letterMany v_readAt v_tokenAt v_token v_faultAt v_readItems u2.1 v_termMany v_rounds v_now r6 r7 _ (sat_bind h)) (cwV 2 hts gX9_pair_X9_permute rfl rfl rfl (by decide +kernel) ⟨Nat.le_of_ble_eq_true rfl, Nat.le_of_ble_eq_true rfl⟩) hK hP [0, 2] rfl 0 6 rfl rfl rfl rfl hl.1 rfl (Nat.le_of_ble_eq_true rfl) dX9_pair_95 ⟨Nat.zero_le _, Nat.zero_le _⟩) (fun r9 h => ?_)
            refine lv_if_eq (tgt := 119) hx hb dX9_pair_98 (by decide) (fun c98 => ?_) (fun c98 => ?_)
            · have h := sat_t c98 h
              refine lv_iconst (v := 0) hx hb dX9_pair_119 (by decide) ?_
              have h := sat_some h
              exact W.iret (v := 0) hx hb hr (fun t ht hW => ⟨⟨0, (u2.1, u2.2), rfl, h, by rw [ht]; exact hP, va_K.moved hW.alike hK, hD⟩, hS.F ht⟩) hS.2.2 dX9_pair_120
            · have h := sat_f c98 h
              refine lv_goto (tgt := 115) hx hb dX9_pair_101 (by decide) ?_
              refine lv_iconst (v := 1) hx hb dX9_pair_115 (by decide) ?_
              refine lv_goto (tgt := 120) hx hb dX9_pair_116 (by decide) ?_
              have h := sat_some h
              exact W.iret (v := 1) hx hb hr (fun t ht hW => ⟨⟨1, (u2.1, u2.2), rfl, h, by rw [ht]; exact hP, va_K.moved hW.alike hK, hD⟩, hS.F ht⟩) hS.2.2 dX9_pair_120
        · have h := sat_f c62 h
          refine lv_aload_n hx hb dX9_pair_65 rfl (lv_at hl 2 rfl) ?_
          refine lv_iload hx hb dX9_pair_66 (lv_at hl 1 rfl) ?_
          refine lv_iload hx hb dX9_pair_68 (lv_at hl 0 rfl) ?_
          refine lv_iload_n hx hb dX9_pair_70 rfl (lv_at hl 5 rfl) ?_
          refine lv_if_ne (tgt := 78) hx hb dX9_pair_71 (by decide) (fun c71 => ?_) (fun c71 => ?_)
          · have h := sat_f c71 h
            refine lv_iconst (v := 0) hx hb dX9_pair_78 (by decide) ?_
            exact hJ79 r6 r7 0 u2.1 u2.2 ls H locs h (lv_sub hl [] rfl) hP hD hS
          · have h := sat_t c71 h
            refine lv_iconst (v := 1) hx hb dX9_pair_74 (by decide) ?_
            refine lv_goto (tgt := 79) hx hb dX9_pair_75 (by decide) ?_
            exact hJ79 r6 r7 1 u2.1 u2.2 ls H locs h (lv_sub hl [] rfl) hP hD hS
      · have h := sat_t c38 h
        refine lv_bipush (v := (-2)) hx hb dX9_pair_41 (by decide) ?_
        have h := sat_some h
        exact W.iret (v := (-2)) hx hb hr (fun t ht hW => ⟨⟨(-2), (u2.1, u2.2), rfl, h, by rw [ht]; exact hP, va_K.moved hW.alike hK, hD⟩, hS.F ht⟩) hS.2.2 dX9_pair_43

/-! X9_to -/
set_option maxHeartbeats 4000000 in
set_option maxRecDepth 100000 in
theorem c_X9_to (l : Launch) (D : va_G) (y : ClassId × ClassId × ClassId × ClassId) (x0 : Int32) (x1 : Int32) (K : Int32 → Prop) (h : sat (m_X9_to x0 x1) K) : Met l yX9_to wsX9_to ({ frames := 0, cells := 0, slots := 0, locals := 0 } : Room) (pR D y ([.int x0, .int x1] : List Value) []) (qSi K) 0 0 (fun _ => False) := by
  refine Met.ofW (cc := cX9_to) (maxL := 2) (ret := (some .int)) (by decide) rfl ?_
  intro p e s m args below meth c s₁ B hml hv
  obtain ⟨rfl, hP, hK⟩ := hv
  have hx := B.exec
  have hb := B.bytes
  have hr := B.returns
  have hts := atoms_spec (ws := wsX9_to) B.pre
  have hown : s.vm.findClass RX9 = some m.cls := findClass_of_methodNamed B.named
  have hlocks := B.notSynchronized
  have hl := lv_entry ([.int x0, .int x1] : List Value) (n := 2) (Nat.le_of_ble_eq_true rfl)
  rw [lg_entry_eq]
  generalize (lg_sl ([.int x0, .int x1] : List Value) ++ List.replicate (2 - (lg_sl ([.int x0, .int x1] : List Value)).length) Slot.unset).toArray = ls at hl ⊢
  have hl : lv_has ls 2 [(0, .int x0), (1, .int x1)] := hl
  unfold m_X9_to at h
  refine lv_iload_n hx hb dX9_to_0 rfl (lv_at hl 0 rfl) ?_
  refine lv_iconst (v := 2) hx hb dX9_to_1 (by decide) ?_
  refine lv_iload_n hx hb dX9_to_2 rfl (lv_at hl 1 rfl) ?_
  refine lv_imul hx hb dX9_to_3 ?_
  refine lv_ishr hx hb dX9_to_4 ?_
  refine lv_iconst (v := 3) hx hb dX9_to_5 (by decide) ?_
  refine lv_iand hx hb dX9_to_6 ?_
  have h := sat_some h
  exact W.iret (v := (x0 >>> ((2 * x1) &&& 31)) &&& 3) hx hb hr (fun t ht _ => ⟨(x0 >>> ((2 * x1) &&& 31)) &&& 3, rfl, h, ht⟩) (fun _ hq => by cases hq) dX9_to_7

/-! X9_isMap -/
set_option maxHeartbeats 4000000 in
set_option maxRecDepth 100000 in
theorem c_X9_isMap (l : Launch) (D : va_G) (y : ClassId × ClassId × ClassId × ClassId) (a a_now a_undos a_seen a_isKept a_kept a_text a_read a_congruences a_terms : Nat) (v_undoMany : Int32) (v_undoAt : Int32) (v_seenMany : Int32) (v_letterMany : Int32) (v_readAt : Int32) (v_tokenAt : Int32) (v_token : Int32) (v_faultAt : Int32) (v_readItems : Int32) (v_congruenceMany : Int32) (v_termMany : Int32) (v_rounds : Int32) (v_now : Nat → Int32) (x1 : Int32) (K : Int32 → Prop) (h : sat (m_X9_isMap v_now x1) K) : Met l yX9_isMap wsX9_isMap ({ frames := 1, cells := 0, slots := 0, locals := 22 } : Room) (pR D y ([.ref a, .int x1] : List Value) [(a, .inr (6, [.ref a_now, .int v_undoMany, .int v_undoAt, .ref a_undos, .int v_seenMany, .ref a_seen, .ref a_isKept, .ref a_kept, .int v_letterMany, .ref a_text, .int v_readAt, .int v_tokenAt, .int v_token, .int v_faultAt, .int v_readItems, .ref a_read, .int v_congruenceMany, .ref a_congruences, .int v_termMany, .int v_rounds, .ref a_terms])), (a_now, .inl (y.1, 21, .inl v_now))]) (qSi K) 0 0 (fun _ => False) := by
  refine Met.ofW (cc := cX9_isMap) (maxL := 5) (ret := (some .boolean)) (by decide) rfl ?_
  intro p e s m args below meth c s₁ B hml hv
  obtain ⟨rfl, hP, hK⟩ := hv
  have hx := B.exec
  have hb := B.bytes
  have hr := B.returns
  have hts := atoms_spec (ws := wsX9_isMap) B.pre
  have hown : s.vm.findClass RX9 = some m.cls := findClass_of_methodNamed B.named
  have hlocks := B.notSynchronized
  have hl := lv_entry ([.ref a, .int x1] : List Value) (n := 5) (Nat.le_of_ble_eq_true rfl)
  rw [lg_entry_eq]
  generalize (lg_sl ([.ref a, .int x1] : List Value) ++ List.replicate (5 - (lg_sl ([.ref a, .int x1] : List Value)).length) Slot.unset).toArray = ls at hl ⊢
  have hl : lv_has ls 5 [(0, .ref a), (1, .int x1)] := hl
  unfold m_X9_isMap at h
  refine lv_iconst (v := 1) hx hb dX9_isMap_0 (by decide) ?_
  refine lv_istore_n (lv' := [(2, .int 1), (0, .ref a), (1, .int x1)]) hx hb dX9_isMap_1 rfl hl (by decide) rfl (fun ls hl => ?_)
  refine lv_iconst (v := 0) hx hb dX9_isMap_2 (by decide) ?_
  refine lv_istore_n (lv' := [(3, .int 0), (2, .int 1), (0, .ref a), (1, .int x1)]) hx hb dX9_isMap_3 rfl hl (by decide) rfl (fun ls hl => ?_)
  have hL4 : ∀ (K4 : Int32 → Prop)
      (hE4 : ∀ (z4 : Int32) (ls : Array Slot), K4 z4 → lv_has ls 5 [(0, .ref a), (1, .int x1), (2, .int z4)] → W p l e (headSpec wsX9_isMap ({ frames := 1, cells := 0, slots := 0, locals := 22 } : Room)).room s m ([.ref a, .int x1] : List Value).toArray below meth c s.heap [] 0 0 (MQ below (qSi K) ([.ref a, .int x1] : List Value).toArray s 0 0 (fun _ => False)) (F0 m 56 ls []))
      (n : Nat) (x2_4 : Int32) (x3_4 : Int32) (ls : Array Slot), sat (lp (fun q : (Int32 × Int32) => m_X9_isMap_s4 v_now x1 q.1 q.2) n (x2_4, x3_4)) K4 → lv_has ls 5 [(0, .ref a), (1, .int x1), (2, .int x2_4), (3, .int x3_4)] → W p l e (headSpec wsX9_isMap ({ frames := 1, cells := 0, slots := 0, locals := 22 } : Room)).room s m ([.ref a, .int x1] : List Value).toArray below meth c s.heap [] 0 0 (MQ below (qSi K) ([.ref a, .int x1] : List Value).toArray s 0 0 (fun _ => False)) (F0 m 4 ls []) := by
    intro K4 hE4 n
    induction n with
    | zero => intro x2_4 x3_4 ls h; exact (sat_lp0 h).elim
    | succ n ih =>
      intro x2_4 x3_4 ls h hl
      have h := sat_lp h
      have h : sat (m_X9_isMap_s4 v_now x1 x2_4 x3_4) (lk (fun s' => sat (lp (fun q : (Int32 × Int32) => m_X9_isMap_s4 v_now x1 q.1 q.2) n s') K4) K4) := h
      unfold m_X9_isMap_s4 at h
      refine lv_iload_n hx hb dX9_isMap_4 rfl (lv_at hl 3 rfl) ?_
      refine lv_iconst (v := 4) hx hb dX9_isMap_5 (by decide) ?_
      refine lv_icmp_ge (tgt := 56) hx hb dX9_isMap_6 (by decide) (fun c6 => ?_) (fun c6 => ?_)
      · have h := sat_t c6 h
        have h := lk_r (sat_some h)
        exact hE4 x2_4 ls h (lv_sub hl [0, 1, 2] rfl)
      · have h := sat_f c6 h
        refine lv_iload_n hx hb dX9_isMap_9 rfl (lv_at hl 2 rfl) ?_
        refine lv_if_eq (tgt := 48) hx hb dX9_isMap_10 (by decide) (fun c10 => ?_) (fun c10 => ?_)
        · have h := sat_t c10 h
          refine lv_iconst (v := 0) hx hb dX9_isMap_48 (by decide) ?_
          refine lv_istore_n (lv' := [(2, .int 0), (0, .ref a), (1, .int x1), (3, .int x3_4)]) hx hb dX9_isMap_49 rfl hl (by decide) rfl (fun ls hl => ?_)
          refine lv_iinc (v := x3_4 + 1) (lv' := [(3, .int (x3_4 + 1)), (2, .int 0), (0, .ref a), (1, .int x1)]) hx hb dX9_isMap_50 hl (k := 3) rfl rfl (by decide) rfl (fun ls hl => ?_)
          refine lv_goto (tgt := 4) hx hb dX9_isMap_53 (by decide) ?_
          have h := lk_l (sat_some h)
          exact ih 0 (x3_4 + 1) ls h (lv_sub hl [2, 3, 1, 0] rfl)
        · have h := sat_f c10 h
          refine lv_iload_n hx hb dX9_isMap_13 rfl (lv_at hl 3 rfl) ?_
          refine lv_aload_n hx hb dX9_isMap_14 rfl (lv_at hl 0 rfl) ?_
          refine cr_i (rv (As := []) (rest := [.int x3_4]) ⟨hx, hb, hml, hown, hts⟩ (c_X9_size l D y a a_now a_undos a_seen a_isKept a_kept a_text a_read a_congruences a_terms v_undoMany v_undoAt v_seenMany v_letterMany v_readAt v_tokenAt v_token v_faultAt v_readItems v_congruenceMany v_termMany v_rounds v_now _ (sat_bind h)) (cwV 0 hts gX9_isMap_X9_size rfl rfl rfl (by decide +kernel) ⟨Nat.le_of_ble_eq_true rfl, Nat.le_of_ble_eq_true rfl⟩) hK hP [0, 1] rfl 0 6 rfl rfl rfl rfl hl.1 rfl (Nat.le_of_ble_eq_true rfl) dX9_isMap_15 ⟨Nat.zero_le _, Nat.zero_le _⟩) (fun r2 h => ?_)
          refine lv_icmp_ge (tgt := 36) hx hb dX9_isMap_18 (by decide) (fun c18 => ?_) (fun c18 => ?_)
          · have h := sat_t c18 h
            refine lv_iload_n hx hb dX9_isMap_36 rfl (lv_at hl 1 rfl) ?_
            refine lv_iload_n hx hb dX9_isMap_37 rfl (lv_at hl 3 rfl) ?_
            refine cr_i (rs (As := [.int x1, .int x3_4]) (rest := []) ⟨hx, hb, hml, hown, hts⟩ (c_X9_to l D y x1 x3_4 _ (sat_bind h)) (va_cwS 2 hts gX9_isMap_X9_to rfl rfl rfl (by decide +kernel) ⟨Nat.le_of_ble_eq_true rfl, Nat.le_of_ble_eq_true rfl⟩) hK hP [] rfl rfl hl.1 rfl (Nat.le_of_ble_eq_true rfl) dX9_isMap_38 ⟨Nat.zero_le _, Nat.zero_le _⟩) (fun r3 h => ?_)
            refine lv_if_ne (tgt := 48) hx hb dX9_isMap_41 (by decide) (fun c41 => ?_) (fun c41 => ?_)
            · have h := sat_f c41 h
              refine lv_iconst (v := 0) hx hb dX9_isMap_48 (by decide) ?_
              refine lv_istore_n (lv' := [(2, .int 0), (0, .ref a), (1, .int x1), (3, .int x3_4)]) hx hb dX9_isMap_49 rfl hl (by decide) rfl (fun ls hl => ?_)
              refine lv_iinc (v := x3_4 + 1) (lv' := [(3, .int (x3_4 + 1)), (2, .int 0), (0, .ref a), (1, .int x1)]) hx hb dX9_isMap_50 hl (k := 3) rfl rfl (by decide) rfl (fun ls hl => ?_)
              refine lv_goto (tgt := 4) hx hb dX9_isMap_53 (by decide) ?_
              have h := lk_l (sat_some h)
              exact ih 0 (x3_4 + 1) ls h (lv_sub hl [2, 3, 1, 0] rfl)
            · have h := sat_t c41 h
              refine lv_iconst (v := 1) hx hb dX9_isMap_44 (by decide) ?_
              refine lv_goto (tgt := 49) hx hb dX9_isMap_45 (by decide) ?_
              refine lv_istore_n (lv' := [(2, .int 1), (0, .ref a), (1, .int x1), (3, .int x3_4)]) hx hb dX9_isMap_49 rfl hl (by decide) rfl (fun ls hl => ?_)
              refine lv_iinc (v := x3_4 + 1) (lv' := [(3, .int (x3_4 + 1)), (2, .int 1), (0, .ref a), (1, .int x1)]) hx hb dX9_isMap_50 hl (k := 3) rfl rfl (by decide) rfl (fun ls hl => ?_)
              refine lv_goto (tgt := 4) hx hb dX9_isMap_53 (by decide) ?_
              have h := lk_l (sat_some h)
              exact ih 1 (x3_4 + 1) ls h (lv_sub hl [2, 3, 1, 0] rfl)
          · have h := sat_f c18 h
            refine lv_iload_n hx hb dX9_isMap_21 rfl (lv_at hl 1 rfl) ?_
            refine lv_iload_n hx hb dX9_isMap_22 rfl (lv_at hl 3 rfl) ?_
            refine cr_i (rs (As := [.int x1, .int x3_4]) (rest := []) ⟨hx, hb, hml, hown, hts⟩ (c_X9_to l D y x1 x3_4 _ (sat_bind h)) (va_cwS 2 hts gX9_isMap_X9_to rfl rfl rfl (by decide +kernel) ⟨Nat.le_of_ble_eq_true rfl, Nat.le_of_ble_eq_true rfl⟩) hK hP [] rfl rfl hl.1 rfl (Nat.le_of_ble_eq_true rfl) dX9_isMap_23 ⟨Nat.zero_le _, Nat.zero_le _⟩) (fun r4 h => ?_)
            refine lv_aload_n hx hb dX9_isMap_26 rfl (lv_at hl 0 rfl) ?_
            refine cr_i (rv (As := []) (rest := [.int r4]) ⟨hx, hb, hml, hown, hts⟩ (c_X9_size l D y a a_now a_undos a_seen a_isKept a_kept a_text a_read a_congruences a_terms v_undoMany v_undoAt v_seenMany v_letterMany v_readAt v_tokenAt v_token v_faultAt v_readItems v_congruenceMany v_termMany v_rounds v_now _ (sat_bind h)) (cwV 0 hts gX9_isMap_X9_size rfl rfl rfl (by decide +kernel) ⟨Nat.le_of_ble_eq_true rfl, Nat.le_of_ble_eq_true rfl⟩) hK hP [0, 1] rfl 0 6 rfl rfl rfl rfl hl.1 rfl (Nat.le_of_ble_eq_true rfl) dX9_isMap_27 ⟨Nat.zero_le _, Nat.zero_le _⟩) (fun r5 h => ?_)
            refine lv_icmp_ge (tgt := 48) hx hb dX9_isMap_30 (by decide) (fun c30 => ?_) (fun c30 => ?_)
            · have h := sat_t c30 h
              refine lv_iconst (v := 0) hx hb dX9_isMap_48 (by decide) ?_
              refine lv_istore_n (lv' := [(2, .int 0), (0, .ref a), (1, .int x1), (3, .int x3_4)]) hx hb dX9_isMap_49 rfl hl (by decide) rfl (fun ls hl => ?_)
              refine lv_iinc (v := x3_4 + 1) (lv' := [(3, .int (x3_4 + 1)), (2, .int 0), (0, .ref a), (1, .int x1)]) hx hb dX9_isMap_50 hl (k := 3) rfl rfl (by decide) rfl (fun ls hl => ?_)
              refine lv_goto (tgt := 4) hx hb dX9_isMap_53 (by decide) ?_
              have h := lk_l (sat_some h)
              exact ih 0 (x3_4 + 1) ls h (lv_sub hl [2, 3, 1, 0] rfl)
            · have h := sat_f c30 h
              refine lv_goto (tgt := 44) hx hb dX9_isMap_33 (by decide) ?_
              refine lv_iconst (v := 1) hx hb dX9_isMap_44 (by decide) ?_
              refine lv_goto (tgt := 49) hx hb dX9_isMap_45 (by decide) ?_
              refine lv_istore_n (lv' := [(2, .int 1), (0, .ref a), (1, .int x1), (3, .int x3_4)]) hx hb dX9_isMap_49 rfl hl (by decide) rfl (fun ls hl => ?_)
              refine lv_iinc (v := x3_4 + 1) (lv' := [(3, .int (x3_4 + 1)), (2, .int 1), (0, .ref a), (1, .int x1)]) hx hb dX9_isMap_50 hl (k := 3) rfl rfl (by decide) rfl (fun ls hl => ?_)
              refine lv_goto (tgt := 4) hx hb dX9_isMap_53 (by decide) ?_
              have h := lk_l (sat_some h)
              exact ih 1 (x3_4 + 1) ls h (lv_sub hl [2, 3, 1, 0] rfl)
  have h := sat_bind h
  refine hL4 _ (fun z4 ls h hl => ?_) 1000 1 0 ls h (lv_sub hl [2, 3, 1, 0] rfl)
  refine lv_iconst (v := 0) hx hb dX9_isMap_56 (by decide) ?_
  refine lv_istore_n (lv' := [(3, .int 0), (0, .ref a), (1, .int x1), (2, .int z4)]) hx hb dX9_isMap_57 rfl hl (by decide) rfl (fun ls hl => ?_)
  have hL58 : ∀ (K58 : Int32 → Prop)
      (hE58 : ∀ (z58 : Int32) (ls : Array Slot), K58 z58 → lv_has ls 5 [(2, .int z58)] → W p l e (headSpec wsX9_isMap ({ frames := 1, cells := 0, slots := 0, locals := 22 } : Room)).room s m ([.ref a, .int x1] : List Value).toArray below meth c s.heap [] 0 0 (MQ below (qSi K) ([.ref a, .int x1] : List Value).toArray s 0 0 (fun _ => False)) (F0 m 160 ls []))
      (n : Nat) (x2_58 : Int32) (x3_58 : Int32) (ls : Array Slot), sat (lp (fun q : (Int32 × Int32) => m_X9_isMap_s58 v_now x1 q.1 q.2) n (x2_58, x3_58)) K58 → lv_has ls 5 [(0, .ref a), (1, .int x1), (2, .int x2_58), (3, .int x3_58)] → W p l e (headSpec wsX9_isMap ({ frames := 1, cells := 0, slots := 0, locals := 22 } : Room)).room s m ([.ref a, .int x1] : List Value).toArray below meth c s.heap [] 0 0 (MQ below (qSi K) ([.ref a, .int x1] : List Value).toArray s 0 0 (fun _ => False)) (F0 m 58 ls []) := by
    intro K58 hE58 n
    induction n with
    | zero => intro x2_58 x3_58 ls h; exact (sat_lp0 h).elim
    | succ n ih =>
      intro x2_58 x3_58 ls h hl
      have h := sat_lp h
      have h : sat (m_X9_isMap_s58 v_now x1 x2_58 x3_58) (lk (fun s' => sat (lp (fun q : (Int32 × Int32) => m_X9_isMap_s58 v_now x1 q.1 q.2) n s') K58) K58) := h
      have hJ96 : ∀ (x3_96 : Int32) (t0_96 : Int32) (ls : Array Slot), sat (m_X9_isMap_j96 v_now x1 x3_96 t0_96) (lk (fun s' => sat (lp (fun q : (Int32 × Int32) => m_X9_isMap_s58 v_now x1 q.1 q.2) n s') K58) K58) → lv_has ls 5 [(0, .ref a), (1, .int x1), (3, .int x3_96)] → W p l e (headSpec wsX9_isMap ({ frames := 1, cells := 0, slots := 0, locals := 22 } : Room)).room s m ([.ref a, .int x1] : List Value).toArray below meth c s.heap [] 0 0 (MQ below (qSi K) ([.ref a, .int x1] : List Value).toArray s 0 0 (fun _ => False)) (F0 m 96 ls [.int t0_96]) := by
        intro x3_96 t0_96 ls h hl
        unfold m_X9_isMap_j96 at h
        refine lv_istore_n (lv' := [(2, .int t0_96), (0, .ref a), (1, .int x1), (3, .int x3_96)]) hx hb dX9_isMap_96 rfl hl (by decide) rfl (fun ls hl => ?_)
        refine lv_iconst (v := 0) hx hb dX9_isMap_97 (by decide) ?_
        refine lv_istore (lv' := [(4, .int 0), (2, .int t0_96), (0, .ref a), (1, .int x1), (3, .int x3_96)]) hx hb dX9_isMap_98 hl (by decide) rfl (fun ls hl => ?_)
        have hL100 : ∀ (K100 : Int32 → Prop)
            (hE100 : ∀ (z100 : Int32) (ls : Array Slot), K100 z100 → lv_has ls 5 [(0, .ref a), (1, .int x1), (2, .int z100), (3, .int x3_96)] → W p l e (headSpec wsX9_isMap ({ frames := 1, cells := 0, slots := 0, locals := 22 } : Room)).room s m ([.ref a, .int x1] : List Value).toArray below meth c s.heap [] 0 0 (MQ below (qSi K) ([.ref a, .int x1] : List Value).toArray s 0 0 (fun _ => False)) (F0 m 154 ls []))
            (n : Nat) (x2_100 : Int32) (x4_100 : Int32) (ls : Array Slot), sat (lp (fun q : (Int32 × Int32) => m_X9_isMap_s100 v_now x1 x3_96 q.1 q.2) n (x2_100, x4_100)) K100 → lv_has ls 5 [(0, .ref a), (1, .int x1), (2, .int x2_100), (3, .int x3_96), (4, .int x4_100)] → W p l e (headSpec wsX9_isMap ({ frames := 1, cells := 0, slots := 0, locals := 22 } : Room)).room s m ([.ref a, .int x1] : List Value).toArray below meth c s.heap [] 0 0 (MQ below (qSi K) ([.ref a, .int x1] : List Value).toArray s 0 0 (fun _ => False)) (F0 m 100 ls []) := by
          intro K100 hE100 n
          induction n with
          | zero => intro x2_100 x4_100 ls h; exact (sat_lp0 h).elim
          | succ n ih =>
            intro x2_100 x4_100 ls h hl
            have h := sat_lp h
            have h : sat (m_X9_isMap_s100 v_now x1 x3_96 x2_100 x4_100) (lk (fun s' => sat (lp (fun q : (Int32 × Int32) => m_X9_isMap_s100 v_now x1 x3_96 q.1 q.2) n s') K100) K100) := h
            unfold m_X9_isMap_s100 at h
            refine lv_iload_n hx hb dX9_isMap_100 rfl (lv_at hl 2 rfl) ?_
            refine lv_if_eq (tgt := 154) hx hb dX9_isMap_101 (by decide) (fun c101 => ?_) (fun c101 => ?_)
            · have h := sat_t c101 h
              have h := lk_r (sat_some h)
              exact hE100 x2_100 ls h (lv_sub hl [0, 1, 2, 3] rfl)
            · have h := sat_f c101 h
              refine lv_iload hx hb dX9_isMap_104 (lv_at hl 4 rfl) ?_
              refine lv_aload_n hx hb dX9_isMap_106 rfl (lv_at hl 0 rfl) ?_
              refine cr_i (rv (As := []) (rest := [.int x4_100]) ⟨hx, hb, hml, hown, hts⟩ (c_X9_size l D y a a_now a_undos a_seen a_isKept a_kept a_text a_read a_congruences a_terms v_undoMany v_undoAt v_seenMany v_letterMany v_readAt v_tokenAt v_token v_faultAt v_readItems v_congruenceMany v_termMany v_rounds v_now _ (sat_bind h)) (cwV 0 hts gX9_isMap_X9_size rfl rfl rfl (by decide +kernel) ⟨Nat.le_of_ble_eq_true rfl, Nat.le_of_ble_eq_true rfl⟩) hK hP [0, 1] rfl 0 6 rfl rfl rfl rfl hl.1 rfl (Nat.le_of_ble_eq_true rfl) dX9_isMap_107 ⟨Nat.zero_le _, Nat.zero_le _⟩) (fun r8 h => ?_)
              refine lv_icmp_ge (tgt := 154) hx hb dX9_isMap_110 (by decide) (fun c110 => ?_) (fun c110 => ?_)
              · have h := sat_t c110 h
                have h := lk_r (sat_some h)
                exact hE100 x2_100 ls h (lv_sub hl [0, 1, 2, 3] rfl)
              · have h := sat_f c110 h
                refine lv_iload_n hx hb dX9_isMap_113 rfl (lv_at hl 1 rfl) ?_
                refine lv_aload_n hx hb dX9_isMap_114 rfl (lv_at hl 0 rfl) ?_
                refine lv_iload_n hx hb dX9_isMap_115 rfl (lv_at hl 3 rfl) ?_
                refine lv_iload hx hb dX9_isMap_116 (lv_at hl 4 rfl) ?_
                refine cr_i (rv (As := [.int x3_96, .int x4_100]) (rest := [.int x1]) ⟨hx, hb, hml, hown, hts⟩ (c_X9_ff l D y a a_now a_undos a_seen a_isKept a_kept a_text a_read a_congruences a_terms v_undoMany v_undoAt v_seenMany v_letterMany v_readAt v_tokenAt v_token v_faultAt v_readItems v_congruenceMany v_termMany v_rounds v_now x3_96 x4_100 _ (sat_bind h)) (cwV 2 hts gX9_isMap_X9_ff rfl rfl rfl (by decide +kernel) ⟨Nat.le_of_ble_eq_true rfl, Nat.le_of_ble_eq_true rfl⟩) hK hP [0, 1] rfl 0 6 rfl rfl rfl rfl hl.1 rfl (Nat.le_of_ble_eq_true rfl) dX9_isMap_118 ⟨Nat.zero_le _, Nat.zero_le _⟩) (fun r9 h => ?_)
                refine cr_i (rs (As := [.int x1, .int r9]) (rest := []) ⟨hx, hb, hml, hown, hts⟩ (c_X9_to l D y x1 r9 _ (sat_bind h)) (va_cwS 2 hts gX9_isMap_X9_to rfl rfl rfl (by decide +kernel) ⟨Nat.le_of_ble_eq_true rfl, Nat.le_of_ble_eq_true rfl⟩) hK hP [] rfl rfl hl.1 rfl (Nat.le_of_ble_eq_true rfl) dX9_isMap_121 ⟨Nat.zero_le _, Nat.zero_le _⟩) (fun r10 h => ?_)
                refine lv_aload_n hx hb dX9_isMap_124 rfl (lv_at hl 0 rfl) ?_
                refine lv_iload_n hx hb dX9_isMap_125 rfl (lv_at hl 1 rfl) ?_
                refine lv_iload_n hx hb dX9_isMap_126 rfl (lv_at hl 3 rfl) ?_
                refine cr_i (rs (As := [.int x1, .int x3_96]) (rest := [.ref a, .int r10]) ⟨hx, hb, hml, hown, hts⟩ (c_X9_to l D y x1 x3_96 _ (sat_bind h)) (va_cwS 2 hts gX9_isMap_X9_to rfl rfl rfl (by decide +kernel) ⟨Nat.le_of_ble_eq_true rfl, Nat.le_of_ble_eq_true rfl⟩) hK hP [] rfl rfl hl.1 rfl (Nat.le_of_ble_eq_true rfl) dX9_isMap_127 ⟨Nat.zero_le _, Nat.zero_le _⟩) (fun r11 h => ?_)
                refine lv_iload_n hx hb dX9_isMap_130 rfl (lv_at hl 1 rfl) ?_
                refine lv_iload hx hb dX9_isMap_131 (lv_at hl 4 rfl) ?_
                refine cr_i (rs (As := [.int x1, .int x4_100]) (rest := [.int r11, .ref a, .int r10]) ⟨hx, hb, hml, hown, hts⟩ (c_X9_to l D y x1 x4_100 _ (sat_bind h)) (va_cwS 2 hts gX9_isMap_X9_to rfl rfl rfl (by decide +kernel) ⟨Nat.le_of_ble_eq_true rfl, Nat.le_of_ble_eq_true rfl⟩) hK hP [] rfl rfl hl.1 rfl (Nat.le_of_ble_eq_true rfl) dX9_isMap_133 ⟨Nat.zero_le _, Nat.zero_le _⟩) (fun r12 h => ?_)
                refine cr_i (rv (As := [.int r11, .int r12]) (rest := [.int r10]) ⟨hx, hb, hml, hown, hts⟩ (c_X9_ff l D y a a_now a_undos a_seen a_isKept a_kept a_text a_read a_congruences a_terms v_undoMany v_undoAt v_seenMany v_letterMany v_readAt v_tokenAt v_token v_faultAt v_readItems v_congruenceMany v_termMany v_rounds v_now r11 r12 _ (sat_bind h)) (cwV 2 hts gX9_isMap_X9_ff rfl rfl rfl (by decide +kernel) ⟨Nat.le_of_ble_eq_true rfl, Nat.le_of_ble_eq_true rfl⟩) hK hP [0, 1] rfl 0 6 rfl rfl rfl rfl hl.1 rfl (Nat.le_of_ble_eq_true rfl) dX9_isMap_136 ⟨Nat.zero_le _, Nat.zero_le _⟩) (fun r13 h => ?_)
                refine lv_icmp_ne (tgt := 146) hx hb dX9_isMap_139 (by decide) (fun c139 => ?_) (fun c139 => ?_)
                · have h := sat_f c139 h
                  refine lv_iconst (v := 0) hx hb dX9_isMap_146 (by decide) ?_
                  refine lv_istore_n (lv' := [(2, .int 0), (0, .ref a), (1, .int x1), (3, .int x3_96), (4, .int x4_100)]) hx hb dX9_isMap_147 rfl hl (by decide) rfl (fun ls hl => ?_)
                  refine lv_iinc (v := x4_100 + 1) (lv' := [(4, .int (x4_100 + 1)), (2, .int 0), (0, .ref a), (1, .int x1), (3, .int x3_96)]) hx hb dX9_isMap_148 hl (k := 4) rfl rfl (by decide) rfl (fun ls hl => ?_)
                  refine lv_goto (tgt := 100) hx hb dX9_isMap_151 (by decide) ?_
                  have h := lk_l (sat_some h)
                  exact ih 0 (x4_100 + 1) ls h (lv_sub hl [2, 3, 1, 4, 0] rfl)
                · have h := sat_t c139 h
                  refine lv_iconst (v := 1) hx hb dX9_isMap_142 (by decide) ?_
                  refine lv_goto (tgt := 147) hx hb dX9_isMap_143 (by decide) ?_
                  refine lv_istore_n (lv' := [(2, .int 1), (0, .ref a), (1, .int x1), (3, .int x3_96), (4, .int x4_100)]) hx hb dX9_isMap_147 rfl hl (by decide) rfl (fun ls hl => ?_)
                  refine lv_iinc (v := x4_100 + 1) (lv' := [(4, .int (x4_100 + 1)), (2, .int 1), (0, .ref a), (1, .int x1), (3, .int x3_96)]) hx hb dX9_isMap_148 hl (k := 4) rfl rfl (by decide) rfl (fun ls hl => ?_)
                  refine lv_goto (tgt := 100) hx hb dX9_isMap_151 (by decide) ?_
                  have h := lk_l (sat_some h)
                  exact ih 1 (x4_100 + 1) ls h (lv_sub hl [2, 3, 1, 4, 0] rfl)
        have h := sat_bind h
        refine hL100 _ (fun z100 ls h hl => ?_) 1000 t0_96 0 ls h (lv_sub hl [2, 3, 1, 4, 0] rfl)
        refine lv_iinc (v := x3_96 + 1) (lv' := [(3, .int (x3_96 + 1)), (0, .ref a), (1, .int x1), (2, .int z100)]) hx hb dX9_isMap_154 hl (k := 3) rfl rfl (by decide) rfl (fun ls hl => ?_)
        refine lv_goto (tgt := 58) hx hb dX9_isMap_157 (by decide) ?_
        have h := lk_l (sat_some h)
        exact ih z100 (x3_96 + 1) ls h (lv_sub hl [1, 2, 3, 0] rfl)
      unfold m_X9_isMap_s58 at h
      refine lv_iload_n hx hb dX9_isMap_58 rfl (lv_at hl 2 rfl) ?_
      refine lv_if_eq (tgt := 160) hx hb dX9_isMap_59 (by decide) (fun c59 => ?_) (fun c59 => ?_)
      · have h := sat_t c59 h
        have h := lk_r (sat_some h)
        exact hE58 x2_58 ls h (lv_sub hl [2] rfl)
      · have h := sat_f c59 h
        refine lv_iload_n hx hb dX9_isMap_62 rfl (lv_at hl 3 rfl) ?_
        refine lv_aload_n hx hb dX9_isMap_63 rfl (lv_at hl 0 rfl) ?_
        refine cr_i (rv (As := []) (rest := [.int x3_58]) ⟨hx, hb, hml, hown, hts⟩ (c_X9_size l D y a a_now a_undos a_seen a_isKept a_kept a_text a_read a_congruences a_terms v_undoMany v_undoAt v_seenMany v_letterMany v_readAt v_tokenAt v_token v_faultAt v_readItems v_congruenceMany v_termMany v_rounds v_now _ (sat_bind h)) (cwV 0 hts gX9_isMap_X9_size rfl rfl rfl (by decide +kernel) ⟨Nat.le_of_ble_eq_true rfl, Nat.le_of_ble_eq_true rfl⟩) hK hP [0, 1] rfl 0 6 rfl rfl rfl rfl hl.1 rfl (Nat.le_of_ble_eq_true rfl) dX9_isMap_64 ⟨Nat.zero_le _, Nat.zero_le _⟩) (fun r14 h => ?_)
        refine lv_icmp_ge (tgt := 160) hx hb dX9_isMap_67 (by decide) (fun c67 => ?_) (fun c67 => ?_)
        · have h := sat_t c67 h
          have h := lk_r (sat_some h)
          exact hE58 x2_58 ls h (lv_sub hl [2] rfl)
        · have h := sat_f c67 h
          refine lv_iload_n hx hb dX9_isMap_70 rfl (lv_at hl 1 rfl) ?_
          refine lv_aload_n hx hb dX9_isMap_71 rfl (lv_at hl 0 rfl) ?_
          refine lv_iload_n hx hb dX9_isMap_72 rfl (lv_at hl 3 rfl) ?_
          refine cr_i (rv (As := [.int x3_58]) (rest := [.int x1]) ⟨hx, hb, hml, hown, hts⟩ (c_X9_gg l D y a a_now a_undos a_seen a_isKept a_kept a_text a_read a_congruences a_terms v_undoMany v_undoAt v_seenMany v_letterMany v_readAt v_tokenAt v_token v_faultAt v_readItems v_congruenceMany v_termMany v_rounds v_now x3_58 _ (sat_bind h)) (cwV 1 hts gX9_isMap_X9_gg rfl rfl rfl (by decide +kernel) ⟨Nat.le_of_ble_eq_true rfl, Nat.le_of_ble_eq_true rfl⟩) hK hP [0, 1] rfl 0 6 rfl rfl rfl rfl hl.1 rfl (Nat.le_of_ble_eq_true rfl) dX9_isMap_73 ⟨Nat.zero_le _, Nat.zero_le _⟩) (fun r15 h => ?_)
          refine cr_i (rs (As := [.int x1, .int r15]) (rest := []) ⟨hx, hb, hml, hown, hts⟩ (c_X9_to l D y x1 r15 _ (sat_bind h)) (va_cwS 2 hts gX9_isMap_X9_to rfl rfl rfl (by decide +kernel) ⟨Nat.le_of_ble_eq_true rfl, Nat.le_of_ble_eq_true rfl⟩) hK hP [] rfl rfl hl.1 rfl (Nat.le_of_ble_eq_true rfl) dX9_isMap_76 ⟨Nat.zero_le _, Nat.zero_le _⟩) (fun r16 h => ?_)
          refine lv_aload_n hx hb dX9_isMap_79 rfl (lv_at hl 0 rfl) ?_
          refine lv_iload_n hx hb dX9_isMap_80 rfl (lv_at hl 1 rfl) ?_
          refine lv_iload_n hx hb dX9_isMap_81 rfl (lv_at hl 3 rfl) ?_
          refine cr_i (rs (As := [.int x1, .int x3_58]) (rest := [.ref a, .int r16]) ⟨hx, hb, hml, hown, hts⟩ (c_X9_to l D y x1 x3_58 _ (sat_bind h)) (va_cwS 2 hts gX9_isMap_X9_to rfl rfl rfl (by decide +kernel) ⟨Nat.le_of_ble_eq_true rfl, Nat.le_of_ble_eq_true rfl⟩) hK hP [] rfl rfl hl.1 rfl (Nat.le_of_ble_eq_true rfl) dX9_isMap_82 ⟨Nat.zero_le _, Nat.zero_le _⟩) (fun r17 h => ?_)
          refine cr_i (rv (As := [.int r17]) (rest := [.int r16]) ⟨hx, hb, hml, hown, hts⟩ (c_X9_gg l D y a a_now a_undos a_seen a_isKept a_kept a_text a_read a_congruences a_terms v_undoMany v_undoAt v_seenMany v_letterMany v_readAt v_tokenAt v_token v_faultAt v_readItems v_congruenceMany v_termMany v_rounds v_now r17 _ (sat_bind h)) (cwV 1 hts gX9_isMap_X9_gg rfl rfl rfl (by decide +kernel) ⟨Nat.le_of_ble_eq_true rfl, Nat.le_of_ble_eq_true rfl⟩) hK hP [0, 1] rfl 0 6 rfl rfl rfl rfl hl.1 rfl (Nat.le_of_ble_eq_true rfl) dX9_isMap_85 ⟨Nat.zero_le _, Nat.zero_le _⟩) (fun r18 h => ?_)
          refine lv_icmp_ne (tgt := 95) hx hb dX9_isMap_88 (by decide) (fun c88 => ?_) (fun c88 => ?_)
          · have h := sat_f c88 h
            refine lv_iconst (v := 0) hx hb dX9_isMap_95 (by decide) ?_
            exact hJ96 x3_58 0 ls h (lv_sub hl [0, 1, 3] rfl)
          · have h := sat_t c88 h
            refine lv_iconst (v := 1) hx hb dX9_isMap_91 (by decide) ?_
            refine lv_goto (tgt := 96) hx hb dX9_isMap_92 (by decide) ?_
            exact hJ96 x3_58 1 ls h (lv_sub hl [0, 1, 3] rfl)
  have h := sat_bind h
  refine hL58 _ (fun z58 ls h hl => ?_) 1000 z4 0 ls h (lv_sub hl [1, 2, 3, 0] rfl)
  refine lv_iload_n hx hb dX9_isMap_160 rfl (lv_at hl 0 rfl) ?_
  obtain ⟨hz, h⟩ := sat_gd h
  have h := sat_some h
  exact W.zret (v := z58) hx hb hr (zn hz) (fun t ht _ => ⟨z58, rfl, h, ht⟩) (fun _ hq => by cases hq) dX9_isMap_161

/-! X9_maps -/
set_option maxHeartbeats 4000000 in
set_option maxRecDepth 100000 in
theorem c_X9_maps (l : Launch) (D : va_G) (y : ClassId × ClassId × ClassId × ClassId) (a a_now a_undos a_seen a_isKept a_kept a_text a_read a_congruences a_terms : Nat) (v_undoMany : Int32) (v_undoAt : Int32) (v_seenMany : Int32) (v_letterMany : Int32) (v_readAt : Int32) (v_tokenAt : Int32) (v_token : Int32) (v_faultAt : Int32) (v_readItems : Int32) (v_congruenceMany : Int32) (v_termMany : Int32) (v_rounds : Int32) (v_now : Nat → Int32) (x1 : Int32) (K : Int32 → Prop) (h : sat (m_X9_maps v_now x1) K) : Met l yX9_maps wsX9_maps ({ frames := 2, cells := 0, slots := 0, locals := 46 } : Room) (pR D y ([.ref a, .int x1] : List Value) [(a, .inr (6, [.ref a_now, .int v_undoMany, .int v_undoAt, .ref a_undos, .int v_seenMany, .ref a_seen, .ref a_isKept, .ref a_kept, .int v_letterMany, .ref a_text, .int v_readAt, .int v_tokenAt, .int v_token, .int v_faultAt, .int v_readItems, .ref a_read, .int v_congruenceMany, .ref a_congruences, .int v_termMany, .int v_rounds, .ref a_terms])), (a_now, .inl (y.1, 21, .inl v_now))]) (qSi K) 0 0 (fun _ => False) := by
  refine Met.ofW (cc := cX9_maps) (maxL := 6) (ret := (some .int)) (by decide) rfl ?_
  intro p e s m args below meth c s₁ B hml hv
  obtain ⟨rfl, hP, hK⟩ := hv
  have hx := B.exec
  have hb := B.bytes
  have hr := B.returns
  have hts := atoms_spec (ws := wsX9_maps) B.pre
  have hown : s.vm.findClass RX9 = some m.cls := findClass_of_methodNamed B.named
  have hlocks := B.notSynchronized
  have hl := lv_entry ([.ref a, .int x1] : List Value) (n := 6) (Nat.le_of_ble_eq_true rfl)
  rw [lg_entry_eq]
  generalize (lg_sl ([.ref a, .int x1] : List Value) ++ List.replicate (6 - (lg_sl ([.ref a, .int x1] : List Value)).length) Slot.unset).toArray = ls at hl ⊢
  have hl : lv_has ls 6 [(0, .ref a), (1, .int x1)] := hl
  unfold m_X9_maps at h
  refine lv_iconst (v := 0) hx hb dX9_maps_0 (by decide) ?_
  refine lv_istore_n (lv' := [(2, .int 0), (0, .ref a), (1, .int x1)]) hx hb dX9_maps_1 rfl hl (by decide) rfl (fun ls hl => ?_)
  refine lv_iconst (v := 0) hx hb dX9_maps_2 (by decide) ?_
  refine lv_istore_n (lv' := [(3, .int 0), (2, .int 0), (0, .ref a), (1, .int x1)]) hx hb dX9_maps_3 rfl hl (by decide) rfl (fun ls hl => ?_)
  have hL4 : ∀ (K4 : Int32 → Prop)
      (hE4 : ∀ (z4 : Int32) (ls : Array Slot), K4 z4 → lv_has ls 6 [(2, .int z4)] → W p l e (headSpec wsX9_maps ({ frames := 2, cells := 0, slots := 0, locals := 46 } : Room)).room s m ([.ref a, .int x1] : List Value).toArray below meth c s.heap [] 0 0 (MQ below (qSi K) ([.ref a, .int x1] : List Value).toArray s 0 0 (fun _ => False)) (F0 m 82 ls []))
      (n : Nat) (x2_4 : Int32) (x3_4 : Int32) (ls : Array Slot), sat (lp (fun q : (Int32 × Int32) => m_X9_maps_s4 v_now x1 q.1 q.2) n (x2_4, x3_4)) K4 → lv_has ls 6 [(0, .ref a), (1, .int x1), (2, .int x2_4), (3, .int x3_4)] → W p l e (headSpec wsX9_maps ({ frames := 2, cells := 0, slots := 0, locals := 46 } : Room)).room s m ([.ref a, .int x1] : List Value).toArray below meth c s.heap [] 0 0 (MQ below (qSi K) ([.ref a, .int x1] : List Value).toArray s 0 0 (fun _ => False)) (F0 m 4 ls []) := by
    intro K4 hE4 n
    induction n with
    | zero => intro x2_4 x3_4 ls h; exact (sat_lp0 h).elim
    | succ n ih =>
      intro x2_4 x3_4 ls h hl
      have h := sat_lp h
      have h : sat (m_X9_maps_s4 v_now x1 x2_4 x3_4) (lk (fun s' => sat (lp (fun q : (Int32 × Int32) => m_X9_maps_s4 v_now x1 q.1 q.2) n s') K4) K4) := h
      unfold m_X9_maps_s4 at h
      refine lv_iload_n hx hb dX9_maps_4 rfl (lv_at hl 3 rfl) ?_
      refine lv_sipush (v := 256) hx hb dX9_maps_5 (by decide) ?_
      refine lv_icmp_ge (tgt := 82) hx hb dX9_maps_8 (by decide) (fun c8 => ?_) (fun c8 => ?_)
      · have h := sat_t c8 h
        have h := lk_r (sat_some h)
        exact hE4 x2_4 ls h (lv_sub hl [2] rfl)
      · have h := sat_f c8 h
        refine lv_iconst (v := 0) hx hb dX9_maps_11 (by decide) ?_
        refine lv_istore (lv' := [(4, .int 0), (0, .ref a), (1, .int x1), (2, .int x2_4), (3, .int x3_4)]) hx hb dX9_maps_12 hl (by decide) rfl (fun ls hl => ?_)
        refine lv_iconst (v := 0) hx hb dX9_maps_14 (by decide) ?_
        refine lv_istore (lv' := [(5, .int 0), (4, .int 0), (0, .ref a), (1, .int x1), (2, .int x2_4), (3, .int x3_4)]) hx hb dX9_maps_15 hl (by decide) rfl (fun ls hl => ?_)
        have hL17 : ∀ (K17 : Int32 → Prop)
            (hE17 : ∀ (z17 : Int32) (ls : Array Slot), K17 z17 → lv_has ls 6 [(0, .ref a), (1, .int x1), (2, .int x2_4), (3, .int x3_4), (4, .int z17)] → W p l e (headSpec wsX9_maps ({ frames := 2, cells := 0, slots := 0, locals := 46 } : Room)).room s m ([.ref a, .int x1] : List Value).toArray below meth c s.heap [] 0 0 (MQ below (qSi K) ([.ref a, .int x1] : List Value).toArray s 0 0 (fun _ => False)) (F0 m 45 ls []))
            (n : Nat) (x4_17 : Int32) (x5_17 : Int32) (ls : Array Slot), sat (lp (fun q : (Int32 × Int32) => m_X9_maps_s17 v_now x3_4 q.1 q.2) n (x4_17, x5_17)) K17 → lv_has ls 6 [(0, .ref a), (1, .int x1), (2, .int x2_4), (3, .int x3_4), (4, .int x4_17), (5, .int x5_17)] → W p l e (headSpec wsX9_maps ({ frames := 2, cells := 0, slots := 0, locals := 46 } : Room)).room s m ([.ref a, .int x1] : List Value).toArray below meth c s.heap [] 0 0 (MQ below (qSi K) ([.ref a, .int x1] : List Value).toArray s 0 0 (fun _ => False)) (F0 m 17 ls []) := by
          intro K17 hE17 n
          induction n with
          | zero => intro x4_17 x5_17 ls h; exact (sat_lp0 h).elim
          | succ n ih =>
            intro x4_17 x5_17 ls h hl
            have h := sat_lp h
            have h : sat (m_X9_maps_s17 v_now x3_4 x4_17 x5_17) (lk (fun s' => sat (lp (fun q : (Int32 × Int32) => m_X9_maps_s17 v_now x3_4 q.1 q.2) n s') K17) K17) := h
            unfold m_X9_maps_s17 at h
            refine lv_iload hx hb dX9_maps_17 (lv_at hl 5 rfl) ?_
            refine lv_aload_n hx hb dX9_maps_19 rfl (lv_at hl 0 rfl) ?_
            refine cr_i (rv (As := []) (rest := [.int x5_17]) ⟨hx, hb, hml, hown, hts⟩ (c_X9_size l D y a a_now a_undos a_seen a_isKept a_kept a_text a_read a_congruences a_terms v_undoMany v_undoAt v_seenMany v_letterMany v_readAt v_tokenAt v_token v_faultAt v_readItems v_congruenceMany v_termMany v_rounds v_now _ (sat_bind h)) (cwV 0 hts gX9_maps_X9_size rfl rfl rfl (by decide +kernel) ⟨Nat.le_of_ble_eq_true rfl, Nat.le_of_ble_eq_true rfl⟩) hK hP [0, 1] rfl 0 6 rfl rfl rfl rfl hl.1 rfl (Nat.le_of_ble_eq_true rfl) dX9_maps_20 ⟨Nat.zero_le _, Nat.zero_le _⟩) (fun r3 h => ?_)
            refine lv_icmp_ge (tgt := 45) hx hb dX9_maps_23 (by decide) (fun c23 => ?_) (fun c23 => ?_)
            · have h := sat_t c23 h
              have h := lk_r (sat_some h)
              exact hE17 x4_17 ls h (lv_sub hl [0, 1, 2, 3, 4] rfl)
            · have h := sat_f c23 h
              refine lv_iload hx hb dX9_maps_26 (lv_at hl 4 rfl) ?_
              refine lv_iconst (v := 1) hx hb dX9_maps_28 (by decide) ?_
              refine lv_iload_n hx hb dX9_maps_29 rfl (lv_at hl 3 rfl) ?_
              refine lv_iload hx hb dX9_maps_30 (lv_at hl 5 rfl) ?_
              refine cr_i (rs (As := [.int x3_4, .int x5_17]) (rest := [.int 1, .int x4_17]) ⟨hx, hb, hml, hown, hts⟩ (c_X9_to l D y x3_4 x5_17 _ (sat_bind h)) (va_cwS 2 hts gX9_maps_X9_to rfl rfl rfl (by decide +kernel) ⟨Nat.le_of_ble_eq_true rfl, Nat.le_of_ble_eq_true rfl⟩) hK hP [] rfl rfl hl.1 rfl (Nat.le_of_ble_eq_true rfl) dX9_maps_32 ⟨Nat.zero_le _, Nat.zero_le _⟩) (fun r4 h => ?_)
              refine lv_ishl hx hb dX9_maps_35 ?_
              refine lv_ior hx hb dX9_maps_36 ?_
              refine lv_istore (lv' := [(4, .int (x4_17 ||| (1 <<< (r4 &&& 31)))), (0, .ref a), (1, .int x1), (2, .int x2_4), (3, .int x3_4), (5, .int x5_17)]) hx hb dX9_maps_37 hl (by decide) rfl (fun ls hl => ?_)
              refine lv_iinc (v := x5_17 + 1) (lv' := [(5, .int (x5_17 + 1)), (4, .int (x4_17 ||| (1 <<< (r4 &&& 31)))), (0, .ref a), (1, .int x1), (2, .int x2_4), (3, .int x3_4)]) hx hb dX9_maps_39 hl (k := 5) rfl rfl (by decide) rfl (fun ls hl => ?_)
              refine lv_goto (tgt := 17) hx hb dX9_maps_42 (by decide) ?_
              have h := lk_l (sat_some h)
              exact ih (x4_17 ||| (1 <<< (r4 &&& 31))) (x5_17 + 1) ls h (lv_sub hl [2, 3, 4, 5, 1, 0] rfl)
        have h := sat_bind h
        refine hL17 _ (fun z17 ls h hl => ?_) 1000 0 0 ls h (lv_sub hl [2, 3, 4, 5, 1, 0] rfl)
        refine lv_iload_n hx hb dX9_maps_45 rfl (lv_at hl 2 rfl) ?_
        refine lv_aload_n hx hb dX9_maps_46 rfl (lv_at hl 0 rfl) ?_
        refine lv_iload_n hx hb dX9_maps_47 rfl (lv_at hl 3 rfl) ?_
        refine cr_i (rv (As := [.int x3_4]) (rest := [.int x2_4]) ⟨hx, hb, hml, hown, hts⟩ (c_X9_isMap l D y a a_now a_undos a_seen a_isKept a_kept a_text a_read a_congruences a_terms v_undoMany v_undoAt v_seenMany v_letterMany v_readAt v_tokenAt v_token v_faultAt v_readItems v_congruenceMany v_termMany v_rounds v_now x3_4 _ (sat_bind h)) (cwV 1 hts gX9_maps_X9_isMap rfl rfl rfl (by decide +kernel) ⟨Nat.le_of_ble_eq_true rfl, Nat.le_of_ble_eq_true rfl⟩) hK hP [0, 1] rfl 0 6 rfl rfl rfl rfl hl.1 rfl (Nat.le_of_ble_eq_true rfl) dX9_maps_48 ⟨Nat.zero_le _, Nat.zero_le _⟩) (fun r5 h => ?_)
        refine lv_if_eq (tgt := 73) hx hb dX9_maps_51 (by decide) (fun c51 => ?_) (fun c51 => ?_)
        · have h := sat_t c51 h
          refine lv_iconst (v := 0) hx hb dX9_maps_73 (by decide) ?_
          refine lv_iadd hx hb dX9_maps_74 ?_
          refine lv_istore_n (lv' := [(2, .int (x2_4 + 0)), (0, .ref a), (1, .int x1), (3, .int x3_4), (4, .int z17)]) hx hb dX9_maps_75 rfl hl (by decide) rfl (fun ls hl => ?_)
          refine lv_iinc (v := x3_4 + 1) (lv' := [(3, .int (x3_4 + 1)), (2, .int (x2_4 + 0)), (0, .ref a), (1, .int x1), (4, .int z17)]) hx hb dX9_maps_76 hl (k := 3) rfl rfl (by decide) rfl (fun ls hl => ?_)
          refine lv_goto (tgt := 4) hx hb dX9_maps_79 (by decide) ?_
          have h := lk_l (sat_some h)
          exact ih (x2_4 + 0) (x3_4 + 1) ls h (lv_sub hl [2, 3, 1, 0] rfl)
        · have h := sat_f c51 h
          refine lv_iload_n hx hb dX9_maps_54 rfl (lv_at hl 1 rfl) ?_
          refine lv_if_eq (tgt := 69) hx hb dX9_maps_55 (by decide) (fun c55 => ?_) (fun c55 => ?_)
          · have h := sat_t c55 h
            refine lv_iconst (v := 1) hx hb dX9_maps_69 (by decide) ?_
            refine lv_goto (tgt := 74) hx hb dX9_maps_70 (by decide) ?_
            refine lv_iadd hx hb dX9_maps_74 ?_
            refine lv_istore_n (lv' := [(2, .int (x2_4 + 1)), (0, .ref a), (1, .int x1), (3, .int x3_4), (4, .int z17)]) hx hb dX9_maps_75 rfl hl (by decide) rfl (fun ls hl => ?_)
            refine lv_iinc (v := x3_4 + 1) (lv' := [(3, .int (x3_4 + 1)), (2, .int (x2_4 + 1)), (0, .ref a), (1, .int x1), (4, .int z17)]) hx hb dX9_maps_76 hl (k := 3) rfl rfl (by decide) rfl (fun ls hl => ?_)
            refine lv_goto (tgt := 4) hx hb dX9_maps_79 (by decide) ?_
            have h := lk_l (sat_some h)
            exact ih (x2_4 + 1) (x3_4 + 1) ls h (lv_sub hl [2, 3, 1, 0] rfl)
          · have h := sat_f c55 h
            refine lv_iload hx hb dX9_maps_58 (lv_at hl 4 rfl) ?_
            refine lv_aload_n hx hb dX9_maps_60 rfl (lv_at hl 0 rfl) ?_
            refine cr_i (rv (As := []) (rest := [.int z17, .int x2_4]) ⟨hx, hb, hml, hown, hts⟩ (c_X9_setMany l D y a a_now a_undos a_seen a_isKept a_kept a_text a_read a_congruences a_terms v_undoMany v_undoAt v_seenMany v_letterMany v_readAt v_tokenAt v_token v_faultAt v_readItems v_congruenceMany v_termMany v_rounds v_now _ (sat_bind h)) (cwV 0 hts gX9_maps_X9_setMany rfl rfl rfl (by decide +kernel) ⟨Nat.le_of_ble_eq_true rfl, Nat.le_of_ble_eq_true rfl⟩) hK hP [0, 1] rfl 0 6 rfl rfl rfl rfl hl.1 rfl (Nat.le_of_ble_eq_true rfl) dX9_maps_61 ⟨Nat.zero_le _, Nat.zero_le _⟩) (fun r6 h => ?_)
            refine lv_iconst (v := 1) hx hb dX9_maps_64 (by decide) ?_
            refine lv_isub hx hb dX9_maps_65 ?_
            refine lv_icmp_ne (tgt := 73) hx hb dX9_maps_66 (by decide) (fun c66 => ?_) (fun c66 => ?_)
            · have h := sat_f c66 h
              refine lv_iconst (v := 0) hx hb dX9_maps_73 (by decide) ?_
              refine lv_iadd hx hb dX9_maps_74 ?_
              refine lv_istore_n (lv' := [(2, .int (x2_4 + 0)), (0, .ref a), (1, .int x1), (3, .int x3_4), (4, .int z17)]) hx hb dX9_maps_75 rfl hl (by decide) rfl (fun ls hl => ?_)
              refine lv_iinc (v := x3_4 + 1) (lv' := [(3, .int (x3_4 + 1)), (2, .int (x2_4 + 0)), (0, .ref a), (1, .int x1), (4, .int z17)]) hx hb dX9_maps_76 hl (k := 3) rfl rfl (by decide) rfl (fun ls hl => ?_)
              refine lv_goto (tgt := 4) hx hb dX9_maps_79 (by decide) ?_
              have h := lk_l (sat_some h)
              exact ih (x2_4 + 0) (x3_4 + 1) ls h (lv_sub hl [2, 3, 1, 0] rfl)
            · have h := sat_t c66 h
              refine lv_iconst (v := 1) hx hb dX9_maps_69 (by decide) ?_
              refine lv_goto (tgt := 74) hx hb dX9_maps_70 (by decide) ?_
              refine lv_iadd hx hb dX9_maps_74 ?_
              refine lv_istore_n (lv' := [(2, .int (x2_4 + 1)), (0, .ref a), (1, .int x1), (3, .int x3_4), (4, .int z17)]) hx hb dX9_maps_75 rfl hl (by decide) rfl (fun ls hl => ?_)
              refine lv_iinc (v := x3_4 + 1) (lv' := [(3, .int (x3_4 + 1)), (2, .int (x2_4 + 1)), (0, .ref a), (1, .int x1), (4, .int z17)]) hx hb dX9_maps_76 hl (k := 3) rfl rfl (by decide) rfl (fun ls hl => ?_)
              refine lv_goto (tgt := 4) hx hb dX9_maps_79 (by decide) ?_
              have h := lk_l (sat_some h)
              exact ih (x2_4 + 1) (x3_4 + 1) ls h (lv_sub hl [2, 3, 1, 0] rfl)
  have h := sat_bind h
  refine hL4 _ (fun z4 ls h hl => ?_) 1000 0 0 ls h (lv_sub hl [2, 3, 1, 0] rfl)
  refine lv_iload_n hx hb dX9_maps_82 rfl (lv_at hl 0 rfl) ?_
  have h := sat_some h
  exact W.iret (v := z4) hx hb hr (fun t ht _ => ⟨z4, rfl, h, ht⟩) (fun _ hq => by cases hq) dX9_maps_83

/-! X9_isTerm -/
set_option maxHeartbeats 4000000 in
set_option maxRecDepth 100000 in
theorem c_X9_isTerm (l : Launch) (D : va_G) (y : ClassId × ClassId × ClassId × ClassId) (a a_terms a_now a_undos a_seen a_isKept a_kept a_text a_read a_congruences : Nat) (v_undoMany : Int32) (v_undoAt : Int32) (v_seenMany : Int32) (v_letterMany : Int32) (v_readAt : Int32) (v_tokenAt : Int32) (v_token : Int32) (v_faultAt : Int32) (v_readItems : Int32) (v_congruenceMany : Int32) (v_termMany : Int32) (v_rounds : Int32) (v_terms : Nat → Int64) (x1 : Int64) (K : Int32 → Prop) (h : sat (m_X9_isTerm v_termMany v_terms x1) K) : Met l yX9_isTerm wsX9_isTerm ({ frames := 0, cells := 0, slots := 0, locals := 0 } : Room) (pR D y ([.ref a, .long x1] : List Value) [(a, .inr (6, [.ref a_now, .int v_undoMany, .int v_undoAt, .ref a_undos, .int v_seenMany, .ref a_seen, .ref a_isKept, .ref a_kept, .int v_letterMany, .ref a_text, .int v_readAt, .int v_tokenAt, .int v_token, .int v_faultAt, .int v_readItems, .ref a_read, .int v_congruenceMany, .ref a_congruences, .int v_termMany, .int v_rounds, .ref a_terms])), (a_terms, .inl (y.2.1, 202, .inr (.inl v_terms)))]) (qSi K) 0 0 (fun _ => False) := by
  refine Met.ofW (cc := cX9_isTerm) (maxL := 4) (ret := (some .boolean)) (by decide) rfl ?_
  intro p e s m args below meth c s₁ B hml hv
  obtain ⟨rfl, hP, hK⟩ := hv
  have hx := B.exec
  have hb := B.bytes
  have hr := B.returns
  have hts := atoms_spec (ws := wsX9_isTerm) B.pre
  have hown : s.vm.findClass RX9 = some m.cls := findClass_of_methodNamed B.named
  have hlocks := B.notSynchronized
  have iX9 : ∀ w ∈ wsX90, w ∈ wsX9_isTerm := by decide +kernel
  have fl182 := hts (.fieldLink RX9 182 "AlgebraLawsModel" "termMany" "I") (by decide +kernel)
  have fl35 := hts (.fieldLink RX9 35 "AlgebraLawsModel" "terms" "[J") (by decide +kernel)
  have hl := lv_entry ([.ref a, .long x1] : List Value) (n := 4) (Nat.le_of_ble_eq_true rfl)
  rw [lg_entry_eq]
  generalize (lg_sl ([.ref a, .long x1] : List Value) ++ List.replicate (4 - (lg_sl ([.ref a, .long x1] : List Value)).length) Slot.unset).toArray = ls at hl ⊢
  have hl : lv_has ls 4 [(0, .ref a), (1, .long x1)] := hl
  unfold m_X9_isTerm at h
  refine lv_iconst (v := 0) hx hb dX9_isTerm_0 (by decide) ?_
  refine lv_istore_n (lv' := [(3, .int 0), (0, .ref a), (1, .long x1)]) hx hb dX9_isTerm_1 rfl hl (by decide) rfl (fun ls hl => ?_)
  have hL2 : ∀ (K2 : (Int32 ⊕ Unit) → Prop)
      (hR2 : ∀ (u : Int32), K2 (.inl u) → K u)
      (hE2 : ∀ (z2 : Unit) (ls : Array Slot), K2 (.inr z2) → lv_has ls 4 [] → W p l e (headSpec wsX9_isTerm ({ frames := 0, cells := 0, slots := 0, locals := 0 } : Room)).room s m ([.ref a, .long x1] : List Value).toArray below meth c s.heap [] 0 0 (MQ below (qSi K) ([.ref a, .long x1] : List Value).toArray s 0 0 (fun _ => False)) (F0 m 29 ls []))
      (n : Nat) (x3_2 : Int32) (ls : Array Slot), sat (lp (fun q : Int32 => m_X9_isTerm_s2 v_termMany v_terms x1 q) n x3_2) K2 → lv_has ls 4 [(0, .ref a), (1, .long x1), (3, .int x3_2)] → W p l e (headSpec wsX9_isTerm ({ frames := 0, cells := 0, slots := 0, locals := 0 } : Room)).room s m ([.ref a, .long x1] : List Value).toArray below meth c s.heap [] 0 0 (MQ below (qSi K) ([.ref a, .long x1] : List Value).toArray s 0 0 (fun _ => False)) (F0 m 2 ls []) := by
    intro K2 hR2 hE2 n
    induction n with
    | zero => intro x3_2 ls h; exact (sat_lp0 h).elim
    | succ n ih =>
      intro x3_2 ls h hl
      have h := sat_lp h
      have h : sat (m_X9_isTerm_s2 v_termMany v_terms x1 x3_2) (lk (fun s' => sat (lp (fun q : Int32 => m_X9_isTerm_s2 v_termMany v_terms x1 q) n s') K2) K2) := h
      unfold m_X9_isTerm_s2 at h
      refine lv_iload_n hx hb dX9_isTerm_2 rfl (lv_at hl 2 rfl) ?_
      refine lv_aload_n hx hb dX9_isTerm_3 rfl (lv_at hl 0 rfl) ?_
      refine va_get (D := D) (ci := 6) (v := .int v_termMany) (C := RX9) (T := TX9) (N := 21) hx hb hts iX9 hown hK hP 0 rfl rfl 18 (by decide) fl182 (fun _ h9 => h9) rfl dX9_isTerm_4 ?_
      refine lv_icmp_ge (tgt := 29) hx hb dX9_isTerm_7 (by decide) (fun c7 => ?_) (fun c7 => ?_)
      · have h := sat_t c7 h
        have h := lk_r (sat_some h)
        exact hE2 () ls h (lv_sub hl [] rfl)
      · have h := sat_f c7 h
        refine lv_aload_n hx hb dX9_isTerm_10 rfl (lv_at hl 0 rfl) ?_
        refine va_get (D := D) (ci := 6) (v := .ref a_terms) (C := RX9) (T := TX9) (N := 21) hx hb hts iX9 hown hK hP 0 rfl rfl 20 (by decide) fl35 (fun _ h9 => h9) rfl dX9_isTerm_11 ?_
        refine lv_iload_n hx hb dX9_isTerm_14 rfl (lv_at hl 2 rfl) ?_
        obtain ⟨r2, er2, hin, h⟩ := sat_rd h
        refine xl hx hb hK hP 1 1 rfl rfl er2 hin dX9_isTerm_15 ?_
        refine lv_lload_n hx hb dX9_isTerm_16 rfl (lv_at hl 1 rfl) ?_
        refine W.lcmp hx hb dX9_isTerm_17 ?_
        refine lv_if_ne (tgt := 23) hx hb dX9_isTerm_18 (by decide) (fun c18 => ?_) (fun c18 => ?_)
        · have h := sat_f c18 h
          refine lv_iinc (v := x3_2 + 1) (lv' := [(3, .int (x3_2 + 1)), (0, .ref a), (1, .long x1)]) hx hb dX9_isTerm_23 hl (k := 2) rfl rfl (by decide) rfl (fun ls hl => ?_)
          refine lv_goto (tgt := 2) hx hb dX9_isTerm_26 (by decide) ?_
          have h := lk_l (sat_some h)
          exact ih (x3_2 + 1) ls h (lv_sub hl [1, 2, 0] rfl)
        · have h := sat_t c18 h
          refine lv_iconst (v := 1) hx hb dX9_isTerm_21 (by decide) ?_
          have h := hR2 _ (lk_r (sat_some h))
          exact W.zret (v := 1) hx hb hr rfl (fun t ht _ => ⟨1, rfl, h, ht⟩) (fun _ hq => by cases hq) dX9_isTerm_22
  have h := sat_bdS h
  refine hL2 _ (fun u h => ?_) (fun z2 ls h hl => ?_) 1000 0 ls h (lv_sub hl [1, 2, 0] rfl)
  · have h := lk_l h
    exact sat_some h
  · have h := lk_r h
    refine lv_iconst (v := 0) hx hb dX9_isTerm_29 (by decide) ?_
    have h := sat_some h
    exact W.zret (v := 0) hx hb hr rfl (fun t ht _ => ⟨0, rfl, h, ht⟩) (fun _ hq => by cases hq) dX9_isTerm_30

/-! X9_comes -/
set_option maxHeartbeats 4000000 in
set_option maxRecDepth 100000 in
theorem c_X9_comes (l : Launch) (D : va_G) (y : ClassId × ClassId × ClassId × ClassId) (a a_terms a_now a_undos a_seen a_isKept a_kept a_text a_read a_congruences : Nat) (v_undoMany : Int32) (v_undoAt : Int32) (v_seenMany : Int32) (v_letterMany : Int32) (v_readAt : Int32) (v_tokenAt : Int32) (v_token : Int32) (v_faultAt : Int32) (v_readItems : Int32) (v_congruenceMany : Int32) (v_termMany : Int32) (v_rounds : Int32) (v_terms : Nat → Int64) (x1 : Int64) (sz : Nat) (A : Nat → Prop) (hAe : va_A [(a, .inr (6, [.ref a_now, .int v_undoMany, .int v_undoAt, .ref a_undos, .int v_seenMany, .ref a_seen, .ref a_isKept, .ref a_kept, .int v_letterMany, .ref a_text, .int v_readAt, .int v_tokenAt, .int v_token, .int v_faultAt, .int v_readItems, .ref a_read, .int v_congruenceMany, .ref a_congruences, .int v_termMany, .int v_rounds, .ref a_terms])), (a_terms, .inl (y.2.1, 202, .inr (.inl v_terms)))] sz = A) (K : (Int32 × (Nat → Int64)) → Prop) (h : sat (m_X9_comes v_termMany v_terms x1) K) : Met l yX9_comes wsX9_comes ({ frames := 1, cells := 0, slots := 0, locals := 23 } : Room) (pW D y ([.ref a, .long x1] : List Value) [(a, .inr (6, [.ref a_now, .int v_undoMany, .int v_undoAt, .ref a_undos, .int v_seenMany, .ref a_seen, .ref a_isKept, .ref a_kept, .int v_letterMany, .ref a_text, .int v_readAt, .int v_tokenAt, .int v_token, .int v_faultAt, .int v_readItems, .ref a_read, .int v_congruenceMany, .ref a_congruences, .int v_termMany, .int v_rounds, .ref a_terms])), (a_terms, .inl (y.2.1, 202, .inr (.inl v_terms)))] sz) (va_Qv K (bW D y A (fun u : (Int32 × (Nat → Int64)) => [(a, .inr (6, [.ref a_now, .int v_undoMany, .int v_undoAt, .ref a_undos, .int v_seenMany, .ref a_seen, .ref a_isKept, .ref a_kept, .int v_letterMany, .ref a_text, .int v_readAt, .int v_tokenAt, .int v_token, .int v_faultAt, .int v_readItems, .ref a_read, .int v_congruenceMany, .ref a_congruences, .int u.1, .int v_rounds, .ref a_terms])), (a_terms, .inl (y.2.1, 202, .inr (.inl u.2)))])) A) 0 0 A := by
  refine Met.ofW (cc := cX9_comes) (maxL := 3) (ret := none) (by decide) rfl ?_
  intro p e s m args below meth c s₁ B hml hv
  obtain ⟨rfl, hsz, hP, hK, hD0⟩ := hv
  have hx := B.exec
  have hb := B.bytes
  have hr := B.returns
  have hts := atoms_spec (ws := wsX9_comes) B.pre
  have hown : s.vm.findClass RX9 = some m.cls := findClass_of_methodNamed B.named
  have hlocks := B.notSynchronized
  subst hsz
  have hD : va_D A [(a, .inr (6, [.ref a_now, .int v_undoMany, .int v_undoAt, .ref a_undos, .int v_seenMany, .ref a_seen, .ref a_isKept, .ref a_kept, .int v_letterMany, .ref a_text, .int v_readAt, .int v_tokenAt, .int v_token, .int v_faultAt, .int v_readItems, .ref a_read, .int v_congruenceMany, .ref a_congruences, .int v_termMany, .int v_rounds, .ref a_terms])), (a_terms, .inl (y.2.1, 202, .inr (.inl v_terms)))] := hAe ▸ hD0.self
  have hA : ∀ q : Nat, s.heap.size ≤ q → A q := fun q h => hAe ▸ Or.inr h
  have hS : va_S A s.heap s.heap [] := va_S.rf
  have iX9 : ∀ w ∈ wsX90, w ∈ wsX9_comes := by decide +kernel
  have fl35 := hts (.fieldLink RX9 35 "AlgebraLawsModel" "terms" "[J") (by decide +kernel)
  have fl182 := hts (.fieldLink RX9 182 "AlgebraLawsModel" "termMany" "I") (by decide +kernel)
  have hl := lv_entry ([.ref a, .long x1] : List Value) (n := 3) (Nat.le_of_ble_eq_true rfl)
  rw [lg_entry_eq]
  generalize (lg_sl ([.ref a, .long x1] : List Value) ++ List.replicate (3 - (lg_sl ([.ref a, .long x1] : List Value)).length) Slot.unset).toArray = ls at hl ⊢
  have hl : lv_has ls 3 [(0, .ref a), (1, .long x1)] := hl
  unfold m_X9_comes at h
  refine lv_aload_n hx hb dX9_comes_0 rfl (lv_at hl 0 rfl) ?_
  refine lv_lload_n hx hb dX9_comes_1 rfl (lv_at hl 1 rfl) ?_
  refine cr_i (rv (As := [.long x1]) (rest := []) ⟨hx, hb, hml, hown, hts⟩ (c_X9_isTerm l D y a a_terms a_now a_undos a_seen a_isKept a_kept a_text a_read a_congruences v_undoMany v_undoAt v_seenMany v_letterMany v_readAt v_tokenAt v_token v_faultAt v_readItems v_congruenceMany v_termMany v_rounds v_terms x1 _ (sat_bind h)) (cwV 1 hts gX9_comes_X9_isTerm rfl rfl rfl (by decide +kernel) ⟨Nat.le_of_ble_eq_true rfl, Nat.le_of_ble_eq_true rfl⟩) hK hP [0, 1] rfl 0 6 rfl rfl rfl rfl hl.1 rfl (Nat.le_of_ble_eq_true rfl) dX9_comes_2 ⟨Nat.zero_le _, Nat.zero_le _⟩) (fun r1 h => ?_)
  refine lv_if_ne (tgt := 28) hx hb dX9_comes_5 (by decide) (fun c5 => ?_) (fun c5 => ?_)
  · have h := sat_f c5 h
    have h := sat_some h
    exact W.vret hx hb hr (fun t ht hW => ⟨⟨(v_termMany, v_terms), rfl, h, by rw [ht]; exact hP, va_K.moved hW.alike hK, hD⟩, hS.F ht⟩) hS.2.2 dX9_comes_28
  · have h := sat_t c5 h
    refine lv_aload_n hx hb dX9_comes_8 rfl (lv_at hl 0 rfl) ?_
    refine va_get (D := D) (ci := 6) (v := .ref a_terms) (C := RX9) (T := TX9) (N := 21) hx hb hts iX9 hown hK hP 0 rfl rfl 20 (by decide) fl35 (fun _ h9 => h9) rfl dX9_comes_9 ?_
    refine lv_aload_n hx hb dX9_comes_12 rfl (lv_at hl 0 rfl) ?_
    refine va_get (D := D) (ci := 6) (v := .int v_termMany) (C := RX9) (T := TX9) (N := 21) hx hb hts iX9 hown hK hP 0 rfl rfl 18 (by decide) fl182 (fun _ h9 => h9) rfl dX9_comes_13 ?_
    refine lv_lload_n hx hb dX9_comes_16 rfl (lv_at hl 1 rfl) ?_
    obtain ⟨f2, ef2, hin, h⟩ := sat_wrL h
    refine yl (wn := [(a, .inr (6, [.ref a_now, .int v_undoMany, .int v_undoAt, .ref a_undos, .int v_seenMany, .ref a_seen, .ref a_isKept, .ref a_kept, .int v_letterMany, .ref a_text, .int v_readAt, .int v_tokenAt, .int v_token, .int v_faultAt, .int v_readItems, .ref a_read, .int v_congruenceMany, .ref a_congruences, .int v_termMany, .int v_rounds, .ref a_terms])), (a_terms, .inl (y.2.1, 202, .inr (.inl f2)))]) hx hb hK hP hD hS 1 1 rfl rfl ef2 hin dX9_comes_17 rfl (fun H locs hP hD hS => ?_)
    refine lv_aload_n hx hb dX9_comes_18 rfl (lv_at hl 0 rfl) ?_
    refine lv_dup hx hb dX9_comes_19 rfl ?_
    refine va_get (D := D) (ci := 6) (v := .int v_termMany) (C := RX9) (T := TX9) (N := 21) hx hb hts iX9 hown hK hP 0 rfl rfl 18 (by decide) fl182 (fun _ h9 => h9) rfl dX9_comes_20 ?_
    refine lv_iconst (v := 1) hx hb dX9_comes_23 (by decide) ?_
    refine lv_iadd hx hb dX9_comes_24 ?_
    refine pf (D := D) (ci := 6) (v := .int (v_termMany + 1)) (ty := .int) (C := RX9) (T := TX9) (N := 21) (wn := [(a, .inr (6, [.ref a_now, .int v_undoMany, .int v_undoAt, .ref a_undos, .int v_seenMany, .ref a_seen, .ref a_isKept, .ref a_kept, .int v_letterMany, .ref a_text, .int v_readAt, .int v_tokenAt, .int v_token, .int v_faultAt, .int v_readItems, .ref a_read, .int v_congruenceMany, .ref a_congruences, .int (v_termMany + 1), .int v_rounds, .ref a_terms])), (a_terms, .inl (y.2.1, 202, .inr (.inl f2)))]) hx hb hts iX9 tyX9 tyX9_ok nmX9 hown hK hP hD hS 0 rfl rfl 18 (by decide) fl182 (fun _ h9 => h9) rfl (by decide +kernel) rfl rfl (Nat.le_of_ble_eq_true rfl) dX9_comes_25 rfl (fun H locs hP hD hS => ?_)
    have h := sat_some h
    exact W.vret hx hb hr (fun t ht hW => ⟨⟨(v_termMany + 1, f2), rfl, h, by rw [ht]; exact hP, va_K.moved hW.alike hK, hD⟩, hS.F ht⟩) hS.2.2 dX9_comes_28

/-! X9_fOf -/
set_option maxHeartbeats 4000000 in
set_option maxRecDepth 100000 in
theorem c_X9_fOf (l : Launch) (D : va_G) (y : ClassId × ClassId × ClassId × ClassId) (a a_now a_undos a_seen a_isKept a_kept a_text a_read a_congruences a_terms : Nat) (v_undoMany : Int32) (v_undoAt : Int32) (v_seenMany : Int32) (v_letterMany : Int32) (v_readAt : Int32) (v_tokenAt : Int32) (v_token : Int32) (v_faultAt : Int32) (v_readItems : Int32) (v_congruenceMany : Int32) (v_termMany : Int32) (v_rounds : Int32) (v_now : Nat → Int32) (x1 : Int64) (x3 : Int64) (x5 : Int32) (K : Int64 → Prop) (h : sat (m_X9_fOf v_now x1 x3 x5) K) : Met l yX9_fOf wsX9_fOf ({ frames := 1, cells := 0, slots := 0, locals := 22 } : Room) (pR D y ([.ref a, .long x1, .long x3, .int x5] : List Value) [(a, .inr (6, [.ref a_now, .int v_undoMany, .int v_undoAt, .ref a_undos, .int v_seenMany, .ref a_seen, .ref a_isKept, .ref a_kept, .int v_letterMany, .ref a_text, .int v_readAt, .int v_tokenAt, .int v_token, .int v_faultAt, .int v_readItems, .ref a_read, .int v_congruenceMany, .ref a_congruences, .int v_termMany, .int v_rounds, .ref a_terms])), (a_now, .inl (y.1, 21, .inl v_now))]) (qSl K) 0 0 (fun _ => False) := by
  refine Met.ofW (cc := cX9_fOf) (maxL := 9) (ret := (some .long)) (by decide) rfl ?_
  intro p e s m args below meth c s₁ B hml hv
  obtain ⟨rfl, hP, hK⟩ := hv
  have hx := B.exec
  have hb := B.bytes
  have hr := B.returns
  have hts := atoms_spec (ws := wsX9_fOf) B.pre
  have hown : s.vm.findClass RX9 = some m.cls := findClass_of_methodNamed B.named
  have hlocks := B.notSynchronized
  have hl := lv_entry ([.ref a, .long x1, .long x3, .int x5] : List Value) (n := 9) (Nat.le_of_ble_eq_true rfl)
  rw [lg_entry_eq]
  generalize (lg_sl ([.ref a, .long x1, .long x3, .int x5] : List Value) ++ List.replicate (9 - (lg_sl ([.ref a, .long x1, .long x3, .int x5] : List Value)).length) Slot.unset).toArray = ls at hl ⊢
  have hl : lv_has ls 9 [(0, .ref a), (1, .long x1), (3, .long x3), (5, .int x5)] := hl
  unfold m_X9_fOf at h
  refine lv_lconst (v := 0) hx hb dX9_fOf_0 (by decide) ?_
  refine lv_lstore (lv' := [(6, .long (0 : Int64)), (0, .ref a), (1, .long x1), (3, .long x3), (5, .int x5)]) hx hb dX9_fOf_1 hl (by decide) rfl (fun ls hl => ?_)
  refine lv_iconst (v := 0) hx hb dX9_fOf_3 (by decide) ?_
  refine lv_istore (lv' := [(8, .int 0), (6, .long (0 : Int64)), (0, .ref a), (1, .long x1), (3, .long x3), (5, .int x5)]) hx hb dX9_fOf_4 hl (by decide) rfl (fun ls hl => ?_)
  have hL6 : ∀ (K6 : Int64 → Prop)
      (hE6 : ∀ (z6 : Int64) (ls : Array Slot), K6 z6 → lv_has ls 9 [(6, .long z6)] → W p l e (headSpec wsX9_fOf ({ frames := 1, cells := 0, slots := 0, locals := 22 } : Room)).room s m ([.ref a, .long x1, .long x3, .int x5] : List Value).toArray below meth c s.heap [] 0 0 (MQ below (qSl K) ([.ref a, .long x1, .long x3, .int x5] : List Value).toArray s 0 0 (fun _ => False)) (F0 m 56 ls []))
      (n : Nat) (x6_6 : Int64) (x8_6 : Int32) (ls : Array Slot), sat (lp (fun q : (Int64 × Int32) => m_X9_fOf_s6 v_now x1 x3 x5 q.1 q.2) n (x6_6, x8_6)) K6 → lv_has ls 9 [(0, .ref a), (1, .long x1), (3, .long x3), (5, .int x5), (6, .long x6_6), (8, .int x8_6)] → W p l e (headSpec wsX9_fOf ({ frames := 1, cells := 0, slots := 0, locals := 22 } : Room)).room s m ([.ref a, .long x1, .long x3, .int x5] : List Value).toArray below meth c s.heap [] 0 0 (MQ below (qSl K) ([.ref a, .long x1, .long x3, .int x5] : List Value).toArray s 0 0 (fun _ => False)) (F0 m 6 ls []) := by
    intro K6 hE6 n
    induction n with
    | zero => intro x6_6 x8_6 ls h; exact (sat_lp0 h).elim
    | succ n ih =>
      intro x6_6 x8_6 ls h hl
      have h := sat_lp h
      have h : sat (m_X9_fOf_s6 v_now x1 x3 x5 x6_6 x8_6) (lk (fun s' => sat (lp (fun q : (Int64 × Int32) => m_X9_fOf_s6 v_now x1 x3 x5 q.1 q.2) n s') K6) K6) := h
      unfold m_X9_fOf_s6 at h
      refine lv_iload hx hb dX9_fOf_6 (lv_at hl 5 rfl) ?_
      refine lv_iload hx hb dX9_fOf_8 (lv_at hl 3 rfl) ?_
      refine lv_icmp_ge (tgt := 56) hx hb dX9_fOf_10 (by decide) (fun c10 => ?_) (fun c10 => ?_)
      · have h := sat_t c10 h
        have h := lk_r (sat_some h)
        exact hE6 x6_6 ls h (lv_sub hl [4] rfl)
      · have h := sat_f c10 h
        refine lv_lload hx hb dX9_fOf_13 (lv_at hl 4 rfl) ?_
        refine lv_aload_n hx hb dX9_fOf_15 rfl (lv_at hl 0 rfl) ?_
        refine lv_lload_n hx hb dX9_fOf_16 rfl (lv_at hl 1 rfl) ?_
        refine lv_iconst (v := 2) hx hb dX9_fOf_17 (by decide) ?_
        refine lv_iload hx hb dX9_fOf_18 (lv_at hl 5 rfl) ?_
        refine lv_imul hx hb dX9_fOf_20 ?_
        refine lv_lshr (v := x1 >>> ((2 * x8_6).toInt64 &&& 63)) hx hb dX9_fOf_21 rfl ?_
        refine lv_ldc2 (own := RX9) (v := (3 : Int64)) hx hb hown (hts (.constantLong RX9 189 (3 : Int64)) (by decide +kernel)) dX9_fOf_22 ?_
        refine lv_land hx hb dX9_fOf_25 ?_
        refine lv_l2i (v := ((x1 >>> ((2 * x8_6).toInt64 &&& 63)) &&& (3 : Int64)).toInt32) hx hb dX9_fOf_26 rfl ?_
        refine lv_lload_n hx hb dX9_fOf_27 rfl (lv_at hl 2 rfl) ?_
        refine lv_iconst (v := 2) hx hb dX9_fOf_28 (by decide) ?_
        refine lv_iload hx hb dX9_fOf_29 (lv_at hl 5 rfl) ?_
        refine lv_imul hx hb dX9_fOf_31 ?_
        refine lv_lshr (v := x3 >>> ((2 * x8_6).toInt64 &&& 63)) hx hb dX9_fOf_32 rfl ?_
        refine lv_ldc2 (own := RX9) (v := (3 : Int64)) hx hb hown (hts (.constantLong RX9 189 (3 : Int64)) (by decide +kernel)) dX9_fOf_33 ?_
        refine lv_land hx hb dX9_fOf_36 ?_
        refine lv_l2i (v := ((x3 >>> ((2 * x8_6).toInt64 &&& 63)) &&& (3 : Int64)).toInt32) hx hb dX9_fOf_37 rfl ?_
        refine cr_i (rv (As := [.int (((x1 >>> ((2 * x8_6).toInt64 &&& 63)) &&& (3 : Int64)).toInt32), .int (((x3 >>> ((2 * x8_6).toInt64 &&& 63)) &&& (3 : Int64)).toInt32)]) (rest := [.long x6_6]) ⟨hx, hb, hml, hown, hts⟩ (c_X9_ff l D y a a_now a_undos a_seen a_isKept a_kept a_text a_read a_congruences a_terms v_undoMany v_undoAt v_seenMany v_letterMany v_readAt v_tokenAt v_token v_faultAt v_readItems v_congruenceMany v_termMany v_rounds v_now (((x1 >>> ((2 * x8_6).toInt64 &&& 63)) &&& (3 : Int64)).toInt32) (((x3 >>> ((2 * x8_6).toInt64 &&& 63)) &&& (3 : Int64)).toInt32) _ (sat_bind h)) (cwV 2 hts gX9_fOf_X9_ff rfl rfl rfl (by decide +kernel) ⟨Nat.le_of_ble_eq_true rfl, Nat.le_of_ble_eq_true rfl⟩) hK hP [0, 1] rfl 0 6 rfl rfl rfl rfl hl.1 rfl (Nat.le_of_ble_eq_true rfl) dX9_fOf_38 ⟨Nat.zero_le _, Nat.zero_le _⟩) (fun r2 h => ?_)
        refine lv_i2l (v := r2.toInt64) hx hb dX9_fOf_41 rfl ?_
        refine lv_iconst (v := 2) hx hb dX9_fOf_42 (by decide) ?_
        refine lv_iload hx hb dX9_fOf_43 (lv_at hl 5 rfl) ?_
        refine lv_imul hx hb dX9_fOf_45 ?_
        refine lv_lshl (v := r2.toInt64 <<< ((2 * x8_6).toInt64 &&& 63)) hx hb dX9_fOf_46 rfl ?_
        refine lv_lor hx hb dX9_fOf_47 ?_
        obtain ⟨w3, ew3, h⟩ := sat_nm h
        refine tL ew3 ?_
        refine lv_lstore (lv' := [(6, .long w3), (0, .ref a), (1, .long x1), (3, .long x3), (5, .int x5), (8, .int x8_6)]) hx hb dX9_fOf_48 hl (by decide) rfl (fun ls hl => ?_)
        refine lv_iinc (v := x8_6 + 1) (lv' := [(8, .int (x8_6 + 1)), (6, .long w3), (0, .ref a), (1, .long x1), (3, .long x3), (5, .int x5)]) hx hb dX9_fOf_50 hl (k := 5) rfl rfl (by decide) rfl (fun ls hl => ?_)
        refine lv_goto (tgt := 6) hx hb dX9_fOf_53 (by decide) ?_
        have h := lk_l (sat_some h)
        exact ih w3 (x8_6 + 1) ls h (lv_sub hl [2, 3, 4, 5, 1, 0] rfl)
  have h := sat_bind h
  refine hL6 _ (fun z6 ls h hl => ?_) 1000 (0 : Int64) 0 ls h (lv_sub hl [2, 3, 4, 5, 1, 0] rfl)
  refine lv_lload hx hb dX9_fOf_56 (lv_at hl 0 rfl) ?_
  have h := sat_some h
  exact W.lret (v := z6) hx hb hr (fun t ht _ => ⟨z6, rfl, h, ht⟩) (fun _ hq => by cases hq) dX9_fOf_58

/-! X9_gOf -/
set_option maxHeartbeats 4000000 in
set_option maxRecDepth 100000 in
theorem c_X9_gOf (l : Launch) (D : va_G) (y : ClassId × ClassId × ClassId × ClassId) (a a_now a_undos a_seen a_isKept a_kept a_text a_read a_congruences a_terms : Nat) (v_undoMany : Int32) (v_undoAt : Int32) (v_seenMany : Int32) (v_letterMany : Int32) (v_readAt : Int32) (v_tokenAt : Int32) (v_token : Int32) (v_faultAt : Int32) (v_readItems : Int32) (v_congruenceMany : Int32) (v_termMany : Int32) (v_rounds : Int32) (v_now : Nat → Int32) (x1 : Int64) (x3 : Int32) (K : Int64 → Prop) (h : sat (m_X9_gOf v_now x1 x3) K) : Met l yX9_gOf wsX9_gOf ({ frames := 1, cells := 0, slots := 0, locals := 21 } : Room) (pR D y ([.ref a, .long x1, .int x3] : List Value) [(a, .inr (6, [.ref a_now, .int v_undoMany, .int v_undoAt, .ref a_undos, .int v_seenMany, .ref a_seen, .ref a_isKept, .ref a_kept, .int v_letterMany, .ref a_text, .int v_readAt, .int v_tokenAt, .int v_token, .int v_faultAt, .int v_readItems, .ref a_read, .int v_congruenceMany, .ref a_congruences, .int v_termMany, .int v_rounds, .ref a_terms])), (a_now, .inl (y.1, 21, .inl v_now))]) (qSl K) 0 0 (fun _ => False) := by
  refine Met.ofW (cc := cX9_gOf) (maxL := 7) (ret := (some .long)) (by decide) rfl ?_
  intro p e s m args below meth c s₁ B hml hv
  obtain ⟨rfl, hP, hK⟩ := hv
  have hx := B.exec
  have hb := B.bytes
  have hr := B.returns
  have hts := atoms_spec (ws := wsX9_gOf) B.pre
  have hown : s.vm.findClass RX9 = some m.cls := findClass_of_methodNamed B.named
  have hlocks := B.notSynchronized
  have hl := lv_entry ([.ref a, .long x1, .int x3] : List Value) (n := 7) (Nat.le_of_ble_eq_true rfl)
  rw [lg_entry_eq]
  generalize (lg_sl ([.ref a, .long x1, .int x3] : List Value) ++ List.replicate (7 - (lg_sl ([.ref a, .long x1, .int x3] : List Value)).length) Slot.unset).toArray = ls at hl ⊢
  have hl : lv_has ls 7 [(0, .ref a), (1, .long x1), (3, .int x3)] := hl
  unfold m_X9_gOf at h
  refine lv_lconst (v := 0) hx hb dX9_gOf_0 (by decide) ?_
  refine lv_lstore (lv' := [(4, .long (0 : Int64)), (0, .ref a), (1, .long x1), (3, .int x3)]) hx hb dX9_gOf_1 hl (by decide) rfl (fun ls hl => ?_)
  refine lv_iconst (v := 0) hx hb dX9_gOf_3 (by decide) ?_
  refine lv_istore (lv' := [(6, .int 0), (4, .long (0 : Int64)), (0, .ref a), (1, .long x1), (3, .int x3)]) hx hb dX9_gOf_4 hl (by decide) rfl (fun ls hl => ?_)
  have hL6 : ∀ (K6 : Int64 → Prop)
      (hE6 : ∀ (z6 : Int64) (ls : Array Slot), K6 z6 → lv_has ls 7 [(4, .long z6)] → W p l e (headSpec wsX9_gOf ({ frames := 1, cells := 0, slots := 0, locals := 21 } : Room)).room s m ([.ref a, .long x1, .int x3] : List Value).toArray below meth c s.heap [] 0 0 (MQ below (qSl K) ([.ref a, .long x1, .int x3] : List Value).toArray s 0 0 (fun _ => False)) (F0 m 44 ls []))
      (n : Nat) (x4_6 : Int64) (x6_6 : Int32) (ls : Array Slot), sat (lp (fun q : (Int64 × Int32) => m_X9_gOf_s6 v_now x1 x3 q.1 q.2) n (x4_6, x6_6)) K6 → lv_has ls 7 [(0, .ref a), (1, .long x1), (3, .int x3), (4, .long x4_6), (6, .int x6_6)] → W p l e (headSpec wsX9_gOf ({ frames := 1, cells := 0, slots := 0, locals := 21 } : Room)).room s m ([.ref a, .long x1, .int x3] : List Value).toArray below meth c s.heap [] 0 0 (MQ below (qSl K) ([.ref a, .long x1, .int x3] : List Value).toArray s 0 0 (fun _ => False)) (F0 m 6 ls []) := by
    intro K6 hE6 n
    induction n with
    | zero => intro x4_6 x6_6 ls h; exact (sat_lp0 h).elim
    | succ n ih =>
      intro x4_6 x6_6 ls h hl
      have h := sat_lp h
      have h : sat (m_X9_gOf_s6 v_now x1 x3 x4_6 x6_6) (lk (fun s' => sat (lp (fun q : (Int64 × Int32) => m_X9_gOf_s6 v_now x1 x3 q.1 q.2) n s') K6) K6) := h
      unfold m_X9_gOf_s6 at h
      refine lv_iload hx hb dX9_gOf_6 (lv_at hl 4 rfl) ?_
      refine lv_iload_n hx hb dX9_gOf_8 rfl (lv_at hl 2 rfl) ?_
      refine lv_icmp_ge (tgt := 44) hx hb dX9_gOf_9 (by decide) (fun c9 => ?_) (fun c9 => ?_)
      · have h := sat_t c9 h
        have h := lk_r (sat_some h)
        exact hE6 x4_6 ls h (lv_sub hl [3] rfl)
      · have h := sat_f c9 h
        refine lv_lload hx hb dX9_gOf_12 (lv_at hl 3 rfl) ?_
        refine lv_aload_n hx hb dX9_gOf_14 rfl (lv_at hl 0 rfl) ?_
        refine lv_lload_n hx hb dX9_gOf_15 rfl (lv_at hl 1 rfl) ?_
        refine lv_iconst (v := 2) hx hb dX9_gOf_16 (by decide) ?_
        refine lv_iload hx hb dX9_gOf_17 (lv_at hl 4 rfl) ?_
        refine lv_imul hx hb dX9_gOf_19 ?_
        refine lv_lshr (v := x1 >>> ((2 * x6_6).toInt64 &&& 63)) hx hb dX9_gOf_20 rfl ?_
        refine lv_ldc2 (own := RX9) (v := (3 : Int64)) hx hb hown (hts (.constantLong RX9 189 (3 : Int64)) (by decide +kernel)) dX9_gOf_21 ?_
        refine lv_land hx hb dX9_gOf_24 ?_
        refine lv_l2i (v := ((x1 >>> ((2 * x6_6).toInt64 &&& 63)) &&& (3 : Int64)).toInt32) hx hb dX9_gOf_25 rfl ?_
        refine cr_i (rv (As := [.int (((x1 >>> ((2 * x6_6).toInt64 &&& 63)) &&& (3 : Int64)).toInt32)]) (rest := [.long x4_6]) ⟨hx, hb, hml, hown, hts⟩ (c_X9_gg l D y a a_now a_undos a_seen a_isKept a_kept a_text a_read a_congruences a_terms v_undoMany v_undoAt v_seenMany v_letterMany v_readAt v_tokenAt v_token v_faultAt v_readItems v_congruenceMany v_termMany v_rounds v_now (((x1 >>> ((2 * x6_6).toInt64 &&& 63)) &&& (3 : Int64)).toInt32) _ (sat_bind h)) (cwV 1 hts gX9_gOf_X9_gg rfl rfl rfl (by decide +kernel) ⟨Nat.le_of_ble_eq_true rfl, Nat.le_of_ble_eq_true rfl⟩) hK hP [0, 1] rfl 0 6 rfl rfl rfl rfl hl.1 rfl (Nat.le_of_ble_eq_true rfl) dX9_gOf_26 ⟨Nat.zero_le _, Nat.zero_le _⟩) (fun r2 h => ?_)
        refine lv_i2l (v := r2.toInt64) hx hb dX9_gOf_29 rfl ?_
        refine lv_iconst (v := 2) hx hb dX9_gOf_30 (by decide) ?_
        refine lv_iload hx hb dX9_gOf_31 (lv_at hl 4 rfl) ?_
        refine lv_imul hx hb dX9_gOf_33 ?_
        refine lv_lshl (v := r2.toInt64 <<< ((2 * x6_6).toInt64 &&& 63)) hx hb dX9_gOf_34 rfl ?_
        refine lv_lor hx hb dX9_gOf_35 ?_
        obtain ⟨w3, ew3, h⟩ := sat_nm h
        refine tL ew3 ?_
        refine lv_lstore (lv' := [(4, .long w3), (0, .ref a), (1, .long x1), (3, .int x3), (6, .int x6_6)]) hx hb dX9_gOf_36 hl (by decide) rfl (fun ls hl => ?_)
        refine lv_iinc (v := x6_6 + 1) (lv' := [(6, .int (x6_6 + 1)), (4, .long w3), (0, .ref a), (1, .long x1), (3, .int x3)]) hx hb dX9_gOf_38 hl (k := 4) rfl rfl (by decide) rfl (fun ls hl => ?_)
        refine lv_goto (tgt := 6) hx hb dX9_gOf_41 (by decide) ?_
        have h := lk_l (sat_some h)
        exact ih w3 (x6_6 + 1) ls h (lv_sub hl [2, 3, 4, 1, 0] rfl)
  have h := sat_bind h
  refine hL6 _ (fun z6 ls h hl => ?_) 1000 (0 : Int64) 0 ls h (lv_sub hl [2, 3, 4, 1, 0] rfl)
  refine lv_lload hx hb dX9_gOf_44 (lv_at hl 0 rfl) ?_
  have h := sat_some h
  exact W.lret (v := z6) hx hb hr (fun t ht _ => ⟨z6, rfl, h, ht⟩) (fun _ hq => by cases hq) dX9_gOf_46

/-! X9_goesRound -/
set_option maxHeartbeats 4000000 in
set_option maxRecDepth 100000 in
theorem c_X9_goesRound (l : Launch) (D : va_G) (y : ClassId × ClassId × ClassId × ClassId) (a a_now a_terms a_undos a_seen a_isKept a_kept a_text a_read a_congruences : Nat) (v_undoMany : Int32) (v_undoAt : Int32) (v_seenMany : Int32) (v_letterMany : Int32) (v_readAt : Int32) (v_tokenAt : Int32) (v_token : Int32) (v_faultAt : Int32) (v_readItems : Int32) (v_congruenceMany : Int32) (v_termMany : Int32) (v_rounds : Int32) (v_now : Nat → Int32) (v_terms : Nat → Int64) (x1 : Int32) (sz : Nat) (A : Nat → Prop) (hAe : va_A [(a, .inr (6, [.ref a_now, .int v_undoMany, .int v_undoAt, .ref a_undos, .int v_seenMany, .ref a_seen, .ref a_isKept, .ref a_kept, .int v_letterMany, .ref a_text, .int v_readAt, .int v_tokenAt, .int v_token, .int v_faultAt, .int v_readItems, .ref a_read, .int v_congruenceMany, .ref a_congruences, .int v_termMany, .int v_rounds, .ref a_terms])), (a_now, .inl (y.1, 21, .inl v_now)), (a_terms, .inl (y.2.1, 202, .inr (.inl v_terms)))] sz = A) (K : Int32 → (Int32 × (Nat → Int64)) → Prop) (h : sat (m_X9_goesRound v_termMany v_now v_terms x1) (pK K)) : Met l yX9_goesRound wsX9_goesRound ({ frames := 2, cells := 0, slots := 0, locals := 50 } : Room) (pW D y ([.ref a, .int x1] : List Value) [(a, .inr (6, [.ref a_now, .int v_undoMany, .int v_undoAt, .ref a_undos, .int v_seenMany, .ref a_seen, .ref a_isKept, .ref a_kept, .int v_letterMany, .ref a_text, .int v_readAt, .int v_tokenAt, .int v_token, .int v_faultAt, .int v_readItems, .ref a_read, .int v_congruenceMany, .ref a_congruences, .int v_termMany, .int v_rounds, .ref a_terms])), (a_now, .inl (y.1, 21, .inl v_now)), (a_terms, .inl (y.2.1, 202, .inr (.inl v_terms)))] sz) (va_Qi K (bW D y A (fun u : (Int32 × (Nat → Int64)) => [(a, .inr (6, [.ref a_now, .int v_undoMany, .int v_undoAt, .ref a_undos, .int v_seenMany, .ref a_seen, .ref a_isKept, .ref a_kept, .int v_letterMany, .ref a_text, .int v_readAt, .int v_tokenAt, .int v_token, .int v_faultAt, .int v_readItems, .ref a_read, .int v_congruenceMany, .ref a_congruences, .int u.1, .int v_rounds, .ref a_terms])), (a_now, .inl (y.1, 21, .inl v_now)), (a_terms, .inl (y.2.1, 202, .inr (.inl u.2)))])) A) 0 0 A := by
  refine Met.ofW (cc := cX9_goesRound) (maxL := 5) (ret := (some .boolean)) (by decide) rfl ?_
  intro p e s m args below meth c s₁ B hml hv
  obtain ⟨rfl, hsz, hP, hK, hD0⟩ := hv
  have hx := B.exec
  have hb := B.bytes
  have hr := B.returns
  have hts := atoms_spec (ws := wsX9_goesRound) B.pre
  have hown : s.vm.findClass RX9 = some m.cls := findClass_of_methodNamed B.named
  have hlocks := B.notSynchronized
  subst hsz
  have hD : va_D A [(a, .inr (6, [.ref a_now, .int v_undoMany, .int v_undoAt, .ref a_undos, .int v_seenMany, .ref a_seen, .ref a_isKept, .ref a_kept, .int v_letterMany, .ref a_text, .int v_readAt, .int v_tokenAt, .int v_token, .int v_faultAt, .int v_readItems, .ref a_read, .int v_congruenceMany, .ref a_congruences, .int v_termMany, .int v_rounds, .ref a_terms])), (a_now, .inl (y.1, 21, .inl v_now)), (a_terms, .inl (y.2.1, 202, .inr (.inl v_terms)))] := hAe ▸ hD0.self
  have hA : ∀ q : Nat, s.heap.size ≤ q → A q := fun q h => hAe ▸ Or.inr h
  have hS : va_S A s.heap s.heap [] := va_S.rf
  have iX9 : ∀ w ∈ wsX90, w ∈ wsX9_goesRound := by decide +kernel
  have fl182 := hts (.fieldLink RX9 182 "AlgebraLawsModel" "termMany" "I") (by decide +kernel)
  have fl35 := hts (.fieldLink RX9 35 "AlgebraLawsModel" "terms" "[J") (by decide +kernel)
  have hl := lv_entry ([.ref a, .int x1] : List Value) (n := 5) (Nat.le_of_ble_eq_true rfl)
  rw [lg_entry_eq]
  generalize (lg_sl ([.ref a, .int x1] : List Value) ++ List.replicate (5 - (lg_sl ([.ref a, .int x1] : List Value)).length) Slot.unset).toArray = ls at hl ⊢
  have hl : lv_has ls 5 [(0, .ref a), (1, .int x1)] := hl
  have hJ90 : ∀ (x2_90 : Int32) (v_termMany_90 : Int32) (v_terms_90 : Nat → Int64) (ls : Array Slot) (H : Heap) (locs : List Loc), sat (m_X9_goesRound_j90 x2_90 v_termMany_90 v_terms_90) (pK K) → lv_has ls 5 [(0, .ref a), (2, .int x2_90)] → va_P D vwCl [(a, .inr (6, [.ref a_now, .int v_undoMany, .int v_undoAt, .ref a_undos, .int v_seenMany, .ref a_seen, .ref a_isKept, .ref a_kept, .int v_letterMany, .ref a_text, .int v_readAt, .int v_tokenAt, .int v_token, .int v_faultAt, .int v_readItems, .ref a_read, .int v_congruenceMany, .ref a_congruences, .int v_termMany_90, .int v_rounds, .ref a_terms])), (a_now, .inl (y.1, 21, .inl v_now)), (a_terms, .inl (y.2.1, 202, .inr (.inl v_terms_90)))] H → va_D A [(a, .inr (6, [.ref a_now, .int v_undoMany, .int v_undoAt, .ref a_undos, .int v_seenMany, .ref a_seen, .ref a_isKept, .ref a_kept, .int v_letterMany, .ref a_text, .int v_readAt, .int v_tokenAt, .int v_token, .int v_faultAt, .int v_readItems, .ref a_read, .int v_congruenceMany, .ref a_congruences, .int v_termMany_90, .int v_rounds, .ref a_terms])), (a_now, .inl (y.1, 21, .inl v_now)), (a_terms, .inl (y.2.1, 202, .inr (.inl v_terms_90)))] → va_S A s.heap H locs → W p l e (headSpec wsX9_goesRound ({ frames := 2, cells := 0, slots := 0, locals := 50 } : Room)).room s m ([.ref a, .int x1] : List Value).toArray below meth c H locs 0 0 (MQ below (va_Qi K (bW D y A (fun u : (Int32 × (Nat → Int64)) => [(a, .inr (6, [.ref a_now, .int v_undoMany, .int v_undoAt, .ref a_undos, .int v_seenMany, .ref a_seen, .ref a_isKept, .ref a_kept, .int v_letterMany, .ref a_text, .int v_readAt, .int v_tokenAt, .int v_token, .int v_faultAt, .int v_readItems, .ref a_read, .int v_congruenceMany, .ref a_congruences, .int u.1, .int v_rounds, .ref a_terms])), (a_now, .inl (y.1, 21, .inl v_now)), (a_terms, .inl (y.2.1, 202, .inr (.inl u.2)))])) A) ([.ref a, .int x1] : List Value).toArray s 0 0 A) (F0 m 90 ls []) := by
    intro x2_90 v_termMany_90 v_terms_90 ls H locs h hl hP hD hS
    unfold m_X9_goesRound_j90 at h
    refine lv_aload_n hx hb dX9_goesRound_90 rfl (lv_at hl 0 rfl) ?_
    refine va_get (D := D) (ci := 6) (v := .int v_termMany_90) (C := RX9) (T := TX9) (N := 21) hx hb hts iX9 hown hK hP 0 rfl rfl 18 (by decide) fl182 (fun _ h9 => h9) rfl dX9_goesRound_91 ?_
    refine lv_iload_n hx hb dX9_goesRound_94 rfl (lv_at hl 1 rfl) ?_
    refine lv_icmp_le (tgt := 102) hx hb dX9_goesRound_95 (by decide) (fun c95 => ?_) (fun c95 => ?_)
    · have h := sat_t c95 h
      refine lv_iconst (v := 0) hx hb dX9_goesRound_102 (by decide) ?_
      have h := sat_some h
      exact W.zret (v := 0) hx hb hr rfl (fun t ht hW => ⟨⟨0, (v_termMany_90, v_terms_90), rfl, h, by rw [ht]; exact hP, va_K.moved hW.alike hK, hD⟩, hS.F ht⟩) hS.2.2 dX9_goesRound_103
    · have h := sat_f c95 h
      refine lv_iconst (v := 1) hx hb dX9_goesRound_98 (by decide) ?_
      refine lv_goto (tgt := 103) hx hb dX9_goesRound_99 (by decide) ?_
      have h := sat_some h
      exact W.zret (v := 1) hx hb hr rfl (fun t ht hW => ⟨⟨1, (v_termMany_90, v_terms_90), rfl, h, by rw [ht]; exact hP, va_K.moved hW.alike hK, hD⟩, hS.F ht⟩) hS.2.2 dX9_goesRound_103
  unfold m_X9_goesRound at h
  refine lv_aload_n hx hb dX9_goesRound_0 rfl (lv_at hl 0 rfl) ?_
  refine va_get (D := D) (ci := 6) (v := .int v_termMany) (C := RX9) (T := TX9) (N := 21) hx hb hts iX9 hown hK hP 0 rfl rfl 18 (by decide) fl182 (fun _ h9 => h9) rfl dX9_goesRound_1 ?_
  refine lv_istore_n (lv' := [(2, .int v_termMany), (0, .ref a), (1, .int x1)]) hx hb dX9_goesRound_4 rfl hl (by decide) rfl (fun ls hl => ?_)
  refine lv_iconst (v := 0) hx hb dX9_goesRound_5 (by decide) ?_
  refine lv_istore_n (lv' := [(3, .int 0), (2, .int v_termMany), (0, .ref a), (1, .int x1)]) hx hb dX9_goesRound_6 rfl hl (by decide) rfl (fun ls hl => ?_)
  have hL7 : ∀ (K7 : (Int32 × (Nat → Int64)) → Prop)
      (hE7 : ∀ (z7 : (Int32 × (Nat → Int64))) (ls : Array Slot) (H : Heap) (locs : List Loc), K7 z7 → lv_has ls 5 [(0, .ref a), (2, .int v_termMany)] → va_P D vwCl [(a, .inr (6, [.ref a_now, .int v_undoMany, .int v_undoAt, .ref a_undos, .int v_seenMany, .ref a_seen, .ref a_isKept, .ref a_kept, .int v_letterMany, .ref a_text, .int v_readAt, .int v_tokenAt, .int v_token, .int v_faultAt, .int v_readItems, .ref a_read, .int v_congruenceMany, .ref a_congruences, .int z7.1, .int v_rounds, .ref a_terms])), (a_now, .inl (y.1, 21, .inl v_now)), (a_terms, .inl (y.2.1, 202, .inr (.inl z7.2)))] H → va_D A [(a, .inr (6, [.ref a_now, .int v_undoMany, .int v_undoAt, .ref a_undos, .int v_seenMany, .ref a_seen, .ref a_isKept, .ref a_kept, .int v_letterMany, .ref a_text, .int v_readAt, .int v_tokenAt, .int v_token, .int v_faultAt, .int v_readItems, .ref a_read, .int v_congruenceMany, .ref a_congruences, .int z7.1, .int v_rounds, .ref a_terms])), (a_now, .inl (y.1, 21, .inl v_now)), (a_terms, .inl (y.2.1, 202, .inr (.inl z7.2)))] → va_S A s.heap H locs → W p l e (headSpec wsX9_goesRound ({ frames := 2, cells := 0, slots := 0, locals := 50 } : Room)).room s m ([.ref a, .int x1] : List Value).toArray below meth c H locs 0 0 (MQ below (va_Qi K (bW D y A (fun u : (Int32 × (Nat → Int64)) => [(a, .inr (6, [.ref a_now, .int v_undoMany, .int v_undoAt, .ref a_undos, .int v_seenMany, .ref a_seen, .ref a_isKept, .ref a_kept, .int v_letterMany, .ref a_text, .int v_readAt, .int v_tokenAt, .int v_token, .int v_faultAt, .int v_readItems, .ref a_read, .int v_congruenceMany, .ref a_congruences, .int u.1, .int v_rounds, .ref a_terms])), (a_now, .inl (y.1, 21, .inl v_now)), (a_terms, .inl (y.2.1, 202, .inr (.inl u.2)))])) A) ([.ref a, .int x1] : List Value).toArray s 0 0 A) (F0 m 90 ls []))
      (n : Nat) (x3_7 : Int32) (v_termMany_7 : Int32) (v_terms_7 : Nat → Int64) (ls : Array Slot) (H : Heap) (locs : List Loc), sat (lp (fun q : (Int32 × Int32 × (Nat → Int64)) => m_X9_goesRound_s7 v_termMany v_now x1 q.1 q.2.1 q.2.2) n (x3_7, v_termMany_7, v_terms_7)) K7 → lv_has ls 5 [(0, .ref a), (1, .int x1), (2, .int v_termMany), (3, .int x3_7)] → va_P D vwCl [(a, .inr (6, [.ref a_now, .int v_undoMany, .int v_undoAt, .ref a_undos, .int v_seenMany, .ref a_seen, .ref a_isKept, .ref a_kept, .int v_letterMany, .ref a_text, .int v_readAt, .int v_tokenAt, .int v_token, .int v_faultAt, .int v_readItems, .ref a_read, .int v_congruenceMany, .ref a_congruences, .int v_termMany_7, .int v_rounds, .ref a_terms])), (a_now, .inl (y.1, 21, .inl v_now)), (a_terms, .inl (y.2.1, 202, .inr (.inl v_terms_7)))] H → va_D A [(a, .inr (6, [.ref a_now, .int v_undoMany, .int v_undoAt, .ref a_undos, .int v_seenMany, .ref a_seen, .ref a_isKept, .ref a_kept, .int v_letterMany, .ref a_text, .int v_readAt, .int v_tokenAt, .int v_token, .int v_faultAt, .int v_readItems, .ref a_read, .int v_congruenceMany, .ref a_congruences, .int v_termMany_7, .int v_rounds, .ref a_terms])), (a_now, .inl (y.1, 21, .inl v_now)), (a_terms, .inl (y.2.1, 202, .inr (.inl v_terms_7)))] → va_S A s.heap H locs → W p l e (headSpec wsX9_goesRound ({ frames := 2, cells := 0, slots := 0, locals := 50 } : Room)).room s m ([.ref a, .int x1] : List Value).toArray below meth c H locs 0 0 (MQ below (va_Qi K (bW D y A (fun u : (Int32 × (Nat → Int64)) => [(a, .inr (6, [.ref a_now, .int v_undoMany, .int v_undoAt, .ref a_undos, .int v_seenMany, .ref a_seen, .ref a_isKept, .ref a_kept, .int v_letterMany, .ref a_text, .int v_readAt, .int v_tokenAt, .int v_token, .int v_faultAt, .int v_readItems, .ref a_read, .int v_congruenceMany, .ref a_congruences, .int u.1, .int v_rounds, .ref a_terms])), (a_now, .inl (y.1, 21, .inl v_now)), (a_terms, .inl (y.2.1, 202, .inr (.inl u.2)))])) A) ([.ref a, .int x1] : List Value).toArray s 0 0 A) (F0 m 7 ls []) := by
    intro K7 hE7 n
    induction n with
    | zero => intro x3_7 v_termMany_7 v_terms_7 ls H locs h; exact (sat_lp0 h).elim
    | succ n ih =>
      intro x3_7 v_termMany_7 v_terms_7 ls H locs h hl hP hD hS
      have h := sat_lp h
      have h : sat (m_X9_goesRound_s7 v_termMany v_now x1 x3_7 v_termMany_7 v_terms_7) (lk (fun s' => sat (lp (fun q : (Int32 × Int32 × (Nat → Int64)) => m_X9_goesRound_s7 v_termMany v_now x1 q.1 q.2.1 q.2.2) n s') K7) K7) := h
      unfold m_X9_goesRound_s7 at h
      refine lv_iload_n hx hb dX9_goesRound_7 rfl (lv_at hl 3 rfl) ?_
      refine lv_iload_n hx hb dX9_goesRound_8 rfl (lv_at hl 2 rfl) ?_
      refine lv_icmp_ge (tgt := 90) hx hb dX9_goesRound_9 (by decide) (fun c9 => ?_) (fun c9 => ?_)
      · have h := sat_t c9 h
        have h := lk_r (sat_some h)
        exact hE7 (v_termMany_7, v_terms_7) ls H locs h (lv_sub hl [0, 2] rfl) hP hD hS
      · have h := sat_f c9 h
        refine lv_aload_n hx hb dX9_goesRound_12 rfl (lv_at hl 0 rfl) ?_
        refine va_get (D := D) (ci := 6) (v := .int v_termMany_7) (C := RX9) (T := TX9) (N := 21) hx hb hts iX9 hown hK hP 0 rfl rfl 18 (by decide) fl182 (fun _ h9 => h9) rfl dX9_goesRound_13 ?_
        refine lv_sipush (v := 200) hx hb dX9_goesRound_16 (by decide) ?_
        refine lv_icmp_gt (tgt := 90) hx hb dX9_goesRound_19 (by decide) (fun c19 => ?_) (fun c19 => ?_)
        · have h := sat_t c19 h
          have h := lk_r (sat_some h)
          exact hE7 (v_termMany_7, v_terms_7) ls H locs h (lv_sub hl [0, 2] rfl) hP hD hS
        · have h := sat_f c19 h
          refine lv_aload_n hx hb dX9_goesRound_22 rfl (lv_at hl 0 rfl) ?_
          refine lv_aload_n hx hb dX9_goesRound_23 rfl (lv_at hl 0 rfl) ?_
          refine lv_aload_n hx hb dX9_goesRound_24 rfl (lv_at hl 0 rfl) ?_
          refine va_get (D := D) (ci := 6) (v := .ref a_terms) (C := RX9) (T := TX9) (N := 21) hx hb hts iX9 hown hK hP 0 rfl rfl 20 (by decide) fl35 (fun _ h9 => h9) rfl dX9_goesRound_25 ?_
          refine lv_iload_n hx hb dX9_goesRound_28 rfl (lv_at hl 3 rfl) ?_
          obtain ⟨r2, er2, hin, h⟩ := sat_rd h
          refine xl hx hb hK hP 2 1 rfl rfl er2 hin dX9_goesRound_29 ?_
          refine lv_iload_n hx hb dX9_goesRound_30 rfl (lv_at hl 1 rfl) ?_
          refine cr_l (rv (As := [.long r2, .int x1]) (rest := [.ref a]) ⟨hx, hb, hml, hown, hts⟩ (c_X9_gOf l D y a a_now a_undos a_seen a_isKept a_kept a_text a_read a_congruences a_terms v_undoMany v_undoAt v_seenMany v_letterMany v_readAt v_tokenAt v_token v_faultAt v_readItems v_congruenceMany v_termMany_7 v_rounds v_now r2 x1 _ (sat_bind h)) (cwV 2 hts gX9_goesRound_X9_gOf rfl rfl rfl (by decide +kernel) ⟨Nat.le_of_ble_eq_true rfl, Nat.le_of_ble_eq_true rfl⟩) hK hP [0, 1] rfl 0 6 rfl rfl rfl rfl hl.1 rfl (Nat.le_of_ble_eq_true rfl) dX9_goesRound_31 ⟨Nat.zero_le _, Nat.zero_le _⟩) (fun r3 h => ?_)
          refine cw_v (wn := fun u4 => [(a, .inr (6, [.ref a_now, .int v_undoMany, .int v_undoAt, .ref a_undos, .int v_seenMany, .ref a_seen, .ref a_isKept, .ref a_kept, .int v_letterMany, .ref a_text, .int v_readAt, .int v_tokenAt, .int v_token, .int v_faultAt, .int v_readItems, .ref a_read, .int v_congruenceMany, .ref a_congruences, .int u4.1, .int v_rounds, .ref a_terms])), (a_now, .inl (y.1, 21, .inl v_now)), (a_terms, .inl (y.2.1, 202, .inr (.inl u4.2)))]) (wr := [(a_now, .inl (y.1, 21, .inl v_now))]) (wv (As := [.long r3]) (rest := []) ⟨hx, hb, hml, hown, hts⟩ (c_X9_comes l D y a a_terms a_now a_undos a_seen a_isKept a_kept a_text a_read a_congruences v_undoMany v_undoAt v_seenMany v_letterMany v_readAt v_tokenAt v_token v_faultAt v_readItems v_congruenceMany v_termMany_7 v_rounds v_terms_7 r3 _ _ rfl _ (sat_bind h)) (cwV 1 hts gX9_goesRound_X9_comes rfl rfl rfl (by decide +kernel) ⟨Nat.le_of_ble_eq_true rfl, Nat.le_of_ble_eq_true rfl⟩) hK hP hD [0, 2] rfl rfl rfl 0 6 rfl rfl rfl rfl hl.1 rfl (Nat.le_of_ble_eq_true rfl) dX9_goesRound_34 ⟨Nat.zero_le _, Nat.zero_le _⟩) hS hP hD hA [0, 2] [1] [1, 0, 2] rfl rfl rfl (by decide) (fun _ => rfl) rfl (fun _ => rfl) (fun u4 H locs h hP hD hS => ?_)
          refine lv_iconst (v := 0) hx hb dX9_goesRound_37 (by decide) ?_
          refine lv_istore (lv' := [(4, .int 0), (0, .ref a), (1, .int x1), (2, .int v_termMany), (3, .int x3_7)]) hx hb dX9_goesRound_38 hl (by decide) rfl (fun ls hl => ?_)
          have hL40 : ∀ (K40 : (Int32 × (Nat → Int64)) → Prop)
              (hE40 : ∀ (z40 : (Int32 × (Nat → Int64))) (ls : Array Slot) (H : Heap) (locs : List Loc), K40 z40 → lv_has ls 5 [(0, .ref a), (1, .int x1), (2, .int v_termMany), (3, .int x3_7)] → va_P D vwCl [(a, .inr (6, [.ref a_now, .int v_undoMany, .int v_undoAt, .ref a_undos, .int v_seenMany, .ref a_seen, .ref a_isKept, .ref a_kept, .int v_letterMany, .ref a_text, .int v_readAt, .int v_tokenAt, .int v_token, .int v_faultAt, .int v_readItems, .ref a_read, .int v_congruenceMany, .ref a_congruences, .int z40.1, .int v_rounds, .ref a_terms])), (a_now, .inl (y.1, 21, .inl v_now)), (a_terms, .inl (y.2.1, 202, .inr (.inl z40.2)))] H → va_D A [(a, .inr (6, [.ref a_now, .int v_undoMany, .int v_undoAt, .ref a_undos, .int v_seenMany, .ref a_seen, .ref a_isKept, .ref a_kept, .int v_letterMany, .ref a_text, .int v_readAt, .int v_tokenAt, .int v_token, .int v_faultAt, .int v_readItems, .ref a_read, .int v_congruenceMany, .ref a_congruences, .int z40.1, .int v_rounds, .ref a_terms])), (a_now, .inl (y.1, 21, .inl v_now)), (a_terms, .inl (y.2.1, 202, .inr (.inl z40.2)))] → va_S A s.heap H locs → W p l e (headSpec wsX9_goesRound ({ frames := 2, cells := 0, slots := 0, locals := 50 } : Room)).room s m ([.ref a, .int x1] : List Value).toArray below meth c H locs 0 0 (MQ below (va_Qi K (bW D y A (fun u : (Int32 × (Nat → Int64)) => [(a, .inr (6, [.ref a_now, .int v_undoMany, .int v_undoAt, .ref a_undos, .int v_seenMany, .ref a_seen, .ref a_isKept, .ref a_kept, .int v_letterMany, .ref a_text, .int v_readAt, .int v_tokenAt, .int v_token, .int v_faultAt, .int v_readItems, .ref a_read, .int v_congruenceMany, .ref a_congruences, .int u.1, .int v_rounds, .ref a_terms])), (a_now, .inl (y.1, 21, .inl v_now)), (a_terms, .inl (y.2.1, 202, .inr (.inl u.2)))])) A) ([.ref a, .int x1] : List Value).toArray s 0 0 A) (F0 m 84 ls []))
              (n : Nat) (x4_40 : Int32) (v_termMany_40 : Int32) (v_terms_40 : Nat → Int64) (ls : Array Slot) (H : Heap) (locs : List Loc), sat (lp (fun q : (Int32 × Int32 × (Nat → Int64)) => m_X9_goesRound_s40 v_termMany v_now x1 x3_7 q.1 q.2.1 q.2.2) n (x4_40, v_termMany_40, v_terms_40)) K40 → lv_has ls 5 [(0, .ref a), (1, .int x1), (2, .int v_termMany), (3, .int x3_7), (4, .int x4_40)] → va_P D vwCl [(a, .inr (6, [.ref a_now, .int v_undoMany, .int v_undoAt, .ref a_undos, .int v_seenMany, .ref a_seen, .ref a_isKept, .ref a_kept, .int v_letterMany, .ref a_text, .int v_readAt, .int v_tokenAt, .int v_token, .int v_faultAt, .int v_readItems, .ref a_read, .int v_congruenceMany, .ref a_congruences, .int v_termMany_40, .int v_rounds, .ref a_terms])), (a_now, .inl (y.1, 21, .inl v_now)), (a_terms, .inl (y.2.1, 202, .inr (.inl v_terms_40)))] H → va_D A [(a, .inr (6, [.ref a_now, .int v_undoMany, .int v_undoAt, .ref a_undos, .int v_seenMany, .ref a_seen, .ref a_isKept, .ref a_kept, .int v_letterMany, .ref a_text, .int v_readAt, .int v_tokenAt, .int v_token, .int v_faultAt, .int v_readItems, .ref a_read, .int v_congruenceMany, .ref a_congruences, .int v_termMany_40, .int v_rounds, .ref a_terms])), (a_now, .inl (y.1, 21, .inl v_now)), (a_terms, .inl (y.2.1, 202, .inr (.inl v_terms_40)))] → va_S A s.heap H locs → W p l e (headSpec wsX9_goesRound ({ frames := 2, cells := 0, slots := 0, locals := 50 } : Room)).room s m ([.ref a, .int x1] : List Value).toArray below meth c H locs 0 0 (MQ below (va_Qi K (bW D y A (fun u : (Int32 × (Nat → Int64)) => [(a, .inr (6, [.ref a_now, .int v_undoMany, .int v_undoAt, .ref a_undos, .int v_seenMany, .ref a_seen, .ref a_isKept, .ref a_kept, .int v_letterMany, .ref a_text, .int v_readAt, .int v_tokenAt, .int v_token, .int v_faultAt, .int v_readItems, .ref a_read, .int v_congruenceMany, .ref a_congruences, .int u.1, .int v_rounds, .ref a_terms])), (a_now, .inl (y.1, 21, .inl v_now)), (a_terms, .inl (y.2.1, 202, .inr (.inl u.2)))])) A) ([.ref a, .int x1] : List Value).toArray s 0 0 A) (F0 m 40 ls []) := by
            intro K40 hE40 n
            induction n with
            | zero => intro x4_40 v_termMany_40 v_terms_40 ls H locs h; exact (sat_lp0 h).elim
            | succ n ih =>
              intro x4_40 v_termMany_40 v_terms_40 ls H locs h hl hP hD hS
              have h := sat_lp h
              have h : sat (m_X9_goesRound_s40 v_termMany v_now x1 x3_7 x4_40 v_termMany_40 v_terms_40) (lk (fun s' => sat (lp (fun q : (Int32 × Int32 × (Nat → Int64)) => m_X9_goesRound_s40 v_termMany v_now x1 x3_7 q.1 q.2.1 q.2.2) n s') K40) K40) := h
              unfold m_X9_goesRound_s40 at h
              refine lv_iload hx hb dX9_goesRound_40 (lv_at hl 4 rfl) ?_
              refine lv_iload_n hx hb dX9_goesRound_42 rfl (lv_at hl 2 rfl) ?_
              refine lv_icmp_ge (tgt := 84) hx hb dX9_goesRound_43 (by decide) (fun c43 => ?_) (fun c43 => ?_)
              · have h := sat_t c43 h
                have h := lk_r (sat_some h)
                exact hE40 (v_termMany_40, v_terms_40) ls H locs h (lv_sub hl [0, 1, 2, 3] rfl) hP hD hS
              · have h := sat_f c43 h
                refine lv_aload_n hx hb dX9_goesRound_46 rfl (lv_at hl 0 rfl) ?_
                refine va_get (D := D) (ci := 6) (v := .int v_termMany_40) (C := RX9) (T := TX9) (N := 21) hx hb hts iX9 hown hK hP 0 rfl rfl 18 (by decide) fl182 (fun _ h9 => h9) rfl dX9_goesRound_47 ?_
                refine lv_sipush (v := 200) hx hb dX9_goesRound_50 (by decide) ?_
                refine lv_icmp_gt (tgt := 84) hx hb dX9_goesRound_53 (by decide) (fun c53 => ?_) (fun c53 => ?_)
                · have h := sat_t c53 h
                  have h := lk_r (sat_some h)
                  exact hE40 (v_termMany_40, v_terms_40) ls H locs h (lv_sub hl [0, 1, 2, 3] rfl) hP hD hS
                · have h := sat_f c53 h
                  refine lv_aload_n hx hb dX9_goesRound_56 rfl (lv_at hl 0 rfl) ?_
                  refine lv_aload_n hx hb dX9_goesRound_57 rfl (lv_at hl 0 rfl) ?_
                  refine lv_aload_n hx hb dX9_goesRound_58 rfl (lv_at hl 0 rfl) ?_
                  refine va_get (D := D) (ci := 6) (v := .ref a_terms) (C := RX9) (T := TX9) (N := 21) hx hb hts iX9 hown hK hP 0 rfl rfl 20 (by decide) fl35 (fun _ h9 => h9) rfl dX9_goesRound_59 ?_
                  refine lv_iload_n hx hb dX9_goesRound_62 rfl (lv_at hl 3 rfl) ?_
                  obtain ⟨r6, er6, hin, h⟩ := sat_rd h
                  refine xl hx hb hK hP 2 1 rfl rfl er6 hin dX9_goesRound_63 ?_
                  refine lv_aload_n hx hb dX9_goesRound_64 rfl (lv_at hl 0 rfl) ?_
                  refine va_get (D := D) (ci := 6) (v := .ref a_terms) (C := RX9) (T := TX9) (N := 21) hx hb hts iX9 hown hK hP 0 rfl rfl 20 (by decide) fl35 (fun _ h9 => h9) rfl dX9_goesRound_65 ?_
                  refine lv_iload hx hb dX9_goesRound_68 (lv_at hl 4 rfl) ?_
                  obtain ⟨r7, er7, hin, h⟩ := sat_rd h
                  refine xl hx hb hK hP 2 1 rfl rfl er7 hin dX9_goesRound_70 ?_
                  refine lv_iload_n hx hb dX9_goesRound_71 rfl (lv_at hl 1 rfl) ?_
                  refine cr_l (rv (As := [.long r6, .long r7, .int x1]) (rest := [.ref a]) ⟨hx, hb, hml, hown, hts⟩ (c_X9_fOf l D y a a_now a_undos a_seen a_isKept a_kept a_text a_read a_congruences a_terms v_undoMany v_undoAt v_seenMany v_letterMany v_readAt v_tokenAt v_token v_faultAt v_readItems v_congruenceMany v_termMany_40 v_rounds v_now r6 r7 x1 _ (sat_bind h)) (cwV 3 hts gX9_goesRound_X9_fOf rfl rfl rfl (by decide +kernel) ⟨Nat.le_of_ble_eq_true rfl, Nat.le_of_ble_eq_true rfl⟩) hK hP [0, 1] rfl 0 6 rfl rfl rfl rfl hl.1 rfl (Nat.le_of_ble_eq_true rfl) dX9_goesRound_72 ⟨Nat.zero_le _, Nat.zero_le _⟩) (fun r8 h => ?_)
                  refine cw_v (wn := fun u9 => [(a, .inr (6, [.ref a_now, .int v_undoMany, .int v_undoAt, .ref a_undos, .int v_seenMany, .ref a_seen, .ref a_isKept, .ref a_kept, .int v_letterMany, .ref a_text, .int v_readAt, .int v_tokenAt, .int v_token, .int v_faultAt, .int v_readItems, .ref a_read, .int v_congruenceMany, .ref a_congruences, .int u9.1, .int v_rounds, .ref a_terms])), (a_now, .inl (y.1, 21, .inl v_now)), (a_terms, .inl (y.2.1, 202, .inr (.inl u9.2)))]) (wr := [(a_now, .inl (y.1, 21, .inl v_now))]) (wv (As := [.long r8]) (rest := []) ⟨hx, hb, hml, hown, hts⟩ (c_X9_comes l D y a a_terms a_now a_undos a_seen a_isKept a_kept a_text a_read a_congruences v_undoMany v_undoAt v_seenMany v_letterMany v_readAt v_tokenAt v_token v_faultAt v_readItems v_congruenceMany v_termMany_40 v_rounds v_terms_40 r8 _ _ rfl _ (sat_bind h)) (cwV 1 hts gX9_goesRound_X9_comes rfl rfl rfl (by decide +kernel) ⟨Nat.le_of_ble_eq_true rfl, Nat.le_of_ble_eq_true rfl⟩) hK hP hD [0, 2] rfl rfl rfl 0 6 rfl rfl rfl rfl hl.1 rfl (Nat.le_of_ble_eq_true rfl) dX9_goesRound_75 ⟨Nat.zero_le _, Nat.zero_le _⟩) hS hP hD hA [0, 2] [1] [1, 0, 2] rfl rfl rfl (by decide) (fun _ => rfl) rfl (fun _ => rfl) (fun u9 H locs h hP hD hS => ?_)
                  refine lv_iinc (v := x4_40 + 1) (lv' := [(4, .int (x4_40 + 1)), (0, .ref a), (1, .int x1), (2, .int v_termMany), (3, .int x3_7)]) hx hb dX9_goesRound_78 hl (k := 4) rfl rfl (by decide) rfl (fun ls hl => ?_)
                  refine lv_goto (tgt := 40) hx hb dX9_goesRound_81 (by decide) ?_
                  have h := lk_l (sat_some h)
                  exact ih (x4_40 + 1) u9.1 u9.2 ls H locs h (lv_sub hl [1, 2, 3, 4, 0] rfl) hP hD hS
          have h := sat_bind h
          refine hL40 _ (fun z40 ls H locs h hl hP hD hS => ?_) 1000 0 u4.1 u4.2 ls H locs h (lv_sub hl [1, 2, 3, 4, 0] rfl) hP hD hS
          refine lv_iinc (v := x3_7 + 1) (lv' := [(3, .int (x3_7 + 1)), (0, .ref a), (1, .int x1), (2, .int v_termMany)]) hx hb dX9_goesRound_84 hl (k := 3) rfl rfl (by decide) rfl (fun ls hl => ?_)
          refine lv_goto (tgt := 7) hx hb dX9_goesRound_87 (by decide) ?_
          have h := lk_l (sat_some h)
          exact ih (x3_7 + 1) z40.1 z40.2 ls H locs h (lv_sub hl [1, 2, 3, 0] rfl) hP hD hS
  have h := sat_bind h
  refine hL7 _ (fun z7 ls H locs h hl hP hD hS => ?_) 1000 0 v_termMany v_terms ls s.heap [] h (lv_sub hl [2, 3, 1, 0] rfl) hP hD hS
  exact hJ90 v_termMany z7.1 z7.2 ls H locs h hl hP hD hS

/-! X9_letterRow -/
set_option maxHeartbeats 4000000 in
set_option maxRecDepth 100000 in
theorem c_X9_letterRow (l : Launch) (D : va_G) (y : ClassId × ClassId × ClassId × ClassId) (a a_now a_undos a_seen a_isKept a_kept a_text a_read a_congruences a_terms : Nat) (v_undoMany : Int32) (v_undoAt : Int32) (v_seenMany : Int32) (v_letterMany : Int32) (v_readAt : Int32) (v_tokenAt : Int32) (v_token : Int32) (v_faultAt : Int32) (v_readItems : Int32) (v_congruenceMany : Int32) (v_termMany : Int32) (v_rounds : Int32) (v_now : Nat → Int32) (x1 : Int32) (x2 : Int32) (K : Int64 → Prop) (h : sat (m_X9_letterRow v_now x1 x2) K) : Met l yX9_letterRow wsX9_letterRow ({ frames := 1, cells := 0, slots := 0, locals := 21 } : Room) (pR D y ([.ref a, .int x1, .int x2] : List Value) [(a, .inr (6, [.ref a_now, .int v_undoMany, .int v_undoAt, .ref a_undos, .int v_seenMany, .ref a_seen, .ref a_isKept, .ref a_kept, .int v_letterMany, .ref a_text, .int v_readAt, .int v_tokenAt, .int v_token, .int v_faultAt, .int v_readItems, .ref a_read, .int v_congruenceMany, .ref a_congruences, .int v_termMany, .int v_rounds, .ref a_terms])), (a_now, .inl (y.1, 21, .inl v_now))]) (qSl K) 0 0 (fun _ => False) := by
  refine Met.ofW (cc := cX9_letterRow) (maxL := 10) (ret := (some .long)) (by decide) rfl ?_
  intro p e s m args below meth c s₁ B hml hv
  obtain ⟨rfl, hP, hK⟩ := hv
  have hx := B.exec
  have hb := B.bytes
  have hr := B.returns
  have hts := atoms_spec (ws := wsX9_letterRow) B.pre
  have hown : s.vm.findClass RX9 = some m.cls := findClass_of_methodNamed B.named
  have hlocks := B.notSynchronized
  have hl := lv_entry ([.ref a, .int x1, .int x2] : List Value) (n := 10) (Nat.le_of_ble_eq_true rfl)
  rw [lg_entry_eq]
  generalize (lg_sl ([.ref a, .int x1, .int x2] : List Value) ++ List.replicate (10 - (lg_sl ([.ref a, .int x1, .int x2] : List Value)).length) Slot.unset).toArray = ls at hl ⊢
  have hl : lv_has ls 10 [(0, .ref a), (1, .int x1), (2, .int x2)] := hl
  unfold m_X9_letterRow at h
  refine lv_aload_n hx hb dX9_letterRow_0 rfl (lv_at hl 0 rfl) ?_
  refine cr_i (rv (As := []) (rest := []) ⟨hx, hb, hml, hown, hts⟩ (c_X9_size l D y a a_now a_undos a_seen a_isKept a_kept a_text a_read a_congruences a_terms v_undoMany v_undoAt v_seenMany v_letterMany v_readAt v_tokenAt v_token v_faultAt v_readItems v_congruenceMany v_termMany v_rounds v_now _ (sat_bind h)) (cwV 0 hts gX9_letterRow_X9_size rfl rfl rfl (by decide +kernel) ⟨Nat.le_of_ble_eq_true rfl, Nat.le_of_ble_eq_true rfl⟩) hK hP [0, 1] rfl 0 6 rfl rfl rfl rfl hl.1 rfl (Nat.le_of_ble_eq_true rfl) dX9_letterRow_1 ⟨Nat.zero_le _, Nat.zero_le _⟩) (fun r1 h => ?_)
  refine lv_istore_n (lv' := [(3, .int r1), (0, .ref a), (1, .int x1), (2, .int x2)]) hx hb dX9_letterRow_4 rfl hl (by decide) rfl (fun ls hl => ?_)
  refine lv_lconst (v := 0) hx hb dX9_letterRow_5 (by decide) ?_
  refine lv_lstore (lv' := [(4, .long (0 : Int64)), (3, .int r1), (0, .ref a), (1, .int x1), (2, .int x2)]) hx hb dX9_letterRow_6 hl (by decide) rfl (fun ls hl => ?_)
  refine lv_iconst (v := 0) hx hb dX9_letterRow_8 (by decide) ?_
  refine lv_istore (lv' := [(6, .int 0), (4, .long (0 : Int64)), (3, .int r1), (0, .ref a), (1, .int x1), (2, .int x2)]) hx hb dX9_letterRow_9 hl (by decide) rfl (fun ls hl => ?_)
  refine lv_iconst (v := 0) hx hb dX9_letterRow_11 (by decide) ?_
  refine lv_istore (lv' := [(7, .int 0), (6, .int 0), (4, .long (0 : Int64)), (3, .int r1), (0, .ref a), (1, .int x1), (2, .int x2)]) hx hb dX9_letterRow_12 hl (by decide) rfl (fun ls hl => ?_)
  have hL14 : ∀ (K14 : Int64 → Prop)
      (hE14 : ∀ (z14 : Int64) (ls : Array Slot), K14 z14 → lv_has ls 10 [(4, .long z14)] → W p l e (headSpec wsX9_letterRow ({ frames := 1, cells := 0, slots := 0, locals := 21 } : Room)).room s m ([.ref a, .int x1, .int x2] : List Value).toArray below meth c s.heap [] 0 0 (MQ below (qSl K) ([.ref a, .int x1, .int x2] : List Value).toArray s 0 0 (fun _ => False)) (F0 m 81 ls []))
      (n : Nat) (x4_14 : Int64) (x6_14 : Int32) (x7_14 : Int32) (ls : Array Slot), sat (lp (fun q : (Int64 × Int32 × Int32) => m_X9_letterRow_s14 x1 x2 r1 q.1 q.2.1 q.2.2) n (x4_14, x6_14, x7_14)) K14 → lv_has ls 10 [(1, .int x1), (2, .int x2), (3, .int r1), (4, .long x4_14), (6, .int x6_14), (7, .int x7_14)] → W p l e (headSpec wsX9_letterRow ({ frames := 1, cells := 0, slots := 0, locals := 21 } : Room)).room s m ([.ref a, .int x1, .int x2] : List Value).toArray below meth c s.heap [] 0 0 (MQ below (qSl K) ([.ref a, .int x1, .int x2] : List Value).toArray s 0 0 (fun _ => False)) (F0 m 14 ls []) := by
    intro K14 hE14 n
    induction n with
    | zero => intro x4_14 x6_14 x7_14 ls h; exact (sat_lp0 h).elim
    | succ n ih =>
      intro x4_14 x6_14 x7_14 ls h hl
      have h := sat_lp h
      have h : sat (m_X9_letterRow_s14 x1 x2 r1 x4_14 x6_14 x7_14) (lk (fun s' => sat (lp (fun q : (Int64 × Int32 × Int32) => m_X9_letterRow_s14 x1 x2 r1 q.1 q.2.1 q.2.2) n s') K14) K14) := h
      unfold m_X9_letterRow_s14 at h
      refine lv_iload hx hb dX9_letterRow_14 (lv_at hl 5 rfl) ?_
      refine lv_iload_n hx hb dX9_letterRow_16 rfl (lv_at hl 2 rfl) ?_
      refine lv_iload_n hx hb dX9_letterRow_17 rfl (lv_at hl 2 rfl) ?_
      refine lv_imul hx hb dX9_letterRow_18 ?_
      refine lv_icmp_ge (tgt := 81) hx hb dX9_letterRow_19 (by decide) (fun c19 => ?_) (fun c19 => ?_)
      · have h := sat_t c19 h
        have h := lk_r (sat_some h)
        exact hE14 x4_14 ls h (lv_sub hl [3] rfl)
      · have h := sat_f c19 h
        refine lv_iconst (v := 0) hx hb dX9_letterRow_22 (by decide) ?_
        refine lv_istore (lv' := [(8, .int 0), (1, .int x1), (2, .int x2), (3, .int r1), (4, .long x4_14), (6, .int x6_14), (7, .int x7_14)]) hx hb dX9_letterRow_23 hl (by decide) rfl (fun ls hl => ?_)
        have hL25 : ∀ (K25 : (Int64 × Int32) → Prop)
            (hE25 : ∀ (z25 : (Int64 × Int32)) (ls : Array Slot), K25 z25 → lv_has ls 10 [(1, .int x1), (2, .int x2), (3, .int r1), (4, .long z25.1), (6, .int z25.2), (7, .int x7_14)] → W p l e (headSpec wsX9_letterRow ({ frames := 1, cells := 0, slots := 0, locals := 21 } : Room)).room s m ([.ref a, .int x1, .int x2] : List Value).toArray below meth c s.heap [] 0 0 (MQ below (qSl K) ([.ref a, .int x1, .int x2] : List Value).toArray s 0 0 (fun _ => False)) (F0 m 75 ls []))
            (n : Nat) (x4_25 : Int64) (x6_25 : Int32) (x8_25 : Int32) (ls : Array Slot), sat (lp (fun q : (Int64 × Int32 × Int32) => m_X9_letterRow_s25 x1 x2 r1 x7_14 q.1 q.2.1 q.2.2) n (x4_25, x6_25, x8_25)) K25 → lv_has ls 10 [(1, .int x1), (2, .int x2), (3, .int r1), (4, .long x4_25), (6, .int x6_25), (7, .int x7_14), (8, .int x8_25)] → W p l e (headSpec wsX9_letterRow ({ frames := 1, cells := 0, slots := 0, locals := 21 } : Room)).room s m ([.ref a, .int x1, .int x2] : List Value).toArray below meth c s.heap [] 0 0 (MQ below (qSl K) ([.ref a, .int x1, .int x2] : List Value).toArray s 0 0 (fun _ => False)) (F0 m 25 ls []) := by
          intro K25 hE25 n
          induction n with
          | zero => intro x4_25 x6_25 x8_25 ls h; exact (sat_lp0 h).elim
          | succ n ih =>
            intro x4_25 x6_25 x8_25 ls h hl
            have h := sat_lp h
            have h : sat (m_X9_letterRow_s25 x1 x2 r1 x7_14 x4_25 x6_25 x8_25) (lk (fun s' => sat (lp (fun q : (Int64 × Int32 × Int32) => m_X9_letterRow_s25 x1 x2 r1 x7_14 q.1 q.2.1 q.2.2) n s') K25) K25) := h
            have hJ51 : ∀ (x4_51 : Int64) (x6_51 : Int32) (x8_51 : Int32) (t0_51 : Int32) (ls : Array Slot), sat (m_X9_letterRow_j51 x4_51 x6_51 x8_51 t0_51) (lk (fun s' => sat (lp (fun q : (Int64 × Int32 × Int32) => m_X9_letterRow_s25 x1 x2 r1 x7_14 q.1 q.2.1 q.2.2) n s') K25) K25) → lv_has ls 10 [(1, .int x1), (2, .int x2), (3, .int r1), (4, .long x4_51), (6, .int x6_51), (7, .int x7_14), (8, .int x8_51)] → W p l e (headSpec wsX9_letterRow ({ frames := 1, cells := 0, slots := 0, locals := 21 } : Room)).room s m ([.ref a, .int x1, .int x2] : List Value).toArray below meth c s.heap [] 0 0 (MQ below (qSl K) ([.ref a, .int x1, .int x2] : List Value).toArray s 0 0 (fun _ => False)) (F0 m 51 ls [.int t0_51]) := by
              intro x4_51 x6_51 x8_51 t0_51 ls h hl
              unfold m_X9_letterRow_j51 at h
              refine lv_istore (lv' := [(9, .int t0_51), (1, .int x1), (2, .int x2), (3, .int r1), (4, .long x4_51), (6, .int x6_51), (7, .int x7_14), (8, .int x8_51)]) hx hb dX9_letterRow_51 hl (by decide) rfl (fun ls hl => ?_)
              refine lv_lload hx hb dX9_letterRow_53 (lv_at hl 4 rfl) ?_
              refine lv_iload hx hb dX9_letterRow_55 (lv_at hl 0 rfl) ?_
              refine lv_i2l (v := t0_51.toInt64) hx hb dX9_letterRow_57 rfl ?_
              refine lv_iconst (v := 2) hx hb dX9_letterRow_58 (by decide) ?_
              refine lv_iload hx hb dX9_letterRow_59 (lv_at hl 5 rfl) ?_
              refine lv_imul hx hb dX9_letterRow_61 ?_
              refine lv_lshl (v := t0_51.toInt64 <<< ((2 * x6_51).toInt64 &&& 63)) hx hb dX9_letterRow_62 rfl ?_
              refine lv_lor hx hb dX9_letterRow_63 ?_
              obtain ⟨w4, ew4, h⟩ := sat_nm h
              refine tL ew4 ?_
              refine lv_lstore (lv' := [(4, .long w4), (9, .int t0_51), (1, .int x1), (2, .int x2), (3, .int r1), (6, .int x6_51), (7, .int x7_14), (8, .int x8_51)]) hx hb dX9_letterRow_64 hl (by decide) rfl (fun ls hl => ?_)
              refine lv_iinc (v := x6_51 + 1) (lv' := [(6, .int (x6_51 + 1)), (4, .long w4), (9, .int t0_51), (1, .int x1), (2, .int x2), (3, .int r1), (7, .int x7_14), (8, .int x8_51)]) hx hb dX9_letterRow_66 hl (k := 5) rfl rfl (by decide) rfl (fun ls hl => ?_)
              refine lv_iinc (v := x8_51 + 1) (lv' := [(8, .int (x8_51 + 1)), (6, .int (x6_51 + 1)), (4, .long w4), (9, .int t0_51), (1, .int x1), (2, .int x2), (3, .int r1), (7, .int x7_14)]) hx hb dX9_letterRow_69 hl (k := 7) rfl rfl (by decide) rfl (fun ls hl => ?_)
              refine lv_goto (tgt := 25) hx hb dX9_letterRow_72 (by decide) ?_
              have h := lk_l (sat_some h)
              exact ih w4 (x6_51 + 1) (x8_51 + 1) ls h (lv_sub hl [4, 5, 6, 2, 1, 7, 0] rfl)
            unfold m_X9_letterRow_s25 at h
            refine lv_iload hx hb dX9_letterRow_25 (lv_at hl 6 rfl) ?_
            refine lv_iload_n hx hb dX9_letterRow_27 rfl (lv_at hl 0 rfl) ?_
            refine lv_icmp_ge (tgt := 75) hx hb dX9_letterRow_28 (by decide) (fun c28 => ?_) (fun c28 => ?_)
            · have h := sat_t c28 h
              have h := lk_r (sat_some h)
              exact hE25 (x4_25, x6_25) ls h (lv_sub hl [0, 1, 2, 3, 4, 5] rfl)
            · have h := sat_f c28 h
              refine lv_iload_n hx hb dX9_letterRow_31 rfl (lv_at hl 1 rfl) ?_
              refine lv_iload hx hb dX9_letterRow_32 (lv_at hl 6 rfl) ?_
              refine cr_i (rs (As := [.int x2, .int x8_25]) (rest := []) ⟨hx, hb, hml, hown, hts⟩ (c_X9_has l D y x2 x8_25 _ (sat_bind h)) (va_cwS 2 hts gX9_letterRow_X9_has rfl rfl rfl (by decide +kernel) ⟨Nat.le_of_ble_eq_true rfl, Nat.le_of_ble_eq_true rfl⟩) hK hP [] rfl rfl hl.1 rfl (Nat.le_of_ble_eq_true rfl) dX9_letterRow_34 ⟨Nat.zero_le _, Nat.zero_le _⟩) (fun r5 h => ?_)
              refine lv_if_eq (tgt := 47) hx hb dX9_letterRow_37 (by decide) (fun c37 => ?_) (fun c37 => ?_)
              · have h := sat_t c37 h
                refine lv_iload hx hb dX9_letterRow_47 (lv_at hl 5 rfl) ?_
                refine lv_iload_n hx hb dX9_letterRow_49 rfl (lv_at hl 2 rfl) ?_
                obtain ⟨hne, h⟩ := sat_gd h
                refine lv_idiv hx hb dX9_letterRow_50 hne ?_
                exact hJ51 x4_25 x6_25 x8_25 (x7_14 / r1) ls h hl
              · have h := sat_f c37 h
                refine lv_iload hx hb dX9_letterRow_40 (lv_at hl 5 rfl) ?_
                refine lv_iload_n hx hb dX9_letterRow_42 rfl (lv_at hl 2 rfl) ?_
                obtain ⟨hne, h⟩ := sat_gd h
                refine lv_irem hx hb dX9_letterRow_43 hne ?_
                refine lv_goto (tgt := 51) hx hb dX9_letterRow_44 (by decide) ?_
                exact hJ51 x4_25 x6_25 x8_25 (x7_14 - x7_14 / r1 * r1) ls h hl
        have h := sat_bind h
        refine hL25 _ (fun z25 ls h hl => ?_) 1000 x4_14 x6_14 0 ls h (lv_sub hl [1, 2, 3, 4, 5, 6, 0] rfl)
        refine lv_iinc (v := x7_14 + 1) (lv' := [(7, .int (x7_14 + 1)), (1, .int x1), (2, .int x2), (3, .int r1), (4, .long z25.1), (6, .int z25.2)]) hx hb dX9_letterRow_75 hl (k := 5) rfl rfl (by decide) rfl (fun ls hl => ?_)
        refine lv_goto (tgt := 14) hx hb dX9_letterRow_78 (by decide) ?_
        have h := lk_l (sat_some h)
        exact ih z25.1 z25.2 (x7_14 + 1) ls h (lv_sub hl [1, 2, 3, 4, 5, 0] rfl)
  have h := sat_bind h
  refine hL14 _ (fun z14 ls h hl => ?_) 1000 (0 : Int64) 0 0 ls h (lv_sub hl [5, 6, 3, 2, 1, 0] rfl)
  refine lv_lload hx hb dX9_letterRow_81 (lv_at hl 0 rfl) ?_
  have h := sat_some h
  exact W.lret (v := z14) hx hb hr (fun t ht _ => ⟨z14, rfl, h, ht⟩) (fun _ hq => by cases hq) dX9_letterRow_83
