/-! X8_sets -/
set_option maxHeartbeats 4000000 in
set_option maxRecDepth 100000 in
theorem c_X8_sets (l : Launch) (D : va_G) (y : ClassId × ClassId × ClassId × ClassId) (a a_history a_now a_history_places a_history_values a_now_values a_trial a_reader a_congruences a_terms a_text a_seen a_images : Nat) (v_letters : Int32) (v_seenSoFar : Int32) (v_keptImages : Int32) (v_history_known : Int32) (v_now_size : Int32) (v_history_places : Nat → Int32) (v_history_values : Nat → Int32) (v_now_values : Nat → Int32) (x1 : Int32) (x2 : Int32) (x3 : Int32) (sz : Nat) (A : Nat → Prop) (hAe : va_A [(a, .inr (5, [.ref a_now, .ref a_trial, .ref a_reader, .ref a_history, .ref a_congruences, .ref a_terms, .ref a_text, .int v_letters, .ref a_seen, .int v_seenSoFar, .ref a_images, .int v_keptImages])), (a_history, .inr (1, [.int v_history_known, .ref a_history_places, .ref a_history_values])), (a_now, .inr (3, [.int v_now_size, .ref a_now_values])), (a_history_places, .inl (y.1, 12, .inl v_history_places)), (a_history_values, .inl (y.1, 12, .inl v_history_values)), (a_now_values, .inl (y.1, 20, .inl v_now_values))] sz = A) (K : Int32 → (Int32 × (Nat → Int32) × (Nat → Int32) × (Nat → Int32)) → Prop) (h : sat (m_X8_sets v_history_known v_now_size v_history_places v_history_values v_now_values x1 x2 x3) (pK K)) : Met l yX8_sets wsX8_sets ({ frames := 3, cells := 0, slots := 0, locals := 82 } : Room) (pW D y ([.ref a, .int x1, .int x2, .int x3] : List Value) [(a, .inr (5, [.ref a_now, .ref a_trial, .ref a_reader, .ref a_history, .ref a_congruences, .ref a_terms, .ref a_text, .int v_letters, .ref a_seen, .int v_seenSoFar, .ref a_images, .int v_keptImages])), (a_history, .inr (1, [.int v_history_known, .ref a_history_places, .ref a_history_values])), (a_now, .inr (3, [.int v_now_size, .ref a_now_values])), (a_history_places, .inl (y.1, 12, .inl v_history_places)), (a_history_values, .inl (y.1, 12, .inl v_history_values)), (a_now_values, .inl (y.1, 20, .inl v_now_values))] sz) (va_Qi K (bW D y A (fun u : (Int32 × (Nat → Int32) × (Nat → Int32) × (Nat → Int32)) => [(a, .inr (5, [.ref a_now, .ref a_trial, .ref a_reader, .ref a_history, .ref a_congruences, .ref a_terms, .ref a_text, .int v_letters, .ref a_seen, .int v_seenSoFar, .ref a_images, .int v_keptImages])), (a_history, .inr (1, [.int u.1, .ref a_history_places, .ref a_history_values])), (a_now, .inr (3, [.int v_now_size, .ref a_now_values])), (a_history_places, .inl (y.1, 12, .inl u.2.1)), (a_history_values, .inl (y.1, 12, .inl u.2.2.1)), (a_now_values, .inl (y.1, 20, .inl u.2.2.2))])) A) 0 0 A := by
  refine Met.ofW (cc := cX8_sets) (maxL := 6) (ret := (some .int)) (by decide) rfl ?_
  intro p e s m args below meth c s₁ B hml hv
  obtain ⟨rfl, hsz, hP, hK, hD0⟩ := hv
  have hx := B.exec
  have hb := B.bytes
  have hr := B.returns
  have hts := atoms_spec (ws := wsX8_sets) B.pre
  have hown : s.vm.findClass RX8 = some m.cls := findClass_of_methodNamed B.named
  have hlocks := B.notSynchronized
  subst hsz
  have hD : va_D A [(a, .inr (5, [.ref a_now, .ref a_trial, .ref a_reader, .ref a_history, .ref a_congruences, .ref a_terms, .ref a_text, .int v_letters, .ref a_seen, .int v_seenSoFar, .ref a_images, .int v_keptImages])), (a_history, .inr (1, [.int v_history_known, .ref a_history_places, .ref a_history_values])), (a_now, .inr (3, [.int v_now_size, .ref a_now_values])), (a_history_places, .inl (y.1, 12, .inl v_history_places)), (a_history_values, .inl (y.1, 12, .inl v_history_values)), (a_now_values, .inl (y.1, 20, .inl v_now_values))] := hAe ▸ hD0.self
  have hA : ∀ q : Nat, s.heap.size ≤ q → A q := fun q h => hAe ▸ Or.inr h
  have hS : va_S A s.heap s.heap [] := va_S.rf
  have iX8 : ∀ w ∈ wsX80, w ∈ wsX8_sets := by decide +kernel
  have fl10 := hts (.fieldLink RX8 10 "AlgebraLaws" "now" "LAlgebraLaws$Tables;") (by decide +kernel)
  have fl29 := hts (.fieldLink RX8 29 "AlgebraLaws" "history" "LAlgebraLaws$History;") (by decide +kernel)
  have hl := lv_entry ([.ref a, .int x1, .int x2, .int x3] : List Value) (n := 6) (Nat.le_of_ble_eq_true rfl)
  rw [lg_entry_eq]
  generalize (lg_sl ([.ref a, .int x1, .int x2, .int x3] : List Value) ++ List.replicate (6 - (lg_sl ([.ref a, .int x1, .int x2, .int x3] : List Value)).length) Slot.unset).toArray = ls at hl ⊢
  have hl : lv_has ls 6 [(0, .ref a), (1, .int x1), (2, .int x2), (3, .int x3)] := hl
  have hJ58 : ∀ (t0_58 : Int32) (v_history_known_58 : Int32) (v_history_places_58 : Nat → Int32) (v_history_values_58 : Nat → Int32) (v_now_values_58 : Nat → Int32) (ls : Array Slot) (H : Heap) (locs : List Loc), sat (m_X8_sets_j58 x3 t0_58 v_history_known_58 v_history_places_58 v_history_values_58 v_now_values_58) (pK K) → lv_has ls 6 [(0, .ref a), (3, .int x3)] → va_P D vwCl [(a, .inr (5, [.ref a_now, .ref a_trial, .ref a_reader, .ref a_history, .ref a_congruences, .ref a_terms, .ref a_text, .int v_letters, .ref a_seen, .int v_seenSoFar, .ref a_images, .int v_keptImages])), (a_history, .inr (1, [.int v_history_known_58, .ref a_history_places, .ref a_history_values])), (a_now, .inr (3, [.int v_now_size, .ref a_now_values])), (a_history_places, .inl (y.1, 12, .inl v_history_places_58)), (a_history_values, .inl (y.1, 12, .inl v_history_values_58)), (a_now_values, .inl (y.1, 20, .inl v_now_values_58))] H → va_D A [(a, .inr (5, [.ref a_now, .ref a_trial, .ref a_reader, .ref a_history, .ref a_congruences, .ref a_terms, .ref a_text, .int v_letters, .ref a_seen, .int v_seenSoFar, .ref a_images, .int v_keptImages])), (a_history, .inr (1, [.int v_history_known_58, .ref a_history_places, .ref a_history_values])), (a_now, .inr (3, [.int v_now_size, .ref a_now_values])), (a_history_places, .inl (y.1, 12, .inl v_history_places_58)), (a_history_values, .inl (y.1, 12, .inl v_history_values_58)), (a_now_values, .inl (y.1, 20, .inl v_now_values_58))] → va_S A s.heap H locs → W p l e (headSpec wsX8_sets ({ frames := 3, cells := 0, slots := 0, locals := 82 } : Room)).room s m ([.ref a, .int x1, .int x2, .int x3] : List Value).toArray below meth c H locs 0 0 (MQ below (va_Qi K (bW D y A (fun u : (Int32 × (Nat → Int32) × (Nat → Int32) × (Nat → Int32)) => [(a, .inr (5, [.ref a_now, .ref a_trial, .ref a_reader, .ref a_history, .ref a_congruences, .ref a_terms, .ref a_text, .int v_letters, .ref a_seen, .int v_seenSoFar, .ref a_images, .int v_keptImages])), (a_history, .inr (1, [.int u.1, .ref a_history_places, .ref a_history_values])), (a_now, .inr (3, [.int v_now_size, .ref a_now_values])), (a_history_places, .inl (y.1, 12, .inl u.2.1)), (a_history_values, .inl (y.1, 12, .inl u.2.2.1)), (a_now_values, .inl (y.1, 20, .inl u.2.2.2))])) A) ([.ref a, .int x1, .int x2, .int x3] : List Value).toArray s 0 0 A) (F0 m 58 ls [.int t0_58]) := by
    intro t0_58 v_history_known_58 v_history_places_58 v_history_values_58 v_now_values_58 ls H locs h hl hP hD hS
    unfold m_X8_sets_j58 at h
    refine lv_istore (lv' := [(4, .int t0_58), (0, .ref a), (3, .int x3)]) hx hb dX8_sets_58 hl (by decide) rfl (fun ls hl => ?_)
    refine lv_aload_n hx hb dX8_sets_60 rfl (lv_at hl 1 rfl) ?_
    refine va_get (D := D) (ci := 5) (v := .ref a_now) (C := RX8) (T := TX8) (N := 12) hx hb hts iX8 hown hK hP 0 rfl rfl 0 (by decide) fl10 (fun _ h9 => h9) rfl dX8_sets_61 ?_
    refine lv_iload hx hb dX8_sets_64 (lv_at hl 0 rfl) ?_
    refine cr_i (rv (As := [.int t0_58]) (rest := []) ⟨hx, hb, hml, hown, hts⟩ (c_X6_at l D y a_now a_now_values v_now_size v_now_values_58 t0_58 _ (sat_bind h)) (cwV 1 hts gX8_sets_X6_at rfl rfl rfl (by decide +kernel) ⟨Nat.le_of_ble_eq_true rfl, Nat.le_of_ble_eq_true rfl⟩) hK hP [2, 5] rfl 2 3 rfl rfl rfl rfl hl.1 rfl (Nat.le_of_ble_eq_true rfl) dX8_sets_66 ⟨Nat.zero_le _, Nat.zero_le _⟩) (fun r1 h => ?_)
    refine lv_istore (lv' := [(5, .int r1), (4, .int t0_58), (0, .ref a), (3, .int x3)]) hx hb dX8_sets_69 hl (by decide) rfl (fun ls hl => ?_)
    refine lv_iload hx hb dX8_sets_71 (lv_at hl 0 rfl) ?_
    refine lv_iload_n hx hb dX8_sets_73 rfl (lv_at hl 3 rfl) ?_
    refine lv_icmp_ne (tgt := 80) hx hb dX8_sets_74 (by decide) (fun c74 => ?_) (fun c74 => ?_)
    · have h := sat_f c74 h
      refine lv_aload_n hx hb dX8_sets_80 rfl (lv_at hl 2 rfl) ?_
      refine va_get (D := D) (ci := 5) (v := .ref a_history) (C := RX8) (T := TX8) (N := 12) hx hb hts iX8 hown hK hP 0 rfl rfl 3 (by decide) fl29 (fun _ h9 => h9) rfl dX8_sets_81 ?_
      refine lv_iload hx hb dX8_sets_84 (lv_at hl 1 rfl) ?_
      refine lv_iload hx hb dX8_sets_86 (lv_at hl 0 rfl) ?_
      refine cw_v (wn := fun u2 => [(a, .inr (5, [.ref a_now, .ref a_trial, .ref a_reader, .ref a_history, .ref a_congruences, .ref a_terms, .ref a_text, .int v_letters, .ref a_seen, .int v_seenSoFar, .ref a_images, .int v_keptImages])), (a_history, .inr (1, [.int u2.1, .ref a_history_places, .ref a_history_values])), (a_now, .inr (3, [.int v_now_size, .ref a_now_values])), (a_history_places, .inl (y.1, 12, .inl u2.2.1)), (a_history_values, .inl (y.1, 12, .inl u2.2.2)), (a_now_values, .inl (y.1, 20, .inl v_now_values_58))]) (wr := [(a, .inr (5, [.ref a_now, .ref a_trial, .ref a_reader, .ref a_history, .ref a_congruences, .ref a_terms, .ref a_text, .int v_letters, .ref a_seen, .int v_seenSoFar, .ref a_images, .int v_keptImages])), (a_now, .inr (3, [.int v_now_size, .ref a_now_values])), (a_now_values, .inl (y.1, 20, .inl v_now_values_58))]) (wv (As := [.int t0_58, .int r1]) (rest := []) ⟨hx, hb, hml, hown, hts⟩ (c_X2_note l D y a_history a_history_places a_history_values v_history_known_58 v_history_places_58 v_history_values_58 t0_58 r1 _ _ rfl _ (sat_bind h)) (cwV 2 hts gX8_sets_X2_note rfl rfl rfl (by decide +kernel) ⟨Nat.le_of_ble_eq_true rfl, Nat.le_of_ble_eq_true rfl⟩) hK hP hD [1, 3, 4] rfl rfl rfl 1 1 rfl rfl rfl rfl hl.1 rfl (Nat.le_of_ble_eq_true rfl) dX8_sets_88 ⟨Nat.zero_le _, Nat.zero_le _⟩) hS hP hD hA [1, 3, 4] [0, 2, 5] [0, 3, 1, 4, 5, 2] rfl rfl rfl (by decide) (fun _ => rfl) rfl (fun _ => rfl) (fun u2 H locs h hP hD hS => ?_)
      refine lv_aload_n hx hb dX8_sets_91 rfl (lv_at hl 2 rfl) ?_
      refine va_get (D := D) (ci := 5) (v := .ref a_now) (C := RX8) (T := TX8) (N := 12) hx hb hts iX8 hown hK hP 0 rfl rfl 0 (by decide) fl10 (fun _ h9 => h9) rfl dX8_sets_92 ?_
      refine lv_iload hx hb dX8_sets_95 (lv_at hl 1 rfl) ?_
      refine lv_iload_n hx hb dX8_sets_97 rfl (lv_at hl 3 rfl) ?_
      refine cw_v (wn := fun u3 => [(a, .inr (5, [.ref a_now, .ref a_trial, .ref a_reader, .ref a_history, .ref a_congruences, .ref a_terms, .ref a_text, .int v_letters, .ref a_seen, .int v_seenSoFar, .ref a_images, .int v_keptImages])), (a_history, .inr (1, [.int u2.1, .ref a_history_places, .ref a_history_values])), (a_now, .inr (3, [.int v_now_size, .ref a_now_values])), (a_history_places, .inl (y.1, 12, .inl u2.2.1)), (a_history_values, .inl (y.1, 12, .inl u2.2.2)), (a_now_values, .inl (y.1, 20, .inl u3))]) (wr := [(a, .inr (5, [.ref a_now, .ref a_trial, .ref a_reader, .ref a_history, .ref a_congruences, .ref a_terms, .ref a_text, .int v_letters, .ref a_seen, .int v_seenSoFar, .ref a_images, .int v_keptImages])), (a_history, .inr (1, [.int u2.1, .ref a_history_places, .ref a_history_values])), (a_history_places, .inl (y.1, 12, .inl u2.2.1)), (a_history_values, .inl (y.1, 12, .inl u2.2.2))]) (wv (As := [.int t0_58, .int x3]) (rest := []) ⟨hx, hb, hml, hown, hts⟩ (c_X6_put l D y a_now a_now_values v_now_size v_now_values_58 t0_58 x3 _ _ rfl _ (sat_bind h)) (cwV 2 hts gX8_sets_X6_put rfl rfl rfl (by decide +kernel) ⟨Nat.le_of_ble_eq_true rfl, Nat.le_of_ble_eq_true rfl⟩) hK hP hD [2, 5] rfl rfl rfl 2 3 rfl rfl rfl rfl hl.1 rfl (Nat.le_of_ble_eq_true rfl) dX8_sets_98 ⟨Nat.zero_le _, Nat.zero_le _⟩) hS hP hD hA [2, 5] [0, 1, 3, 4] [0, 1, 4, 2, 3, 5] rfl rfl rfl (by decide) (fun _ => rfl) rfl (fun _ => rfl) (fun u3 H locs h hP hD hS => ?_)
      refine lv_iload hx hb dX8_sets_101 (lv_at hl 0 rfl) ?_
      have h := sat_some h
      exact W.iret (v := r1) hx hb hr (fun t ht hW => ⟨⟨r1, (u2.1, u2.2.1, u2.2.2, u3), rfl, h, by rw [ht]; exact hP, va_K.moved hW.alike hK, hD⟩, hS.F ht⟩) hS.2.2 dX8_sets_103
    · have h := sat_t c74 h
      refine lv_bipush (v := (-3)) hx hb dX8_sets_77 (by decide) ?_
      have h := sat_some h
      exact W.iret (v := (-3)) hx hb hr (fun t ht hW => ⟨⟨(-3), (v_history_known_58, v_history_places_58, v_history_values_58, v_now_values_58), rfl, h, by rw [ht]; exact hP, va_K.moved hW.alike hK, hD⟩, hS.F ht⟩) hS.2.2 dX8_sets_79
  have hJ41 : ∀ (v_history_known_41 : Int32) (v_history_places_41 : Nat → Int32) (v_history_values_41 : Nat → Int32) (v_now_values_41 : Nat → Int32) (ls : Array Slot) (H : Heap) (locs : List Loc), sat (m_X8_sets_j41 x1 x2 x3 v_history_known_41 v_history_places_41 v_history_values_41 v_now_values_41) (pK K) → lv_has ls 6 [(0, .ref a), (1, .int x1), (2, .int x2), (3, .int x3)] → va_P D vwCl [(a, .inr (5, [.ref a_now, .ref a_trial, .ref a_reader, .ref a_history, .ref a_congruences, .ref a_terms, .ref a_text, .int v_letters, .ref a_seen, .int v_seenSoFar, .ref a_images, .int v_keptImages])), (a_history, .inr (1, [.int v_history_known_41, .ref a_history_places, .ref a_history_values])), (a_now, .inr (3, [.int v_now_size, .ref a_now_values])), (a_history_places, .inl (y.1, 12, .inl v_history_places_41)), (a_history_values, .inl (y.1, 12, .inl v_history_values_41)), (a_now_values, .inl (y.1, 20, .inl v_now_values_41))] H → va_D A [(a, .inr (5, [.ref a_now, .ref a_trial, .ref a_reader, .ref a_history, .ref a_congruences, .ref a_terms, .ref a_text, .int v_letters, .ref a_seen, .int v_seenSoFar, .ref a_images, .int v_keptImages])), (a_history, .inr (1, [.int v_history_known_41, .ref a_history_places, .ref a_history_values])), (a_now, .inr (3, [.int v_now_size, .ref a_now_values])), (a_history_places, .inl (y.1, 12, .inl v_history_places_41)), (a_history_values, .inl (y.1, 12, .inl v_history_values_41)), (a_now_values, .inl (y.1, 20, .inl v_now_values_41))] → va_S A s.heap H locs → W p l e (headSpec wsX8_sets ({ frames := 3, cells := 0, slots := 0, locals := 82 } : Room)).room s m ([.ref a, .int x1, .int x2, .int x3] : List Value).toArray below meth c H locs 0 0 (MQ below (va_Qi K (bW D y A (fun u : (Int32 × (Nat → Int32) × (Nat → Int32) × (Nat → Int32)) => [(a, .inr (5, [.ref a_now, .ref a_trial, .ref a_reader, .ref a_history, .ref a_congruences, .ref a_terms, .ref a_text, .int v_letters, .ref a_seen, .int v_seenSoFar, .ref a_images, .int v_keptImages])), (a_history, .inr (1, [.int u.1, .ref a_history_places, .ref a_history_values])), (a_now, .inr (3, [.int v_now_size, .ref a_now_values])), (a_history_places, .inl (y.1, 12, .inl u.2.1)), (a_history_values, .inl (y.1, 12, .inl u.2.2.1)), (a_now_values, .inl (y.1, 20, .inl u.2.2.2))])) A) ([.ref a, .int x1, .int x2, .int x3] : List Value).toArray s 0 0 A) (F0 m 41 ls []) := by
    intro v_history_known_41 v_history_places_41 v_history_values_41 v_now_values_41 ls H locs h hl hP hD hS
    unfold m_X8_sets_j41 at h
    refine lv_iload_n hx hb dX8_sets_41 rfl (lv_at hl 2 rfl) ?_
    refine lv_iconst (v := (-1)) hx hb dX8_sets_42 (by decide) ?_
    refine lv_icmp_ne (tgt := 53) hx hb dX8_sets_43 (by decide) (fun c43 => ?_) (fun c43 => ?_)
    · have h := sat_f c43 h
      refine lv_iload_n hx hb dX8_sets_53 rfl (lv_at hl 1 rfl) ?_
      refine lv_iload_n hx hb dX8_sets_54 rfl (lv_at hl 2 rfl) ?_
      refine cr_i (rs (As := [.int x1, .int x2]) (rest := []) ⟨hx, hb, hml, hown, hts⟩ (c_X6_placeOfTwo l D y x1 x2 _ (sat_bind h)) (va_cwS 2 hts gX8_sets_X6_placeOfTwo rfl rfl rfl (by decide +kernel) ⟨Nat.le_of_ble_eq_true rfl, Nat.le_of_ble_eq_true rfl⟩) hK hP [] rfl rfl hl.1 rfl (Nat.le_of_ble_eq_true rfl) dX8_sets_55 ⟨Nat.zero_le _, Nat.zero_le _⟩) (fun r4 h => ?_)
      exact hJ58 r4 v_history_known_41 v_history_places_41 v_history_values_41 v_now_values_41 ls H locs h (lv_sub hl [0, 3] rfl) hP hD hS
    · have h := sat_t c43 h
      refine lv_iload_n hx hb dX8_sets_46 rfl (lv_at hl 1 rfl) ?_
      refine cr_i (rs (As := [.int x1]) (rest := []) ⟨hx, hb, hml, hown, hts⟩ (c_X6_placeOfOne l D y x1 _ (sat_bind h)) (va_cwS 1 hts gX8_sets_X6_placeOfOne rfl rfl rfl (by decide +kernel) ⟨Nat.le_of_ble_eq_true rfl, Nat.le_of_ble_eq_true rfl⟩) hK hP [] rfl rfl hl.1 rfl (Nat.le_of_ble_eq_true rfl) dX8_sets_47 ⟨Nat.zero_le _, Nat.zero_le _⟩) (fun r5 h => ?_)
      refine lv_goto (tgt := 58) hx hb dX8_sets_50 (by decide) ?_
      exact hJ58 r5 v_history_known_41 v_history_places_41 v_history_values_41 v_now_values_41 ls H locs h (lv_sub hl [0, 3] rfl) hP hD hS
  unfold m_X8_sets at h
  refine lv_aload_n hx hb dX8_sets_0 rfl (lv_at hl 0 rfl) ?_
  refine va_get (D := D) (ci := 5) (v := .ref a_now) (C := RX8) (T := TX8) (N := 12) hx hb hts iX8 hown hK hP 0 rfl rfl 0 (by decide) fl10 (fun _ h9 => h9) rfl dX8_sets_1 ?_
  refine lv_iload_n hx hb dX8_sets_4 rfl (lv_at hl 1 rfl) ?_
  refine cr_i (rv (As := [.int x1]) (rest := []) ⟨hx, hb, hml, hown, hts⟩ (c_X6_has l D y a_now a_now_values v_now_size x1 _ (sat_bind h)) (cwV 1 hts gX8_sets_X6_has rfl rfl rfl (by decide +kernel) ⟨Nat.le_of_ble_eq_true rfl, Nat.le_of_ble_eq_true rfl⟩) hK hP [2] rfl 2 3 rfl rfl rfl rfl hl.1 rfl (Nat.le_of_ble_eq_true rfl) dX8_sets_5 ⟨Nat.zero_le _, Nat.zero_le _⟩) (fun r6 h => ?_)
  refine lv_if_eq (tgt := 38) hx hb dX8_sets_8 (by decide) (fun c8 => ?_) (fun c8 => ?_)
  · have h := sat_t c8 h
    refine lv_bipush (v := (-2)) hx hb dX8_sets_38 (by decide) ?_
    have h := sat_some h
    exact W.iret (v := (-2)) hx hb hr (fun t ht hW => ⟨⟨(-2), (v_history_known, v_history_places, v_history_values, v_now_values), rfl, h, by rw [ht]; exact hP, va_K.moved hW.alike hK, hD⟩, hS.F ht⟩) hS.2.2 dX8_sets_40
  · have h := sat_f c8 h
    refine lv_aload_n hx hb dX8_sets_11 rfl (lv_at hl 0 rfl) ?_
    refine va_get (D := D) (ci := 5) (v := .ref a_now) (C := RX8) (T := TX8) (N := 12) hx hb hts iX8 hown hK hP 0 rfl rfl 0 (by decide) fl10 (fun _ h9 => h9) rfl dX8_sets_12 ?_
    refine lv_iload_n hx hb dX8_sets_15 rfl (lv_at hl 3 rfl) ?_
    refine cr_i (rv (As := [.int x3]) (rest := []) ⟨hx, hb, hml, hown, hts⟩ (c_X6_has l D y a_now a_now_values v_now_size x3 _ (sat_bind h)) (cwV 1 hts gX8_sets_X6_has rfl rfl rfl (by decide +kernel) ⟨Nat.le_of_ble_eq_true rfl, Nat.le_of_ble_eq_true rfl⟩) hK hP [2] rfl 2 3 rfl rfl rfl rfl hl.1 rfl (Nat.le_of_ble_eq_true rfl) dX8_sets_16 ⟨Nat.zero_le _, Nat.zero_le _⟩) (fun r7 h => ?_)
    refine lv_if_eq (tgt := 38) hx hb dX8_sets_19 (by decide) (fun c19 => ?_) (fun c19 => ?_)
    · have h := sat_t c19 h
      refine lv_bipush (v := (-2)) hx hb dX8_sets_38 (by decide) ?_
      have h := sat_some h
      exact W.iret (v := (-2)) hx hb hr (fun t ht hW => ⟨⟨(-2), (v_history_known, v_history_places, v_history_values, v_now_values), rfl, h, by rw [ht]; exact hP, va_K.moved hW.alike hK, hD⟩, hS.F ht⟩) hS.2.2 dX8_sets_40
    · have h := sat_f c19 h
      refine lv_iload_n hx hb dX8_sets_22 rfl (lv_at hl 2 rfl) ?_
      refine lv_iconst (v := (-1)) hx hb dX8_sets_23 (by decide) ?_
      refine lv_icmp_eq (tgt := 41) hx hb dX8_sets_24 (by decide) (fun c24 => ?_) (fun c24 => ?_)
      · have h := sat_t c24 h
        exact hJ41 v_history_known v_history_places v_history_values v_now_values ls s.heap [] h hl hP hD hS
      · have h := sat_f c24 h
        refine lv_aload_n hx hb dX8_sets_27 rfl (lv_at hl 0 rfl) ?_
        refine va_get (D := D) (ci := 5) (v := .ref a_now) (C := RX8) (T := TX8) (N := 12) hx hb hts iX8 hown hK hP 0 rfl rfl 0 (by decide) fl10 (fun _ h9 => h9) rfl dX8_sets_28 ?_
        refine lv_iload_n hx hb dX8_sets_31 rfl (lv_at hl 2 rfl) ?_
        refine cr_i (rv (As := [.int x2]) (rest := []) ⟨hx, hb, hml, hown, hts⟩ (c_X6_has l D y a_now a_now_values v_now_size x2 _ (sat_bind h)) (cwV 1 hts gX8_sets_X6_has rfl rfl rfl (by decide +kernel) ⟨Nat.le_of_ble_eq_true rfl, Nat.le_of_ble_eq_true rfl⟩) hK hP [2] rfl 2 3 rfl rfl rfl rfl hl.1 rfl (Nat.le_of_ble_eq_true rfl) dX8_sets_32 ⟨Nat.zero_le _, Nat.zero_le _⟩) (fun r8 h => ?_)
        refine lv_if_ne (tgt := 41) hx hb dX8_sets_35 (by decide) (fun c35 => ?_) (fun c35 => ?_)
        · have h := sat_f c35 h
          exact hJ41 v_history_known v_history_places v_history_values v_now_values ls s.heap [] h hl hP hD hS
        · have h := sat_t c35 h
          refine lv_bipush (v := (-2)) hx hb dX8_sets_38 (by decide) ?_
          have h := sat_some h
          exact W.iret (v := (-2)) hx hb hr (fun t ht hW => ⟨⟨(-2), (v_history_known, v_history_places, v_history_values, v_now_values), rfl, h, by rw [ht]; exact hP, va_K.moved hW.alike hK, hD⟩, hS.F ht⟩) hS.2.2 dX8_sets_40

/-! X8_undo -/
set_option maxHeartbeats 4000000 in
set_option maxRecDepth 100000 in
theorem c_X8_undo (l : Launch) (D : va_G) (y : ClassId × ClassId × ClassId × ClassId) (a a_history a_now a_history_places a_history_values a_now_values a_trial a_reader a_congruences a_terms a_text a_seen a_images : Nat) (v_letters : Int32) (v_seenSoFar : Int32) (v_keptImages : Int32) (v_history_known : Int32) (v_now_size : Int32) (v_history_places : Nat → Int32) (v_history_values : Nat → Int32) (v_now_values : Nat → Int32) (sz : Nat) (A : Nat → Prop) (hAe : va_A [(a, .inr (5, [.ref a_now, .ref a_trial, .ref a_reader, .ref a_history, .ref a_congruences, .ref a_terms, .ref a_text, .int v_letters, .ref a_seen, .int v_seenSoFar, .ref a_images, .int v_keptImages])), (a_history, .inr (1, [.int v_history_known, .ref a_history_places, .ref a_history_values])), (a_now, .inr (3, [.int v_now_size, .ref a_now_values])), (a_history_places, .inl (y.1, 12, .inl v_history_places)), (a_history_values, .inl (y.1, 12, .inl v_history_values)), (a_now_values, .inl (y.1, 20, .inl v_now_values))] sz = A) (K : Int32 → (Int32 × (Nat → Int32)) → Prop) (h : sat (m_X8_undo v_history_known v_history_places v_history_values v_now_values) (pK K)) : Met l yX8_undo wsX8_undo ({ frames := 2, cells := 0, slots := 0, locals := 43 } : Room) (pW D y ([.ref a] : List Value) [(a, .inr (5, [.ref a_now, .ref a_trial, .ref a_reader, .ref a_history, .ref a_congruences, .ref a_terms, .ref a_text, .int v_letters, .ref a_seen, .int v_seenSoFar, .ref a_images, .int v_keptImages])), (a_history, .inr (1, [.int v_history_known, .ref a_history_places, .ref a_history_values])), (a_now, .inr (3, [.int v_now_size, .ref a_now_values])), (a_history_places, .inl (y.1, 12, .inl v_history_places)), (a_history_values, .inl (y.1, 12, .inl v_history_values)), (a_now_values, .inl (y.1, 20, .inl v_now_values))] sz) (va_Qi K (bW D y A (fun u : (Int32 × (Nat → Int32)) => [(a, .inr (5, [.ref a_now, .ref a_trial, .ref a_reader, .ref a_history, .ref a_congruences, .ref a_terms, .ref a_text, .int v_letters, .ref a_seen, .int v_seenSoFar, .ref a_images, .int v_keptImages])), (a_history, .inr (1, [.int u.1, .ref a_history_places, .ref a_history_values])), (a_now, .inr (3, [.int v_now_size, .ref a_now_values])), (a_history_places, .inl (y.1, 12, .inl v_history_places)), (a_history_values, .inl (y.1, 12, .inl v_history_values)), (a_now_values, .inl (y.1, 20, .inl u.2))])) A) 0 0 A := by
  refine Met.ofW (cc := cX8_undo) (maxL := 1) (ret := (some .int)) (by decide) rfl ?_
  intro p e s m args below meth c s₁ B hml hv
  obtain ⟨rfl, hsz, hP, hK, hD0⟩ := hv
  have hx := B.exec
  have hb := B.bytes
  have hr := B.returns
  have hts := atoms_spec (ws := wsX8_undo) B.pre
  have hown : s.vm.findClass RX8 = some m.cls := findClass_of_methodNamed B.named
  have hlocks := B.notSynchronized
  subst hsz
  have hD : va_D A [(a, .inr (5, [.ref a_now, .ref a_trial, .ref a_reader, .ref a_history, .ref a_congruences, .ref a_terms, .ref a_text, .int v_letters, .ref a_seen, .int v_seenSoFar, .ref a_images, .int v_keptImages])), (a_history, .inr (1, [.int v_history_known, .ref a_history_places, .ref a_history_values])), (a_now, .inr (3, [.int v_now_size, .ref a_now_values])), (a_history_places, .inl (y.1, 12, .inl v_history_places)), (a_history_values, .inl (y.1, 12, .inl v_history_values)), (a_now_values, .inl (y.1, 20, .inl v_now_values))] := hAe ▸ hD0.self
  have hA : ∀ q : Nat, s.heap.size ≤ q → A q := fun q h => hAe ▸ Or.inr h
  have hS : va_S A s.heap s.heap [] := va_S.rf
  have iX2 : ∀ w ∈ wsX20, w ∈ wsX8_undo := by decide +kernel
  have iX8 : ∀ w ∈ wsX80, w ∈ wsX8_undo := by decide +kernel
  have fl29 := hts (.fieldLink RX8 29 "AlgebraLaws" "history" "LAlgebraLaws$History;") (by decide +kernel)
  have fl117 := hts (.fieldLink RX8 117 "AlgebraLaws$History" "known" "I") (by decide +kernel)
  have fl10 := hts (.fieldLink RX8 10 "AlgebraLaws" "now" "LAlgebraLaws$Tables;") (by decide +kernel)
  have hl := lv_entry ([.ref a] : List Value) (n := 1) (Nat.le_of_ble_eq_true rfl)
  rw [lg_entry_eq]
  generalize (lg_sl ([.ref a] : List Value) ++ List.replicate (1 - (lg_sl ([.ref a] : List Value)).length) Slot.unset).toArray = ls at hl ⊢
  have hl : lv_has ls 1 [(0, .ref a)] := hl
  unfold m_X8_undo at h
  refine lv_aload_n hx hb dX8_undo_0 rfl (lv_at hl 0 rfl) ?_
  refine va_get (D := D) (ci := 5) (v := .ref a_history) (C := RX8) (T := TX8) (N := 12) hx hb hts iX8 hown hK hP 0 rfl rfl 3 (by decide) fl29 (fun _ h9 => h9) rfl dX8_undo_1 ?_
  refine va_get (D := D) (ci := 1) (v := .int v_history_known) (C := RX2) (T := TX2) (N := 3) hx hb hts iX2 hown hK hP 1 rfl rfl 0 (by decide) fl117 (fun _ h9 => h9) rfl dX8_undo_4 ?_
  refine lv_if_ne (tgt := 13) hx hb dX8_undo_7 (by decide) (fun c7 => ?_) (fun c7 => ?_)
  · have h := sat_f c7 h
    refine lv_aload_n hx hb dX8_undo_13 rfl (lv_at hl 0 rfl) ?_
    refine va_get (D := D) (ci := 5) (v := .ref a_history) (C := RX8) (T := TX8) (N := 12) hx hb hts iX8 hown hK hP 0 rfl rfl 3 (by decide) fl29 (fun _ h9 => h9) rfl dX8_undo_14 ?_
    refine lv_aload_n hx hb dX8_undo_17 rfl (lv_at hl 0 rfl) ?_
    refine va_get (D := D) (ci := 5) (v := .ref a_now) (C := RX8) (T := TX8) (N := 12) hx hb hts iX8 hown hK hP 0 rfl rfl 0 (by decide) fl10 (fun _ h9 => h9) rfl dX8_undo_18 ?_
    refine cw_v (wn := fun u1 => [(a, .inr (5, [.ref a_now, .ref a_trial, .ref a_reader, .ref a_history, .ref a_congruences, .ref a_terms, .ref a_text, .int v_letters, .ref a_seen, .int v_seenSoFar, .ref a_images, .int v_keptImages])), (a_history, .inr (1, [.int u1.1, .ref a_history_places, .ref a_history_values])), (a_now, .inr (3, [.int v_now_size, .ref a_now_values])), (a_history_places, .inl (y.1, 12, .inl v_history_places)), (a_history_values, .inl (y.1, 12, .inl v_history_values)), (a_now_values, .inl (y.1, 20, .inl u1.2))]) (wr := [(a, .inr (5, [.ref a_now, .ref a_trial, .ref a_reader, .ref a_history, .ref a_congruences, .ref a_terms, .ref a_text, .int v_letters, .ref a_seen, .int v_seenSoFar, .ref a_images, .int v_keptImages]))]) (wv (As := [.ref a_now]) (rest := []) ⟨hx, hb, hml, hown, hts⟩ (c_X2_takeBackIn l D y a_history a_history_places a_history_values a_now a_now_values v_history_known v_history_places v_history_values v_now_size v_now_values _ _ rfl _ (sat_bind h)) (cwV 1 hts gX8_undo_X2_takeBackIn rfl rfl rfl (by decide +kernel) ⟨Nat.le_of_ble_eq_true rfl, Nat.le_of_ble_eq_true rfl⟩) hK hP hD [1, 3, 4, 2, 5] rfl rfl rfl 1 1 rfl rfl rfl rfl hl.1 rfl (Nat.le_of_ble_eq_true rfl) dX8_undo_21 ⟨Nat.zero_le _, Nat.zero_le _⟩) hS hP hD hA [1, 3, 4, 2, 5] [0] [0, 1, 4, 2, 3, 5] rfl rfl rfl (by decide) (fun _ => rfl) rfl (fun _ => rfl) (fun u1 H locs h hP hD hS => ?_)
    refine lv_aload_n hx hb dX8_undo_24 rfl (lv_at hl 0 rfl) ?_
    refine va_get (D := D) (ci := 5) (v := .ref a_history) (C := RX8) (T := TX8) (N := 12) hx hb hts iX8 hown hK hP 0 rfl rfl 3 (by decide) fl29 (fun _ h9 => h9) rfl dX8_undo_25 ?_
    refine va_get (D := D) (ci := 1) (v := .int u1.1) (C := RX2) (T := TX2) (N := 3) hx hb hts iX2 hown hK hP 1 rfl rfl 0 (by decide) fl117 (fun _ h9 => h9) rfl dX8_undo_28 ?_
    have h := sat_some h
    exact W.iret (v := u1.1) hx hb hr (fun t ht hW => ⟨⟨u1.1, (u1.1, u1.2), rfl, h, by rw [ht]; exact hP, va_K.moved hW.alike hK, hD⟩, hS.F ht⟩) hS.2.2 dX8_undo_31
  · have h := sat_t c7 h
    refine lv_bipush (v := (-3)) hx hb dX8_undo_10 (by decide) ?_
    have h := sat_some h
    exact W.iret (v := (-3)) hx hb hr (fun t ht hW => ⟨⟨(-3), (v_history_known, v_now_values), rfl, h, by rw [ht]; exact hP, va_K.moved hW.alike hK, hD⟩, hS.F ht⟩) hS.2.2 dX8_undo_12

/-! X8_made -/
set_option maxHeartbeats 4000000 in
set_option maxRecDepth 100000 in
theorem c_X8_made (l : Launch) (D : va_G) (y : ClassId × ClassId × ClassId × ClassId) (a a_now a_now_values a_trial a_reader a_history a_congruences a_terms a_text a_seen a_images : Nat) (v_letters : Int32) (v_seenSoFar : Int32) (v_keptImages : Int32) (v_now_size : Int32) (v_now_values : Nat → Int32) (x1 : Int32) (K : Int32 → Prop) (h : sat (m_X8_made v_now_size v_now_values x1) K) : Met l yX8_made wsX8_made ({ frames := 4, cells := 0, slots := 0, locals := 90 } : Room) (pR D y ([.ref a, .int x1] : List Value) [(a, .inr (5, [.ref a_now, .ref a_trial, .ref a_reader, .ref a_history, .ref a_congruences, .ref a_terms, .ref a_text, .int v_letters, .ref a_seen, .int v_seenSoFar, .ref a_images, .int v_keptImages])), (a_now, .inr (3, [.int v_now_size, .ref a_now_values])), (a_now_values, .inl (y.1, 20, .inl v_now_values))]) (qSi K) 0 0 (fun _ => False) := by
  refine Met.ofW (cc := cX8_made) (maxL := 2) (ret := (some .int)) (by decide) rfl ?_
  intro p e s m args below meth c s₁ B hml hv
  obtain ⟨rfl, hP, hK⟩ := hv
  have hx := B.exec
  have hb := B.bytes
  have hr := B.returns
  have hts := atoms_spec (ws := wsX8_made) B.pre
  have hown : s.vm.findClass RX8 = some m.cls := findClass_of_methodNamed B.named
  have hlocks := B.notSynchronized
  have iX8 : ∀ w ∈ wsX80, w ∈ wsX8_made := by decide +kernel
  have fl10 := hts (.fieldLink RX8 10 "AlgebraLaws" "now" "LAlgebraLaws$Tables;") (by decide +kernel)
  have hl := lv_entry ([.ref a, .int x1] : List Value) (n := 2) (Nat.le_of_ble_eq_true rfl)
  rw [lg_entry_eq]
  generalize (lg_sl ([.ref a, .int x1] : List Value) ++ List.replicate (2 - (lg_sl ([.ref a, .int x1] : List Value)).length) Slot.unset).toArray = ls at hl ⊢
  have hl : lv_has ls 2 [(0, .ref a), (1, .int x1)] := hl
  unfold m_X8_made at h
  refine lv_iload_n hx hb dX8_made_0 rfl (lv_at hl 1 rfl) ?_
  refine lv_if_lt (tgt := 15) hx hb dX8_made_1 (by decide) (fun c1 => ?_) (fun c1 => ?_)
  · have h := sat_t c1 h
    refine lv_bipush (v := (-2)) hx hb dX8_made_15 (by decide) ?_
    refine lv_goto (tgt := 28) hx hb dX8_made_17 (by decide) ?_
    have h := sat_some h
    exact W.iret (v := (-2)) hx hb hr (fun t ht _ => ⟨(-2), rfl, h, ht⟩) (fun _ hq => by cases hq) dX8_made_28
  · have h := sat_f c1 h
    refine lv_iload_n hx hb dX8_made_4 rfl (lv_at hl 1 rfl) ?_
    refine lv_aload_n hx hb dX8_made_5 rfl (lv_at hl 0 rfl) ?_
    refine va_get (D := D) (ci := 5) (v := .ref a_now) (C := RX8) (T := TX8) (N := 12) hx hb hts iX8 hown hK hP 0 rfl rfl 0 (by decide) fl10 (fun _ h9 => h9) rfl dX8_made_6 ?_
    refine cr_i (rv (As := []) (rest := [.int x1]) ⟨hx, hb, hml, hown, hts⟩ (c_X6_allElements l D y a_now a_now_values v_now_size _ (sat_bind h)) (cwV 0 hts gX8_made_X6_allElements rfl rfl rfl (by decide +kernel) ⟨Nat.le_of_ble_eq_true rfl, Nat.le_of_ble_eq_true rfl⟩) hK hP [1] rfl 1 3 rfl rfl rfl rfl hl.1 rfl (Nat.le_of_ble_eq_true rfl) dX8_made_9 ⟨Nat.zero_le _, Nat.zero_le _⟩) (fun r1 h => ?_)
    refine lv_icmp_le (tgt := 20) hx hb dX8_made_12 (by decide) (fun c12 => ?_) (fun c12 => ?_)
    · have h := sat_t c12 h
      refine lv_aload_n hx hb dX8_made_20 rfl (lv_at hl 0 rfl) ?_
      refine va_get (D := D) (ci := 5) (v := .ref a_now) (C := RX8) (T := TX8) (N := 12) hx hb hts iX8 hown hK hP 0 rfl rfl 0 (by decide) fl10 (fun _ h9 => h9) rfl dX8_made_21 ?_
      refine lv_iload_n hx hb dX8_made_24 rfl (lv_at hl 1 rfl) ?_
      refine cr_i (rs (As := [.ref a_now, .int x1]) (rest := []) ⟨hx, hb, hml, hown, hts⟩ (c_X0_leastAround l D y a_now a_now_values v_now_size v_now_values x1 _ (sat_bind h)) (va_cwS 2 hts gX8_made_X0_leastAround rfl rfl rfl (by decide +kernel) ⟨Nat.le_of_ble_eq_true rfl, Nat.le_of_ble_eq_true rfl⟩) hK hP [1, 2] rfl rfl hl.1 rfl (Nat.le_of_ble_eq_true rfl) dX8_made_25 ⟨Nat.zero_le _, Nat.zero_le _⟩) (fun r2 h => ?_)
      have h := sat_some h
      exact W.iret (v := r2) hx hb hr (fun t ht _ => ⟨r2, rfl, h, ht⟩) (fun _ hq => by cases hq) dX8_made_28
    · have h := sat_f c12 h
      refine lv_bipush (v := (-2)) hx hb dX8_made_15 (by decide) ?_
      refine lv_goto (tgt := 28) hx hb dX8_made_17 (by decide) ?_
      have h := sat_some h
      exact W.iret (v := (-2)) hx hb hr (fun t ht _ => ⟨(-2), rfl, h, ht⟩) (fun _ hq => by cases hq) dX8_made_28

/-! X8_closed -/
set_option maxHeartbeats 4000000 in
set_option maxRecDepth 100000 in
theorem c_X8_closed (l : Launch) (D : va_G) (y : ClassId × ClassId × ClassId × ClassId) (a a_now a_now_values a_trial a_reader a_history a_congruences a_terms a_text a_seen a_images : Nat) (v_letters : Int32) (v_seenSoFar : Int32) (v_keptImages : Int32) (v_now_size : Int32) (v_now_values : Nat → Int32) (x1 : Int32) (K : Int32 → Prop) (h : sat (m_X8_closed v_now_size v_now_values x1) K) : Met l yX8_closed wsX8_closed ({ frames := 5, cells := 0, slots := 0, locals := 111 } : Room) (pR D y ([.ref a, .int x1] : List Value) [(a, .inr (5, [.ref a_now, .ref a_trial, .ref a_reader, .ref a_history, .ref a_congruences, .ref a_terms, .ref a_text, .int v_letters, .ref a_seen, .int v_seenSoFar, .ref a_images, .int v_keptImages])), (a_now, .inr (3, [.int v_now_size, .ref a_now_values])), (a_now_values, .inl (y.1, 20, .inl v_now_values))]) (qSi K) 0 0 (fun _ => False) := by
  refine Met.ofW (cc := cX8_closed) (maxL := 2) (ret := (some .int)) (by decide) rfl ?_
  intro p e s m args below meth c s₁ B hml hv
  obtain ⟨rfl, hP, hK⟩ := hv
  have hx := B.exec
  have hb := B.bytes
  have hr := B.returns
  have hts := atoms_spec (ws := wsX8_closed) B.pre
  have hown : s.vm.findClass RX8 = some m.cls := findClass_of_methodNamed B.named
  have hlocks := B.notSynchronized
  have iX8 : ∀ w ∈ wsX80, w ∈ wsX8_closed := by decide +kernel
  have fl10 := hts (.fieldLink RX8 10 "AlgebraLaws" "now" "LAlgebraLaws$Tables;") (by decide +kernel)
  have hl := lv_entry ([.ref a, .int x1] : List Value) (n := 2) (Nat.le_of_ble_eq_true rfl)
  rw [lg_entry_eq]
  generalize (lg_sl ([.ref a, .int x1] : List Value) ++ List.replicate (2 - (lg_sl ([.ref a, .int x1] : List Value)).length) Slot.unset).toArray = ls at hl ⊢
  have hl : lv_has ls 2 [(0, .ref a), (1, .int x1)] := hl
  unfold m_X8_closed at h
  refine lv_iload_n hx hb dX8_closed_0 rfl (lv_at hl 1 rfl) ?_
  refine lv_if_ge (tgt := 9) hx hb dX8_closed_1 (by decide) (fun c1 => ?_) (fun c1 => ?_)
  · have h := sat_t c1 h
    refine lv_aload_n hx hb dX8_closed_9 rfl (lv_at hl 0 rfl) ?_
    refine va_get (D := D) (ci := 5) (v := .ref a_now) (C := RX8) (T := TX8) (N := 12) hx hb hts iX8 hown hK hP 0 rfl rfl 0 (by decide) fl10 (fun _ h9 => h9) rfl dX8_closed_10 ?_
    refine lv_iload_n hx hb dX8_closed_13 rfl (lv_at hl 1 rfl) ?_
    refine cr_i (rs (As := [.ref a_now, .int x1]) (rest := []) ⟨hx, hb, hml, hown, hts⟩ (c_X0_byNumber l D y a_now a_now_values v_now_size v_now_values x1 _ (sat_bind h)) (va_cwS 2 hts gX8_closed_X0_byNumber rfl rfl rfl (by decide +kernel) ⟨Nat.le_of_ble_eq_true rfl, Nat.le_of_ble_eq_true rfl⟩) hK hP [1, 2] rfl rfl hl.1 rfl (Nat.le_of_ble_eq_true rfl) dX8_closed_14 ⟨Nat.zero_le _, Nat.zero_le _⟩) (fun r1 h => ?_)
    have h := sat_some h
    exact W.iret (v := r1) hx hb hr (fun t ht _ => ⟨r1, rfl, h, ht⟩) (fun _ hq => by cases hq) dX8_closed_17
  · have h := sat_f c1 h
    refine lv_bipush (v := (-2)) hx hb dX8_closed_4 (by decide) ?_
    refine lv_goto (tgt := 17) hx hb dX8_closed_6 (by decide) ?_
    have h := sat_some h
    exact W.iret (v := (-2)) hx hb hr (fun t ht _ => ⟨(-2), rfl, h, ht⟩) (fun _ hq => by cases hq) dX8_closed_17

/-! X8_law -/
set_option maxHeartbeats 4000000 in
set_option maxRecDepth 100000 in
theorem c_X8_law (l : Launch) (D : va_G) (y : ClassId × ClassId × ClassId × ClassId) (a a_now a_now_values a_trial a_reader a_history a_congruences a_terms a_text a_seen a_images : Nat) (v_letters : Int32) (v_seenSoFar : Int32) (v_keptImages : Int32) (v_now_size : Int32) (v_now_values : Nat → Int32) (x1 : Int32) (K : Int32 → Prop) (h : sat (m_X8_law v_now_size v_now_values x1) K) : Met l yX8_law wsX8_law ({ frames := 4, cells := 0, slots := 0, locals := 93 } : Room) (pR D y ([.ref a, .int x1] : List Value) [(a, .inr (5, [.ref a_now, .ref a_trial, .ref a_reader, .ref a_history, .ref a_congruences, .ref a_terms, .ref a_text, .int v_letters, .ref a_seen, .int v_seenSoFar, .ref a_images, .int v_keptImages])), (a_now, .inr (3, [.int v_now_size, .ref a_now_values])), (a_now_values, .inl (y.1, 20, .inl v_now_values))]) (qSi K) 0 0 (fun _ => False) := by
  refine Met.ofW (cc := cX8_law) (maxL := 2) (ret := (some .int)) (by decide) rfl ?_
  intro p e s m args below meth c s₁ B hml hv
  obtain ⟨rfl, hP, hK⟩ := hv
  have hx := B.exec
  have hb := B.bytes
  have hr := B.returns
  have hts := atoms_spec (ws := wsX8_law) B.pre
  have hown : s.vm.findClass RX8 = some m.cls := findClass_of_methodNamed B.named
  have hlocks := B.notSynchronized
  have iX8 : ∀ w ∈ wsX80, w ∈ wsX8_law := by decide +kernel
  have fl10 := hts (.fieldLink RX8 10 "AlgebraLaws" "now" "LAlgebraLaws$Tables;") (by decide +kernel)
  have hl := lv_entry ([.ref a, .int x1] : List Value) (n := 2) (Nat.le_of_ble_eq_true rfl)
  rw [lg_entry_eq]
  generalize (lg_sl ([.ref a, .int x1] : List Value) ++ List.replicate (2 - (lg_sl ([.ref a, .int x1] : List Value)).length) Slot.unset).toArray = ls at hl ⊢
  have hl : lv_has ls 2 [(0, .ref a), (1, .int x1)] := hl
  unfold m_X8_law at h
  refine lv_iload_n hx hb dX8_law_0 rfl (lv_at hl 1 rfl) ?_
  refine cr_i (rs (As := [.int x1]) (rest := []) ⟨hx, hb, hml, hown, hts⟩ (c_X3_isThere l D y x1 _ (sat_bind h)) (va_cwS 1 hts gX8_law_X3_isThere rfl rfl rfl (by decide +kernel) ⟨Nat.le_of_ble_eq_true rfl, Nat.le_of_ble_eq_true rfl⟩) hK hP [] rfl rfl hl.1 rfl (Nat.le_of_ble_eq_true rfl) dX8_law_1 ⟨Nat.zero_le _, Nat.zero_le _⟩) (fun r1 h => ?_)
  refine lv_if_eq (tgt := 18) hx hb dX8_law_4 (by decide) (fun c4 => ?_) (fun c4 => ?_)
  · have h := sat_t c4 h
    refine lv_bipush (v := (-2)) hx hb dX8_law_18 (by decide) ?_
    have h := sat_some h
    exact W.iret (v := (-2)) hx hb hr (fun t ht _ => ⟨(-2), rfl, h, ht⟩) (fun _ hq => by cases hq) dX8_law_20
  · have h := sat_f c4 h
    refine lv_aload_n hx hb dX8_law_7 rfl (lv_at hl 0 rfl) ?_
    refine va_get (D := D) (ci := 5) (v := .ref a_now) (C := RX8) (T := TX8) (N := 12) hx hb hts iX8 hown hK hP 0 rfl rfl 0 (by decide) fl10 (fun _ h9 => h9) rfl dX8_law_8 ?_
    refine lv_iload_n hx hb dX8_law_11 rfl (lv_at hl 1 rfl) ?_
    refine cr_i (rs (As := [.ref a_now, .int x1]) (rest := []) ⟨hx, hb, hml, hown, hts⟩ (c_X3_firstAgainst l D y a_now a_now_values v_now_size v_now_values x1 _ (sat_bind h)) (va_cwS 2 hts gX8_law_X3_firstAgainst rfl rfl rfl (by decide +kernel) ⟨Nat.le_of_ble_eq_true rfl, Nat.le_of_ble_eq_true rfl⟩) hK hP [1, 2] rfl rfl hl.1 rfl (Nat.le_of_ble_eq_true rfl) dX8_law_12 ⟨Nat.zero_le _, Nat.zero_le _⟩) (fun r2 h => ?_)
    refine lv_goto (tgt := 20) hx hb dX8_law_15 (by decide) ?_
    have h := sat_some h
    exact W.iret (v := r2) hx hb hr (fun t ht _ => ⟨r2, rfl, h, ht⟩) (fun _ hq => by cases hq) dX8_law_20

/-! X8_change -/
set_option maxHeartbeats 4000000 in
set_option maxRecDepth 100000 in
theorem c_X8_change (l : Launch) (D : va_G) (y : ClassId × ClassId × ClassId × ClassId) (a a_now a_trial a_now_values a_trial_values a_reader a_history a_congruences a_terms a_text a_seen a_images : Nat) (v_letters : Int32) (v_seenSoFar : Int32) (v_keptImages : Int32) (v_now_size : Int32) (v_trial_size : Int32) (v_now_values : Nat → Int32) (v_trial_values : Nat → Int32) (x1 : Int32) (sz : Nat) (A : Nat → Prop) (hAe : va_A [(a, .inr (5, [.ref a_now, .ref a_trial, .ref a_reader, .ref a_history, .ref a_congruences, .ref a_terms, .ref a_text, .int v_letters, .ref a_seen, .int v_seenSoFar, .ref a_images, .int v_keptImages])), (a_now, .inr (3, [.int v_now_size, .ref a_now_values])), (a_trial, .inr (3, [.int v_trial_size, .ref a_trial_values])), (a_now_values, .inl (y.1, 20, .inl v_now_values)), (a_trial_values, .inl (y.1, 20, .inl v_trial_values))] sz = A) (K : Int32 → (Int32 × (Nat → Int32)) → Prop) (h : sat (m_X8_change v_now_size v_trial_size v_now_values v_trial_values x1) (pK K)) : Met l yX8_change wsX8_change ({ frames := 6, cells := 0, slots := 0, locals := 142 } : Room) (pW D y ([.ref a, .int x1] : List Value) [(a, .inr (5, [.ref a_now, .ref a_trial, .ref a_reader, .ref a_history, .ref a_congruences, .ref a_terms, .ref a_text, .int v_letters, .ref a_seen, .int v_seenSoFar, .ref a_images, .int v_keptImages])), (a_now, .inr (3, [.int v_now_size, .ref a_now_values])), (a_trial, .inr (3, [.int v_trial_size, .ref a_trial_values])), (a_now_values, .inl (y.1, 20, .inl v_now_values)), (a_trial_values, .inl (y.1, 20, .inl v_trial_values))] sz) (va_Qi K (bW D y A (fun u : (Int32 × (Nat → Int32)) => [(a, .inr (5, [.ref a_now, .ref a_trial, .ref a_reader, .ref a_history, .ref a_congruences, .ref a_terms, .ref a_text, .int v_letters, .ref a_seen, .int v_seenSoFar, .ref a_images, .int v_keptImages])), (a_now, .inr (3, [.int v_now_size, .ref a_now_values])), (a_trial, .inr (3, [.int u.1, .ref a_trial_values])), (a_now_values, .inl (y.1, 20, .inl v_now_values)), (a_trial_values, .inl (y.1, 20, .inl u.2))])) A) 0 0 A := by
  refine Met.ofW (cc := cX8_change) (maxL := 2) (ret := (some .int)) (by decide) rfl ?_
  intro p e s m args below meth c s₁ B hml hv
  obtain ⟨rfl, hsz, hP, hK, hD0⟩ := hv
  have hx := B.exec
  have hb := B.bytes
  have hr := B.returns
  have hts := atoms_spec (ws := wsX8_change) B.pre
  have hown : s.vm.findClass RX8 = some m.cls := findClass_of_methodNamed B.named
  have hlocks := B.notSynchronized
  subst hsz
  have hD : va_D A [(a, .inr (5, [.ref a_now, .ref a_trial, .ref a_reader, .ref a_history, .ref a_congruences, .ref a_terms, .ref a_text, .int v_letters, .ref a_seen, .int v_seenSoFar, .ref a_images, .int v_keptImages])), (a_now, .inr (3, [.int v_now_size, .ref a_now_values])), (a_trial, .inr (3, [.int v_trial_size, .ref a_trial_values])), (a_now_values, .inl (y.1, 20, .inl v_now_values)), (a_trial_values, .inl (y.1, 20, .inl v_trial_values))] := hAe ▸ hD0.self
  have hA : ∀ q : Nat, s.heap.size ≤ q → A q := fun q h => hAe ▸ Or.inr h
  have hS : va_S A s.heap s.heap [] := va_S.rf
  have iX8 : ∀ w ∈ wsX80, w ∈ wsX8_change := by decide +kernel
  have fl10 := hts (.fieldLink RX8 10 "AlgebraLaws" "now" "LAlgebraLaws$Tables;") (by decide +kernel)
  have fl16 := hts (.fieldLink RX8 16 "AlgebraLaws" "trial" "LAlgebraLaws$Tables;") (by decide +kernel)
  have hl := lv_entry ([.ref a, .int x1] : List Value) (n := 2) (Nat.le_of_ble_eq_true rfl)
  rw [lg_entry_eq]
  generalize (lg_sl ([.ref a, .int x1] : List Value) ++ List.replicate (2 - (lg_sl ([.ref a, .int x1] : List Value)).length) Slot.unset).toArray = ls at hl ⊢
  have hl : lv_has ls 2 [(0, .ref a), (1, .int x1)] := hl
  unfold m_X8_change at h
  refine lv_iload_n hx hb dX8_change_0 rfl (lv_at hl 1 rfl) ?_
  refine cr_i (rs (As := [.int x1]) (rest := []) ⟨hx, hb, hml, hown, hts⟩ (c_X3_isThere l D y x1 _ (sat_bind h)) (va_cwS 1 hts gX8_change_X3_isThere rfl rfl rfl (by decide +kernel) ⟨Nat.le_of_ble_eq_true rfl, Nat.le_of_ble_eq_true rfl⟩) hK hP [] rfl rfl hl.1 rfl (Nat.le_of_ble_eq_true rfl) dX8_change_1 ⟨Nat.zero_le _, Nat.zero_le _⟩) (fun r1 h => ?_)
  refine lv_if_ne (tgt := 10) hx hb dX8_change_4 (by decide) (fun c4 => ?_) (fun c4 => ?_)
  · have h := sat_f c4 h
    refine lv_aload_n hx hb dX8_change_10 rfl (lv_at hl 0 rfl) ?_
    refine va_get (D := D) (ci := 5) (v := .ref a_now) (C := RX8) (T := TX8) (N := 12) hx hb hts iX8 hown hK hP 0 rfl rfl 0 (by decide) fl10 (fun _ h9 => h9) rfl dX8_change_11 ?_
    refine lv_iload_n hx hb dX8_change_14 rfl (lv_at hl 1 rfl) ?_
    refine cr_i (rs (As := [.ref a_now, .int x1]) (rest := []) ⟨hx, hb, hml, hown, hts⟩ (c_X3_holds l D y a_now a_now_values v_now_size v_now_values x1 _ (sat_bind h)) (va_cwS 2 hts gX8_change_X3_holds rfl rfl rfl (by decide +kernel) ⟨Nat.le_of_ble_eq_true rfl, Nat.le_of_ble_eq_true rfl⟩) hK hP [1, 3] rfl rfl hl.1 rfl (Nat.le_of_ble_eq_true rfl) dX8_change_15 ⟨Nat.zero_le _, Nat.zero_le _⟩) (fun r2 h => ?_)
    refine lv_if_eq (tgt := 23) hx hb dX8_change_18 (by decide) (fun c18 => ?_) (fun c18 => ?_)
    · have h := sat_t c18 h
      refine lv_aload_n hx hb dX8_change_23 rfl (lv_at hl 0 rfl) ?_
      refine va_get (D := D) (ci := 5) (v := .ref a_trial) (C := RX8) (T := TX8) (N := 12) hx hb hts iX8 hown hK hP 0 rfl rfl 1 (by decide) fl16 (fun _ h9 => h9) rfl dX8_change_24 ?_
      refine lv_aload_n hx hb dX8_change_27 rfl (lv_at hl 0 rfl) ?_
      refine va_get (D := D) (ci := 5) (v := .ref a_now) (C := RX8) (T := TX8) (N := 12) hx hb hts iX8 hown hK hP 0 rfl rfl 0 (by decide) fl10 (fun _ h9 => h9) rfl dX8_change_28 ?_
      refine cw_v (wn := fun u3 => [(a, .inr (5, [.ref a_now, .ref a_trial, .ref a_reader, .ref a_history, .ref a_congruences, .ref a_terms, .ref a_text, .int v_letters, .ref a_seen, .int v_seenSoFar, .ref a_images, .int v_keptImages])), (a_now, .inr (3, [.int v_now_size, .ref a_now_values])), (a_trial, .inr (3, [.int u3.1, .ref a_trial_values])), (a_now_values, .inl (y.1, 20, .inl v_now_values)), (a_trial_values, .inl (y.1, 20, .inl u3.2))]) (wr := [(a, .inr (5, [.ref a_now, .ref a_trial, .ref a_reader, .ref a_history, .ref a_congruences, .ref a_terms, .ref a_text, .int v_letters, .ref a_seen, .int v_seenSoFar, .ref a_images, .int v_keptImages]))]) (wv (As := [.ref a_now]) (rest := []) ⟨hx, hb, hml, hown, hts⟩ (c_X6_copyFrom l D y a_trial a_trial_values a_now a_now_values v_trial_size v_trial_values v_now_size v_now_values _ _ rfl _ (sat_bind h)) (cwV 1 hts gX8_change_X6_copyFrom rfl rfl rfl (by decide +kernel) ⟨Nat.le_of_ble_eq_true rfl, Nat.le_of_ble_eq_true rfl⟩) hK hP hD [2, 4, 1, 3] rfl rfl rfl 2 3 rfl rfl rfl rfl hl.1 rfl (Nat.le_of_ble_eq_true rfl) dX8_change_31 ⟨Nat.zero_le _, Nat.zero_le _⟩) hS hP hD hA [2, 4, 1, 3] [0] [0, 3, 1, 4, 2] rfl rfl rfl (by decide) (fun _ => rfl) rfl (fun _ => rfl) (fun u3 H locs h hP hD hS => ?_)
      refine lv_aload_n hx hb dX8_change_34 rfl (lv_at hl 0 rfl) ?_
      refine va_get (D := D) (ci := 5) (v := .ref a_trial) (C := RX8) (T := TX8) (N := 12) hx hb hts iX8 hown hK hP 0 rfl rfl 1 (by decide) fl16 (fun _ h9 => h9) rfl dX8_change_35 ?_
      refine lv_iload_n hx hb dX8_change_38 rfl (lv_at hl 1 rfl) ?_
      refine cw_i (wn := fun u4 => [(a, .inr (5, [.ref a_now, .ref a_trial, .ref a_reader, .ref a_history, .ref a_congruences, .ref a_terms, .ref a_text, .int v_letters, .ref a_seen, .int v_seenSoFar, .ref a_images, .int v_keptImages])), (a_now, .inr (3, [.int v_now_size, .ref a_now_values])), (a_trial, .inr (3, [.int u3.1, .ref a_trial_values])), (a_now_values, .inl (y.1, 20, .inl v_now_values)), (a_trial_values, .inl (y.1, 20, .inl u4))]) (wr := [(a, .inr (5, [.ref a_now, .ref a_trial, .ref a_reader, .ref a_history, .ref a_congruences, .ref a_terms, .ref a_text, .int v_letters, .ref a_seen, .int v_seenSoFar, .ref a_images, .int v_keptImages])), (a_now, .inr (3, [.int v_now_size, .ref a_now_values])), (a_now_values, .inl (y.1, 20, .inl v_now_values))]) (wsc (As := [.ref a_trial, .int x1]) (rest := []) ⟨hx, hb, hml, hown, hts⟩ (c_X3_leastChange l D y a_trial a_trial_values u3.1 u3.2 x1 _ _ rfl _ (sat_bd2 h)) (va_cwS 2 hts gX8_change_X3_leastChange rfl rfl rfl (by decide +kernel) ⟨Nat.le_of_ble_eq_true rfl, Nat.le_of_ble_eq_true rfl⟩) hK hP hD [2, 4] rfl rfl rfl rfl hl.1 rfl (Nat.le_of_ble_eq_true rfl) dX8_change_39 ⟨Nat.zero_le _, Nat.zero_le _⟩) hS hP hD hA [2, 4] [0, 1, 3] [0, 1, 3, 2, 4] rfl rfl rfl (by decide) (fun _ => rfl) rfl (fun _ => rfl) (fun r5 u4 H locs h hP hD hS => ?_)
      have h := sat_some h
      exact W.iret (v := r5) hx hb hr (fun t ht hW => ⟨⟨r5, (u3.1, u4), rfl, h, by rw [ht]; exact hP, va_K.moved hW.alike hK, hD⟩, hS.F ht⟩) hS.2.2 dX8_change_42
    · have h := sat_f c18 h
      refine lv_iconst (v := (-1)) hx hb dX8_change_21 (by decide) ?_
      have h := sat_some h
      exact W.iret (v := (-1)) hx hb hr (fun t ht hW => ⟨⟨(-1), (v_trial_size, v_trial_values), rfl, h, by rw [ht]; exact hP, va_K.moved hW.alike hK, hD⟩, hS.F ht⟩) hS.2.2 dX8_change_22
  · have h := sat_t c4 h
    refine lv_bipush (v := (-2)) hx hb dX8_change_7 (by decide) ?_
    have h := sat_some h
    exact W.iret (v := (-2)) hx hb hr (fun t ht hW => ⟨⟨(-2), (v_trial_size, v_trial_values), rfl, h, by rw [ht]; exact hP, va_K.moved hW.alike hK, hD⟩, hS.F ht⟩) hS.2.2 dX8_change_9

/-! X8_congruence -/
set_option maxHeartbeats 4000000 in
set_option maxRecDepth 100000 in
theorem c_X8_congruence (l : Launch) (D : va_G) (y : ClassId × ClassId × ClassId × ClassId) (a a_congruences a_now a_congruences_partitions a_now_values a_trial a_reader a_history a_terms a_text a_seen a_images : Nat) (v_letters : Int32) (v_seenSoFar : Int32) (v_keptImages : Int32) (v_congruences_found : Int32) (v_congruences_size : Int32) (v_now_size : Int32) (v_congruences_partitions : Nat → Int32) (v_now_values : Nat → Int32) (x1 : Int32) (tS : Nat) (sz : Nat) (A : Nat → Prop) (hAe : va_A [(a, .inr (5, [.ref a_now, .ref a_trial, .ref a_reader, .ref a_history, .ref a_congruences, .ref a_terms, .ref a_text, .int v_letters, .ref a_seen, .int v_seenSoFar, .ref a_images, .int v_keptImages])), (a_congruences, .inr (0, [.int v_congruences_found, .int v_congruences_size, .ref a_congruences_partitions])), (a_now, .inr (3, [.int v_now_size, .ref a_now_values])), (a_congruences_partitions, .inl (y.1, 15, .inl v_congruences_partitions)), (a_now_values, .inl (y.1, 20, .inl v_now_values))] sz = A) (K : Int32 → (Int32 × Int32 × (Nat → Int32)) → Prop) (h : sat (m_X8_congruence v_congruences_found v_congruences_size v_now_size v_congruences_partitions v_now_values x1) (pK K)) : Met l yX8_congruence wsX8_congruence ({ frames := 4, cells := 0, slots := 0, locals := 89 } : Room) (pWS D y ([.ref a, .int x1] : List Value) [(a, .inr (5, [.ref a_now, .ref a_trial, .ref a_reader, .ref a_history, .ref a_congruences, .ref a_terms, .ref a_text, .int v_letters, .ref a_seen, .int v_seenSoFar, .ref a_images, .int v_keptImages])), (a_congruences, .inr (0, [.int v_congruences_found, .int v_congruences_size, .ref a_congruences_partitions])), (a_now, .inr (3, [.int v_now_size, .ref a_now_values])), (a_congruences_partitions, .inl (y.1, 15, .inl v_congruences_partitions)), (a_now_values, .inl (y.1, 20, .inl v_now_values))] sz A tS) (va_Qi K (bW D y A (fun u : (Int32 × Int32 × (Nat → Int32)) => [(a, .inr (5, [.ref a_now, .ref a_trial, .ref a_reader, .ref a_history, .ref a_congruences, .ref a_terms, .ref a_text, .int v_letters, .ref a_seen, .int v_seenSoFar, .ref a_images, .int v_keptImages])), (a_congruences, .inr (0, [.int u.1, .int u.2.1, .ref a_congruences_partitions])), (a_now, .inr (3, [.int v_now_size, .ref a_now_values])), (a_congruences_partitions, .inl (y.1, 15, .inl u.2.2)), (a_now_values, .inl (y.1, 20, .inl v_now_values))])) A) 0 0 A := by
  refine Met.ofW (cc := cX8_congruence) (maxL := 2) (ret := (some .int)) (by decide) rfl ?_
  intro p e s m args below meth c s₁ B hml hv
  obtain ⟨rfl, hsz, hP, hK, hD0, hT⟩ := hv
  have hx := B.exec
  have hb := B.bytes
  have hr := B.returns
  have hts := atoms_spec (ws := wsX8_congruence) B.pre
  have hown : s.vm.findClass RX8 = some m.cls := findClass_of_methodNamed B.named
  have hlocks := B.notSynchronized
  subst hsz
  have hD : va_D A [(a, .inr (5, [.ref a_now, .ref a_trial, .ref a_reader, .ref a_history, .ref a_congruences, .ref a_terms, .ref a_text, .int v_letters, .ref a_seen, .int v_seenSoFar, .ref a_images, .int v_keptImages])), (a_congruences, .inr (0, [.int v_congruences_found, .int v_congruences_size, .ref a_congruences_partitions])), (a_now, .inr (3, [.int v_now_size, .ref a_now_values])), (a_congruences_partitions, .inl (y.1, 15, .inl v_congruences_partitions)), (a_now_values, .inl (y.1, 20, .inl v_now_values))] := hAe ▸ hD0.self
  have hA : ∀ q : Nat, s.heap.size ≤ q → A q := fun q h => hAe ▸ Or.inr h
  have hS : va_S A s.heap s.heap [] := va_S.rf
  have iX8 : ∀ w ∈ wsX80, w ∈ wsX8_congruence := by decide +kernel
  have fl36 := hts (.fieldLink RX8 36 "AlgebraLaws" "congruences" "LAlgebraLaws$Congruences;") (by decide +kernel)
  have fl10 := hts (.fieldLink RX8 10 "AlgebraLaws" "now" "LAlgebraLaws$Tables;") (by decide +kernel)
  have hl := lv_entry ([.ref a, .int x1] : List Value) (n := 2) (Nat.le_of_ble_eq_true rfl)
  rw [lg_entry_eq]
  generalize (lg_sl ([.ref a, .int x1] : List Value) ++ List.replicate (2 - (lg_sl ([.ref a, .int x1] : List Value)).length) Slot.unset).toArray = ls at hl ⊢
  have hl : lv_has ls 2 [(0, .ref a), (1, .int x1)] := hl
  unfold m_X8_congruence at h
  refine lv_iload_n hx hb dX8_congruence_0 rfl (lv_at hl 1 rfl) ?_
  refine lv_if_ge (tgt := 7) hx hb dX8_congruence_1 (by decide) (fun c1 => ?_) (fun c1 => ?_)
  · have h := sat_t c1 h
    refine lv_aload_n hx hb dX8_congruence_7 rfl (lv_at hl 0 rfl) ?_
    refine va_get (D := D) (ci := 5) (v := .ref a_congruences) (C := RX8) (T := TX8) (N := 12) hx hb hts iX8 hown hK hP 0 rfl rfl 4 (by decide) fl36 (fun _ h9 => h9) rfl dX8_congruence_8 ?_
    refine lv_aload_n hx hb dX8_congruence_11 rfl (lv_at hl 0 rfl) ?_
    refine va_get (D := D) (ci := 5) (v := .ref a_now) (C := RX8) (T := TX8) (N := 12) hx hb hts iX8 hown hK hP 0 rfl rfl 0 (by decide) fl10 (fun _ h9 => h9) rfl dX8_congruence_12 ?_
    refine cw_v (wn := fun u1 => [(a, .inr (5, [.ref a_now, .ref a_trial, .ref a_reader, .ref a_history, .ref a_congruences, .ref a_terms, .ref a_text, .int v_letters, .ref a_seen, .int v_seenSoFar, .ref a_images, .int v_keptImages])), (a_congruences, .inr (0, [.int u1.1, .int u1.2.1, .ref a_congruences_partitions])), (a_now, .inr (3, [.int v_now_size, .ref a_now_values])), (a_congruences_partitions, .inl (y.1, 15, .inl u1.2.2)), (a_now_values, .inl (y.1, 20, .inl v_now_values))]) (wr := [(a, .inr (5, [.ref a_now, .ref a_trial, .ref a_reader, .ref a_history, .ref a_congruences, .ref a_terms, .ref a_text, .int v_letters, .ref a_seen, .int v_seenSoFar, .ref a_images, .int v_keptImages]))]) (wvS hT hS hA (As := [.ref a_now]) (rest := []) ⟨hx, hb, hml, hown, hts⟩ (c_X1_seekIn l D y a_congruences a_congruences_partitions a_now a_now_values v_congruences_found v_congruences_size v_congruences_partitions v_now_size v_now_values tS _ _ rfl _ (sat_bind h)) (cwV 1 hts gX8_congruence_X1_seekIn rfl rfl rfl (by decide +kernel) ⟨Nat.le_of_ble_eq_true rfl, Nat.le_of_ble_eq_true rfl⟩) hK hP hD [1, 3, 2, 4] rfl rfl rfl 1 0 rfl rfl rfl rfl hl.1 rfl (Nat.le_of_ble_eq_true rfl) dX8_congruence_15 ⟨Nat.zero_le _, Nat.zero_le _⟩) hS hP hD hA [1, 3, 2, 4] [0] [0, 1, 3, 2, 4] rfl rfl rfl (by decide) (fun _ => rfl) rfl (fun _ => rfl) (fun u1 H locs h hP hD hS => ?_)
    refine lv_aload_n hx hb dX8_congruence_18 rfl (lv_at hl 0 rfl) ?_
    refine va_get (D := D) (ci := 5) (v := .ref a_congruences) (C := RX8) (T := TX8) (N := 12) hx hb hts iX8 hown hK hP 0 rfl rfl 4 (by decide) fl36 (fun _ h9 => h9) rfl dX8_congruence_19 ?_
    refine lv_iload_n hx hb dX8_congruence_22 rfl (lv_at hl 1 rfl) ?_
    refine cr_i (rv (As := [.int x1]) (rest := []) ⟨hx, hb, hml, hown, hts⟩ (c_X1_isThere l D y a_congruences a_congruences_partitions u1.1 u1.2.1 u1.2.2 x1 _ (sat_bind h)) (cwV 1 hts gX8_congruence_X1_isThere rfl rfl rfl (by decide +kernel) ⟨Nat.le_of_ble_eq_true rfl, Nat.le_of_ble_eq_true rfl⟩) hK hP [1, 3] rfl 1 0 rfl rfl rfl rfl hl.1 rfl (Nat.le_of_ble_eq_true rfl) dX8_congruence_23 ⟨Nat.zero_le _, Nat.zero_le _⟩) (fun r2 h => ?_)
    refine lv_if_eq (tgt := 40) hx hb dX8_congruence_26 (by decide) (fun c26 => ?_) (fun c26 => ?_)
    · have h := sat_t c26 h
      refine lv_bipush (v := (-9)) hx hb dX8_congruence_40 (by decide) ?_
      have h := sat_some h
      exact W.iret (v := (-9)) hx hb hr (fun t ht hW => ⟨⟨(-9), (u1.1, u1.2.1, u1.2.2), rfl, h, by rw [ht]; exact hP, va_K.moved hW.alike hK, hD⟩, hS.F ht⟩) hS.2.2 dX8_congruence_42
    · have h := sat_f c26 h
      refine lv_aload_n hx hb dX8_congruence_29 rfl (lv_at hl 0 rfl) ?_
      refine va_get (D := D) (ci := 5) (v := .ref a_congruences) (C := RX8) (T := TX8) (N := 12) hx hb hts iX8 hown hK hP 0 rfl rfl 4 (by decide) fl36 (fun _ h9 => h9) rfl dX8_congruence_30 ?_
      refine lv_iload_n hx hb dX8_congruence_33 rfl (lv_at hl 1 rfl) ?_
      refine cr_i (rv (As := [.int x1]) (rest := []) ⟨hx, hb, hml, hown, hts⟩ (c_X1_nameOf l D y a_congruences a_congruences_partitions u1.1 u1.2.1 u1.2.2 x1 _ (sat_bind h)) (cwV 1 hts gX8_congruence_X1_nameOf rfl rfl rfl (by decide +kernel) ⟨Nat.le_of_ble_eq_true rfl, Nat.le_of_ble_eq_true rfl⟩) hK hP [1, 3] rfl 1 0 rfl rfl rfl rfl hl.1 rfl (Nat.le_of_ble_eq_true rfl) dX8_congruence_34 ⟨Nat.zero_le _, Nat.zero_le _⟩) (fun r3 h => ?_)
      refine lv_goto (tgt := 42) hx hb dX8_congruence_37 (by decide) ?_
      have h := sat_some h
      exact W.iret (v := r3) hx hb hr (fun t ht hW => ⟨⟨r3, (u1.1, u1.2.1, u1.2.2), rfl, h, by rw [ht]; exact hP, va_K.moved hW.alike hK, hD⟩, hS.F ht⟩) hS.2.2 dX8_congruence_42
  · have h := sat_f c1 h
    refine lv_bipush (v := (-2)) hx hb dX8_congruence_4 (by decide) ?_
    have h := sat_some h
    exact W.iret (v := (-2)) hx hb hr (fun t ht hW => ⟨⟨(-2), (v_congruences_found, v_congruences_size, v_congruences_partitions), rfl, h, by rw [ht]; exact hP, va_K.moved hW.alike hK, hD⟩, hS.F ht⟩) hS.2.2 dX8_congruence_6

/-! X8_principal -/
set_option maxHeartbeats 4000000 in
set_option maxRecDepth 100000 in
theorem c_X8_principal (l : Launch) (D : va_G) (y : ClassId × ClassId × ClassId × ClassId) (a a_congruences a_now a_congruences_partitions a_now_values a_trial a_reader a_history a_terms a_text a_seen a_images : Nat) (v_letters : Int32) (v_seenSoFar : Int32) (v_keptImages : Int32) (v_congruences_found : Int32) (v_congruences_size : Int32) (v_now_size : Int32) (v_congruences_partitions : Nat → Int32) (v_now_values : Nat → Int32) (x1 : Int32) (x2 : Int32) (tS : Nat) (sz : Nat) (A : Nat → Prop) (hAe : va_A [(a, .inr (5, [.ref a_now, .ref a_trial, .ref a_reader, .ref a_history, .ref a_congruences, .ref a_terms, .ref a_text, .int v_letters, .ref a_seen, .int v_seenSoFar, .ref a_images, .int v_keptImages])), (a_congruences, .inr (0, [.int v_congruences_found, .int v_congruences_size, .ref a_congruences_partitions])), (a_now, .inr (3, [.int v_now_size, .ref a_now_values])), (a_congruences_partitions, .inl (y.1, 15, .inl v_congruences_partitions)), (a_now_values, .inl (y.1, 20, .inl v_now_values))] sz = A) (K : Int32 → (Int32 × Int32 × (Nat → Int32)) → Prop) (h : sat (m_X8_principal v_congruences_found v_congruences_size v_now_size v_congruences_partitions v_now_values x1 x2) (pK K)) : Met l yX8_principal wsX8_principal ({ frames := 4, cells := 0, slots := 0, locals := 89 } : Room) (pWS D y ([.ref a, .int x1, .int x2] : List Value) [(a, .inr (5, [.ref a_now, .ref a_trial, .ref a_reader, .ref a_history, .ref a_congruences, .ref a_terms, .ref a_text, .int v_letters, .ref a_seen, .int v_seenSoFar, .ref a_images, .int v_keptImages])), (a_congruences, .inr (0, [.int v_congruences_found, .int v_congruences_size, .ref a_congruences_partitions])), (a_now, .inr (3, [.int v_now_size, .ref a_now_values])), (a_congruences_partitions, .inl (y.1, 15, .inl v_congruences_partitions)), (a_now_values, .inl (y.1, 20, .inl v_now_values))] sz A tS) (va_Qi K (bW D y A (fun u : (Int32 × Int32 × (Nat → Int32)) => [(a, .inr (5, [.ref a_now, .ref a_trial, .ref a_reader, .ref a_history, .ref a_congruences, .ref a_terms, .ref a_text, .int v_letters, .ref a_seen, .int v_seenSoFar, .ref a_images, .int v_keptImages])), (a_congruences, .inr (0, [.int u.1, .int u.2.1, .ref a_congruences_partitions])), (a_now, .inr (3, [.int v_now_size, .ref a_now_values])), (a_congruences_partitions, .inl (y.1, 15, .inl u.2.2)), (a_now_values, .inl (y.1, 20, .inl v_now_values))])) A) 0 0 A := by
  refine Met.ofW (cc := cX8_principal) (maxL := 3) (ret := (some .int)) (by decide) rfl ?_
  intro p e s m args below meth c s₁ B hml hv
  obtain ⟨rfl, hsz, hP, hK, hD0, hT⟩ := hv
  have hx := B.exec
  have hb := B.bytes
  have hr := B.returns
  have hts := atoms_spec (ws := wsX8_principal) B.pre
  have hown : s.vm.findClass RX8 = some m.cls := findClass_of_methodNamed B.named
  have hlocks := B.notSynchronized
  subst hsz
  have hD : va_D A [(a, .inr (5, [.ref a_now, .ref a_trial, .ref a_reader, .ref a_history, .ref a_congruences, .ref a_terms, .ref a_text, .int v_letters, .ref a_seen, .int v_seenSoFar, .ref a_images, .int v_keptImages])), (a_congruences, .inr (0, [.int v_congruences_found, .int v_congruences_size, .ref a_congruences_partitions])), (a_now, .inr (3, [.int v_now_size, .ref a_now_values])), (a_congruences_partitions, .inl (y.1, 15, .inl v_congruences_partitions)), (a_now_values, .inl (y.1, 20, .inl v_now_values))] := hAe ▸ hD0.self
  have hA : ∀ q : Nat, s.heap.size ≤ q → A q := fun q h => hAe ▸ Or.inr h
  have hS : va_S A s.heap s.heap [] := va_S.rf
  have iX8 : ∀ w ∈ wsX80, w ∈ wsX8_principal := by decide +kernel
  have fl10 := hts (.fieldLink RX8 10 "AlgebraLaws" "now" "LAlgebraLaws$Tables;") (by decide +kernel)
  have fl36 := hts (.fieldLink RX8 36 "AlgebraLaws" "congruences" "LAlgebraLaws$Congruences;") (by decide +kernel)
  have hl := lv_entry ([.ref a, .int x1, .int x2] : List Value) (n := 3) (Nat.le_of_ble_eq_true rfl)
  rw [lg_entry_eq]
  generalize (lg_sl ([.ref a, .int x1, .int x2] : List Value) ++ List.replicate (3 - (lg_sl ([.ref a, .int x1, .int x2] : List Value)).length) Slot.unset).toArray = ls at hl ⊢
  have hl : lv_has ls 3 [(0, .ref a), (1, .int x1), (2, .int x2)] := hl
  unfold m_X8_principal at h
  refine lv_aload_n hx hb dX8_principal_0 rfl (lv_at hl 0 rfl) ?_
  refine va_get (D := D) (ci := 5) (v := .ref a_now) (C := RX8) (T := TX8) (N := 12) hx hb hts iX8 hown hK hP 0 rfl rfl 0 (by decide) fl10 (fun _ h9 => h9) rfl dX8_principal_1 ?_
  refine lv_iload_n hx hb dX8_principal_4 rfl (lv_at hl 1 rfl) ?_
  refine cr_i (rv (As := [.int x1]) (rest := []) ⟨hx, hb, hml, hown, hts⟩ (c_X6_has l D y a_now a_now_values v_now_size x1 _ (sat_bind h)) (cwV 1 hts gX8_principal_X6_has rfl rfl rfl (by decide +kernel) ⟨Nat.le_of_ble_eq_true rfl, Nat.le_of_ble_eq_true rfl⟩) hK hP [2] rfl 2 3 rfl rfl rfl rfl hl.1 rfl (Nat.le_of_ble_eq_true rfl) dX8_principal_5 ⟨Nat.zero_le _, Nat.zero_le _⟩) (fun r1 h => ?_)
  refine lv_if_eq (tgt := 22) hx hb dX8_principal_8 (by decide) (fun c8 => ?_) (fun c8 => ?_)
  · have h := sat_t c8 h
    refine lv_bipush (v := (-2)) hx hb dX8_principal_22 (by decide) ?_
    have h := sat_some h
    exact W.iret (v := (-2)) hx hb hr (fun t ht hW => ⟨⟨(-2), (v_congruences_found, v_congruences_size, v_congruences_partitions), rfl, h, by rw [ht]; exact hP, va_K.moved hW.alike hK, hD⟩, hS.F ht⟩) hS.2.2 dX8_principal_24
  · have h := sat_f c8 h
    refine lv_aload_n hx hb dX8_principal_11 rfl (lv_at hl 0 rfl) ?_
    refine va_get (D := D) (ci := 5) (v := .ref a_now) (C := RX8) (T := TX8) (N := 12) hx hb hts iX8 hown hK hP 0 rfl rfl 0 (by decide) fl10 (fun _ h9 => h9) rfl dX8_principal_12 ?_
    refine lv_iload_n hx hb dX8_principal_15 rfl (lv_at hl 2 rfl) ?_
    refine cr_i (rv (As := [.int x2]) (rest := []) ⟨hx, hb, hml, hown, hts⟩ (c_X6_has l D y a_now a_now_values v_now_size x2 _ (sat_bind h)) (cwV 1 hts gX8_principal_X6_has rfl rfl rfl (by decide +kernel) ⟨Nat.le_of_ble_eq_true rfl, Nat.le_of_ble_eq_true rfl⟩) hK hP [2] rfl 2 3 rfl rfl rfl rfl hl.1 rfl (Nat.le_of_ble_eq_true rfl) dX8_principal_16 ⟨Nat.zero_le _, Nat.zero_le _⟩) (fun r2 h => ?_)
    refine lv_if_ne (tgt := 25) hx hb dX8_principal_19 (by decide) (fun c19 => ?_) (fun c19 => ?_)
    · have h := sat_f c19 h
      refine lv_aload_n hx hb dX8_principal_25 rfl (lv_at hl 0 rfl) ?_
      refine va_get (D := D) (ci := 5) (v := .ref a_congruences) (C := RX8) (T := TX8) (N := 12) hx hb hts iX8 hown hK hP 0 rfl rfl 4 (by decide) fl36 (fun _ h9 => h9) rfl dX8_principal_26 ?_
      refine lv_aload_n hx hb dX8_principal_29 rfl (lv_at hl 0 rfl) ?_
      refine va_get (D := D) (ci := 5) (v := .ref a_now) (C := RX8) (T := TX8) (N := 12) hx hb hts iX8 hown hK hP 0 rfl rfl 0 (by decide) fl10 (fun _ h9 => h9) rfl dX8_principal_30 ?_
      refine cw_v (wn := fun u3 => [(a, .inr (5, [.ref a_now, .ref a_trial, .ref a_reader, .ref a_history, .ref a_congruences, .ref a_terms, .ref a_text, .int v_letters, .ref a_seen, .int v_seenSoFar, .ref a_images, .int v_keptImages])), (a_congruences, .inr (0, [.int u3.1, .int u3.2.1, .ref a_congruences_partitions])), (a_now, .inr (3, [.int v_now_size, .ref a_now_values])), (a_congruences_partitions, .inl (y.1, 15, .inl u3.2.2)), (a_now_values, .inl (y.1, 20, .inl v_now_values))]) (wr := [(a, .inr (5, [.ref a_now, .ref a_trial, .ref a_reader, .ref a_history, .ref a_congruences, .ref a_terms, .ref a_text, .int v_letters, .ref a_seen, .int v_seenSoFar, .ref a_images, .int v_keptImages]))]) (wvS hT hS hA (As := [.ref a_now]) (rest := []) ⟨hx, hb, hml, hown, hts⟩ (c_X1_seekIn l D y a_congruences a_congruences_partitions a_now a_now_values v_congruences_found v_congruences_size v_congruences_partitions v_now_size v_now_values tS _ _ rfl _ (sat_bind h)) (cwV 1 hts gX8_principal_X1_seekIn rfl rfl rfl (by decide +kernel) ⟨Nat.le_of_ble_eq_true rfl, Nat.le_of_ble_eq_true rfl⟩) hK hP hD [1, 3, 2, 4] rfl rfl rfl 1 0 rfl rfl rfl rfl hl.1 rfl (Nat.le_of_ble_eq_true rfl) dX8_principal_33 ⟨Nat.zero_le _, Nat.zero_le _⟩) hS hP hD hA [1, 3, 2, 4] [0] [0, 1, 3, 2, 4] rfl rfl rfl (by decide) (fun _ => rfl) rfl (fun _ => rfl) (fun u3 H locs h hP hD hS => ?_)
      refine lv_aload_n hx hb dX8_principal_36 rfl (lv_at hl 0 rfl) ?_
      refine va_get (D := D) (ci := 5) (v := .ref a_congruences) (C := RX8) (T := TX8) (N := 12) hx hb hts iX8 hown hK hP 0 rfl rfl 4 (by decide) fl36 (fun _ h9 => h9) rfl dX8_principal_37 ?_
      refine lv_iload_n hx hb dX8_principal_40 rfl (lv_at hl 1 rfl) ?_
      refine lv_iload_n hx hb dX8_principal_41 rfl (lv_at hl 2 rfl) ?_
      refine cr_i (rv (As := [.int x1, .int x2]) (rest := []) ⟨hx, hb, hml, hown, hts⟩ (c_X1_finestWith l D y a_congruences a_congruences_partitions u3.1 u3.2.1 u3.2.2 x1 x2 _ (sat_bind h)) (cwV 2 hts gX8_principal_X1_finestWith rfl rfl rfl (by decide +kernel) ⟨Nat.le_of_ble_eq_true rfl, Nat.le_of_ble_eq_true rfl⟩) hK hP [1, 3] rfl 1 0 rfl rfl rfl rfl hl.1 rfl (Nat.le_of_ble_eq_true rfl) dX8_principal_42 ⟨Nat.zero_le _, Nat.zero_le _⟩) (fun r4 h => ?_)
      have h := sat_some h
      exact W.iret (v := r4) hx hb hr (fun t ht hW => ⟨⟨r4, (u3.1, u3.2.1, u3.2.2), rfl, h, by rw [ht]; exact hP, va_K.moved hW.alike hK, hD⟩, hS.F ht⟩) hS.2.2 dX8_principal_45
    · have h := sat_t c19 h
      refine lv_bipush (v := (-2)) hx hb dX8_principal_22 (by decide) ?_
      have h := sat_some h
      exact W.iret (v := (-2)) hx hb hr (fun t ht hW => ⟨⟨(-2), (v_congruences_found, v_congruences_size, v_congruences_partitions), rfl, h, by rw [ht]; exact hP, va_K.moved hW.alike hK, hD⟩, hS.F ht⟩) hS.2.2 dX8_principal_24

/-! X8_oneIf -/
set_option maxHeartbeats 4000000 in
set_option maxRecDepth 100000 in
theorem c_X8_oneIf (l : Launch) (D : va_G) (y : ClassId × ClassId × ClassId × ClassId) (x0 : Int32) (K : Int32 → Prop) (h : sat (m_X8_oneIf x0) K) : Met l yX8_oneIf wsX8_oneIf ({ frames := 0, cells := 0, slots := 0, locals := 0 } : Room) (pR D y ([.int x0] : List Value) []) (qSi K) 0 0 (fun _ => False) := by
  refine Met.ofW (cc := cX8_oneIf) (maxL := 1) (ret := (some .int)) (by decide) rfl ?_
  intro p e s m args below meth c s₁ B hml hv
  obtain ⟨rfl, hP, hK⟩ := hv
  have hx := B.exec
  have hb := B.bytes
  have hr := B.returns
  have hts := atoms_spec (ws := wsX8_oneIf) B.pre
  have hown : s.vm.findClass RX8 = some m.cls := findClass_of_methodNamed B.named
  have hlocks := B.notSynchronized
  have hl := lv_entry ([.int x0] : List Value) (n := 1) (Nat.le_of_ble_eq_true rfl)
  rw [lg_entry_eq]
  generalize (lg_sl ([.int x0] : List Value) ++ List.replicate (1 - (lg_sl ([.int x0] : List Value)).length) Slot.unset).toArray = ls at hl ⊢
  have hl : lv_has ls 1 [(0, .int x0)] := hl
  unfold m_X8_oneIf at h
  refine lv_iload_n hx hb dX8_oneIf_0 rfl (lv_at hl 0 rfl) ?_
  refine lv_if_eq (tgt := 8) hx hb dX8_oneIf_1 (by decide) (fun c1 => ?_) (fun c1 => ?_)
  · have h := sat_t c1 h
    refine lv_iconst (v := 0) hx hb dX8_oneIf_8 (by decide) ?_
    have h := sat_some h
    exact W.iret (v := 0) hx hb hr (fun t ht _ => ⟨0, rfl, h, ht⟩) (fun _ hq => by cases hq) dX8_oneIf_9
  · have h := sat_f c1 h
    refine lv_iconst (v := 1) hx hb dX8_oneIf_4 (by decide) ?_
    refine lv_goto (tgt := 9) hx hb dX8_oneIf_5 (by decide) ?_
    have h := sat_some h
    exact W.iret (v := 1) hx hb hr (fun t ht _ => ⟨1, rfl, h, ht⟩) (fun _ hq => by cases hq) dX8_oneIf_9

/-! X8_pair -/
set_option maxHeartbeats 4000000 in
set_option maxRecDepth 100000 in
theorem c_X8_pair (l : Launch) (D : va_G) (y : ClassId × ClassId × ClassId × ClassId) (a a_congruences a_now a_congruences_partitions a_now_values a_trial a_reader a_history a_terms a_text a_seen a_images : Nat) (v_letters : Int32) (v_seenSoFar : Int32) (v_keptImages : Int32) (v_congruences_found : Int32) (v_congruences_size : Int32) (v_now_size : Int32) (v_congruences_partitions : Nat → Int32) (v_now_values : Nat → Int32) (x1 : Int32) (x2 : Int32) (x3 : Int32) (tS : Nat) (sz : Nat) (A : Nat → Prop) (hAe : va_A [(a, .inr (5, [.ref a_now, .ref a_trial, .ref a_reader, .ref a_history, .ref a_congruences, .ref a_terms, .ref a_text, .int v_letters, .ref a_seen, .int v_seenSoFar, .ref a_images, .int v_keptImages])), (a_congruences, .inr (0, [.int v_congruences_found, .int v_congruences_size, .ref a_congruences_partitions])), (a_now, .inr (3, [.int v_now_size, .ref a_now_values])), (a_congruences_partitions, .inl (y.1, 15, .inl v_congruences_partitions)), (a_now_values, .inl (y.1, 20, .inl v_now_values))] sz = A) (K : Int32 → (Int32 × Int32 × (Nat → Int32)) → Prop) (h : sat (m_X8_pair v_congruences_found v_congruences_size v_now_size v_congruences_partitions v_now_values x1 x2 x3) (pK K)) : Met l yX8_pair wsX8_pair ({ frames := 4, cells := 0, slots := 0, locals := 92 } : Room) (pWS D y ([.ref a, .int x1, .int x2, .int x3] : List Value) [(a, .inr (5, [.ref a_now, .ref a_trial, .ref a_reader, .ref a_history, .ref a_congruences, .ref a_terms, .ref a_text, .int v_letters, .ref a_seen, .int v_seenSoFar, .ref a_images, .int v_keptImages])), (a_congruences, .inr (0, [.int v_congruences_found, .int v_congruences_size, .ref a_congruences_partitions])), (a_now, .inr (3, [.int v_now_size, .ref a_now_values])), (a_congruences_partitions, .inl (y.1, 15, .inl v_congruences_partitions)), (a_now_values, .inl (y.1, 20, .inl v_now_values))] sz A tS) (va_Qi K (bW D y A (fun u : (Int32 × Int32 × (Nat → Int32)) => [(a, .inr (5, [.ref a_now, .ref a_trial, .ref a_reader, .ref a_history, .ref a_congruences, .ref a_terms, .ref a_text, .int v_letters, .ref a_seen, .int v_seenSoFar, .ref a_images, .int v_keptImages])), (a_congruences, .inr (0, [.int u.1, .int u.2.1, .ref a_congruences_partitions])), (a_now, .inr (3, [.int v_now_size, .ref a_now_values])), (a_congruences_partitions, .inl (y.1, 15, .inl u.2.2)), (a_now_values, .inl (y.1, 20, .inl v_now_values))])) A) 0 0 A := by
  refine Met.ofW (cc := cX8_pair) (maxL := 4) (ret := (some .int)) (by decide) rfl ?_
  intro p e s m args below meth c s₁ B hml hv
  obtain ⟨rfl, hsz, hP, hK, hD0, hT⟩ := hv
  have hx := B.exec
  have hb := B.bytes
  have hr := B.returns
  have hts := atoms_spec (ws := wsX8_pair) B.pre
  have hown : s.vm.findClass RX8 = some m.cls := findClass_of_methodNamed B.named
  have hlocks := B.notSynchronized
  subst hsz
  have hD : va_D A [(a, .inr (5, [.ref a_now, .ref a_trial, .ref a_reader, .ref a_history, .ref a_congruences, .ref a_terms, .ref a_text, .int v_letters, .ref a_seen, .int v_seenSoFar, .ref a_images, .int v_keptImages])), (a_congruences, .inr (0, [.int v_congruences_found, .int v_congruences_size, .ref a_congruences_partitions])), (a_now, .inr (3, [.int v_now_size, .ref a_now_values])), (a_congruences_partitions, .inl (y.1, 15, .inl v_congruences_partitions)), (a_now_values, .inl (y.1, 20, .inl v_now_values))] := hAe ▸ hD0.self
  have hA : ∀ q : Nat, s.heap.size ≤ q → A q := fun q h => hAe ▸ Or.inr h
  have hS : va_S A s.heap s.heap [] := va_S.rf
  have iX8 : ∀ w ∈ wsX80, w ∈ wsX8_pair := by decide +kernel
  have fl36 := hts (.fieldLink RX8 36 "AlgebraLaws" "congruences" "LAlgebraLaws$Congruences;") (by decide +kernel)
  have fl10 := hts (.fieldLink RX8 10 "AlgebraLaws" "now" "LAlgebraLaws$Tables;") (by decide +kernel)
  have hl := lv_entry ([.ref a, .int x1, .int x2, .int x3] : List Value) (n := 4) (Nat.le_of_ble_eq_true rfl)
  rw [lg_entry_eq]
  generalize (lg_sl ([.ref a, .int x1, .int x2, .int x3] : List Value) ++ List.replicate (4 - (lg_sl ([.ref a, .int x1, .int x2, .int x3] : List Value)).length) Slot.unset).toArray = ls at hl ⊢
  have hl : lv_has ls 4 [(0, .ref a), (1, .int x1), (2, .int x2), (3, .int x3)] := hl
  unfold m_X8_pair at h
  refine lv_iload_n hx hb dX8_pair_0 rfl (lv_at hl 3 rfl) ?_
  refine lv_if_lt (tgt := 9) hx hb dX8_pair_1 (by decide) (fun c1 => ?_) (fun c1 => ?_)
  · have h := sat_t c1 h
    refine lv_bipush (v := (-2)) hx hb dX8_pair_9 (by decide) ?_
    have h := sat_some h
    exact W.iret (v := (-2)) hx hb hr (fun t ht hW => ⟨⟨(-2), (v_congruences_found, v_congruences_size, v_congruences_partitions), rfl, h, by rw [ht]; exact hP, va_K.moved hW.alike hK, hD⟩, hS.F ht⟩) hS.2.2 dX8_pair_11
  · have h := sat_f c1 h
    refine lv_iload_n hx hb dX8_pair_4 rfl (lv_at hl 3 rfl) ?_
    refine lv_iconst (v := 3) hx hb dX8_pair_5 (by decide) ?_
    refine lv_icmp_le (tgt := 12) hx hb dX8_pair_6 (by decide) (fun c6 => ?_) (fun c6 => ?_)
    · have h := sat_t c6 h
      refine lv_aload_n hx hb dX8_pair_12 rfl (lv_at hl 0 rfl) ?_
      refine va_get (D := D) (ci := 5) (v := .ref a_congruences) (C := RX8) (T := TX8) (N := 12) hx hb hts iX8 hown hK hP 0 rfl rfl 4 (by decide) fl36 (fun _ h9 => h9) rfl dX8_pair_13 ?_
      refine lv_aload_n hx hb dX8_pair_16 rfl (lv_at hl 0 rfl) ?_
      refine va_get (D := D) (ci := 5) (v := .ref a_now) (C := RX8) (T := TX8) (N := 12) hx hb hts iX8 hown hK hP 0 rfl rfl 0 (by decide) fl10 (fun _ h9 => h9) rfl dX8_pair_17 ?_
      refine cw_v (wn := fun u1 => [(a, .inr (5, [.ref a_now, .ref a_trial, .ref a_reader, .ref a_history, .ref a_congruences, .ref a_terms, .ref a_text, .int v_letters, .ref a_seen, .int v_seenSoFar, .ref a_images, .int v_keptImages])), (a_congruences, .inr (0, [.int u1.1, .int u1.2.1, .ref a_congruences_partitions])), (a_now, .inr (3, [.int v_now_size, .ref a_now_values])), (a_congruences_partitions, .inl (y.1, 15, .inl u1.2.2)), (a_now_values, .inl (y.1, 20, .inl v_now_values))]) (wr := [(a, .inr (5, [.ref a_now, .ref a_trial, .ref a_reader, .ref a_history, .ref a_congruences, .ref a_terms, .ref a_text, .int v_letters, .ref a_seen, .int v_seenSoFar, .ref a_images, .int v_keptImages]))]) (wvS hT hS hA (As := [.ref a_now]) (rest := []) ⟨hx, hb, hml, hown, hts⟩ (c_X1_seekIn l D y a_congruences a_congruences_partitions a_now a_now_values v_congruences_found v_congruences_size v_congruences_partitions v_now_size v_now_values tS _ _ rfl _ (sat_bind h)) (cwV 1 hts gX8_pair_X1_seekIn rfl rfl rfl (by decide +kernel) ⟨Nat.le_of_ble_eq_true rfl, Nat.le_of_ble_eq_true rfl⟩) hK hP hD [1, 3, 2, 4] rfl rfl rfl 1 0 rfl rfl rfl rfl hl.1 rfl (Nat.le_of_ble_eq_true rfl) dX8_pair_20 ⟨Nat.zero_le _, Nat.zero_le _⟩) hS hP hD hA [1, 3, 2, 4] [0] [0, 1, 3, 2, 4] rfl rfl rfl (by decide) (fun _ => rfl) rfl (fun _ => rfl) (fun u1 H locs h hP hD hS => ?_)
      refine lv_aload_n hx hb dX8_pair_23 rfl (lv_at hl 0 rfl) ?_
      refine va_get (D := D) (ci := 5) (v := .ref a_congruences) (C := RX8) (T := TX8) (N := 12) hx hb hts iX8 hown hK hP 0 rfl rfl 4 (by decide) fl36 (fun _ h9 => h9) rfl dX8_pair_24 ?_
      refine lv_iload_n hx hb dX8_pair_27 rfl (lv_at hl 1 rfl) ?_
      refine cr_i (rv (As := [.int x1]) (rest := []) ⟨hx, hb, hml, hown, hts⟩ (c_X1_isThere l D y a_congruences a_congruences_partitions u1.1 u1.2.1 u1.2.2 x1 _ (sat_bind h)) (cwV 1 hts gX8_pair_X1_isThere rfl rfl rfl (by decide +kernel) ⟨Nat.le_of_ble_eq_true rfl, Nat.le_of_ble_eq_true rfl⟩) hK hP [1, 3] rfl 1 0 rfl rfl rfl rfl hl.1 rfl (Nat.le_of_ble_eq_true rfl) dX8_pair_28 ⟨Nat.zero_le _, Nat.zero_le _⟩) (fun r2 h => ?_)
      refine lv_if_eq (tgt := 45) hx hb dX8_pair_31 (by decide) (fun c31 => ?_) (fun c31 => ?_)
      · have h := sat_t c31 h
        refine lv_bipush (v := (-2)) hx hb dX8_pair_45 (by decide) ?_
        have h := sat_some h
        exact W.iret (v := (-2)) hx hb hr (fun t ht hW => ⟨⟨(-2), (u1.1, u1.2.1, u1.2.2), rfl, h, by rw [ht]; exact hP, va_K.moved hW.alike hK, hD⟩, hS.F ht⟩) hS.2.2 dX8_pair_47
      · have h := sat_f c31 h
        refine lv_aload_n hx hb dX8_pair_34 rfl (lv_at hl 0 rfl) ?_
        refine va_get (D := D) (ci := 5) (v := .ref a_congruences) (C := RX8) (T := TX8) (N := 12) hx hb hts iX8 hown hK hP 0 rfl rfl 4 (by decide) fl36 (fun _ h9 => h9) rfl dX8_pair_35 ?_
        refine lv_iload_n hx hb dX8_pair_38 rfl (lv_at hl 2 rfl) ?_
        refine cr_i (rv (As := [.int x2]) (rest := []) ⟨hx, hb, hml, hown, hts⟩ (c_X1_isThere l D y a_congruences a_congruences_partitions u1.1 u1.2.1 u1.2.2 x2 _ (sat_bind h)) (cwV 1 hts gX8_pair_X1_isThere rfl rfl rfl (by decide +kernel) ⟨Nat.le_of_ble_eq_true rfl, Nat.le_of_ble_eq_true rfl⟩) hK hP [1, 3] rfl 1 0 rfl rfl rfl rfl hl.1 rfl (Nat.le_of_ble_eq_true rfl) dX8_pair_39 ⟨Nat.zero_le _, Nat.zero_le _⟩) (fun r3 h => ?_)
        refine lv_if_ne (tgt := 48) hx hb dX8_pair_42 (by decide) (fun c42 => ?_) (fun c42 => ?_)
        · have h := sat_f c42 h
          refine lv_iload_n hx hb dX8_pair_48 rfl (lv_at hl 3 rfl) ?_
          by_cases c49_0 : x3 = 0
          · have h := sat_t c49_0 h
            refine lv_tableIn (tgt := 76) (off := 27) hx hb dX8_pair_49 (by rw [c49_0]; decide) (by rw [c49_0]; decide) (by rw [c49_0]; rfl) (by decide) ?_
            refine lv_aload_n hx hb dX8_pair_76 rfl (lv_at hl 0 rfl) ?_
            refine va_get (D := D) (ci := 5) (v := .ref a_congruences) (C := RX8) (T := TX8) (N := 12) hx hb hts iX8 hown hK hP 0 rfl rfl 4 (by decide) fl36 (fun _ h9 => h9) rfl dX8_pair_77 ?_
            refine lv_iload_n hx hb dX8_pair_80 rfl (lv_at hl 1 rfl) ?_
            refine lv_iload_n hx hb dX8_pair_81 rfl (lv_at hl 2 rfl) ?_
            refine cr_i (rv (As := [.int x1, .int x2]) (rest := []) ⟨hx, hb, hml, hown, hts⟩ (c_X1_join l D y a_congruences a_congruences_partitions u1.1 u1.2.1 u1.2.2 x1 x2 _ (sat_bind h)) (cwV 2 hts gX8_pair_X1_join rfl rfl rfl (by decide +kernel) ⟨Nat.le_of_ble_eq_true rfl, Nat.le_of_ble_eq_true rfl⟩) hK hP [1, 3] rfl 1 0 rfl rfl rfl rfl hl.1 rfl (Nat.le_of_ble_eq_true rfl) dX8_pair_82 ⟨Nat.zero_le _, Nat.zero_le _⟩) (fun r4 h => ?_)
            have h := sat_some h
            exact W.iret (v := r4) hx hb hr (fun t ht hW => ⟨⟨r4, (u1.1, u1.2.1, u1.2.2), rfl, h, by rw [ht]; exact hP, va_K.moved hW.alike hK, hD⟩, hS.F ht⟩) hS.2.2 dX8_pair_85
          have h := sat_f c49_0 h
          by_cases c49_1 : x3 = 1
          · have h := sat_t c49_1 h
            refine lv_tableIn (tgt := 86) (off := 37) hx hb dX8_pair_49 (by rw [c49_1]; decide) (by rw [c49_1]; decide) (by rw [c49_1]; rfl) (by decide) ?_
            refine lv_aload_n hx hb dX8_pair_86 rfl (lv_at hl 0 rfl) ?_
            refine va_get (D := D) (ci := 5) (v := .ref a_congruences) (C := RX8) (T := TX8) (N := 12) hx hb hts iX8 hown hK hP 0 rfl rfl 4 (by decide) fl36 (fun _ h9 => h9) rfl dX8_pair_87 ?_
            refine lv_iload_n hx hb dX8_pair_90 rfl (lv_at hl 1 rfl) ?_
            refine lv_iload_n hx hb dX8_pair_91 rfl (lv_at hl 2 rfl) ?_
            refine cr_i (rv (As := [.int x1, .int x2]) (rest := []) ⟨hx, hb, hml, hown, hts⟩ (c_X1_meet l D y a_congruences a_congruences_partitions u1.1 u1.2.1 u1.2.2 x1 x2 _ (sat_bind h)) (cwV 2 hts gX8_pair_X1_meet rfl rfl rfl (by decide +kernel) ⟨Nat.le_of_ble_eq_true rfl, Nat.le_of_ble_eq_true rfl⟩) hK hP [1, 3] rfl 1 0 rfl rfl rfl rfl hl.1 rfl (Nat.le_of_ble_eq_true rfl) dX8_pair_92 ⟨Nat.zero_le _, Nat.zero_le _⟩) (fun r5 h => ?_)
            have h := sat_some h
            exact W.iret (v := r5) hx hb hr (fun t ht hW => ⟨⟨r5, (u1.1, u1.2.1, u1.2.2), rfl, h, by rw [ht]; exact hP, va_K.moved hW.alike hK, hD⟩, hS.F ht⟩) hS.2.2 dX8_pair_95
          have h := sat_f c49_1 h
          by_cases c49_2 : x3 = 2
          · have h := sat_t c49_2 h
            refine lv_tableIn (tgt := 96) (off := 47) hx hb dX8_pair_49 (by rw [c49_2]; decide) (by rw [c49_2]; decide) (by rw [c49_2]; rfl) (by decide) ?_
            refine lv_aload_n hx hb dX8_pair_96 rfl (lv_at hl 0 rfl) ?_
            refine va_get (D := D) (ci := 5) (v := .ref a_congruences) (C := RX8) (T := TX8) (N := 12) hx hb hts iX8 hown hK hP 0 rfl rfl 4 (by decide) fl36 (fun _ h9 => h9) rfl dX8_pair_97 ?_
            refine lv_iload_n hx hb dX8_pair_100 rfl (lv_at hl 1 rfl) ?_
            refine lv_iload_n hx hb dX8_pair_101 rfl (lv_at hl 2 rfl) ?_
            refine cr_i (rv (As := [.int x1, .int x2]) (rest := []) ⟨hx, hb, hml, hown, hts⟩ (c_X1_permute l D y a_congruences a_congruences_partitions u1.1 u1.2.1 u1.2.2 x1 x2 _ (sat_bind h)) (cwV 2 hts gX8_pair_X1_permute rfl rfl rfl (by decide +kernel) ⟨Nat.le_of_ble_eq_true rfl, Nat.le_of_ble_eq_true rfl⟩) hK hP [1, 3] rfl 1 0 rfl rfl rfl rfl hl.1 rfl (Nat.le_of_ble_eq_true rfl) dX8_pair_102 ⟨Nat.zero_le _, Nat.zero_le _⟩) (fun r6 h => ?_)
            refine cr_i (rs (As := [.int r6]) (rest := []) ⟨hx, hb, hml, hown, hts⟩ (c_X8_oneIf l D y r6 _ (sat_bind h)) (va_cwS 1 hts gX8_pair_X8_oneIf rfl rfl rfl (by decide +kernel) ⟨Nat.le_of_ble_eq_true rfl, Nat.le_of_ble_eq_true rfl⟩) hK hP [] rfl rfl hl.1 rfl (Nat.le_of_ble_eq_true rfl) dX8_pair_105 ⟨Nat.zero_le _, Nat.zero_le _⟩) (fun r7 h => ?_)
            have h := sat_some h
            exact W.iret (v := r7) hx hb hr (fun t ht hW => ⟨⟨r7, (u1.1, u1.2.1, u1.2.2), rfl, h, by rw [ht]; exact hP, va_K.moved hW.alike hK, hD⟩, hS.F ht⟩) hS.2.2 dX8_pair_108
          have h := sat_f c49_2 h
          have e49_0 : (x3).toInt ≠ 0 := fun q => c49_0 (Int32.toInt_inj.mp (q.trans rfl))
          have e49_1 : (x3).toInt ≠ 1 := fun q => c49_1 (Int32.toInt_inj.mp (q.trans rfl))
          have e49_2 : (x3).toInt ≠ 2 := fun q => c49_2 (Int32.toInt_inj.mp (q.trans rfl))
          refine lv_tableOut (tgt := 109) hx hb dX8_pair_49 (by omega) (by decide) ?_
          refine lv_aload_n hx hb dX8_pair_109 rfl (lv_at hl 0 rfl) ?_
          refine va_get (D := D) (ci := 5) (v := .ref a_congruences) (C := RX8) (T := TX8) (N := 12) hx hb hts iX8 hown hK hP 0 rfl rfl 4 (by decide) fl36 (fun _ h9 => h9) rfl dX8_pair_110 ?_
          refine lv_iload_n hx hb dX8_pair_113 rfl (lv_at hl 1 rfl) ?_
          refine lv_iload_n hx hb dX8_pair_114 rfl (lv_at hl 2 rfl) ?_
          refine cr_i (rv (As := [.int x1, .int x2]) (rest := []) ⟨hx, hb, hml, hown, hts⟩ (c_X1_isFiner l D y a_congruences a_congruences_partitions u1.1 u1.2.1 u1.2.2 x1 x2 _ (sat_bind h)) (cwV 2 hts gX8_pair_X1_isFiner rfl rfl rfl (by decide +kernel) ⟨Nat.le_of_ble_eq_true rfl, Nat.le_of_ble_eq_true rfl⟩) hK hP [1, 3] rfl 1 0 rfl rfl rfl rfl hl.1 rfl (Nat.le_of_ble_eq_true rfl) dX8_pair_115 ⟨Nat.zero_le _, Nat.zero_le _⟩) (fun r8 h => ?_)
          refine cr_i (rs (As := [.int r8]) (rest := []) ⟨hx, hb, hml, hown, hts⟩ (c_X8_oneIf l D y r8 _ (sat_bind h)) (va_cwS 1 hts gX8_pair_X8_oneIf rfl rfl rfl (by decide +kernel) ⟨Nat.le_of_ble_eq_true rfl, Nat.le_of_ble_eq_true rfl⟩) hK hP [] rfl rfl hl.1 rfl (Nat.le_of_ble_eq_true rfl) dX8_pair_118 ⟨Nat.zero_le _, Nat.zero_le _⟩) (fun r9 h => ?_)
          have h := sat_some h
          exact W.iret (v := r9) hx hb hr (fun t ht hW => ⟨⟨r9, (u1.1, u1.2.1, u1.2.2), rfl, h, by rw [ht]; exact hP, va_K.moved hW.alike hK, hD⟩, hS.F ht⟩) hS.2.2 dX8_pair_121
        · have h := sat_t c42 h
          refine lv_bipush (v := (-2)) hx hb dX8_pair_45 (by decide) ?_
          have h := sat_some h
          exact W.iret (v := (-2)) hx hb hr (fun t ht hW => ⟨⟨(-2), (u1.1, u1.2.1, u1.2.2), rfl, h, by rw [ht]; exact hP, va_K.moved hW.alike hK, hD⟩, hS.F ht⟩) hS.2.2 dX8_pair_47
    · have h := sat_f c6 h
      refine lv_bipush (v := (-2)) hx hb dX8_pair_9 (by decide) ?_
      have h := sat_some h
      exact W.iret (v := (-2)) hx hb hr (fun t ht hW => ⟨⟨(-2), (v_congruences_found, v_congruences_size, v_congruences_partitions), rfl, h, by rw [ht]; exact hP, va_K.moved hW.alike hK, hD⟩, hS.F ht⟩) hS.2.2 dX8_pair_11

/-! X8_free -/
set_option maxHeartbeats 4000000 in
set_option maxRecDepth 100000 in
theorem c_X8_free (l : Launch) (D : va_G) (y : ClassId × ClassId × ClassId × ClassId) (a a_now a_terms a_now_values a_terms_highBehind a_terms_lowBehind a_terms_rows a_terms_slots a_trial a_reader a_history a_congruences a_text a_seen a_images : Nat) (v_letters : Int32) (v_seenSoFar : Int32) (v_keptImages : Int32) (v_now_size : Int32) (v_terms_howMany : Int32) (v_terms_rounds : Int32) (v_terms_isFound : Int32) (v_terms_firstLetter : Int64) (v_terms_secondLetter : Int64) (v_terms_thirdLetter : Int64) (v_terms_goal : Int64) (v_terms_width : Int32) (v_now_values : Nat → Int32) (v_terms_highBehind : Nat → Int32) (v_terms_lowBehind : Nat → Int32) (v_terms_rows : Nat → Int64) (v_terms_slots : Nat → Int32) (x1 : Int32) (x2 : Int32) (sz : Nat) (A : Nat → Prop) (hAe : va_A [(a, .inr (5, [.ref a_now, .ref a_trial, .ref a_reader, .ref a_history, .ref a_congruences, .ref a_terms, .ref a_text, .int v_letters, .ref a_seen, .int v_seenSoFar, .ref a_images, .int v_keptImages])), (a_now, .inr (3, [.int v_now_size, .ref a_now_values])), (a_terms, .inr (4, [.int v_terms_howMany, .int v_terms_rounds, .int v_terms_isFound, .ref a_terms_rows, .ref a_terms_slots, .long v_terms_firstLetter, .long v_terms_secondLetter, .long v_terms_thirdLetter, .long v_terms_goal, .int v_terms_width, .ref a_terms_lowBehind, .ref a_terms_highBehind])), (a_now_values, .inl (y.1, 20, .inl v_now_values)), (a_terms_highBehind, .inl (y.1, 4, .inl v_terms_highBehind)), (a_terms_lowBehind, .inl (y.1, 4, .inl v_terms_lowBehind)), (a_terms_rows, .inl (y.2.1, 200, .inr (.inl v_terms_rows))), (a_terms_slots, .inl (y.1, 512, .inl v_terms_slots))] sz = A) (K : Int32 → (Int32 × Int32 × Int32 × Int64 × Int64 × Int64 × Int64 × Int32 × (Nat → Int32) × (Nat → Int32) × (Nat → Int64) × (Nat → Int32)) → Prop) (h : sat (m_X8_free v_now_size v_terms_howMany v_terms_rounds v_terms_isFound v_terms_firstLetter v_terms_secondLetter v_terms_thirdLetter v_terms_goal v_terms_width v_now_values v_terms_highBehind v_terms_lowBehind v_terms_rows v_terms_slots x1 x2) (pK K)) : Met l yX8_free wsX8_free ({ frames := 6, cells := 0, slots := 0, locals := 145 } : Room) (pW D y ([.ref a, .int x1, .int x2] : List Value) [(a, .inr (5, [.ref a_now, .ref a_trial, .ref a_reader, .ref a_history, .ref a_congruences, .ref a_terms, .ref a_text, .int v_letters, .ref a_seen, .int v_seenSoFar, .ref a_images, .int v_keptImages])), (a_now, .inr (3, [.int v_now_size, .ref a_now_values])), (a_terms, .inr (4, [.int v_terms_howMany, .int v_terms_rounds, .int v_terms_isFound, .ref a_terms_rows, .ref a_terms_slots, .long v_terms_firstLetter, .long v_terms_secondLetter, .long v_terms_thirdLetter, .long v_terms_goal, .int v_terms_width, .ref a_terms_lowBehind, .ref a_terms_highBehind])), (a_now_values, .inl (y.1, 20, .inl v_now_values)), (a_terms_highBehind, .inl (y.1, 4, .inl v_terms_highBehind)), (a_terms_lowBehind, .inl (y.1, 4, .inl v_terms_lowBehind)), (a_terms_rows, .inl (y.2.1, 200, .inr (.inl v_terms_rows))), (a_terms_slots, .inl (y.1, 512, .inl v_terms_slots))] sz) (va_Qi K (bW D y A (fun u : (Int32 × Int32 × Int32 × Int64 × Int64 × Int64 × Int64 × Int32 × (Nat → Int32) × (Nat → Int32) × (Nat → Int64) × (Nat → Int32)) => [(a, .inr (5, [.ref a_now, .ref a_trial, .ref a_reader, .ref a_history, .ref a_congruences, .ref a_terms, .ref a_text, .int v_letters, .ref a_seen, .int v_seenSoFar, .ref a_images, .int v_keptImages])), (a_now, .inr (3, [.int v_now_size, .ref a_now_values])), (a_terms, .inr (4, [.int u.1, .int u.2.1, .int u.2.2.1, .ref a_terms_rows, .ref a_terms_slots, .long u.2.2.2.1, .long u.2.2.2.2.1, .long u.2.2.2.2.2.1, .long u.2.2.2.2.2.2.1, .int u.2.2.2.2.2.2.2.1, .ref a_terms_lowBehind, .ref a_terms_highBehind])), (a_now_values, .inl (y.1, 20, .inl v_now_values)), (a_terms_highBehind, .inl (y.1, 4, .inl u.2.2.2.2.2.2.2.2.1)), (a_terms_lowBehind, .inl (y.1, 4, .inl u.2.2.2.2.2.2.2.2.2.1)), (a_terms_rows, .inl (y.2.1, 200, .inr (.inl u.2.2.2.2.2.2.2.2.2.2.1))), (a_terms_slots, .inl (y.1, 512, .inl u.2.2.2.2.2.2.2.2.2.2.2))])) A) 0 0 A := by
  refine Met.ofW (cc := cX8_free) (maxL := 3) (ret := (some .int)) (by decide) rfl ?_
  intro p e s m args below meth c s₁ B hml hv
  obtain ⟨rfl, hsz, hP, hK, hD0⟩ := hv
  have hx := B.exec
  have hb := B.bytes
  have hr := B.returns
  have hts := atoms_spec (ws := wsX8_free) B.pre
  have hown : s.vm.findClass RX8 = some m.cls := findClass_of_methodNamed B.named
  have hlocks := B.notSynchronized
  subst hsz
  have hD : va_D A [(a, .inr (5, [.ref a_now, .ref a_trial, .ref a_reader, .ref a_history, .ref a_congruences, .ref a_terms, .ref a_text, .int v_letters, .ref a_seen, .int v_seenSoFar, .ref a_images, .int v_keptImages])), (a_now, .inr (3, [.int v_now_size, .ref a_now_values])), (a_terms, .inr (4, [.int v_terms_howMany, .int v_terms_rounds, .int v_terms_isFound, .ref a_terms_rows, .ref a_terms_slots, .long v_terms_firstLetter, .long v_terms_secondLetter, .long v_terms_thirdLetter, .long v_terms_goal, .int v_terms_width, .ref a_terms_lowBehind, .ref a_terms_highBehind])), (a_now_values, .inl (y.1, 20, .inl v_now_values)), (a_terms_highBehind, .inl (y.1, 4, .inl v_terms_highBehind)), (a_terms_lowBehind, .inl (y.1, 4, .inl v_terms_lowBehind)), (a_terms_rows, .inl (y.2.1, 200, .inr (.inl v_terms_rows))), (a_terms_slots, .inl (y.1, 512, .inl v_terms_slots))] := hAe ▸ hD0.self
  have hA : ∀ q : Nat, s.heap.size ≤ q → A q := fun q h => hAe ▸ Or.inr h
  have hS : va_S A s.heap s.heap [] := va_S.rf
  have iX7 : ∀ w ∈ wsX70, w ∈ wsX8_free := by decide +kernel
  have iX8 : ∀ w ∈ wsX80, w ∈ wsX8_free := by decide +kernel
  have fl43 := hts (.fieldLink RX8 43 "AlgebraLaws" "terms" "LAlgebraLaws$Terms;") (by decide +kernel)
  have fl10 := hts (.fieldLink RX8 10 "AlgebraLaws" "now" "LAlgebraLaws$Tables;") (by decide +kernel)
  have fl184 := hts (.fieldLink RX8 184 "AlgebraLaws$Terms" "rounds" "I") (by decide +kernel)
  have fl181 := hts (.fieldLink RX8 181 "AlgebraLaws$Terms" "howMany" "I") (by decide +kernel)
  have hl := lv_entry ([.ref a, .int x1, .int x2] : List Value) (n := 3) (Nat.le_of_ble_eq_true rfl)
  rw [lg_entry_eq]
  generalize (lg_sl ([.ref a, .int x1, .int x2] : List Value) ++ List.replicate (3 - (lg_sl ([.ref a, .int x1, .int x2] : List Value)).length) Slot.unset).toArray = ls at hl ⊢
  have hl : lv_has ls 3 [(0, .ref a), (1, .int x1), (2, .int x2)] := hl
  unfold m_X8_free at h
  refine lv_iload_n hx hb dX8_free_0 rfl (lv_at hl 1 rfl) ?_
  refine lv_iconst (v := 1) hx hb dX8_free_1 (by decide) ?_
  refine lv_icmp_lt (tgt := 19) hx hb dX8_free_2 (by decide) (fun c2 => ?_) (fun c2 => ?_)
  · have h := sat_t c2 h
    refine lv_bipush (v := (-2)) hx hb dX8_free_19 (by decide) ?_
    have h := sat_some h
    exact W.iret (v := (-2)) hx hb hr (fun t ht hW => ⟨⟨(-2), (v_terms_howMany, v_terms_rounds, v_terms_isFound, v_terms_firstLetter, v_terms_secondLetter, v_terms_thirdLetter, v_terms_goal, v_terms_width, v_terms_highBehind, v_terms_lowBehind, v_terms_rows, v_terms_slots), rfl, h, by rw [ht]; exact hP, va_K.moved hW.alike hK, hD⟩, hS.F ht⟩) hS.2.2 dX8_free_21
  · have h := sat_f c2 h
    refine lv_iload_n hx hb dX8_free_5 rfl (lv_at hl 1 rfl) ?_
    refine lv_iconst (v := 2) hx hb dX8_free_6 (by decide) ?_
    refine lv_icmp_gt (tgt := 19) hx hb dX8_free_7 (by decide) (fun c7 => ?_) (fun c7 => ?_)
    · have h := sat_t c7 h
      refine lv_bipush (v := (-2)) hx hb dX8_free_19 (by decide) ?_
      have h := sat_some h
      exact W.iret (v := (-2)) hx hb hr (fun t ht hW => ⟨⟨(-2), (v_terms_howMany, v_terms_rounds, v_terms_isFound, v_terms_firstLetter, v_terms_secondLetter, v_terms_thirdLetter, v_terms_goal, v_terms_width, v_terms_highBehind, v_terms_lowBehind, v_terms_rows, v_terms_slots), rfl, h, by rw [ht]; exact hP, va_K.moved hW.alike hK, hD⟩, hS.F ht⟩) hS.2.2 dX8_free_21
    · have h := sat_f c7 h
      refine lv_iload_n hx hb dX8_free_10 rfl (lv_at hl 2 rfl) ?_
      refine lv_if_lt (tgt := 19) hx hb dX8_free_11 (by decide) (fun c11 => ?_) (fun c11 => ?_)
      · have h := sat_t c11 h
        refine lv_bipush (v := (-2)) hx hb dX8_free_19 (by decide) ?_
        have h := sat_some h
        exact W.iret (v := (-2)) hx hb hr (fun t ht hW => ⟨⟨(-2), (v_terms_howMany, v_terms_rounds, v_terms_isFound, v_terms_firstLetter, v_terms_secondLetter, v_terms_thirdLetter, v_terms_goal, v_terms_width, v_terms_highBehind, v_terms_lowBehind, v_terms_rows, v_terms_slots), rfl, h, by rw [ht]; exact hP, va_K.moved hW.alike hK, hD⟩, hS.F ht⟩) hS.2.2 dX8_free_21
      · have h := sat_f c11 h
        refine lv_iload_n hx hb dX8_free_14 rfl (lv_at hl 2 rfl) ?_
        refine lv_iconst (v := 1) hx hb dX8_free_15 (by decide) ?_
        refine lv_icmp_le (tgt := 22) hx hb dX8_free_16 (by decide) (fun c16 => ?_) (fun c16 => ?_)
        · have h := sat_t c16 h
          refine lv_aload_n hx hb dX8_free_22 rfl (lv_at hl 0 rfl) ?_
          refine va_get (D := D) (ci := 5) (v := .ref a_terms) (C := RX8) (T := TX8) (N := 12) hx hb hts iX8 hown hK hP 0 rfl rfl 5 (by decide) fl43 (fun _ h9 => h9) rfl dX8_free_23 ?_
          refine lv_aload_n hx hb dX8_free_26 rfl (lv_at hl 0 rfl) ?_
          refine va_get (D := D) (ci := 5) (v := .ref a_now) (C := RX8) (T := TX8) (N := 12) hx hb hts iX8 hown hK hP 0 rfl rfl 0 (by decide) fl10 (fun _ h9 => h9) rfl dX8_free_27 ?_
          refine lv_iload_n hx hb dX8_free_30 rfl (lv_at hl 1 rfl) ?_
          refine cw_i (wn := fun u1 => [(a, .inr (5, [.ref a_now, .ref a_trial, .ref a_reader, .ref a_history, .ref a_congruences, .ref a_terms, .ref a_text, .int v_letters, .ref a_seen, .int v_seenSoFar, .ref a_images, .int v_keptImages])), (a_now, .inr (3, [.int v_now_size, .ref a_now_values])), (a_terms, .inr (4, [.int u1.1, .int u1.2.1, .int u1.2.2.1, .ref a_terms_rows, .ref a_terms_slots, .long u1.2.2.2.1, .long u1.2.2.2.2.1, .long u1.2.2.2.2.2.1, .long u1.2.2.2.2.2.2.1, .int u1.2.2.2.2.2.2.2.1, .ref a_terms_lowBehind, .ref a_terms_highBehind])), (a_now_values, .inl (y.1, 20, .inl v_now_values)), (a_terms_highBehind, .inl (y.1, 4, .inl u1.2.2.2.2.2.2.2.2.1)), (a_terms_lowBehind, .inl (y.1, 4, .inl u1.2.2.2.2.2.2.2.2.2.1)), (a_terms_rows, .inl (y.2.1, 200, .inr (.inl u1.2.2.2.2.2.2.2.2.2.2.1))), (a_terms_slots, .inl (y.1, 512, .inl u1.2.2.2.2.2.2.2.2.2.2.2))]) (wr := [(a, .inr (5, [.ref a_now, .ref a_trial, .ref a_reader, .ref a_history, .ref a_congruences, .ref a_terms, .ref a_text, .int v_letters, .ref a_seen, .int v_seenSoFar, .ref a_images, .int v_keptImages]))]) (wv (As := [.ref a_now, .int x1]) (rest := []) ⟨hx, hb, hml, hown, hts⟩ (c_X7_makeFree l D y a_terms a_terms_highBehind a_terms_lowBehind a_terms_rows a_terms_slots a_now a_now_values v_terms_howMany v_terms_rounds v_terms_isFound v_terms_firstLetter v_terms_secondLetter v_terms_thirdLetter v_terms_goal v_terms_width v_terms_highBehind v_terms_lowBehind v_terms_rows v_terms_slots v_now_size v_now_values x1 _ _ rfl _ (sat_bd2 h)) (cwV 2 hts gX8_free_X7_makeFree rfl rfl rfl (by decide +kernel) ⟨Nat.le_of_ble_eq_true rfl, Nat.le_of_ble_eq_true rfl⟩) hK hP hD [2, 4, 5, 6, 7, 1, 3] rfl rfl rfl 2 4 rfl rfl rfl rfl hl.1 rfl (Nat.le_of_ble_eq_true rfl) dX8_free_31 ⟨Nat.zero_le _, Nat.zero_le _⟩) hS hP hD hA [2, 4, 5, 6, 7, 1, 3] [0] [0, 6, 1, 7, 2, 3, 4, 5] rfl rfl rfl (by decide) (fun _ => rfl) rfl (fun _ => rfl) (fun r2 u1 H locs h hP hD hS => ?_)
          refine lv_if_ne (tgt := 40) hx hb dX8_free_34 (by decide) (fun c34 => ?_) (fun c34 => ?_)
          · have h := sat_f c34 h
            refine lv_iload_n hx hb dX8_free_40 rfl (lv_at hl 2 rfl) ?_
            refine lv_if_ne (tgt := 54) hx hb dX8_free_41 (by decide) (fun c41 => ?_) (fun c41 => ?_)
            · have h := sat_f c41 h
              refine lv_aload_n hx hb dX8_free_54 rfl (lv_at hl 0 rfl) ?_
              refine va_get (D := D) (ci := 5) (v := .ref a_terms) (C := RX8) (T := TX8) (N := 12) hx hb hts iX8 hown hK hP 0 rfl rfl 5 (by decide) fl43 (fun _ h9 => h9) rfl dX8_free_55 ?_
              refine va_get (D := D) (ci := 4) (v := .int u1.2.1) (C := RX7) (T := TX7) (N := 12) hx hb hts iX7 hown hK hP 2 rfl rfl 1 (by decide) fl184 (fun _ h9 => h9) rfl dX8_free_58 ?_
              have h := sat_some h
              exact W.iret (v := u1.2.1) hx hb hr (fun t ht hW => ⟨⟨u1.2.1, (u1.1, u1.2.1, u1.2.2.1, u1.2.2.2.1, u1.2.2.2.2.1, u1.2.2.2.2.2.1, u1.2.2.2.2.2.2.1, u1.2.2.2.2.2.2.2.1, u1.2.2.2.2.2.2.2.2.1, u1.2.2.2.2.2.2.2.2.2.1, u1.2.2.2.2.2.2.2.2.2.2.1, u1.2.2.2.2.2.2.2.2.2.2.2), rfl, h, by rw [ht]; exact hP, va_K.moved hW.alike hK, hD⟩, hS.F ht⟩) hS.2.2 dX8_free_61
            · have h := sat_t c41 h
              refine lv_aload_n hx hb dX8_free_44 rfl (lv_at hl 0 rfl) ?_
              refine va_get (D := D) (ci := 5) (v := .ref a_terms) (C := RX8) (T := TX8) (N := 12) hx hb hts iX8 hown hK hP 0 rfl rfl 5 (by decide) fl43 (fun _ h9 => h9) rfl dX8_free_45 ?_
              refine va_get (D := D) (ci := 4) (v := .int u1.1) (C := RX7) (T := TX7) (N := 12) hx hb hts iX7 hown hK hP 2 rfl rfl 0 (by decide) fl181 (fun _ h9 => h9) rfl dX8_free_48 ?_
              refine lv_goto (tgt := 61) hx hb dX8_free_51 (by decide) ?_
              have h := sat_some h
              exact W.iret (v := u1.1) hx hb hr (fun t ht hW => ⟨⟨u1.1, (u1.1, u1.2.1, u1.2.2.1, u1.2.2.2.1, u1.2.2.2.2.1, u1.2.2.2.2.2.1, u1.2.2.2.2.2.2.1, u1.2.2.2.2.2.2.2.1, u1.2.2.2.2.2.2.2.2.1, u1.2.2.2.2.2.2.2.2.2.1, u1.2.2.2.2.2.2.2.2.2.2.1, u1.2.2.2.2.2.2.2.2.2.2.2), rfl, h, by rw [ht]; exact hP, va_K.moved hW.alike hK, hD⟩, hS.F ht⟩) hS.2.2 dX8_free_61
          · have h := sat_t c34 h
            refine lv_bipush (v := (-4)) hx hb dX8_free_37 (by decide) ?_
            have h := sat_some h
            exact W.iret (v := (-4)) hx hb hr (fun t ht hW => ⟨⟨(-4), (u1.1, u1.2.1, u1.2.2.1, u1.2.2.2.1, u1.2.2.2.2.1, u1.2.2.2.2.2.1, u1.2.2.2.2.2.2.1, u1.2.2.2.2.2.2.2.1, u1.2.2.2.2.2.2.2.2.1, u1.2.2.2.2.2.2.2.2.2.1, u1.2.2.2.2.2.2.2.2.2.2.1, u1.2.2.2.2.2.2.2.2.2.2.2), rfl, h, by rw [ht]; exact hP, va_K.moved hW.alike hK, hD⟩, hS.F ht⟩) hS.2.2 dX8_free_39
        · have h := sat_f c16 h
          refine lv_bipush (v := (-2)) hx hb dX8_free_19 (by decide) ?_
          have h := sat_some h
          exact W.iret (v := (-2)) hx hb hr (fun t ht hW => ⟨⟨(-2), (v_terms_howMany, v_terms_rounds, v_terms_isFound, v_terms_firstLetter, v_terms_secondLetter, v_terms_thirdLetter, v_terms_goal, v_terms_width, v_terms_highBehind, v_terms_lowBehind, v_terms_rows, v_terms_slots), rfl, h, by rw [ht]; exact hP, va_K.moved hW.alike hK, hD⟩, hS.F ht⟩) hS.2.2 dX8_free_21

/-! X8_term -/
set_option maxHeartbeats 4000000 in
set_option maxRecDepth 100000 in
theorem c_X8_term (l : Launch) (D : va_G) (y : ClassId × ClassId × ClassId × ClassId) (a a_now a_terms a_now_values a_terms_highBehind a_terms_lowBehind a_terms_rows a_terms_slots a_trial a_reader a_history a_congruences a_text a_seen a_images : Nat) (v_letters : Int32) (v_seenSoFar : Int32) (v_keptImages : Int32) (v_now_size : Int32) (v_terms_howMany : Int32) (v_terms_rounds : Int32) (v_terms_isFound : Int32) (v_terms_firstLetter : Int64) (v_terms_secondLetter : Int64) (v_terms_thirdLetter : Int64) (v_terms_goal : Int64) (v_terms_width : Int32) (v_now_values : Nat → Int32) (v_terms_highBehind : Nat → Int32) (v_terms_lowBehind : Nat → Int32) (v_terms_rows : Nat → Int64) (v_terms_slots : Nat → Int32) (x1 : Int32) (sz : Nat) (A : Nat → Prop) (hAe : va_A [(a, .inr (5, [.ref a_now, .ref a_trial, .ref a_reader, .ref a_history, .ref a_congruences, .ref a_terms, .ref a_text, .int v_letters, .ref a_seen, .int v_seenSoFar, .ref a_images, .int v_keptImages])), (a_now, .inr (3, [.int v_now_size, .ref a_now_values])), (a_terms, .inr (4, [.int v_terms_howMany, .int v_terms_rounds, .int v_terms_isFound, .ref a_terms_rows, .ref a_terms_slots, .long v_terms_firstLetter, .long v_terms_secondLetter, .long v_terms_thirdLetter, .long v_terms_goal, .int v_terms_width, .ref a_terms_lowBehind, .ref a_terms_highBehind])), (a_now_values, .inl (y.1, 20, .inl v_now_values)), (a_terms_highBehind, .inl (y.1, 4, .inl v_terms_highBehind)), (a_terms_lowBehind, .inl (y.1, 4, .inl v_terms_lowBehind)), (a_terms_rows, .inl (y.2.1, 200, .inr (.inl v_terms_rows))), (a_terms_slots, .inl (y.1, 512, .inl v_terms_slots))] sz = A) (K : Int32 → (Int32 × Int32 × Int32 × Int64 × Int64 × Int64 × Int64 × Int32 × (Nat → Int32) × (Nat → Int32) × (Nat → Int64) × (Nat → Int32)) → Prop) (h : sat (m_X8_term v_now_size v_terms_howMany v_terms_rounds v_terms_isFound v_terms_firstLetter v_terms_secondLetter v_terms_thirdLetter v_terms_goal v_terms_width v_now_values v_terms_highBehind v_terms_lowBehind v_terms_rows v_terms_slots x1) (pK K)) : Met l yX8_term wsX8_term ({ frames := 6, cells := 0, slots := 0, locals := 144 } : Room) (pW D y ([.ref a, .int x1] : List Value) [(a, .inr (5, [.ref a_now, .ref a_trial, .ref a_reader, .ref a_history, .ref a_congruences, .ref a_terms, .ref a_text, .int v_letters, .ref a_seen, .int v_seenSoFar, .ref a_images, .int v_keptImages])), (a_now, .inr (3, [.int v_now_size, .ref a_now_values])), (a_terms, .inr (4, [.int v_terms_howMany, .int v_terms_rounds, .int v_terms_isFound, .ref a_terms_rows, .ref a_terms_slots, .long v_terms_firstLetter, .long v_terms_secondLetter, .long v_terms_thirdLetter, .long v_terms_goal, .int v_terms_width, .ref a_terms_lowBehind, .ref a_terms_highBehind])), (a_now_values, .inl (y.1, 20, .inl v_now_values)), (a_terms_highBehind, .inl (y.1, 4, .inl v_terms_highBehind)), (a_terms_lowBehind, .inl (y.1, 4, .inl v_terms_lowBehind)), (a_terms_rows, .inl (y.2.1, 200, .inr (.inl v_terms_rows))), (a_terms_slots, .inl (y.1, 512, .inl v_terms_slots))] sz) (va_Qi K (bW D y A (fun u : (Int32 × Int32 × Int32 × Int64 × Int64 × Int64 × Int64 × Int32 × (Nat → Int32) × (Nat → Int32) × (Nat → Int64) × (Nat → Int32)) => [(a, .inr (5, [.ref a_now, .ref a_trial, .ref a_reader, .ref a_history, .ref a_congruences, .ref a_terms, .ref a_text, .int v_letters, .ref a_seen, .int v_seenSoFar, .ref a_images, .int v_keptImages])), (a_now, .inr (3, [.int v_now_size, .ref a_now_values])), (a_terms, .inr (4, [.int u.1, .int u.2.1, .int u.2.2.1, .ref a_terms_rows, .ref a_terms_slots, .long u.2.2.2.1, .long u.2.2.2.2.1, .long u.2.2.2.2.2.1, .long u.2.2.2.2.2.2.1, .int u.2.2.2.2.2.2.2.1, .ref a_terms_lowBehind, .ref a_terms_highBehind])), (a_now_values, .inl (y.1, 20, .inl v_now_values)), (a_terms_highBehind, .inl (y.1, 4, .inl u.2.2.2.2.2.2.2.2.1)), (a_terms_lowBehind, .inl (y.1, 4, .inl u.2.2.2.2.2.2.2.2.2.1)), (a_terms_rows, .inl (y.2.1, 200, .inr (.inl u.2.2.2.2.2.2.2.2.2.2.1))), (a_terms_slots, .inl (y.1, 512, .inl u.2.2.2.2.2.2.2.2.2.2.2))])) A) 0 0 A := by
  refine Met.ofW (cc := cX8_term) (maxL := 3) (ret := (some .int)) (by decide) rfl ?_
  intro p e s m args below meth c s₁ B hml hv
  obtain ⟨rfl, hsz, hP, hK, hD0⟩ := hv
  have hx := B.exec
  have hb := B.bytes
  have hr := B.returns
  have hts := atoms_spec (ws := wsX8_term) B.pre
  have hown : s.vm.findClass RX8 = some m.cls := findClass_of_methodNamed B.named
  have hlocks := B.notSynchronized
  subst hsz
  have hD : va_D A [(a, .inr (5, [.ref a_now, .ref a_trial, .ref a_reader, .ref a_history, .ref a_congruences, .ref a_terms, .ref a_text, .int v_letters, .ref a_seen, .int v_seenSoFar, .ref a_images, .int v_keptImages])), (a_now, .inr (3, [.int v_now_size, .ref a_now_values])), (a_terms, .inr (4, [.int v_terms_howMany, .int v_terms_rounds, .int v_terms_isFound, .ref a_terms_rows, .ref a_terms_slots, .long v_terms_firstLetter, .long v_terms_secondLetter, .long v_terms_thirdLetter, .long v_terms_goal, .int v_terms_width, .ref a_terms_lowBehind, .ref a_terms_highBehind])), (a_now_values, .inl (y.1, 20, .inl v_now_values)), (a_terms_highBehind, .inl (y.1, 4, .inl v_terms_highBehind)), (a_terms_lowBehind, .inl (y.1, 4, .inl v_terms_lowBehind)), (a_terms_rows, .inl (y.2.1, 200, .inr (.inl v_terms_rows))), (a_terms_slots, .inl (y.1, 512, .inl v_terms_slots))] := hAe ▸ hD0.self
  have hA : ∀ q : Nat, s.heap.size ≤ q → A q := fun q h => hAe ▸ Or.inr h
  have hS : va_S A s.heap s.heap [] := va_S.rf
  have iX6 : ∀ w ∈ wsX60, w ∈ wsX8_term := by decide +kernel
  have iX7 : ∀ w ∈ wsX70, w ∈ wsX8_term := by decide +kernel
  have iX8 : ∀ w ∈ wsX80, w ∈ wsX8_term := by decide +kernel
  have fl43 := hts (.fieldLink RX8 43 "AlgebraLaws" "terms" "LAlgebraLaws$Terms;") (by decide +kernel)
  have fl197 := hts (.fieldLink RX8 197 "AlgebraLaws$Terms" "isFound" "Z") (by decide +kernel)
  have fl10 := hts (.fieldLink RX8 10 "AlgebraLaws" "now" "LAlgebraLaws$Tables;") (by decide +kernel)
  have fl187 := hts (.fieldLink RX8 187 "AlgebraLaws$Tables" "size" "I") (by decide +kernel)
  have hl := lv_entry ([.ref a, .int x1] : List Value) (n := 3) (Nat.le_of_ble_eq_true rfl)
  rw [lg_entry_eq]
  generalize (lg_sl ([.ref a, .int x1] : List Value) ++ List.replicate (3 - (lg_sl ([.ref a, .int x1] : List Value)).length) Slot.unset).toArray = ls at hl ⊢
  have hl : lv_has ls 3 [(0, .ref a), (1, .int x1)] := hl
  have hJ52 : ∀ (t0_52 : Int32) (v_terms_howMany_52 : Int32) (v_terms_rounds_52 : Int32) (v_terms_isFound_52 : Int32) (v_terms_firstLetter_52 : Int64) (v_terms_secondLetter_52 : Int64) (v_terms_thirdLetter_52 : Int64) (v_terms_goal_52 : Int64) (v_terms_width_52 : Int32) (v_terms_highBehind_52 : Nat → Int32) (v_terms_lowBehind_52 : Nat → Int32) (v_terms_rows_52 : Nat → Int64) (v_terms_slots_52 : Nat → Int32) (ls : Array Slot) (H : Heap) (locs : List Loc), sat (m_X8_term_j52 t0_52 v_terms_howMany_52 v_terms_rounds_52 v_terms_isFound_52 v_terms_firstLetter_52 v_terms_secondLetter_52 v_terms_thirdLetter_52 v_terms_goal_52 v_terms_width_52 v_terms_highBehind_52 v_terms_lowBehind_52 v_terms_rows_52 v_terms_slots_52) (pK K) → lv_has ls 3 [(0, .ref a)] → va_P D vwCl [(a, .inr (5, [.ref a_now, .ref a_trial, .ref a_reader, .ref a_history, .ref a_congruences, .ref a_terms, .ref a_text, .int v_letters, .ref a_seen, .int v_seenSoFar, .ref a_images, .int v_keptImages])), (a_now, .inr (3, [.int v_now_size, .ref a_now_values])), (a_terms, .inr (4, [.int v_terms_howMany_52, .int v_terms_rounds_52, .int v_terms_isFound_52, .ref a_terms_rows, .ref a_terms_slots, .long v_terms_firstLetter_52, .long v_terms_secondLetter_52, .long v_terms_thirdLetter_52, .long v_terms_goal_52, .int v_terms_width_52, .ref a_terms_lowBehind, .ref a_terms_highBehind])), (a_now_values, .inl (y.1, 20, .inl v_now_values)), (a_terms_highBehind, .inl (y.1, 4, .inl v_terms_highBehind_52)), (a_terms_lowBehind, .inl (y.1, 4, .inl v_terms_lowBehind_52)), (a_terms_rows, .inl (y.2.1, 200, .inr (.inl v_terms_rows_52))), (a_terms_slots, .inl (y.1, 512, .inl v_terms_slots_52))] H → va_D A [(a, .inr (5, [.ref a_now, .ref a_trial, .ref a_reader, .ref a_history, .ref a_congruences, .ref a_terms, .ref a_text, .int v_letters, .ref a_seen, .int v_seenSoFar, .ref a_images, .int v_keptImages])), (a_now, .inr (3, [.int v_now_size, .ref a_now_values])), (a_terms, .inr (4, [.int v_terms_howMany_52, .int v_terms_rounds_52, .int v_terms_isFound_52, .ref a_terms_rows, .ref a_terms_slots, .long v_terms_firstLetter_52, .long v_terms_secondLetter_52, .long v_terms_thirdLetter_52, .long v_terms_goal_52, .int v_terms_width_52, .ref a_terms_lowBehind, .ref a_terms_highBehind])), (a_now_values, .inl (y.1, 20, .inl v_now_values)), (a_terms_highBehind, .inl (y.1, 4, .inl v_terms_highBehind_52)), (a_terms_lowBehind, .inl (y.1, 4, .inl v_terms_lowBehind_52)), (a_terms_rows, .inl (y.2.1, 200, .inr (.inl v_terms_rows_52))), (a_terms_slots, .inl (y.1, 512, .inl v_terms_slots_52))] → va_S A s.heap H locs → W p l e (headSpec wsX8_term ({ frames := 6, cells := 0, slots := 0, locals := 144 } : Room)).room s m ([.ref a, .int x1] : List Value).toArray below meth c H locs 0 0 (MQ below (va_Qi K (bW D y A (fun u : (Int32 × Int32 × Int32 × Int64 × Int64 × Int64 × Int64 × Int32 × (Nat → Int32) × (Nat → Int32) × (Nat → Int64) × (Nat → Int32)) => [(a, .inr (5, [.ref a_now, .ref a_trial, .ref a_reader, .ref a_history, .ref a_congruences, .ref a_terms, .ref a_text, .int v_letters, .ref a_seen, .int v_seenSoFar, .ref a_images, .int v_keptImages])), (a_now, .inr (3, [.int v_now_size, .ref a_now_values])), (a_terms, .inr (4, [.int u.1, .int u.2.1, .int u.2.2.1, .ref a_terms_rows, .ref a_terms_slots, .long u.2.2.2.1, .long u.2.2.2.2.1, .long u.2.2.2.2.2.1, .long u.2.2.2.2.2.2.1, .int u.2.2.2.2.2.2.2.1, .ref a_terms_lowBehind, .ref a_terms_highBehind])), (a_now_values, .inl (y.1, 20, .inl v_now_values)), (a_terms_highBehind, .inl (y.1, 4, .inl u.2.2.2.2.2.2.2.2.1)), (a_terms_lowBehind, .inl (y.1, 4, .inl u.2.2.2.2.2.2.2.2.2.1)), (a_terms_rows, .inl (y.2.1, 200, .inr (.inl u.2.2.2.2.2.2.2.2.2.2.1))), (a_terms_slots, .inl (y.1, 512, .inl u.2.2.2.2.2.2.2.2.2.2.2))])) A) ([.ref a, .int x1] : List Value).toArray s 0 0 A) (F0 m 52 ls [.int t0_52]) := by
    intro t0_52 v_terms_howMany_52 v_terms_rounds_52 v_terms_isFound_52 v_terms_firstLetter_52 v_terms_secondLetter_52 v_terms_thirdLetter_52 v_terms_goal_52 v_terms_width_52 v_terms_highBehind_52 v_terms_lowBehind_52 v_terms_rows_52 v_terms_slots_52 ls H locs h hl hP hD hS
    unfold m_X8_term_j52 at h
    refine lv_istore_n (lv' := [(2, .int t0_52), (0, .ref a)]) hx hb dX8_term_52 rfl hl (by decide) rfl (fun ls hl => ?_)
    refine lv_iload_n hx hb dX8_term_53 rfl (lv_at hl 0 rfl) ?_
    refine lv_if_eq (tgt := 70) hx hb dX8_term_54 (by decide) (fun c54 => ?_) (fun c54 => ?_)
    · have h := sat_t c54 h
      refine lv_bipush (v := (-4)) hx hb dX8_term_70 (by decide) ?_
      have h := sat_some h
      exact W.iret (v := (-4)) hx hb hr (fun t ht hW => ⟨⟨(-4), (v_terms_howMany_52, v_terms_rounds_52, v_terms_isFound_52, v_terms_firstLetter_52, v_terms_secondLetter_52, v_terms_thirdLetter_52, v_terms_goal_52, v_terms_width_52, v_terms_highBehind_52, v_terms_lowBehind_52, v_terms_rows_52, v_terms_slots_52), rfl, h, by rw [ht]; exact hP, va_K.moved hW.alike hK, hD⟩, hS.F ht⟩) hS.2.2 dX8_term_72
    · have h := sat_f c54 h
      refine lv_aload_n hx hb dX8_term_57 rfl (lv_at hl 1 rfl) ?_
      refine va_get (D := D) (ci := 5) (v := .ref a_terms) (C := RX8) (T := TX8) (N := 12) hx hb hts iX8 hown hK hP 0 rfl rfl 5 (by decide) fl43 (fun _ h9 => h9) rfl dX8_term_58 ?_
      refine va_get (D := D) (ci := 4) (v := .int v_terms_isFound_52) (C := RX7) (T := TX7) (N := 12) hx hb hts iX7 hown hK hP 2 rfl rfl 2 (by decide) fl197 (fun _ h9 => h9) rfl dX8_term_61 ?_
      refine cr_i (rs (As := [.int v_terms_isFound_52]) (rest := []) ⟨hx, hb, hml, hown, hts⟩ (c_X8_oneIf l D y v_terms_isFound_52 _ (sat_bind h)) (va_cwS 1 hts gX8_term_X8_oneIf rfl rfl rfl (by decide +kernel) ⟨Nat.le_of_ble_eq_true rfl, Nat.le_of_ble_eq_true rfl⟩) hK hP [] rfl rfl hl.1 rfl (Nat.le_of_ble_eq_true rfl) dX8_term_64 ⟨Nat.zero_le _, Nat.zero_le _⟩) (fun r1 h => ?_)
      refine lv_goto (tgt := 72) hx hb dX8_term_67 (by decide) ?_
      have h := sat_some h
      exact W.iret (v := r1) hx hb hr (fun t ht hW => ⟨⟨r1, (v_terms_howMany_52, v_terms_rounds_52, v_terms_isFound_52, v_terms_firstLetter_52, v_terms_secondLetter_52, v_terms_thirdLetter_52, v_terms_goal_52, v_terms_width_52, v_terms_highBehind_52, v_terms_lowBehind_52, v_terms_rows_52, v_terms_slots_52), rfl, h, by rw [ht]; exact hP, va_K.moved hW.alike hK, hD⟩, hS.F ht⟩) hS.2.2 dX8_term_72
  unfold m_X8_term at h
  refine lv_iload_n hx hb dX8_term_0 rfl (lv_at hl 1 rfl) ?_
  refine lv_if_lt (tgt := 20) hx hb dX8_term_1 (by decide) (fun c1 => ?_) (fun c1 => ?_)
  · have h := sat_t c1 h
    refine lv_bipush (v := (-2)) hx hb dX8_term_20 (by decide) ?_
    have h := sat_some h
    exact W.iret (v := (-2)) hx hb hr (fun t ht hW => ⟨⟨(-2), (v_terms_howMany, v_terms_rounds, v_terms_isFound, v_terms_firstLetter, v_terms_secondLetter, v_terms_thirdLetter, v_terms_goal, v_terms_width, v_terms_highBehind, v_terms_lowBehind, v_terms_rows, v_terms_slots), rfl, h, by rw [ht]; exact hP, va_K.moved hW.alike hK, hD⟩, hS.F ht⟩) hS.2.2 dX8_term_22
  · have h := sat_f c1 h
    refine lv_iload_n hx hb dX8_term_4 rfl (lv_at hl 1 rfl) ?_
    refine lv_iconst (v := 1) hx hb dX8_term_5 (by decide) ?_
    refine lv_icmp_gt (tgt := 20) hx hb dX8_term_6 (by decide) (fun c6 => ?_) (fun c6 => ?_)
    · have h := sat_t c6 h
      refine lv_bipush (v := (-2)) hx hb dX8_term_20 (by decide) ?_
      have h := sat_some h
      exact W.iret (v := (-2)) hx hb hr (fun t ht hW => ⟨⟨(-2), (v_terms_howMany, v_terms_rounds, v_terms_isFound, v_terms_firstLetter, v_terms_secondLetter, v_terms_thirdLetter, v_terms_goal, v_terms_width, v_terms_highBehind, v_terms_lowBehind, v_terms_rows, v_terms_slots), rfl, h, by rw [ht]; exact hP, va_K.moved hW.alike hK, hD⟩, hS.F ht⟩) hS.2.2 dX8_term_22
    · have h := sat_f c6 h
      refine lv_aload_n hx hb dX8_term_9 rfl (lv_at hl 0 rfl) ?_
      refine va_get (D := D) (ci := 5) (v := .ref a_now) (C := RX8) (T := TX8) (N := 12) hx hb hts iX8 hown hK hP 0 rfl rfl 0 (by decide) fl10 (fun _ h9 => h9) rfl dX8_term_10 ?_
      refine va_get (D := D) (ci := 3) (v := .int v_now_size) (C := RX6) (T := TX6) (N := 2) hx hb hts iX6 hown hK hP 1 rfl rfl 0 (by decide) fl187 (fun _ h9 => h9) rfl dX8_term_13 ?_
      refine lv_iconst (v := 3) hx hb dX8_term_16 (by decide) ?_
      refine lv_icmp_le (tgt := 23) hx hb dX8_term_17 (by decide) (fun c17 => ?_) (fun c17 => ?_)
      · have h := sat_t c17 h
        refine lv_iload_n hx hb dX8_term_23 rfl (lv_at hl 1 rfl) ?_
        refine lv_if_ne (tgt := 41) hx hb dX8_term_24 (by decide) (fun c24 => ?_) (fun c24 => ?_)
        · have h := sat_f c24 h
          refine lv_aload_n hx hb dX8_term_41 rfl (lv_at hl 0 rfl) ?_
          refine va_get (D := D) (ci := 5) (v := .ref a_terms) (C := RX8) (T := TX8) (N := 12) hx hb hts iX8 hown hK hP 0 rfl rfl 5 (by decide) fl43 (fun _ h9 => h9) rfl dX8_term_42 ?_
          refine lv_aload_n hx hb dX8_term_45 rfl (lv_at hl 0 rfl) ?_
          refine va_get (D := D) (ci := 5) (v := .ref a_now) (C := RX8) (T := TX8) (N := 12) hx hb hts iX8 hown hK hP 0 rfl rfl 0 (by decide) fl10 (fun _ h9 => h9) rfl dX8_term_46 ?_
          refine cw_i (wn := fun u2 => [(a, .inr (5, [.ref a_now, .ref a_trial, .ref a_reader, .ref a_history, .ref a_congruences, .ref a_terms, .ref a_text, .int v_letters, .ref a_seen, .int v_seenSoFar, .ref a_images, .int v_keptImages])), (a_now, .inr (3, [.int v_now_size, .ref a_now_values])), (a_terms, .inr (4, [.int u2.1, .int u2.2.1, .int u2.2.2.1, .ref a_terms_rows, .ref a_terms_slots, .long u2.2.2.2.1, .long u2.2.2.2.2.1, .long u2.2.2.2.2.2.1, .long u2.2.2.2.2.2.2.1, .int u2.2.2.2.2.2.2.2.1, .ref a_terms_lowBehind, .ref a_terms_highBehind])), (a_now_values, .inl (y.1, 20, .inl v_now_values)), (a_terms_highBehind, .inl (y.1, 4, .inl u2.2.2.2.2.2.2.2.2.1)), (a_terms_lowBehind, .inl (y.1, 4, .inl u2.2.2.2.2.2.2.2.2.2.1)), (a_terms_rows, .inl (y.2.1, 200, .inr (.inl u2.2.2.2.2.2.2.2.2.2.2.1))), (a_terms_slots, .inl (y.1, 512, .inl u2.2.2.2.2.2.2.2.2.2.2.2))]) (wr := [(a, .inr (5, [.ref a_now, .ref a_trial, .ref a_reader, .ref a_history, .ref a_congruences, .ref a_terms, .ref a_text, .int v_letters, .ref a_seen, .int v_seenSoFar, .ref a_images, .int v_keptImages]))]) (wv (As := [.ref a_now]) (rest := []) ⟨hx, hb, hml, hown, hts⟩ (c_X7_seekMajority l D y a_terms a_terms_highBehind a_terms_lowBehind a_terms_rows a_terms_slots a_now a_now_values v_terms_howMany v_terms_rounds v_terms_isFound v_terms_firstLetter v_terms_secondLetter v_terms_thirdLetter v_terms_goal v_terms_width v_terms_highBehind v_terms_lowBehind v_terms_rows v_terms_slots v_now_size v_now_values _ _ rfl _ (sat_bd2 h)) (cwV 1 hts gX8_term_X7_seekMajority rfl rfl rfl (by decide +kernel) ⟨Nat.le_of_ble_eq_true rfl, Nat.le_of_ble_eq_true rfl⟩) hK hP hD [2, 4, 5, 6, 7, 1, 3] rfl rfl rfl 2 4 rfl rfl rfl rfl hl.1 rfl (Nat.le_of_ble_eq_true rfl) dX8_term_49 ⟨Nat.zero_le _, Nat.zero_le _⟩) hS hP hD hA [2, 4, 5, 6, 7, 1, 3] [0] [0, 6, 1, 7, 2, 3, 4, 5] rfl rfl rfl (by decide) (fun _ => rfl) rfl (fun _ => rfl) (fun r3 u2 H locs h hP hD hS => ?_)
          exact hJ52 r3 u2.1 u2.2.1 u2.2.2.1 u2.2.2.2.1 u2.2.2.2.2.1 u2.2.2.2.2.2.1 u2.2.2.2.2.2.2.1 u2.2.2.2.2.2.2.2.1 u2.2.2.2.2.2.2.2.2.1 u2.2.2.2.2.2.2.2.2.2.1 u2.2.2.2.2.2.2.2.2.2.2.1 u2.2.2.2.2.2.2.2.2.2.2.2 ls H locs h (lv_sub hl [0] rfl) hP hD hS
        · have h := sat_t c24 h
          refine lv_aload_n hx hb dX8_term_27 rfl (lv_at hl 0 rfl) ?_
          refine va_get (D := D) (ci := 5) (v := .ref a_terms) (C := RX8) (T := TX8) (N := 12) hx hb hts iX8 hown hK hP 0 rfl rfl 5 (by decide) fl43 (fun _ h9 => h9) rfl dX8_term_28 ?_
          refine lv_aload_n hx hb dX8_term_31 rfl (lv_at hl 0 rfl) ?_
          refine va_get (D := D) (ci := 5) (v := .ref a_now) (C := RX8) (T := TX8) (N := 12) hx hb hts iX8 hown hK hP 0 rfl rfl 0 (by decide) fl10 (fun _ h9 => h9) rfl dX8_term_32 ?_
          refine cw_i (wn := fun u4 => [(a, .inr (5, [.ref a_now, .ref a_trial, .ref a_reader, .ref a_history, .ref a_congruences, .ref a_terms, .ref a_text, .int v_letters, .ref a_seen, .int v_seenSoFar, .ref a_images, .int v_keptImages])), (a_now, .inr (3, [.int v_now_size, .ref a_now_values])), (a_terms, .inr (4, [.int u4.1, .int u4.2.1, .int u4.2.2.1, .ref a_terms_rows, .ref a_terms_slots, .long u4.2.2.2.1, .long u4.2.2.2.2.1, .long u4.2.2.2.2.2.1, .long u4.2.2.2.2.2.2.1, .int u4.2.2.2.2.2.2.2.1, .ref a_terms_lowBehind, .ref a_terms_highBehind])), (a_now_values, .inl (y.1, 20, .inl v_now_values)), (a_terms_highBehind, .inl (y.1, 4, .inl u4.2.2.2.2.2.2.2.2.1)), (a_terms_lowBehind, .inl (y.1, 4, .inl u4.2.2.2.2.2.2.2.2.2.1)), (a_terms_rows, .inl (y.2.1, 200, .inr (.inl u4.2.2.2.2.2.2.2.2.2.2.1))), (a_terms_slots, .inl (y.1, 512, .inl u4.2.2.2.2.2.2.2.2.2.2.2))]) (wr := [(a, .inr (5, [.ref a_now, .ref a_trial, .ref a_reader, .ref a_history, .ref a_congruences, .ref a_terms, .ref a_text, .int v_letters, .ref a_seen, .int v_seenSoFar, .ref a_images, .int v_keptImages]))]) (wv (As := [.ref a_now]) (rest := []) ⟨hx, hb, hml, hown, hts⟩ (c_X7_seekMaltsev l D y a_terms a_terms_highBehind a_terms_lowBehind a_terms_rows a_terms_slots a_now a_now_values v_terms_howMany v_terms_rounds v_terms_isFound v_terms_firstLetter v_terms_secondLetter v_terms_thirdLetter v_terms_goal v_terms_width v_terms_highBehind v_terms_lowBehind v_terms_rows v_terms_slots v_now_size v_now_values _ _ rfl _ (sat_bd2 h)) (cwV 1 hts gX8_term_X7_seekMaltsev rfl rfl rfl (by decide +kernel) ⟨Nat.le_of_ble_eq_true rfl, Nat.le_of_ble_eq_true rfl⟩) hK hP hD [2, 4, 5, 6, 7, 1, 3] rfl rfl rfl 2 4 rfl rfl rfl rfl hl.1 rfl (Nat.le_of_ble_eq_true rfl) dX8_term_35 ⟨Nat.zero_le _, Nat.zero_le _⟩) hS hP hD hA [2, 4, 5, 6, 7, 1, 3] [0] [0, 6, 1, 7, 2, 3, 4, 5] rfl rfl rfl (by decide) (fun _ => rfl) rfl (fun _ => rfl) (fun r5 u4 H locs h hP hD hS => ?_)
          refine lv_goto (tgt := 52) hx hb dX8_term_38 (by decide) ?_
          exact hJ52 r5 u4.1 u4.2.1 u4.2.2.1 u4.2.2.2.1 u4.2.2.2.2.1 u4.2.2.2.2.2.1 u4.2.2.2.2.2.2.1 u4.2.2.2.2.2.2.2.1 u4.2.2.2.2.2.2.2.2.1 u4.2.2.2.2.2.2.2.2.2.1 u4.2.2.2.2.2.2.2.2.2.2.1 u4.2.2.2.2.2.2.2.2.2.2.2 ls H locs h (lv_sub hl [0] rfl) hP hD hS
      · have h := sat_f c17 h
        refine lv_bipush (v := (-2)) hx hb dX8_term_20 (by decide) ?_
        have h := sat_some h
        exact W.iret (v := (-2)) hx hb hr (fun t ht hW => ⟨⟨(-2), (v_terms_howMany, v_terms_rounds, v_terms_isFound, v_terms_firstLetter, v_terms_secondLetter, v_terms_thirdLetter, v_terms_goal, v_terms_width, v_terms_highBehind, v_terms_lowBehind, v_terms_rows, v_terms_slots), rfl, h, by rw [ht]; exact hP, va_K.moved hW.alike hK, hD⟩, hS.F ht⟩) hS.2.2 dX8_term_22

/-! X8_sees -/
set_option maxHeartbeats 4000000 in
set_option maxRecDepth 100000 in
theorem c_X8_sees (l : Launch) (D : va_G) (y : ClassId × ClassId × ClassId × ClassId) (a a_seen a_now a_trial a_reader a_history a_congruences a_terms a_text a_images : Nat) (v_letters : Int32) (v_seenSoFar : Int32) (v_keptImages : Int32) (v_seen : Nat → Int32) (x1 : Int32) (sz : Nat) (A : Nat → Prop) (hAe : va_A [(a, .inr (5, [.ref a_now, .ref a_trial, .ref a_reader, .ref a_history, .ref a_congruences, .ref a_terms, .ref a_text, .int v_letters, .ref a_seen, .int v_seenSoFar, .ref a_images, .int v_keptImages])), (a_seen, .inl (y.1, 6, .inl v_seen))] sz = A) (K : Int32 → (Int32 × (Nat → Int32)) → Prop) (h : sat (m_X8_sees v_seenSoFar v_seen x1) (pK K)) : Met l yX8_sees wsX8_sees ({ frames := 0, cells := 0, slots := 0, locals := 0 } : Room) (pW D y ([.ref a, .int x1] : List Value) [(a, .inr (5, [.ref a_now, .ref a_trial, .ref a_reader, .ref a_history, .ref a_congruences, .ref a_terms, .ref a_text, .int v_letters, .ref a_seen, .int v_seenSoFar, .ref a_images, .int v_keptImages])), (a_seen, .inl (y.1, 6, .inl v_seen))] sz) (va_Qi K (bW D y A (fun u : (Int32 × (Nat → Int32)) => [(a, .inr (5, [.ref a_now, .ref a_trial, .ref a_reader, .ref a_history, .ref a_congruences, .ref a_terms, .ref a_text, .int v_letters, .ref a_seen, .int u.1, .ref a_images, .int v_keptImages])), (a_seen, .inl (y.1, 6, .inl u.2))])) A) 0 0 A := by
  refine Met.ofW (cc := cX8_sees) (maxL := 2) (ret := (some .int)) (by decide) rfl ?_
  intro p e s m args below meth c s₁ B hml hv
  obtain ⟨rfl, hsz, hP, hK, hD0⟩ := hv
  have hx := B.exec
  have hb := B.bytes
  have hr := B.returns
  have hts := atoms_spec (ws := wsX8_sees) B.pre
  have hown : s.vm.findClass RX8 = some m.cls := findClass_of_methodNamed B.named
  have hlocks := B.notSynchronized
  subst hsz
  have hD : va_D A [(a, .inr (5, [.ref a_now, .ref a_trial, .ref a_reader, .ref a_history, .ref a_congruences, .ref a_terms, .ref a_text, .int v_letters, .ref a_seen, .int v_seenSoFar, .ref a_images, .int v_keptImages])), (a_seen, .inl (y.1, 6, .inl v_seen))] := hAe ▸ hD0.self
  have hA : ∀ q : Nat, s.heap.size ≤ q → A q := fun q h => hAe ▸ Or.inr h
  have hS : va_S A s.heap s.heap [] := va_S.rf
  have iX8 : ∀ w ∈ wsX80, w ∈ wsX8_sees := by decide +kernel
  have fl80 := hts (.fieldLink RX8 80 "AlgebraLaws" "seenSoFar" "I") (by decide +kernel)
  have fl51 := hts (.fieldLink RX8 51 "AlgebraLaws" "seen" "[I") (by decide +kernel)
  have hl := lv_entry ([.ref a, .int x1] : List Value) (n := 2) (Nat.le_of_ble_eq_true rfl)
  rw [lg_entry_eq]
  generalize (lg_sl ([.ref a, .int x1] : List Value) ++ List.replicate (2 - (lg_sl ([.ref a, .int x1] : List Value)).length) Slot.unset).toArray = ls at hl ⊢
  have hl : lv_has ls 2 [(0, .ref a), (1, .int x1)] := hl
  unfold m_X8_sees at h
  refine lv_iload_n hx hb dX8_sees_0 rfl (lv_at hl 1 rfl) ?_
  refine lv_if_lt (tgt := 10) hx hb dX8_sees_1 (by decide) (fun c1 => ?_) (fun c1 => ?_)
  · have h := sat_t c1 h
    refine lv_bipush (v := (-2)) hx hb dX8_sees_10 (by decide) ?_
    have h := sat_some h
    exact W.iret (v := (-2)) hx hb hr (fun t ht hW => ⟨⟨(-2), (v_seenSoFar, v_seen), rfl, h, by rw [ht]; exact hP, va_K.moved hW.alike hK, hD⟩, hS.F ht⟩) hS.2.2 dX8_sees_12
  · have h := sat_f c1 h
    refine lv_iload_n hx hb dX8_sees_4 rfl (lv_at hl 1 rfl) ?_
    refine lv_bipush (v := 16) hx hb dX8_sees_5 (by decide) ?_
    refine lv_icmp_le (tgt := 13) hx hb dX8_sees_7 (by decide) (fun c7 => ?_) (fun c7 => ?_)
    · have h := sat_t c7 h
      refine lv_aload_n hx hb dX8_sees_13 rfl (lv_at hl 0 rfl) ?_
      refine va_get (D := D) (ci := 5) (v := .int v_seenSoFar) (C := RX8) (T := TX8) (N := 12) hx hb hts iX8 hown hK hP 0 rfl rfl 9 (by decide) fl80 (fun _ h9 => h9) rfl dX8_sees_14 ?_
      refine lv_aload_n hx hb dX8_sees_17 rfl (lv_at hl 0 rfl) ?_
      refine va_get (D := D) (ci := 5) (v := .ref a_seen) (C := RX8) (T := TX8) (N := 12) hx hb hts iX8 hown hK hP 0 rfl rfl 8 (by decide) fl51 (fun _ h9 => h9) rfl dX8_sees_18 ?_
      refine va_alen (v := 6) hx hb hK hP 1 0 rfl rfl rfl dX8_sees_21 ?_
      refine lv_icmp_lt (tgt := 28) hx hb dX8_sees_22 (by decide) (fun c22 => ?_) (fun c22 => ?_)
      · have h := sat_t c22 h
        refine lv_aload_n hx hb dX8_sees_28 rfl (lv_at hl 0 rfl) ?_
        refine va_get (D := D) (ci := 5) (v := .ref a_seen) (C := RX8) (T := TX8) (N := 12) hx hb hts iX8 hown hK hP 0 rfl rfl 8 (by decide) fl51 (fun _ h9 => h9) rfl dX8_sees_29 ?_
        refine lv_aload_n hx hb dX8_sees_32 rfl (lv_at hl 0 rfl) ?_
        refine va_get (D := D) (ci := 5) (v := .int v_seenSoFar) (C := RX8) (T := TX8) (N := 12) hx hb hts iX8 hown hK hP 0 rfl rfl 9 (by decide) fl80 (fun _ h9 => h9) rfl dX8_sees_33 ?_
        refine lv_iload_n hx hb dX8_sees_36 rfl (lv_at hl 1 rfl) ?_
        obtain ⟨f1, ef1, hin, h⟩ := sat_wrI h
        refine yi (wn := [(a, .inr (5, [.ref a_now, .ref a_trial, .ref a_reader, .ref a_history, .ref a_congruences, .ref a_terms, .ref a_text, .int v_letters, .ref a_seen, .int v_seenSoFar, .ref a_images, .int v_keptImages])), (a_seen, .inl (y.1, 6, .inl f1))]) hx hb hK hP hD hS 1 0 rfl rfl ef1 hin dX8_sees_37 rfl (fun H locs hP hD hS => ?_)
        refine lv_aload_n hx hb dX8_sees_38 rfl (lv_at hl 0 rfl) ?_
        refine lv_dup hx hb dX8_sees_39 rfl ?_
        refine va_get (D := D) (ci := 5) (v := .int v_seenSoFar) (C := RX8) (T := TX8) (N := 12) hx hb hts iX8 hown hK hP 0 rfl rfl 9 (by decide) fl80 (fun _ h9 => h9) rfl dX8_sees_40 ?_
        refine lv_iconst (v := 1) hx hb dX8_sees_43 (by decide) ?_
        refine lv_iadd hx hb dX8_sees_44 ?_
        refine pf (D := D) (ci := 5) (v := .int (v_seenSoFar + 1)) (ty := .int) (C := RX8) (T := TX8) (N := 12) (wn := [(a, .inr (5, [.ref a_now, .ref a_trial, .ref a_reader, .ref a_history, .ref a_congruences, .ref a_terms, .ref a_text, .int v_letters, .ref a_seen, .int (v_seenSoFar + 1), .ref a_images, .int v_keptImages])), (a_seen, .inl (y.1, 6, .inl f1))]) hx hb hts iX8 tyX8 tyX8_ok nmX8 hown hK hP hD hS 0 rfl rfl 9 (by decide) fl80 (fun _ h9 => h9) rfl (by decide +kernel) rfl rfl (Nat.le_of_ble_eq_true rfl) dX8_sees_45 rfl (fun H locs hP hD hS => ?_)
        refine lv_aload_n hx hb dX8_sees_48 rfl (lv_at hl 0 rfl) ?_
        refine va_get (D := D) (ci := 5) (v := .int (v_seenSoFar + 1)) (C := RX8) (T := TX8) (N := 12) hx hb hts iX8 hown hK hP 0 rfl rfl 9 (by decide) fl80 (fun _ h9 => h9) rfl dX8_sees_49 ?_
        have h := sat_some h
        exact W.iret (v := v_seenSoFar + 1) hx hb hr (fun t ht hW => ⟨⟨v_seenSoFar + 1, (v_seenSoFar + 1, f1), rfl, h, by rw [ht]; exact hP, va_K.moved hW.alike hK, hD⟩, hS.F ht⟩) hS.2.2 dX8_sees_52
      · have h := sat_f c22 h
        refine lv_bipush (v := (-4)) hx hb dX8_sees_25 (by decide) ?_
        have h := sat_some h
        exact W.iret (v := (-4)) hx hb hr (fun t ht hW => ⟨⟨(-4), (v_seenSoFar, v_seen), rfl, h, by rw [ht]; exact hP, va_K.moved hW.alike hK, hD⟩, hS.F ht⟩) hS.2.2 dX8_sees_27
    · have h := sat_f c7 h
      refine lv_bipush (v := (-2)) hx hb dX8_sees_10 (by decide) ?_
      have h := sat_some h
      exact W.iret (v := (-2)) hx hb hr (fun t ht hW => ⟨⟨(-2), (v_seenSoFar, v_seen), rfl, h, by rw [ht]; exact hP, va_K.moved hW.alike hK, hD⟩, hS.F ht⟩) hS.2.2 dX8_sees_12
