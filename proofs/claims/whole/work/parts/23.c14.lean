/-! X8_forget -/
set_option maxHeartbeats 4000000 in
set_option maxRecDepth 100000 in
theorem c_X8_forget (l : Launch) (D : va_G) (y : ClassId × ClassId × ClassId × ClassId) (a a_now a_trial a_reader a_history a_congruences a_terms a_text a_seen a_images : Nat) (v_letters : Int32) (v_seenSoFar : Int32) (v_keptImages : Int32) (sz : Nat) (A : Nat → Prop) (hAe : va_A [(a, .inr (5, [.ref a_now, .ref a_trial, .ref a_reader, .ref a_history, .ref a_congruences, .ref a_terms, .ref a_text, .int v_letters, .ref a_seen, .int v_seenSoFar, .ref a_images, .int v_keptImages]))] sz = A) (K : Int32 → Int32 → Prop) (h : sat (m_X8_forget v_seenSoFar) (pK K)) : Met l yX8_forget wsX8_forget ({ frames := 0, cells := 0, slots := 0, locals := 0 } : Room) (pW D y ([.ref a] : List Value) [(a, .inr (5, [.ref a_now, .ref a_trial, .ref a_reader, .ref a_history, .ref a_congruences, .ref a_terms, .ref a_text, .int v_letters, .ref a_seen, .int v_seenSoFar, .ref a_images, .int v_keptImages]))] sz) (va_Qi K (bW D y A (fun u : Int32 => [(a, .inr (5, [.ref a_now, .ref a_trial, .ref a_reader, .ref a_history, .ref a_congruences, .ref a_terms, .ref a_text, .int v_letters, .ref a_seen, .int u, .ref a_images, .int v_keptImages]))])) A) 0 0 A := by
  refine Met.ofW (cc := cX8_forget) (maxL := 2) (ret := (some .int)) (by decide) rfl ?_
  intro p e s m args below meth c s₁ B hml hv
  obtain ⟨rfl, hsz, hP, hK, hD0⟩ := hv
  have hx := B.exec
  have hb := B.bytes
  have hr := B.returns
  have hts := atoms_spec (ws := wsX8_forget) B.pre
  have hown : s.vm.findClass RX8 = some m.cls := findClass_of_methodNamed B.named
  have hlocks := B.notSynchronized
  subst hsz
  have hD : va_D A [(a, .inr (5, [.ref a_now, .ref a_trial, .ref a_reader, .ref a_history, .ref a_congruences, .ref a_terms, .ref a_text, .int v_letters, .ref a_seen, .int v_seenSoFar, .ref a_images, .int v_keptImages]))] := hAe ▸ hD0.self
  have hA : ∀ q : Nat, s.heap.size ≤ q → A q := fun q h => hAe ▸ Or.inr h
  have hS : va_S A s.heap s.heap [] := va_S.rf
  have iX8 : ∀ w ∈ wsX80, w ∈ wsX8_forget := by decide +kernel
  have fl80 := hts (.fieldLink RX8 80 "AlgebraLaws" "seenSoFar" "I") (by decide +kernel)
  have hl := lv_entry ([.ref a] : List Value) (n := 2) (Nat.le_of_ble_eq_true rfl)
  rw [lg_entry_eq]
  generalize (lg_sl ([.ref a] : List Value) ++ List.replicate (2 - (lg_sl ([.ref a] : List Value)).length) Slot.unset).toArray = ls at hl ⊢
  have hl : lv_has ls 2 [(0, .ref a)] := hl
  unfold m_X8_forget at h
  refine lv_aload_n hx hb dX8_forget_0 rfl (lv_at hl 0 rfl) ?_
  refine va_get (D := D) (ci := 5) (v := .int v_seenSoFar) (C := RX8) (T := TX8) (N := 12) hx hb hts iX8 hown hK hP 0 rfl rfl 9 (by decide) fl80 (fun _ h9 => h9) rfl dX8_forget_1 ?_
  refine lv_istore_n (lv' := [(1, .int v_seenSoFar), (0, .ref a)]) hx hb dX8_forget_4 rfl hl (by decide) rfl (fun ls hl => ?_)
  refine lv_aload_n hx hb dX8_forget_5 rfl (lv_at hl 1 rfl) ?_
  refine lv_iconst (v := 0) hx hb dX8_forget_6 (by decide) ?_
  refine pf (D := D) (ci := 5) (v := .int 0) (ty := .int) (C := RX8) (T := TX8) (N := 12) (wn := [(a, .inr (5, [.ref a_now, .ref a_trial, .ref a_reader, .ref a_history, .ref a_congruences, .ref a_terms, .ref a_text, .int v_letters, .ref a_seen, .int 0, .ref a_images, .int v_keptImages]))]) hx hb hts iX8 tyX8 tyX8_ok nmX8 hown hK hP hD hS 0 rfl rfl 9 (by decide) fl80 (fun _ h9 => h9) rfl (by decide +kernel) rfl rfl (Nat.le_of_ble_eq_true rfl) dX8_forget_7 rfl (fun H locs hP hD hS => ?_)
  refine lv_iload_n hx hb dX8_forget_10 rfl (lv_at hl 0 rfl) ?_
  have h := sat_some h
  exact W.iret (v := v_seenSoFar) hx hb hr (fun t ht hW => ⟨⟨v_seenSoFar, 0, rfl, h, by rw [ht]; exact hP, va_K.moved hW.alike hK, hD⟩, hS.F ht⟩) hS.2.2 dX8_forget_11

/-! X8_allSeenIs -/
set_option maxHeartbeats 4000000 in
set_option maxRecDepth 100000 in
theorem c_X8_allSeenIs (l : Launch) (D : va_G) (y : ClassId × ClassId × ClassId × ClassId) (a a_seen a_now a_trial a_reader a_history a_congruences a_terms a_text a_images : Nat) (v_letters : Int32) (v_seenSoFar : Int32) (v_keptImages : Int32) (v_seen : Nat → Int32) (x1 : Int32) (K : Int32 → Prop) (h : sat (m_X8_allSeenIs v_seenSoFar v_seen x1) K) : Met l yX8_allSeenIs wsX8_allSeenIs ({ frames := 0, cells := 0, slots := 0, locals := 0 } : Room) (pR D y ([.ref a, .int x1] : List Value) [(a, .inr (5, [.ref a_now, .ref a_trial, .ref a_reader, .ref a_history, .ref a_congruences, .ref a_terms, .ref a_text, .int v_letters, .ref a_seen, .int v_seenSoFar, .ref a_images, .int v_keptImages])), (a_seen, .inl (y.1, 6, .inl v_seen))]) (qSi K) 0 0 (fun _ => False) := by
  refine Met.ofW (cc := cX8_allSeenIs) (maxL := 3) (ret := (some .boolean)) (by decide) rfl ?_
  intro p e s m args below meth c s₁ B hml hv
  obtain ⟨rfl, hP, hK⟩ := hv
  have hx := B.exec
  have hb := B.bytes
  have hr := B.returns
  have hts := atoms_spec (ws := wsX8_allSeenIs) B.pre
  have hown : s.vm.findClass RX8 = some m.cls := findClass_of_methodNamed B.named
  have hlocks := B.notSynchronized
  have iX8 : ∀ w ∈ wsX80, w ∈ wsX8_allSeenIs := by decide +kernel
  have fl80 := hts (.fieldLink RX8 80 "AlgebraLaws" "seenSoFar" "I") (by decide +kernel)
  have fl51 := hts (.fieldLink RX8 51 "AlgebraLaws" "seen" "[I") (by decide +kernel)
  have hl := lv_entry ([.ref a, .int x1] : List Value) (n := 3) (Nat.le_of_ble_eq_true rfl)
  rw [lg_entry_eq]
  generalize (lg_sl ([.ref a, .int x1] : List Value) ++ List.replicate (3 - (lg_sl ([.ref a, .int x1] : List Value)).length) Slot.unset).toArray = ls at hl ⊢
  have hl : lv_has ls 3 [(0, .ref a), (1, .int x1)] := hl
  unfold m_X8_allSeenIs at h
  refine lv_iconst (v := 0) hx hb dX8_allSeenIs_0 (by decide) ?_
  refine lv_istore_n (lv' := [(2, .int 0), (0, .ref a), (1, .int x1)]) hx hb dX8_allSeenIs_1 rfl hl (by decide) rfl (fun ls hl => ?_)
  have hL2 : ∀ (K2 : (Int32 ⊕ Unit) → Prop)
      (hR2 : ∀ (u : Int32), K2 (.inl u) → K u)
      (hE2 : ∀ (z2 : Unit) (ls : Array Slot), K2 (.inr z2) → lv_has ls 3 [] → W p l e (headSpec wsX8_allSeenIs ({ frames := 0, cells := 0, slots := 0, locals := 0 } : Room)).room s m ([.ref a, .int x1] : List Value).toArray below meth c s.heap [] 0 0 (MQ below (qSi K) ([.ref a, .int x1] : List Value).toArray s 0 0 (fun _ => False)) (F0 m 37 ls []))
      (n : Nat) (x2_2 : Int32) (ls : Array Slot), sat (lp (fun q : Int32 => m_X8_allSeenIs_s2 v_seenSoFar v_seen x1 q) n x2_2) K2 → lv_has ls 3 [(0, .ref a), (1, .int x1), (2, .int x2_2)] → W p l e (headSpec wsX8_allSeenIs ({ frames := 0, cells := 0, slots := 0, locals := 0 } : Room)).room s m ([.ref a, .int x1] : List Value).toArray below meth c s.heap [] 0 0 (MQ below (qSi K) ([.ref a, .int x1] : List Value).toArray s 0 0 (fun _ => False)) (F0 m 2 ls []) := by
    intro K2 hR2 hE2 n
    induction n with
    | zero => intro x2_2 ls h; exact (sat_lp0 h).elim
    | succ n ih =>
      intro x2_2 ls h hl
      have h := sat_lp h
      have h : sat (m_X8_allSeenIs_s2 v_seenSoFar v_seen x1 x2_2) (lk (fun s' => sat (lp (fun q : Int32 => m_X8_allSeenIs_s2 v_seenSoFar v_seen x1 q) n s') K2) K2) := h
      unfold m_X8_allSeenIs_s2 at h
      refine lv_iload_n hx hb dX8_allSeenIs_2 rfl (lv_at hl 2 rfl) ?_
      refine lv_aload_n hx hb dX8_allSeenIs_3 rfl (lv_at hl 0 rfl) ?_
      refine va_get (D := D) (ci := 5) (v := .int v_seenSoFar) (C := RX8) (T := TX8) (N := 12) hx hb hts iX8 hown hK hP 0 rfl rfl 9 (by decide) fl80 (fun _ h9 => h9) rfl dX8_allSeenIs_4 ?_
      refine lv_icmp_ge (tgt := 37) hx hb dX8_allSeenIs_7 (by decide) (fun c7 => ?_) (fun c7 => ?_)
      · have h := sat_t c7 h
        have h := lk_r (sat_some h)
        exact hE2 () ls h (lv_sub hl [] rfl)
      · have h := sat_f c7 h
        refine lv_iload_n hx hb dX8_allSeenIs_10 rfl (lv_at hl 2 rfl) ?_
        refine lv_aload_n hx hb dX8_allSeenIs_11 rfl (lv_at hl 0 rfl) ?_
        refine va_get (D := D) (ci := 5) (v := .ref a_seen) (C := RX8) (T := TX8) (N := 12) hx hb hts iX8 hown hK hP 0 rfl rfl 8 (by decide) fl51 (fun _ h9 => h9) rfl dX8_allSeenIs_12 ?_
        refine va_alen (v := 6) hx hb hK hP 1 0 rfl rfl rfl dX8_allSeenIs_15 ?_
        refine lv_icmp_ge (tgt := 37) hx hb dX8_allSeenIs_16 (by decide) (fun c16 => ?_) (fun c16 => ?_)
        · have h := sat_t c16 h
          have h := lk_r (sat_some h)
          exact hE2 () ls h (lv_sub hl [] rfl)
        · have h := sat_f c16 h
          refine lv_aload_n hx hb dX8_allSeenIs_19 rfl (lv_at hl 0 rfl) ?_
          refine va_get (D := D) (ci := 5) (v := .ref a_seen) (C := RX8) (T := TX8) (N := 12) hx hb hts iX8 hown hK hP 0 rfl rfl 8 (by decide) fl51 (fun _ h9 => h9) rfl dX8_allSeenIs_20 ?_
          refine lv_iload_n hx hb dX8_allSeenIs_23 rfl (lv_at hl 2 rfl) ?_
          obtain ⟨r2, er2, hin, h⟩ := sat_rd h
          refine xi hx hb hK hP 1 0 rfl rfl er2 hin dX8_allSeenIs_24 ?_
          refine lv_iload_n hx hb dX8_allSeenIs_25 rfl (lv_at hl 1 rfl) ?_
          refine lv_icmp_eq (tgt := 31) hx hb dX8_allSeenIs_26 (by decide) (fun c26 => ?_) (fun c26 => ?_)
          · have h := sat_t c26 h
            refine lv_iinc (v := x2_2 + 1) (lv' := [(2, .int (x2_2 + 1)), (0, .ref a), (1, .int x1)]) hx hb dX8_allSeenIs_31 hl (k := 2) rfl rfl (by decide) rfl (fun ls hl => ?_)
            refine lv_goto (tgt := 2) hx hb dX8_allSeenIs_34 (by decide) ?_
            have h := lk_l (sat_some h)
            exact ih (x2_2 + 1) ls h (lv_sub hl [1, 2, 0] rfl)
          · have h := sat_f c26 h
            refine lv_iconst (v := 0) hx hb dX8_allSeenIs_29 (by decide) ?_
            have h := hR2 _ (lk_r (sat_some h))
            exact W.zret (v := 0) hx hb hr rfl (fun t ht _ => ⟨0, rfl, h, ht⟩) (fun _ hq => by cases hq) dX8_allSeenIs_30
  have h := sat_bdS h
  refine hL2 _ (fun u h => ?_) (fun z2 ls h hl => ?_) 1000 0 ls h (lv_sub hl [1, 2, 0] rfl)
  · have h := lk_l h
    exact sat_some h
  · have h := lk_r h
    refine lv_iconst (v := 1) hx hb dX8_allSeenIs_37 (by decide) ?_
    have h := sat_some h
    exact W.zret (v := 1) hx hb hr rfl (fun t ht _ => ⟨1, rfl, h, ht⟩) (fun _ hq => by cases hq) dX8_allSeenIs_38

/-! X8_someOtherValueFits -/
set_option maxHeartbeats 4000000 in
set_option maxRecDepth 100000 in
theorem c_X8_someOtherValueFits (l : Launch) (D : va_G) (y : ClassId × ClassId × ClassId × ClassId) (a a_now a_seen a_trial a_now_values a_trial_values a_reader a_history a_congruences a_terms a_text a_images : Nat) (v_letters : Int32) (v_seenSoFar : Int32) (v_keptImages : Int32) (v_now_size : Int32) (v_seen : Nat → Int32) (v_trial_size : Int32) (v_now_values : Nat → Int32) (v_trial_values : Nat → Int32) (x1 : Int32) (sz : Nat) (A : Nat → Prop) (hAe : va_A [(a, .inr (5, [.ref a_now, .ref a_trial, .ref a_reader, .ref a_history, .ref a_congruences, .ref a_terms, .ref a_text, .int v_letters, .ref a_seen, .int v_seenSoFar, .ref a_images, .int v_keptImages])), (a_now, .inr (3, [.int v_now_size, .ref a_now_values])), (a_seen, .inl (y.1, 6, .inl v_seen)), (a_trial, .inr (3, [.int v_trial_size, .ref a_trial_values])), (a_now_values, .inl (y.1, 20, .inl v_now_values)), (a_trial_values, .inl (y.1, 20, .inl v_trial_values))] sz = A) (K : Int32 → ((Nat → Int32)) → Prop) (h : sat (m_X8_someOtherValueFits v_seenSoFar v_now_size v_seen v_trial_size v_now_values v_trial_values x1) (pK K)) : Met l yX8_someOtherValueFits wsX8_someOtherValueFits ({ frames := 5, cells := 0, slots := 0, locals := 110 } : Room) (pW D y ([.ref a, .int x1] : List Value) [(a, .inr (5, [.ref a_now, .ref a_trial, .ref a_reader, .ref a_history, .ref a_congruences, .ref a_terms, .ref a_text, .int v_letters, .ref a_seen, .int v_seenSoFar, .ref a_images, .int v_keptImages])), (a_now, .inr (3, [.int v_now_size, .ref a_now_values])), (a_seen, .inl (y.1, 6, .inl v_seen)), (a_trial, .inr (3, [.int v_trial_size, .ref a_trial_values])), (a_now_values, .inl (y.1, 20, .inl v_now_values)), (a_trial_values, .inl (y.1, 20, .inl v_trial_values))] sz) (va_Qi K (bW D y A (fun u : ((Nat → Int32)) => [(a, .inr (5, [.ref a_now, .ref a_trial, .ref a_reader, .ref a_history, .ref a_congruences, .ref a_terms, .ref a_text, .int v_letters, .ref a_seen, .int v_seenSoFar, .ref a_images, .int v_keptImages])), (a_now, .inr (3, [.int v_now_size, .ref a_now_values])), (a_seen, .inl (y.1, 6, .inl v_seen)), (a_trial, .inr (3, [.int v_trial_size, .ref a_trial_values])), (a_now_values, .inl (y.1, 20, .inl v_now_values)), (a_trial_values, .inl (y.1, 20, .inl u))])) A) 0 0 A := by
  refine Met.ofW (cc := cX8_someOtherValueFits) (maxL := 5) (ret := (some .boolean)) (by decide) rfl ?_
  intro p e s m args below meth c s₁ B hml hv
  obtain ⟨rfl, hsz, hP, hK, hD0⟩ := hv
  have hx := B.exec
  have hb := B.bytes
  have hr := B.returns
  have hts := atoms_spec (ws := wsX8_someOtherValueFits) B.pre
  have hown : s.vm.findClass RX8 = some m.cls := findClass_of_methodNamed B.named
  have hlocks := B.notSynchronized
  subst hsz
  have hD : va_D A [(a, .inr (5, [.ref a_now, .ref a_trial, .ref a_reader, .ref a_history, .ref a_congruences, .ref a_terms, .ref a_text, .int v_letters, .ref a_seen, .int v_seenSoFar, .ref a_images, .int v_keptImages])), (a_now, .inr (3, [.int v_now_size, .ref a_now_values])), (a_seen, .inl (y.1, 6, .inl v_seen)), (a_trial, .inr (3, [.int v_trial_size, .ref a_trial_values])), (a_now_values, .inl (y.1, 20, .inl v_now_values)), (a_trial_values, .inl (y.1, 20, .inl v_trial_values))] := hAe ▸ hD0.self
  have hA : ∀ q : Nat, s.heap.size ≤ q → A q := fun q h => hAe ▸ Or.inr h
  have hS : va_S A s.heap s.heap [] := va_S.rf
  have iX6 : ∀ w ∈ wsX60, w ∈ wsX8_someOtherValueFits := by decide +kernel
  have iX8 : ∀ w ∈ wsX80, w ∈ wsX8_someOtherValueFits := by decide +kernel
  have fl16 := hts (.fieldLink RX8 16 "AlgebraLaws" "trial" "LAlgebraLaws$Tables;") (by decide +kernel)
  have fl10 := hts (.fieldLink RX8 10 "AlgebraLaws" "now" "LAlgebraLaws$Tables;") (by decide +kernel)
  have fl187 := hts (.fieldLink RX8 187 "AlgebraLaws$Tables" "size" "I") (by decide +kernel)
  have hl := lv_entry ([.ref a, .int x1] : List Value) (n := 5) (Nat.le_of_ble_eq_true rfl)
  rw [lg_entry_eq]
  generalize (lg_sl ([.ref a, .int x1] : List Value) ++ List.replicate (5 - (lg_sl ([.ref a, .int x1] : List Value)).length) Slot.unset).toArray = ls at hl ⊢
  have hl : lv_has ls 5 [(0, .ref a), (1, .int x1)] := hl
  have hJ72 : ∀ (x2_72 : Int32) (x3_72 : Int32) (v_trial_values_72 : Nat → Int32) (ls : Array Slot) (H : Heap) (locs : List Loc), sat (m_X8_someOtherValueFits_j72 x1 x2_72 x3_72 v_trial_values_72) (pK K) → lv_has ls 5 [(0, .ref a), (1, .int x1), (2, .int x2_72), (3, .int x3_72)] → va_P D vwCl [(a, .inr (5, [.ref a_now, .ref a_trial, .ref a_reader, .ref a_history, .ref a_congruences, .ref a_terms, .ref a_text, .int v_letters, .ref a_seen, .int v_seenSoFar, .ref a_images, .int v_keptImages])), (a_now, .inr (3, [.int v_now_size, .ref a_now_values])), (a_seen, .inl (y.1, 6, .inl v_seen)), (a_trial, .inr (3, [.int v_trial_size, .ref a_trial_values])), (a_now_values, .inl (y.1, 20, .inl v_now_values)), (a_trial_values, .inl (y.1, 20, .inl v_trial_values_72))] H → va_D A [(a, .inr (5, [.ref a_now, .ref a_trial, .ref a_reader, .ref a_history, .ref a_congruences, .ref a_terms, .ref a_text, .int v_letters, .ref a_seen, .int v_seenSoFar, .ref a_images, .int v_keptImages])), (a_now, .inr (3, [.int v_now_size, .ref a_now_values])), (a_seen, .inl (y.1, 6, .inl v_seen)), (a_trial, .inr (3, [.int v_trial_size, .ref a_trial_values])), (a_now_values, .inl (y.1, 20, .inl v_now_values)), (a_trial_values, .inl (y.1, 20, .inl v_trial_values_72))] → va_S A s.heap H locs → W p l e (headSpec wsX8_someOtherValueFits ({ frames := 5, cells := 0, slots := 0, locals := 110 } : Room)).room s m ([.ref a, .int x1] : List Value).toArray below meth c H locs 0 0 (MQ below (va_Qi K (bW D y A (fun u : ((Nat → Int32)) => [(a, .inr (5, [.ref a_now, .ref a_trial, .ref a_reader, .ref a_history, .ref a_congruences, .ref a_terms, .ref a_text, .int v_letters, .ref a_seen, .int v_seenSoFar, .ref a_images, .int v_keptImages])), (a_now, .inr (3, [.int v_now_size, .ref a_now_values])), (a_seen, .inl (y.1, 6, .inl v_seen)), (a_trial, .inr (3, [.int v_trial_size, .ref a_trial_values])), (a_now_values, .inl (y.1, 20, .inl v_now_values)), (a_trial_values, .inl (y.1, 20, .inl u))])) A) ([.ref a, .int x1] : List Value).toArray s 0 0 A) (F0 m 72 ls []) := by
    intro x2_72 x3_72 v_trial_values_72 ls H locs h hl hP hD hS
    unfold m_X8_someOtherValueFits_j72 at h
    refine lv_aload_n hx hb dX8_someOtherValueFits_72 rfl (lv_at hl 0 rfl) ?_
    refine va_get (D := D) (ci := 5) (v := .ref a_trial) (C := RX8) (T := TX8) (N := 12) hx hb hts iX8 hown hK hP 0 rfl rfl 1 (by decide) fl16 (fun _ h9 => h9) rfl dX8_someOtherValueFits_73 ?_
    refine lv_iload_n hx hb dX8_someOtherValueFits_76 rfl (lv_at hl 1 rfl) ?_
    refine lv_iload_n hx hb dX8_someOtherValueFits_77 rfl (lv_at hl 2 rfl) ?_
    refine cw_v (wn := fun u1 => [(a, .inr (5, [.ref a_now, .ref a_trial, .ref a_reader, .ref a_history, .ref a_congruences, .ref a_terms, .ref a_text, .int v_letters, .ref a_seen, .int v_seenSoFar, .ref a_images, .int v_keptImages])), (a_now, .inr (3, [.int v_now_size, .ref a_now_values])), (a_seen, .inl (y.1, 6, .inl v_seen)), (a_trial, .inr (3, [.int v_trial_size, .ref a_trial_values])), (a_now_values, .inl (y.1, 20, .inl v_now_values)), (a_trial_values, .inl (y.1, 20, .inl u1))]) (wr := [(a, .inr (5, [.ref a_now, .ref a_trial, .ref a_reader, .ref a_history, .ref a_congruences, .ref a_terms, .ref a_text, .int v_letters, .ref a_seen, .int v_seenSoFar, .ref a_images, .int v_keptImages])), (a_now, .inr (3, [.int v_now_size, .ref a_now_values])), (a_seen, .inl (y.1, 6, .inl v_seen)), (a_now_values, .inl (y.1, 20, .inl v_now_values))]) (wv (As := [.int x1, .int x2_72]) (rest := []) ⟨hx, hb, hml, hown, hts⟩ (c_X6_put l D y a_trial a_trial_values v_trial_size v_trial_values_72 x1 x2_72 _ _ rfl _ (sat_bind h)) (cwV 2 hts gX8_someOtherValueFits_X6_put rfl rfl rfl (by decide +kernel) ⟨Nat.le_of_ble_eq_true rfl, Nat.le_of_ble_eq_true rfl⟩) hK hP hD [3, 5] rfl rfl rfl 3 3 rfl rfl rfl rfl hl.1 rfl (Nat.le_of_ble_eq_true rfl) dX8_someOtherValueFits_78 ⟨Nat.zero_le _, Nat.zero_le _⟩) hS hP hD hA [3, 5] [0, 1, 2, 4] [0, 1, 2, 4, 3, 5] rfl rfl rfl (by decide) (fun _ => rfl) rfl (fun _ => rfl) (fun u1 H locs h hP hD hS => ?_)
    refine lv_iload_n hx hb dX8_someOtherValueFits_81 rfl (lv_at hl 3 rfl) ?_
    obtain ⟨hz, h⟩ := sat_gd h
    have h := sat_some h
    exact W.zret (v := x3_72) hx hb hr (zn hz) (fun t ht hW => ⟨⟨x3_72, u1, rfl, h, by rw [ht]; exact hP, va_K.moved hW.alike hK, hD⟩, hS.F ht⟩) hS.2.2 dX8_someOtherValueFits_82
  unfold m_X8_someOtherValueFits at h
  refine lv_aload_n hx hb dX8_someOtherValueFits_0 rfl (lv_at hl 0 rfl) ?_
  refine va_get (D := D) (ci := 5) (v := .ref a_now) (C := RX8) (T := TX8) (N := 12) hx hb hts iX8 hown hK hP 0 rfl rfl 0 (by decide) fl10 (fun _ h9 => h9) rfl dX8_someOtherValueFits_1 ?_
  refine lv_iload_n hx hb dX8_someOtherValueFits_4 rfl (lv_at hl 1 rfl) ?_
  refine cr_i (rv (As := [.int x1]) (rest := []) ⟨hx, hb, hml, hown, hts⟩ (c_X6_at l D y a_now a_now_values v_now_size v_now_values x1 _ (sat_bind h)) (cwV 1 hts gX8_someOtherValueFits_X6_at rfl rfl rfl (by decide +kernel) ⟨Nat.le_of_ble_eq_true rfl, Nat.le_of_ble_eq_true rfl⟩) hK hP [1, 4] rfl 1 3 rfl rfl rfl rfl hl.1 rfl (Nat.le_of_ble_eq_true rfl) dX8_someOtherValueFits_5 ⟨Nat.zero_le _, Nat.zero_le _⟩) (fun r2 h => ?_)
  refine lv_istore_n (lv' := [(2, .int r2), (0, .ref a), (1, .int x1)]) hx hb dX8_someOtherValueFits_8 rfl hl (by decide) rfl (fun ls hl => ?_)
  refine lv_iconst (v := 0) hx hb dX8_someOtherValueFits_9 (by decide) ?_
  refine lv_istore_n (lv' := [(3, .int 0), (2, .int r2), (0, .ref a), (1, .int x1)]) hx hb dX8_someOtherValueFits_10 rfl hl (by decide) rfl (fun ls hl => ?_)
  refine lv_iconst (v := 0) hx hb dX8_someOtherValueFits_11 (by decide) ?_
  refine lv_istore (lv' := [(4, .int 0), (3, .int 0), (2, .int r2), (0, .ref a), (1, .int x1)]) hx hb dX8_someOtherValueFits_12 hl (by decide) rfl (fun ls hl => ?_)
  have hL14 : ∀ (K14 : (Int32 × (Nat → Int32)) → Prop)
      (hE14 : ∀ (z14 : (Int32 × (Nat → Int32))) (ls : Array Slot) (H : Heap) (locs : List Loc), K14 z14 → lv_has ls 5 [(0, .ref a), (1, .int x1), (2, .int r2), (3, .int z14.1)] → va_P D vwCl [(a, .inr (5, [.ref a_now, .ref a_trial, .ref a_reader, .ref a_history, .ref a_congruences, .ref a_terms, .ref a_text, .int v_letters, .ref a_seen, .int v_seenSoFar, .ref a_images, .int v_keptImages])), (a_now, .inr (3, [.int v_now_size, .ref a_now_values])), (a_seen, .inl (y.1, 6, .inl v_seen)), (a_trial, .inr (3, [.int v_trial_size, .ref a_trial_values])), (a_now_values, .inl (y.1, 20, .inl v_now_values)), (a_trial_values, .inl (y.1, 20, .inl z14.2))] H → va_D A [(a, .inr (5, [.ref a_now, .ref a_trial, .ref a_reader, .ref a_history, .ref a_congruences, .ref a_terms, .ref a_text, .int v_letters, .ref a_seen, .int v_seenSoFar, .ref a_images, .int v_keptImages])), (a_now, .inr (3, [.int v_now_size, .ref a_now_values])), (a_seen, .inl (y.1, 6, .inl v_seen)), (a_trial, .inr (3, [.int v_trial_size, .ref a_trial_values])), (a_now_values, .inl (y.1, 20, .inl v_now_values)), (a_trial_values, .inl (y.1, 20, .inl z14.2))] → va_S A s.heap H locs → W p l e (headSpec wsX8_someOtherValueFits ({ frames := 5, cells := 0, slots := 0, locals := 110 } : Room)).room s m ([.ref a, .int x1] : List Value).toArray below meth c H locs 0 0 (MQ below (va_Qi K (bW D y A (fun u : ((Nat → Int32)) => [(a, .inr (5, [.ref a_now, .ref a_trial, .ref a_reader, .ref a_history, .ref a_congruences, .ref a_terms, .ref a_text, .int v_letters, .ref a_seen, .int v_seenSoFar, .ref a_images, .int v_keptImages])), (a_now, .inr (3, [.int v_now_size, .ref a_now_values])), (a_seen, .inl (y.1, 6, .inl v_seen)), (a_trial, .inr (3, [.int v_trial_size, .ref a_trial_values])), (a_now_values, .inl (y.1, 20, .inl v_now_values)), (a_trial_values, .inl (y.1, 20, .inl u))])) A) ([.ref a, .int x1] : List Value).toArray s 0 0 A) (F0 m 72 ls []))
      (n : Nat) (x3_14 : Int32) (x4_14 : Int32) (v_trial_values_14 : Nat → Int32) (ls : Array Slot) (H : Heap) (locs : List Loc), sat (lp (fun q : (Int32 × Int32 × (Nat → Int32)) => m_X8_someOtherValueFits_s14 v_seenSoFar v_now_size v_seen v_trial_size x1 r2 q.1 q.2.1 q.2.2) n (x3_14, x4_14, v_trial_values_14)) K14 → lv_has ls 5 [(0, .ref a), (1, .int x1), (2, .int r2), (3, .int x3_14), (4, .int x4_14)] → va_P D vwCl [(a, .inr (5, [.ref a_now, .ref a_trial, .ref a_reader, .ref a_history, .ref a_congruences, .ref a_terms, .ref a_text, .int v_letters, .ref a_seen, .int v_seenSoFar, .ref a_images, .int v_keptImages])), (a_now, .inr (3, [.int v_now_size, .ref a_now_values])), (a_seen, .inl (y.1, 6, .inl v_seen)), (a_trial, .inr (3, [.int v_trial_size, .ref a_trial_values])), (a_now_values, .inl (y.1, 20, .inl v_now_values)), (a_trial_values, .inl (y.1, 20, .inl v_trial_values_14))] H → va_D A [(a, .inr (5, [.ref a_now, .ref a_trial, .ref a_reader, .ref a_history, .ref a_congruences, .ref a_terms, .ref a_text, .int v_letters, .ref a_seen, .int v_seenSoFar, .ref a_images, .int v_keptImages])), (a_now, .inr (3, [.int v_now_size, .ref a_now_values])), (a_seen, .inl (y.1, 6, .inl v_seen)), (a_trial, .inr (3, [.int v_trial_size, .ref a_trial_values])), (a_now_values, .inl (y.1, 20, .inl v_now_values)), (a_trial_values, .inl (y.1, 20, .inl v_trial_values_14))] → va_S A s.heap H locs → W p l e (headSpec wsX8_someOtherValueFits ({ frames := 5, cells := 0, slots := 0, locals := 110 } : Room)).room s m ([.ref a, .int x1] : List Value).toArray below meth c H locs 0 0 (MQ below (va_Qi K (bW D y A (fun u : ((Nat → Int32)) => [(a, .inr (5, [.ref a_now, .ref a_trial, .ref a_reader, .ref a_history, .ref a_congruences, .ref a_terms, .ref a_text, .int v_letters, .ref a_seen, .int v_seenSoFar, .ref a_images, .int v_keptImages])), (a_now, .inr (3, [.int v_now_size, .ref a_now_values])), (a_seen, .inl (y.1, 6, .inl v_seen)), (a_trial, .inr (3, [.int v_trial_size, .ref a_trial_values])), (a_now_values, .inl (y.1, 20, .inl v_now_values)), (a_trial_values, .inl (y.1, 20, .inl u))])) A) ([.ref a, .int x1] : List Value).toArray s 0 0 A) (F0 m 14 ls []) := by
    intro K14 hE14 n
    induction n with
    | zero => intro x3_14 x4_14 v_trial_values_14 ls H locs h; exact (sat_lp0 h).elim
    | succ n ih =>
      intro x3_14 x4_14 v_trial_values_14 ls H locs h hl hP hD hS
      have h := sat_lp h
      have h : sat (m_X8_someOtherValueFits_s14 v_seenSoFar v_now_size v_seen v_trial_size x1 r2 x3_14 x4_14 v_trial_values_14) (lk (fun s' => sat (lp (fun q : (Int32 × Int32 × (Nat → Int32)) => m_X8_someOtherValueFits_s14 v_seenSoFar v_now_size v_seen v_trial_size x1 r2 q.1 q.2.1 q.2.2) n s') K14) K14) := h
      unfold m_X8_someOtherValueFits_s14 at h
      refine lv_iload hx hb dX8_someOtherValueFits_14 (lv_at hl 4 rfl) ?_
      refine lv_aload_n hx hb dX8_someOtherValueFits_16 rfl (lv_at hl 0 rfl) ?_
      refine va_get (D := D) (ci := 5) (v := .ref a_now) (C := RX8) (T := TX8) (N := 12) hx hb hts iX8 hown hK hP 0 rfl rfl 0 (by decide) fl10 (fun _ h9 => h9) rfl dX8_someOtherValueFits_17 ?_
      refine va_get (D := D) (ci := 3) (v := .int v_now_size) (C := RX6) (T := TX6) (N := 2) hx hb hts iX6 hown hK hP 1 rfl rfl 0 (by decide) fl187 (fun _ h9 => h9) rfl dX8_someOtherValueFits_20 ?_
      refine lv_icmp_ge (tgt := 72) hx hb dX8_someOtherValueFits_23 (by decide) (fun c23 => ?_) (fun c23 => ?_)
      · have h := sat_t c23 h
        have h := lk_r (sat_some h)
        exact hE14 (x3_14, v_trial_values_14) ls H locs h (lv_sub hl [0, 1, 2, 3] rfl) hP hD hS
      · have h := sat_f c23 h
        refine lv_iload_n hx hb dX8_someOtherValueFits_26 rfl (lv_at hl 3 rfl) ?_
        refine lv_if_ne (tgt := 72) hx hb dX8_someOtherValueFits_27 (by decide) (fun c27 => ?_) (fun c27 => ?_)
        · have h := sat_f c27 h
          have h := lk_r (sat_some h)
          exact hE14 (x3_14, v_trial_values_14) ls H locs h (lv_sub hl [0, 1, 2, 3] rfl) hP hD hS
        · have h := sat_t c27 h
          refine lv_aload_n hx hb dX8_someOtherValueFits_30 rfl (lv_at hl 0 rfl) ?_
          refine va_get (D := D) (ci := 5) (v := .ref a_trial) (C := RX8) (T := TX8) (N := 12) hx hb hts iX8 hown hK hP 0 rfl rfl 1 (by decide) fl16 (fun _ h9 => h9) rfl dX8_someOtherValueFits_31 ?_
          refine lv_iload_n hx hb dX8_someOtherValueFits_34 rfl (lv_at hl 1 rfl) ?_
          refine lv_iload hx hb dX8_someOtherValueFits_35 (lv_at hl 4 rfl) ?_
          refine cw_v (wn := fun u4 => [(a, .inr (5, [.ref a_now, .ref a_trial, .ref a_reader, .ref a_history, .ref a_congruences, .ref a_terms, .ref a_text, .int v_letters, .ref a_seen, .int v_seenSoFar, .ref a_images, .int v_keptImages])), (a_now, .inr (3, [.int v_now_size, .ref a_now_values])), (a_seen, .inl (y.1, 6, .inl v_seen)), (a_trial, .inr (3, [.int v_trial_size, .ref a_trial_values])), (a_now_values, .inl (y.1, 20, .inl v_now_values)), (a_trial_values, .inl (y.1, 20, .inl u4))]) (wr := [(a, .inr (5, [.ref a_now, .ref a_trial, .ref a_reader, .ref a_history, .ref a_congruences, .ref a_terms, .ref a_text, .int v_letters, .ref a_seen, .int v_seenSoFar, .ref a_images, .int v_keptImages])), (a_now, .inr (3, [.int v_now_size, .ref a_now_values])), (a_seen, .inl (y.1, 6, .inl v_seen)), (a_now_values, .inl (y.1, 20, .inl v_now_values))]) (wv (As := [.int x1, .int x4_14]) (rest := []) ⟨hx, hb, hml, hown, hts⟩ (c_X6_put l D y a_trial a_trial_values v_trial_size v_trial_values_14 x1 x4_14 _ _ rfl _ (sat_bind h)) (cwV 2 hts gX8_someOtherValueFits_X6_put rfl rfl rfl (by decide +kernel) ⟨Nat.le_of_ble_eq_true rfl, Nat.le_of_ble_eq_true rfl⟩) hK hP hD [3, 5] rfl rfl rfl 3 3 rfl rfl rfl rfl hl.1 rfl (Nat.le_of_ble_eq_true rfl) dX8_someOtherValueFits_37 ⟨Nat.zero_le _, Nat.zero_le _⟩) hS hP hD hA [3, 5] [0, 1, 2, 4] [0, 1, 2, 4, 3, 5] rfl rfl rfl (by decide) (fun _ => rfl) rfl (fun _ => rfl) (fun u4 H locs h hP hD hS => ?_)
          refine lv_iload hx hb dX8_someOtherValueFits_40 (lv_at hl 4 rfl) ?_
          refine lv_iload_n hx hb dX8_someOtherValueFits_42 rfl (lv_at hl 2 rfl) ?_
          refine lv_icmp_eq (tgt := 64) hx hb dX8_someOtherValueFits_43 (by decide) (fun c43 => ?_) (fun c43 => ?_)
          · have h := sat_t c43 h
            refine lv_iconst (v := 0) hx hb dX8_someOtherValueFits_64 (by decide) ?_
            refine lv_istore_n (lv' := [(3, .int 0), (0, .ref a), (1, .int x1), (2, .int r2), (4, .int x4_14)]) hx hb dX8_someOtherValueFits_65 rfl hl (by decide) rfl (fun ls hl => ?_)
            refine lv_iinc (v := x4_14 + 1) (lv' := [(4, .int (x4_14 + 1)), (3, .int 0), (0, .ref a), (1, .int x1), (2, .int r2)]) hx hb dX8_someOtherValueFits_66 hl (k := 4) rfl rfl (by decide) rfl (fun ls hl => ?_)
            refine lv_goto (tgt := 14) hx hb dX8_someOtherValueFits_69 (by decide) ?_
            have h := lk_l (sat_some h)
            exact ih 0 (x4_14 + 1) u4 ls H locs h (lv_sub hl [2, 3, 4, 1, 0] rfl) hP hD hS
          · have h := sat_f c43 h
            refine lv_aload_n hx hb dX8_someOtherValueFits_46 rfl (lv_at hl 0 rfl) ?_
            refine lv_aload_n hx hb dX8_someOtherValueFits_47 rfl (lv_at hl 0 rfl) ?_
            refine va_get (D := D) (ci := 5) (v := .ref a_trial) (C := RX8) (T := TX8) (N := 12) hx hb hts iX8 hown hK hP 0 rfl rfl 1 (by decide) fl16 (fun _ h9 => h9) rfl dX8_someOtherValueFits_48 ?_
            refine cr_i (rs (As := [.ref a_trial]) (rest := [.ref a]) ⟨hx, hb, hml, hown, hts⟩ (c_X0_howMany l D y a_trial a_trial_values v_trial_size u4 _ (sat_bind h)) (va_cwS 1 hts gX8_someOtherValueFits_X0_howMany rfl rfl rfl (by decide +kernel) ⟨Nat.le_of_ble_eq_true rfl, Nat.le_of_ble_eq_true rfl⟩) hK hP [3, 5] rfl rfl hl.1 rfl (Nat.le_of_ble_eq_true rfl) dX8_someOtherValueFits_51 ⟨Nat.zero_le _, Nat.zero_le _⟩) (fun r5 h => ?_)
            refine cr_i (rv (As := [.int r5]) (rest := []) ⟨hx, hb, hml, hown, hts⟩ (c_X8_allSeenIs l D y a a_seen a_now a_trial a_reader a_history a_congruences a_terms a_text a_images v_letters v_seenSoFar v_keptImages v_seen r5 _ (sat_bind h)) (cwV 1 hts gX8_someOtherValueFits_X8_allSeenIs rfl rfl rfl (by decide +kernel) ⟨Nat.le_of_ble_eq_true rfl, Nat.le_of_ble_eq_true rfl⟩) hK hP [0, 2] rfl 0 5 rfl rfl rfl rfl hl.1 rfl (Nat.le_of_ble_eq_true rfl) dX8_someOtherValueFits_54 ⟨Nat.zero_le _, Nat.zero_le _⟩) (fun r6 h => ?_)
            refine lv_if_eq (tgt := 64) hx hb dX8_someOtherValueFits_57 (by decide) (fun c57 => ?_) (fun c57 => ?_)
            · have h := sat_t c57 h
              refine lv_iconst (v := 0) hx hb dX8_someOtherValueFits_64 (by decide) ?_
              refine lv_istore_n (lv' := [(3, .int 0), (0, .ref a), (1, .int x1), (2, .int r2), (4, .int x4_14)]) hx hb dX8_someOtherValueFits_65 rfl hl (by decide) rfl (fun ls hl => ?_)
              refine lv_iinc (v := x4_14 + 1) (lv' := [(4, .int (x4_14 + 1)), (3, .int 0), (0, .ref a), (1, .int x1), (2, .int r2)]) hx hb dX8_someOtherValueFits_66 hl (k := 4) rfl rfl (by decide) rfl (fun ls hl => ?_)
              refine lv_goto (tgt := 14) hx hb dX8_someOtherValueFits_69 (by decide) ?_
              have h := lk_l (sat_some h)
              exact ih 0 (x4_14 + 1) u4 ls H locs h (lv_sub hl [2, 3, 4, 1, 0] rfl) hP hD hS
            · have h := sat_f c57 h
              refine lv_iconst (v := 1) hx hb dX8_someOtherValueFits_60 (by decide) ?_
              refine lv_goto (tgt := 65) hx hb dX8_someOtherValueFits_61 (by decide) ?_
              refine lv_istore_n (lv' := [(3, .int 1), (0, .ref a), (1, .int x1), (2, .int r2), (4, .int x4_14)]) hx hb dX8_someOtherValueFits_65 rfl hl (by decide) rfl (fun ls hl => ?_)
              refine lv_iinc (v := x4_14 + 1) (lv' := [(4, .int (x4_14 + 1)), (3, .int 1), (0, .ref a), (1, .int x1), (2, .int r2)]) hx hb dX8_someOtherValueFits_66 hl (k := 4) rfl rfl (by decide) rfl (fun ls hl => ?_)
              refine lv_goto (tgt := 14) hx hb dX8_someOtherValueFits_69 (by decide) ?_
              have h := lk_l (sat_some h)
              exact ih 1 (x4_14 + 1) u4 ls H locs h (lv_sub hl [2, 3, 4, 1, 0] rfl) hP hD hS
  have h := sat_bind h
  refine hL14 _ (fun z14 ls H locs h hl hP hD hS => ?_) 1000 0 0 v_trial_values ls s.heap [] h (lv_sub hl [3, 4, 2, 1, 0] rfl) hP hD hS
  exact hJ72 r2 z14.1 z14.2 ls H locs h hl hP hD hS

/-! X8_unseen -/
set_option maxHeartbeats 4000000 in
set_option maxRecDepth 100000 in
theorem c_X8_unseen (l : Launch) (D : va_G) (y : ClassId × ClassId × ClassId × ClassId) (a a_now a_seen a_trial a_now_values a_trial_values a_reader a_history a_congruences a_terms a_text a_images : Nat) (v_letters : Int32) (v_seenSoFar : Int32) (v_keptImages : Int32) (v_now_size : Int32) (v_seen : Nat → Int32) (v_trial_size : Int32) (v_now_values : Nat → Int32) (v_trial_values : Nat → Int32) (sz : Nat) (A : Nat → Prop) (hAe : va_A [(a, .inr (5, [.ref a_now, .ref a_trial, .ref a_reader, .ref a_history, .ref a_congruences, .ref a_terms, .ref a_text, .int v_letters, .ref a_seen, .int v_seenSoFar, .ref a_images, .int v_keptImages])), (a_now, .inr (3, [.int v_now_size, .ref a_now_values])), (a_seen, .inl (y.1, 6, .inl v_seen)), (a_trial, .inr (3, [.int v_trial_size, .ref a_trial_values])), (a_now_values, .inl (y.1, 20, .inl v_now_values)), (a_trial_values, .inl (y.1, 20, .inl v_trial_values))] sz = A) (K : Int32 → (Int32 × (Nat → Int32)) → Prop) (h : sat (m_X8_unseen v_seenSoFar v_now_size v_seen v_trial_size v_now_values v_trial_values) (pK K)) : Met l yX8_unseen wsX8_unseen ({ frames := 6, cells := 0, slots := 0, locals := 134 } : Room) (pW D y ([.ref a] : List Value) [(a, .inr (5, [.ref a_now, .ref a_trial, .ref a_reader, .ref a_history, .ref a_congruences, .ref a_terms, .ref a_text, .int v_letters, .ref a_seen, .int v_seenSoFar, .ref a_images, .int v_keptImages])), (a_now, .inr (3, [.int v_now_size, .ref a_now_values])), (a_seen, .inl (y.1, 6, .inl v_seen)), (a_trial, .inr (3, [.int v_trial_size, .ref a_trial_values])), (a_now_values, .inl (y.1, 20, .inl v_now_values)), (a_trial_values, .inl (y.1, 20, .inl v_trial_values))] sz) (va_Qi K (bW D y A (fun u : (Int32 × (Nat → Int32)) => [(a, .inr (5, [.ref a_now, .ref a_trial, .ref a_reader, .ref a_history, .ref a_congruences, .ref a_terms, .ref a_text, .int v_letters, .ref a_seen, .int v_seenSoFar, .ref a_images, .int v_keptImages])), (a_now, .inr (3, [.int v_now_size, .ref a_now_values])), (a_seen, .inl (y.1, 6, .inl v_seen)), (a_trial, .inr (3, [.int u.1, .ref a_trial_values])), (a_now_values, .inl (y.1, 20, .inl v_now_values)), (a_trial_values, .inl (y.1, 20, .inl u.2))])) A) 0 0 A := by
  refine Met.ofW (cc := cX8_unseen) (maxL := 4) (ret := (some .int)) (by decide) rfl ?_
  intro p e s m args below meth c s₁ B hml hv
  obtain ⟨rfl, hsz, hP, hK, hD0⟩ := hv
  have hx := B.exec
  have hb := B.bytes
  have hr := B.returns
  have hts := atoms_spec (ws := wsX8_unseen) B.pre
  have hown : s.vm.findClass RX8 = some m.cls := findClass_of_methodNamed B.named
  have hlocks := B.notSynchronized
  subst hsz
  have hD : va_D A [(a, .inr (5, [.ref a_now, .ref a_trial, .ref a_reader, .ref a_history, .ref a_congruences, .ref a_terms, .ref a_text, .int v_letters, .ref a_seen, .int v_seenSoFar, .ref a_images, .int v_keptImages])), (a_now, .inr (3, [.int v_now_size, .ref a_now_values])), (a_seen, .inl (y.1, 6, .inl v_seen)), (a_trial, .inr (3, [.int v_trial_size, .ref a_trial_values])), (a_now_values, .inl (y.1, 20, .inl v_now_values)), (a_trial_values, .inl (y.1, 20, .inl v_trial_values))] := hAe ▸ hD0.self
  have hA : ∀ q : Nat, s.heap.size ≤ q → A q := fun q h => hAe ▸ Or.inr h
  have hS : va_S A s.heap s.heap [] := va_S.rf
  have iX6 : ∀ w ∈ wsX60, w ∈ wsX8_unseen := by decide +kernel
  have iX8 : ∀ w ∈ wsX80, w ∈ wsX8_unseen := by decide +kernel
  have fl16 := hts (.fieldLink RX8 16 "AlgebraLaws" "trial" "LAlgebraLaws$Tables;") (by decide +kernel)
  have fl10 := hts (.fieldLink RX8 10 "AlgebraLaws" "now" "LAlgebraLaws$Tables;") (by decide +kernel)
  have fl187 := hts (.fieldLink RX8 187 "AlgebraLaws$Tables" "size" "I") (by decide +kernel)
  have hl := lv_entry ([.ref a] : List Value) (n := 4) (Nat.le_of_ble_eq_true rfl)
  rw [lg_entry_eq]
  generalize (lg_sl ([.ref a] : List Value) ++ List.replicate (4 - (lg_sl ([.ref a] : List Value)).length) Slot.unset).toArray = ls at hl ⊢
  have hl : lv_has ls 4 [(0, .ref a)] := hl
  unfold m_X8_unseen at h
  refine lv_iconst (v := 0) hx hb dX8_unseen_0 (by decide) ?_
  refine lv_istore_n (lv' := [(1, .int 0), (0, .ref a)]) hx hb dX8_unseen_1 rfl hl (by decide) rfl (fun ls hl => ?_)
  refine lv_aload_n hx hb dX8_unseen_2 rfl (lv_at hl 1 rfl) ?_
  refine va_get (D := D) (ci := 5) (v := .ref a_trial) (C := RX8) (T := TX8) (N := 12) hx hb hts iX8 hown hK hP 0 rfl rfl 1 (by decide) fl16 (fun _ h9 => h9) rfl dX8_unseen_3 ?_
  refine lv_aload_n hx hb dX8_unseen_6 rfl (lv_at hl 1 rfl) ?_
  refine va_get (D := D) (ci := 5) (v := .ref a_now) (C := RX8) (T := TX8) (N := 12) hx hb hts iX8 hown hK hP 0 rfl rfl 0 (by decide) fl10 (fun _ h9 => h9) rfl dX8_unseen_7 ?_
  refine cw_v (wn := fun u1 => [(a, .inr (5, [.ref a_now, .ref a_trial, .ref a_reader, .ref a_history, .ref a_congruences, .ref a_terms, .ref a_text, .int v_letters, .ref a_seen, .int v_seenSoFar, .ref a_images, .int v_keptImages])), (a_now, .inr (3, [.int v_now_size, .ref a_now_values])), (a_seen, .inl (y.1, 6, .inl v_seen)), (a_trial, .inr (3, [.int u1.1, .ref a_trial_values])), (a_now_values, .inl (y.1, 20, .inl v_now_values)), (a_trial_values, .inl (y.1, 20, .inl u1.2))]) (wr := [(a, .inr (5, [.ref a_now, .ref a_trial, .ref a_reader, .ref a_history, .ref a_congruences, .ref a_terms, .ref a_text, .int v_letters, .ref a_seen, .int v_seenSoFar, .ref a_images, .int v_keptImages])), (a_seen, .inl (y.1, 6, .inl v_seen))]) (wv (As := [.ref a_now]) (rest := []) ⟨hx, hb, hml, hown, hts⟩ (c_X6_copyFrom l D y a_trial a_trial_values a_now a_now_values v_trial_size v_trial_values v_now_size v_now_values _ _ rfl _ (sat_bind h)) (cwV 1 hts gX8_unseen_X6_copyFrom rfl rfl rfl (by decide +kernel) ⟨Nat.le_of_ble_eq_true rfl, Nat.le_of_ble_eq_true rfl⟩) hK hP hD [3, 5, 1, 4] rfl rfl rfl 3 3 rfl rfl rfl rfl hl.1 rfl (Nat.le_of_ble_eq_true rfl) dX8_unseen_10 ⟨Nat.zero_le _, Nat.zero_le _⟩) hS hP hD hA [3, 5, 1, 4] [0, 2] [0, 4, 1, 2, 5, 3] rfl rfl rfl (by decide) (fun _ => rfl) rfl (fun _ => rfl) (fun u1 H locs h hP hD hS => ?_)
  refine lv_iconst (v := 0) hx hb dX8_unseen_13 (by decide) ?_
  refine lv_istore_n (lv' := [(2, .int 0), (1, .int 0), (0, .ref a)]) hx hb dX8_unseen_14 rfl hl (by decide) rfl (fun ls hl => ?_)
  have hL15 : ∀ (K15 : (Int32 × (Nat → Int32)) → Prop)
      (hE15 : ∀ (z15 : (Int32 × (Nat → Int32))) (ls : Array Slot) (H : Heap) (locs : List Loc), K15 z15 → lv_has ls 4 [(1, .int z15.1)] → va_P D vwCl [(a, .inr (5, [.ref a_now, .ref a_trial, .ref a_reader, .ref a_history, .ref a_congruences, .ref a_terms, .ref a_text, .int v_letters, .ref a_seen, .int v_seenSoFar, .ref a_images, .int v_keptImages])), (a_now, .inr (3, [.int v_now_size, .ref a_now_values])), (a_seen, .inl (y.1, 6, .inl v_seen)), (a_trial, .inr (3, [.int u1.1, .ref a_trial_values])), (a_now_values, .inl (y.1, 20, .inl v_now_values)), (a_trial_values, .inl (y.1, 20, .inl z15.2))] H → va_D A [(a, .inr (5, [.ref a_now, .ref a_trial, .ref a_reader, .ref a_history, .ref a_congruences, .ref a_terms, .ref a_text, .int v_letters, .ref a_seen, .int v_seenSoFar, .ref a_images, .int v_keptImages])), (a_now, .inr (3, [.int v_now_size, .ref a_now_values])), (a_seen, .inl (y.1, 6, .inl v_seen)), (a_trial, .inr (3, [.int u1.1, .ref a_trial_values])), (a_now_values, .inl (y.1, 20, .inl v_now_values)), (a_trial_values, .inl (y.1, 20, .inl z15.2))] → va_S A s.heap H locs → W p l e (headSpec wsX8_unseen ({ frames := 6, cells := 0, slots := 0, locals := 134 } : Room)).room s m ([.ref a] : List Value).toArray below meth c H locs 0 0 (MQ below (va_Qi K (bW D y A (fun u : (Int32 × (Nat → Int32)) => [(a, .inr (5, [.ref a_now, .ref a_trial, .ref a_reader, .ref a_history, .ref a_congruences, .ref a_terms, .ref a_text, .int v_letters, .ref a_seen, .int v_seenSoFar, .ref a_images, .int v_keptImages])), (a_now, .inr (3, [.int v_now_size, .ref a_now_values])), (a_seen, .inl (y.1, 6, .inl v_seen)), (a_trial, .inr (3, [.int u.1, .ref a_trial_values])), (a_now_values, .inl (y.1, 20, .inl v_now_values)), (a_trial_values, .inl (y.1, 20, .inl u.2))])) A) ([.ref a] : List Value).toArray s 0 0 A) (F0 m 79 ls []))
      (n : Nat) (x1_15 : Int32) (x2_15 : Int32) (v_trial_values_15 : Nat → Int32) (ls : Array Slot) (H : Heap) (locs : List Loc), sat (lp (fun q : (Int32 × Int32 × (Nat → Int32)) => m_X8_unseen_s15 v_seenSoFar v_now_size v_seen v_now_values u1 q.1 q.2.1 q.2.2) n (x1_15, x2_15, v_trial_values_15)) K15 → lv_has ls 4 [(0, .ref a), (1, .int x1_15), (2, .int x2_15)] → va_P D vwCl [(a, .inr (5, [.ref a_now, .ref a_trial, .ref a_reader, .ref a_history, .ref a_congruences, .ref a_terms, .ref a_text, .int v_letters, .ref a_seen, .int v_seenSoFar, .ref a_images, .int v_keptImages])), (a_now, .inr (3, [.int v_now_size, .ref a_now_values])), (a_seen, .inl (y.1, 6, .inl v_seen)), (a_trial, .inr (3, [.int u1.1, .ref a_trial_values])), (a_now_values, .inl (y.1, 20, .inl v_now_values)), (a_trial_values, .inl (y.1, 20, .inl v_trial_values_15))] H → va_D A [(a, .inr (5, [.ref a_now, .ref a_trial, .ref a_reader, .ref a_history, .ref a_congruences, .ref a_terms, .ref a_text, .int v_letters, .ref a_seen, .int v_seenSoFar, .ref a_images, .int v_keptImages])), (a_now, .inr (3, [.int v_now_size, .ref a_now_values])), (a_seen, .inl (y.1, 6, .inl v_seen)), (a_trial, .inr (3, [.int u1.1, .ref a_trial_values])), (a_now_values, .inl (y.1, 20, .inl v_now_values)), (a_trial_values, .inl (y.1, 20, .inl v_trial_values_15))] → va_S A s.heap H locs → W p l e (headSpec wsX8_unseen ({ frames := 6, cells := 0, slots := 0, locals := 134 } : Room)).room s m ([.ref a] : List Value).toArray below meth c H locs 0 0 (MQ below (va_Qi K (bW D y A (fun u : (Int32 × (Nat → Int32)) => [(a, .inr (5, [.ref a_now, .ref a_trial, .ref a_reader, .ref a_history, .ref a_congruences, .ref a_terms, .ref a_text, .int v_letters, .ref a_seen, .int v_seenSoFar, .ref a_images, .int v_keptImages])), (a_now, .inr (3, [.int v_now_size, .ref a_now_values])), (a_seen, .inl (y.1, 6, .inl v_seen)), (a_trial, .inr (3, [.int u.1, .ref a_trial_values])), (a_now_values, .inl (y.1, 20, .inl v_now_values)), (a_trial_values, .inl (y.1, 20, .inl u.2))])) A) ([.ref a] : List Value).toArray s 0 0 A) (F0 m 15 ls []) := by
    intro K15 hE15 n
    induction n with
    | zero => intro x1_15 x2_15 v_trial_values_15 ls H locs h; exact (sat_lp0 h).elim
    | succ n ih =>
      intro x1_15 x2_15 v_trial_values_15 ls H locs h hl hP hD hS
      have h := sat_lp h
      have h : sat (m_X8_unseen_s15 v_seenSoFar v_now_size v_seen v_now_values u1 x1_15 x2_15 v_trial_values_15) (lk (fun s' => sat (lp (fun q : (Int32 × Int32 × (Nat → Int32)) => m_X8_unseen_s15 v_seenSoFar v_now_size v_seen v_now_values u1 q.1 q.2.1 q.2.2) n s') K15) K15) := h
      unfold m_X8_unseen_s15 at h
      refine lv_iload_n hx hb dX8_unseen_15 rfl (lv_at hl 2 rfl) ?_
      refine lv_aload_n hx hb dX8_unseen_16 rfl (lv_at hl 0 rfl) ?_
      refine va_get (D := D) (ci := 5) (v := .ref a_now) (C := RX8) (T := TX8) (N := 12) hx hb hts iX8 hown hK hP 0 rfl rfl 0 (by decide) fl10 (fun _ h9 => h9) rfl dX8_unseen_17 ?_
      refine va_get (D := D) (ci := 3) (v := .int v_now_size) (C := RX6) (T := TX6) (N := 2) hx hb hts iX6 hown hK hP 1 rfl rfl 0 (by decide) fl187 (fun _ h9 => h9) rfl dX8_unseen_20 ?_
      refine lv_icmp_ge (tgt := 79) hx hb dX8_unseen_23 (by decide) (fun c23 => ?_) (fun c23 => ?_)
      · have h := sat_t c23 h
        have h := lk_r (sat_some h)
        exact hE15 (x1_15, v_trial_values_15) ls H locs h (lv_sub hl [1] rfl) hP hD hS
      · have h := sat_f c23 h
        refine lv_iconst (v := 0) hx hb dX8_unseen_26 (by decide) ?_
        refine lv_istore_n (lv' := [(3, .int 0), (0, .ref a), (1, .int x1_15), (2, .int x2_15)]) hx hb dX8_unseen_27 rfl hl (by decide) rfl (fun ls hl => ?_)
        have hL28 : ∀ (K28 : (Int32 × (Nat → Int32)) → Prop)
            (hE28 : ∀ (z28 : (Int32 × (Nat → Int32))) (ls : Array Slot) (H : Heap) (locs : List Loc), K28 z28 → lv_has ls 4 [(0, .ref a), (1, .int z28.1), (2, .int x2_15)] → va_P D vwCl [(a, .inr (5, [.ref a_now, .ref a_trial, .ref a_reader, .ref a_history, .ref a_congruences, .ref a_terms, .ref a_text, .int v_letters, .ref a_seen, .int v_seenSoFar, .ref a_images, .int v_keptImages])), (a_now, .inr (3, [.int v_now_size, .ref a_now_values])), (a_seen, .inl (y.1, 6, .inl v_seen)), (a_trial, .inr (3, [.int u1.1, .ref a_trial_values])), (a_now_values, .inl (y.1, 20, .inl v_now_values)), (a_trial_values, .inl (y.1, 20, .inl z28.2))] H → va_D A [(a, .inr (5, [.ref a_now, .ref a_trial, .ref a_reader, .ref a_history, .ref a_congruences, .ref a_terms, .ref a_text, .int v_letters, .ref a_seen, .int v_seenSoFar, .ref a_images, .int v_keptImages])), (a_now, .inr (3, [.int v_now_size, .ref a_now_values])), (a_seen, .inl (y.1, 6, .inl v_seen)), (a_trial, .inr (3, [.int u1.1, .ref a_trial_values])), (a_now_values, .inl (y.1, 20, .inl v_now_values)), (a_trial_values, .inl (y.1, 20, .inl z28.2))] → va_S A s.heap H locs → W p l e (headSpec wsX8_unseen ({ frames := 6, cells := 0, slots := 0, locals := 134 } : Room)).room s m ([.ref a] : List Value).toArray below meth c H locs 0 0 (MQ below (va_Qi K (bW D y A (fun u : (Int32 × (Nat → Int32)) => [(a, .inr (5, [.ref a_now, .ref a_trial, .ref a_reader, .ref a_history, .ref a_congruences, .ref a_terms, .ref a_text, .int v_letters, .ref a_seen, .int v_seenSoFar, .ref a_images, .int v_keptImages])), (a_now, .inr (3, [.int v_now_size, .ref a_now_values])), (a_seen, .inl (y.1, 6, .inl v_seen)), (a_trial, .inr (3, [.int u.1, .ref a_trial_values])), (a_now_values, .inl (y.1, 20, .inl v_now_values)), (a_trial_values, .inl (y.1, 20, .inl u.2))])) A) ([.ref a] : List Value).toArray s 0 0 A) (F0 m 73 ls []))
            (n : Nat) (x1_28 : Int32) (x3_28 : Int32) (v_trial_values_28 : Nat → Int32) (ls : Array Slot) (H : Heap) (locs : List Loc), sat (lp (fun q : (Int32 × Int32 × (Nat → Int32)) => m_X8_unseen_s28 v_seenSoFar v_now_size v_seen v_now_values u1 x2_15 q.1 q.2.1 q.2.2) n (x1_28, x3_28, v_trial_values_28)) K28 → lv_has ls 4 [(0, .ref a), (1, .int x1_28), (2, .int x2_15), (3, .int x3_28)] → va_P D vwCl [(a, .inr (5, [.ref a_now, .ref a_trial, .ref a_reader, .ref a_history, .ref a_congruences, .ref a_terms, .ref a_text, .int v_letters, .ref a_seen, .int v_seenSoFar, .ref a_images, .int v_keptImages])), (a_now, .inr (3, [.int v_now_size, .ref a_now_values])), (a_seen, .inl (y.1, 6, .inl v_seen)), (a_trial, .inr (3, [.int u1.1, .ref a_trial_values])), (a_now_values, .inl (y.1, 20, .inl v_now_values)), (a_trial_values, .inl (y.1, 20, .inl v_trial_values_28))] H → va_D A [(a, .inr (5, [.ref a_now, .ref a_trial, .ref a_reader, .ref a_history, .ref a_congruences, .ref a_terms, .ref a_text, .int v_letters, .ref a_seen, .int v_seenSoFar, .ref a_images, .int v_keptImages])), (a_now, .inr (3, [.int v_now_size, .ref a_now_values])), (a_seen, .inl (y.1, 6, .inl v_seen)), (a_trial, .inr (3, [.int u1.1, .ref a_trial_values])), (a_now_values, .inl (y.1, 20, .inl v_now_values)), (a_trial_values, .inl (y.1, 20, .inl v_trial_values_28))] → va_S A s.heap H locs → W p l e (headSpec wsX8_unseen ({ frames := 6, cells := 0, slots := 0, locals := 134 } : Room)).room s m ([.ref a] : List Value).toArray below meth c H locs 0 0 (MQ below (va_Qi K (bW D y A (fun u : (Int32 × (Nat → Int32)) => [(a, .inr (5, [.ref a_now, .ref a_trial, .ref a_reader, .ref a_history, .ref a_congruences, .ref a_terms, .ref a_text, .int v_letters, .ref a_seen, .int v_seenSoFar, .ref a_images, .int v_keptImages])), (a_now, .inr (3, [.int v_now_size, .ref a_now_values])), (a_seen, .inl (y.1, 6, .inl v_seen)), (a_trial, .inr (3, [.int u.1, .ref a_trial_values])), (a_now_values, .inl (y.1, 20, .inl v_now_values)), (a_trial_values, .inl (y.1, 20, .inl u.2))])) A) ([.ref a] : List Value).toArray s 0 0 A) (F0 m 28 ls []) := by
          intro K28 hE28 n
          induction n with
          | zero => intro x1_28 x3_28 v_trial_values_28 ls H locs h; exact (sat_lp0 h).elim
          | succ n ih =>
            intro x1_28 x3_28 v_trial_values_28 ls H locs h hl hP hD hS
            have h := sat_lp h
            have h : sat (m_X8_unseen_s28 v_seenSoFar v_now_size v_seen v_now_values u1 x2_15 x1_28 x3_28 v_trial_values_28) (lk (fun s' => sat (lp (fun q : (Int32 × Int32 × (Nat → Int32)) => m_X8_unseen_s28 v_seenSoFar v_now_size v_seen v_now_values u1 x2_15 q.1 q.2.1 q.2.2) n s') K28) K28) := h
            unfold m_X8_unseen_s28 at h
            refine lv_iload_n hx hb dX8_unseen_28 rfl (lv_at hl 3 rfl) ?_
            refine lv_aload_n hx hb dX8_unseen_29 rfl (lv_at hl 0 rfl) ?_
            refine va_get (D := D) (ci := 5) (v := .ref a_now) (C := RX8) (T := TX8) (N := 12) hx hb hts iX8 hown hK hP 0 rfl rfl 0 (by decide) fl10 (fun _ h9 => h9) rfl dX8_unseen_30 ?_
            refine va_get (D := D) (ci := 3) (v := .int v_now_size) (C := RX6) (T := TX6) (N := 2) hx hb hts iX6 hown hK hP 1 rfl rfl 0 (by decide) fl187 (fun _ h9 => h9) rfl dX8_unseen_33 ?_
            refine lv_icmp_ge (tgt := 73) hx hb dX8_unseen_36 (by decide) (fun c36 => ?_) (fun c36 => ?_)
            · have h := sat_t c36 h
              have h := lk_r (sat_some h)
              exact hE28 (x1_28, v_trial_values_28) ls H locs h (lv_sub hl [0, 1, 2] rfl) hP hD hS
            · have h := sat_f c36 h
              refine lv_aload_n hx hb dX8_unseen_39 rfl (lv_at hl 0 rfl) ?_
              refine lv_iload_n hx hb dX8_unseen_40 rfl (lv_at hl 2 rfl) ?_
              refine lv_iload_n hx hb dX8_unseen_41 rfl (lv_at hl 3 rfl) ?_
              refine cr_i (rs (As := [.int x2_15, .int x3_28]) (rest := [.ref a]) ⟨hx, hb, hml, hown, hts⟩ (c_X6_placeOfTwo l D y x2_15 x3_28 _ (sat_bind h)) (va_cwS 2 hts gX8_unseen_X6_placeOfTwo rfl rfl rfl (by decide +kernel) ⟨Nat.le_of_ble_eq_true rfl, Nat.le_of_ble_eq_true rfl⟩) hK hP [] rfl rfl hl.1 rfl (Nat.le_of_ble_eq_true rfl) dX8_unseen_42 ⟨Nat.zero_le _, Nat.zero_le _⟩) (fun r4 h => ?_)
              refine cw_i (wn := fun u5 => [(a, .inr (5, [.ref a_now, .ref a_trial, .ref a_reader, .ref a_history, .ref a_congruences, .ref a_terms, .ref a_text, .int v_letters, .ref a_seen, .int v_seenSoFar, .ref a_images, .int v_keptImages])), (a_now, .inr (3, [.int v_now_size, .ref a_now_values])), (a_seen, .inl (y.1, 6, .inl v_seen)), (a_trial, .inr (3, [.int u1.1, .ref a_trial_values])), (a_now_values, .inl (y.1, 20, .inl v_now_values)), (a_trial_values, .inl (y.1, 20, .inl u5))]) (wr := []) (wv (As := [.int r4]) (rest := []) ⟨hx, hb, hml, hown, hts⟩ (c_X8_someOtherValueFits l D y a a_now a_seen a_trial a_now_values a_trial_values a_reader a_history a_congruences a_terms a_text a_images v_letters v_seenSoFar v_keptImages v_now_size v_seen u1.1 v_now_values v_trial_values_28 r4 _ _ rfl _ (sat_bd2 h)) (cwV 1 hts gX8_unseen_X8_someOtherValueFits rfl rfl rfl (by decide +kernel) ⟨Nat.le_of_ble_eq_true rfl, Nat.le_of_ble_eq_true rfl⟩) hK hP hD [0, 1, 2, 3, 4, 5] rfl rfl rfl 0 5 rfl rfl rfl rfl hl.1 rfl (Nat.le_of_ble_eq_true rfl) dX8_unseen_45 ⟨Nat.zero_le _, Nat.zero_le _⟩) hS hP hD hA [0, 1, 2, 3, 4, 5] [] [0, 1, 2, 3, 4, 5] rfl rfl rfl (by decide) (fun _ => rfl) rfl (fun _ => rfl) (fun r6 u5 H locs h hP hD hS => ?_)
              refine lv_if_eq (tgt := 67) hx hb dX8_unseen_48 (by decide) (fun c48 => ?_) (fun c48 => ?_)
              · have h := sat_t c48 h
                refine lv_iinc (v := x3_28 + 1) (lv' := [(3, .int (x3_28 + 1)), (0, .ref a), (1, .int x1_28), (2, .int x2_15)]) hx hb dX8_unseen_67 hl (k := 3) rfl rfl (by decide) rfl (fun ls hl => ?_)
                refine lv_goto (tgt := 28) hx hb dX8_unseen_70 (by decide) ?_
                have h := lk_l (sat_some h)
                exact ih x1_28 (x3_28 + 1) u5 ls H locs h (lv_sub hl [1, 2, 3, 0] rfl) hP hD hS
              · have h := sat_f c48 h
                refine lv_iload_n hx hb dX8_unseen_51 rfl (lv_at hl 1 rfl) ?_
                refine lv_iconst (v := 1) hx hb dX8_unseen_52 (by decide) ?_
                refine lv_aload_n hx hb dX8_unseen_53 rfl (lv_at hl 0 rfl) ?_
                refine va_get (D := D) (ci := 5) (v := .ref a_now) (C := RX8) (T := TX8) (N := 12) hx hb hts iX8 hown hK hP 0 rfl rfl 0 (by decide) fl10 (fun _ h9 => h9) rfl dX8_unseen_54 ?_
                refine va_get (D := D) (ci := 3) (v := .int v_now_size) (C := RX6) (T := TX6) (N := 2) hx hb hts iX6 hown hK hP 1 rfl rfl 0 (by decide) fl187 (fun _ h9 => h9) rfl dX8_unseen_57 ?_
                refine lv_iload_n hx hb dX8_unseen_60 rfl (lv_at hl 2 rfl) ?_
                refine lv_imul hx hb dX8_unseen_61 ?_
                refine lv_iload_n hx hb dX8_unseen_62 rfl (lv_at hl 3 rfl) ?_
                refine lv_iadd hx hb dX8_unseen_63 ?_
                refine lv_ishl hx hb dX8_unseen_64 ?_
                refine lv_ior hx hb dX8_unseen_65 ?_
                obtain ⟨w7, ew7, h⟩ := sat_nm h
                refine tI ew7 ?_
                refine lv_istore_n (lv' := [(1, .int w7), (0, .ref a), (2, .int x2_15), (3, .int x3_28)]) hx hb dX8_unseen_66 rfl hl (by decide) rfl (fun ls hl => ?_)
                refine lv_iinc (v := x3_28 + 1) (lv' := [(3, .int (x3_28 + 1)), (1, .int w7), (0, .ref a), (2, .int x2_15)]) hx hb dX8_unseen_67 hl (k := 3) rfl rfl (by decide) rfl (fun ls hl => ?_)
                refine lv_goto (tgt := 28) hx hb dX8_unseen_70 (by decide) ?_
                have h := lk_l (sat_some h)
                exact ih w7 (x3_28 + 1) u5 ls H locs h (lv_sub hl [2, 1, 3, 0] rfl) hP hD hS
        have h := sat_bind h
        refine hL28 _ (fun z28 ls H locs h hl hP hD hS => ?_) 1000 x1_15 0 v_trial_values_15 ls H locs h (lv_sub hl [1, 2, 3, 0] rfl) hP hD hS
        refine lv_iinc (v := x2_15 + 1) (lv' := [(2, .int (x2_15 + 1)), (0, .ref a), (1, .int z28.1)]) hx hb dX8_unseen_73 hl (k := 2) rfl rfl (by decide) rfl (fun ls hl => ?_)
        refine lv_goto (tgt := 15) hx hb dX8_unseen_76 (by decide) ?_
        have h := lk_l (sat_some h)
        exact ih z28.1 (x2_15 + 1) z28.2 ls H locs h (lv_sub hl [1, 2, 0] rfl) hP hD hS
  have h := sat_bind h
  refine hL15 _ (fun z15 ls H locs h hl hP hD hS => ?_) 1000 0 0 u1.2 ls H locs h (lv_sub hl [2, 1, 0] rfl) hP hD hS
  refine lv_iload_n hx hb dX8_unseen_79 rfl (lv_at hl 0 rfl) ?_
  have h := sat_some h
  exact W.iret (v := z15.1) hx hb hr (fun t ht hW => ⟨⟨z15.1, (u1.1, z15.2), rfl, h, by rw [ht]; exact hP, va_K.moved hW.alike hK, hD⟩, hS.F ht⟩) hS.2.2 dX8_unseen_80

/-! X8_keep -/
set_option maxHeartbeats 4000000 in
set_option maxRecDepth 100000 in
theorem c_X8_keep (l : Launch) (D : va_G) (y : ClassId × ClassId × ClassId × ClassId) (a a_images a_now a_images0 a_images1 a_now_values a_images0_values a_images1_values a_trial a_reader a_history a_congruences a_terms a_text a_seen : Nat) (v_letters : Int32) (v_seenSoFar : Int32) (v_keptImages : Int32) (v_now_size : Int32) (v_images0_size : Int32) (v_images1_size : Int32) (v_now_values : Nat → Int32) (v_images0_values : Nat → Int32) (v_images1_values : Nat → Int32) (x1 : Int32) (sz : Nat) (A : Nat → Prop) (hAe : va_A [(a, .inr (5, [.ref a_now, .ref a_trial, .ref a_reader, .ref a_history, .ref a_congruences, .ref a_terms, .ref a_text, .int v_letters, .ref a_seen, .int v_seenSoFar, .ref a_images, .int v_keptImages])), (a_images, .inl (y.2.2.2, 2, .inr (.inr (.inr (.inr (im2 a_images0 a_images1)))))), (a_now, .inr (3, [.int v_now_size, .ref a_now_values])), (a_images0, .inr (3, [.int v_images0_size, .ref a_images0_values])), (a_images1, .inr (3, [.int v_images1_size, .ref a_images1_values])), (a_now_values, .inl (y.1, 20, .inl v_now_values)), (a_images0_values, .inl (y.1, 20, .inl v_images0_values)), (a_images1_values, .inl (y.1, 20, .inl v_images1_values))] sz = A) (K : Int32 → (Int32 × Int32 × Int32 × (Nat → Int32) × (Nat → Int32)) → Prop) (h : sat (m_X8_keep v_keptImages v_now_size v_images0_size v_images1_size v_now_values v_images0_values v_images1_values x1) (pK K)) : Met l yX8_keep wsX8_keep ({ frames := 2, cells := 0, slots := 0, locals := 61 } : Room) (pW D y ([.ref a, .int x1] : List Value) [(a, .inr (5, [.ref a_now, .ref a_trial, .ref a_reader, .ref a_history, .ref a_congruences, .ref a_terms, .ref a_text, .int v_letters, .ref a_seen, .int v_seenSoFar, .ref a_images, .int v_keptImages])), (a_images, .inl (y.2.2.2, 2, .inr (.inr (.inr (.inr (im2 a_images0 a_images1)))))), (a_now, .inr (3, [.int v_now_size, .ref a_now_values])), (a_images0, .inr (3, [.int v_images0_size, .ref a_images0_values])), (a_images1, .inr (3, [.int v_images1_size, .ref a_images1_values])), (a_now_values, .inl (y.1, 20, .inl v_now_values)), (a_images0_values, .inl (y.1, 20, .inl v_images0_values)), (a_images1_values, .inl (y.1, 20, .inl v_images1_values))] sz) (va_Qi K (bW D y A (fun u : (Int32 × Int32 × Int32 × (Nat → Int32) × (Nat → Int32)) => [(a, .inr (5, [.ref a_now, .ref a_trial, .ref a_reader, .ref a_history, .ref a_congruences, .ref a_terms, .ref a_text, .int v_letters, .ref a_seen, .int v_seenSoFar, .ref a_images, .int u.1])), (a_images, .inl (y.2.2.2, 2, .inr (.inr (.inr (.inr (im2 a_images0 a_images1)))))), (a_now, .inr (3, [.int v_now_size, .ref a_now_values])), (a_images0, .inr (3, [.int u.2.1, .ref a_images0_values])), (a_images1, .inr (3, [.int u.2.2.1, .ref a_images1_values])), (a_now_values, .inl (y.1, 20, .inl v_now_values)), (a_images0_values, .inl (y.1, 20, .inl u.2.2.2.1)), (a_images1_values, .inl (y.1, 20, .inl u.2.2.2.2))])) A) 0 0 A := by
  refine Met.ofW (cc := cX8_keep) (maxL := 2) (ret := (some .int)) (by decide) rfl ?_
  intro p e s m args below meth c s₁ B hml hv
  obtain ⟨rfl, hsz, hP, hK, hD0⟩ := hv
  have hx := B.exec
  have hb := B.bytes
  have hr := B.returns
  have hts := atoms_spec (ws := wsX8_keep) B.pre
  have hown : s.vm.findClass RX8 = some m.cls := findClass_of_methodNamed B.named
  have hlocks := B.notSynchronized
  subst hsz
  have hD : va_D A [(a, .inr (5, [.ref a_now, .ref a_trial, .ref a_reader, .ref a_history, .ref a_congruences, .ref a_terms, .ref a_text, .int v_letters, .ref a_seen, .int v_seenSoFar, .ref a_images, .int v_keptImages])), (a_images, .inl (y.2.2.2, 2, .inr (.inr (.inr (.inr (im2 a_images0 a_images1)))))), (a_now, .inr (3, [.int v_now_size, .ref a_now_values])), (a_images0, .inr (3, [.int v_images0_size, .ref a_images0_values])), (a_images1, .inr (3, [.int v_images1_size, .ref a_images1_values])), (a_now_values, .inl (y.1, 20, .inl v_now_values)), (a_images0_values, .inl (y.1, 20, .inl v_images0_values)), (a_images1_values, .inl (y.1, 20, .inl v_images1_values))] := hAe ▸ hD0.self
  have hA : ∀ q : Nat, s.heap.size ≤ q → A q := fun q h => hAe ▸ Or.inr h
  have hS : va_S A s.heap s.heap [] := va_S.rf
  have iX6 : ∀ w ∈ wsX60, w ∈ wsX8_keep := by decide +kernel
  have iX8 : ∀ w ∈ wsX80, w ∈ wsX8_keep := by decide +kernel
  have fl54 := hts (.fieldLink RX8 54 "AlgebraLaws" "images" "[LAlgebraLaws$Tables;") (by decide +kernel)
  have fl10 := hts (.fieldLink RX8 10 "AlgebraLaws" "now" "LAlgebraLaws$Tables;") (by decide +kernel)
  have fl83 := hts (.fieldLink RX8 83 "AlgebraLaws" "keptImages" "I") (by decide +kernel)
  have fl187 := hts (.fieldLink RX8 187 "AlgebraLaws$Tables" "size" "I") (by decide +kernel)
  have hl := lv_entry ([.ref a, .int x1] : List Value) (n := 2) (Nat.le_of_ble_eq_true rfl)
  rw [lg_entry_eq]
  generalize (lg_sl ([.ref a, .int x1] : List Value) ++ List.replicate (2 - (lg_sl ([.ref a, .int x1] : List Value)).length) Slot.unset).toArray = ls at hl ⊢
  have hl : lv_has ls 2 [(0, .ref a), (1, .int x1)] := hl
  unfold m_X8_keep at h
  refine lv_iload_n hx hb dX8_keep_0 rfl (lv_at hl 1 rfl) ?_
  refine lv_if_lt (tgt := 13) hx hb dX8_keep_1 (by decide) (fun c1 => ?_) (fun c1 => ?_)
  · have h := sat_t c1 h
    refine lv_bipush (v := (-2)) hx hb dX8_keep_13 (by decide) ?_
    have h := sat_some h
    exact W.iret (v := (-2)) hx hb hr (fun t ht hW => ⟨⟨(-2), (v_keptImages, v_images0_size, v_images1_size, v_images0_values, v_images1_values), rfl, h, by rw [ht]; exact hP, va_K.moved hW.alike hK, hD⟩, hS.F ht⟩) hS.2.2 dX8_keep_15
  · have h := sat_f c1 h
    refine lv_iload_n hx hb dX8_keep_4 rfl (lv_at hl 1 rfl) ?_
    refine lv_aload_n hx hb dX8_keep_5 rfl (lv_at hl 0 rfl) ?_
    refine va_get (D := D) (ci := 5) (v := .ref a_images) (C := RX8) (T := TX8) (N := 12) hx hb hts iX8 hown hK hP 0 rfl rfl 10 (by decide) fl54 (fun _ h9 => h9) rfl dX8_keep_6 ?_
    refine va_alen (v := 2) hx hb hK hP 1 3 rfl rfl rfl dX8_keep_9 ?_
    refine lv_icmp_lt (tgt := 16) hx hb dX8_keep_10 (by decide) (fun c10 => ?_) (fun c10 => ?_)
    · have h := sat_t c10 h
      refine lv_aload_n hx hb dX8_keep_16 rfl (lv_at hl 0 rfl) ?_
      refine va_get (D := D) (ci := 5) (v := .ref a_images) (C := RX8) (T := TX8) (N := 12) hx hb hts iX8 hown hK hP 0 rfl rfl 10 (by decide) fl54 (fun _ h9 => h9) rfl dX8_keep_17 ?_
      refine lv_iload_n hx hb dX8_keep_20 rfl (lv_at hl 1 rfl) ?_
      by_cases c9 : x1 = 0
      · have h := sat_t c9 h
        refine xa hx hb hK hP 1 3 rfl rfl (j := 0) (b := a_images0) (by rw [c9]; rfl) (by rw [c9]; unfold vp_in; decide) rfl dX8_keep_21 ?_
        refine lv_aload_n hx hb dX8_keep_22 rfl (lv_at hl 0 rfl) ?_
        refine va_get (D := D) (ci := 5) (v := .ref a_now) (C := RX8) (T := TX8) (N := 12) hx hb hts iX8 hown hK hP 0 rfl rfl 0 (by decide) fl10 (fun _ h9 => h9) rfl dX8_keep_23 ?_
        refine cw_v (wn := fun u1 => [(a, .inr (5, [.ref a_now, .ref a_trial, .ref a_reader, .ref a_history, .ref a_congruences, .ref a_terms, .ref a_text, .int v_letters, .ref a_seen, .int v_seenSoFar, .ref a_images, .int v_keptImages])), (a_images, .inl (y.2.2.2, 2, .inr (.inr (.inr (.inr (im2 a_images0 a_images1)))))), (a_now, .inr (3, [.int v_now_size, .ref a_now_values])), (a_images0, .inr (3, [.int u1.1, .ref a_images0_values])), (a_images1, .inr (3, [.int v_images1_size, .ref a_images1_values])), (a_now_values, .inl (y.1, 20, .inl v_now_values)), (a_images0_values, .inl (y.1, 20, .inl u1.2)), (a_images1_values, .inl (y.1, 20, .inl v_images1_values))]) (wr := [(a, .inr (5, [.ref a_now, .ref a_trial, .ref a_reader, .ref a_history, .ref a_congruences, .ref a_terms, .ref a_text, .int v_letters, .ref a_seen, .int v_seenSoFar, .ref a_images, .int v_keptImages])), (a_images, .inl (y.2.2.2, 2, .inr (.inr (.inr (.inr (im2 a_images0 a_images1)))))), (a_images1, .inr (3, [.int v_images1_size, .ref a_images1_values])), (a_images1_values, .inl (y.1, 20, .inl v_images1_values))]) (wv (As := [.ref a_now]) (rest := []) ⟨hx, hb, hml, hown, hts⟩ (c_X6_copyFrom l D y a_images0 a_images0_values a_now a_now_values v_images0_size v_images0_values v_now_size v_now_values _ _ rfl _ (sat_bind h)) (cwV 1 hts gX8_keep_X6_copyFrom rfl rfl rfl (by decide +kernel) ⟨Nat.le_of_ble_eq_true rfl, Nat.le_of_ble_eq_true rfl⟩) hK hP hD [3, 6, 2, 5] rfl rfl rfl 3 3 rfl rfl rfl rfl hl.1 rfl (Nat.le_of_ble_eq_true rfl) dX8_keep_26 ⟨Nat.zero_le _, Nat.zero_le _⟩) hS hP hD hA [3, 6, 2, 5] [0, 1, 4, 7] [0, 1, 6, 4, 2, 7, 5, 3] rfl rfl rfl (by decide) (fun _ => rfl) rfl (fun _ => rfl) (fun u1 H locs h hP hD hS => ?_)
        refine lv_aload_n hx hb dX8_keep_29 rfl (lv_at hl 0 rfl) ?_
        refine lv_dup hx hb dX8_keep_30 rfl ?_
        refine va_get (D := D) (ci := 5) (v := .int v_keptImages) (C := RX8) (T := TX8) (N := 12) hx hb hts iX8 hown hK hP 0 rfl rfl 11 (by decide) fl83 (fun _ h9 => h9) rfl dX8_keep_31 ?_
        refine lv_iconst (v := 1) hx hb dX8_keep_34 (by decide) ?_
        refine lv_iload_n hx hb dX8_keep_35 rfl (lv_at hl 1 rfl) ?_
        refine lv_ishl hx hb dX8_keep_36 ?_
        refine lv_ior hx hb dX8_keep_37 ?_
        obtain ⟨w2, ew2, h⟩ := sat_nm h
        refine tI ew2 ?_
        refine pf (D := D) (ci := 5) (v := .int w2) (ty := .int) (C := RX8) (T := TX8) (N := 12) (wn := [(a, .inr (5, [.ref a_now, .ref a_trial, .ref a_reader, .ref a_history, .ref a_congruences, .ref a_terms, .ref a_text, .int v_letters, .ref a_seen, .int v_seenSoFar, .ref a_images, .int w2])), (a_images, .inl (y.2.2.2, 2, .inr (.inr (.inr (.inr (im2 a_images0 a_images1)))))), (a_now, .inr (3, [.int v_now_size, .ref a_now_values])), (a_images0, .inr (3, [.int u1.1, .ref a_images0_values])), (a_images1, .inr (3, [.int v_images1_size, .ref a_images1_values])), (a_now_values, .inl (y.1, 20, .inl v_now_values)), (a_images0_values, .inl (y.1, 20, .inl u1.2)), (a_images1_values, .inl (y.1, 20, .inl v_images1_values))]) hx hb hts iX8 tyX8 tyX8_ok nmX8 hown hK hP hD hS 0 rfl rfl 11 (by decide) fl83 (fun _ h9 => h9) rfl (by decide +kernel) rfl rfl (Nat.le_of_ble_eq_true rfl) dX8_keep_38 rfl (fun H locs hP hD hS => ?_)
        refine lv_aload_n hx hb dX8_keep_41 rfl (lv_at hl 0 rfl) ?_
        refine va_get (D := D) (ci := 5) (v := .ref a_now) (C := RX8) (T := TX8) (N := 12) hx hb hts iX8 hown hK hP 0 rfl rfl 0 (by decide) fl10 (fun _ h9 => h9) rfl dX8_keep_42 ?_
        refine va_get (D := D) (ci := 3) (v := .int v_now_size) (C := RX6) (T := TX6) (N := 2) hx hb hts iX6 hown hK hP 2 rfl rfl 0 (by decide) fl187 (fun _ h9 => h9) rfl dX8_keep_45 ?_
        have h := sat_some h
        exact W.iret (v := v_now_size) hx hb hr (fun t ht hW => ⟨⟨v_now_size, (w2, u1.1, v_images1_size, u1.2, v_images1_values), rfl, h, by rw [ht]; exact hP, va_K.moved hW.alike hK, hD⟩, hS.F ht⟩) hS.2.2 dX8_keep_48
      · obtain ⟨c9, h⟩ := sat_gd (sat_f c9 h)
        refine xa hx hb hK hP 1 3 rfl rfl (j := 1) (b := a_images1) (by rw [c9]; rfl) (by rw [c9]; unfold vp_in; decide) rfl dX8_keep_21 ?_
        refine lv_aload_n hx hb dX8_keep_22 rfl (lv_at hl 0 rfl) ?_
        refine va_get (D := D) (ci := 5) (v := .ref a_now) (C := RX8) (T := TX8) (N := 12) hx hb hts iX8 hown hK hP 0 rfl rfl 0 (by decide) fl10 (fun _ h9 => h9) rfl dX8_keep_23 ?_
        refine cw_v (wn := fun u3 => [(a, .inr (5, [.ref a_now, .ref a_trial, .ref a_reader, .ref a_history, .ref a_congruences, .ref a_terms, .ref a_text, .int v_letters, .ref a_seen, .int v_seenSoFar, .ref a_images, .int v_keptImages])), (a_images, .inl (y.2.2.2, 2, .inr (.inr (.inr (.inr (im2 a_images0 a_images1)))))), (a_now, .inr (3, [.int v_now_size, .ref a_now_values])), (a_images0, .inr (3, [.int v_images0_size, .ref a_images0_values])), (a_images1, .inr (3, [.int u3.1, .ref a_images1_values])), (a_now_values, .inl (y.1, 20, .inl v_now_values)), (a_images0_values, .inl (y.1, 20, .inl v_images0_values)), (a_images1_values, .inl (y.1, 20, .inl u3.2))]) (wr := [(a, .inr (5, [.ref a_now, .ref a_trial, .ref a_reader, .ref a_history, .ref a_congruences, .ref a_terms, .ref a_text, .int v_letters, .ref a_seen, .int v_seenSoFar, .ref a_images, .int v_keptImages])), (a_images, .inl (y.2.2.2, 2, .inr (.inr (.inr (.inr (im2 a_images0 a_images1)))))), (a_images0, .inr (3, [.int v_images0_size, .ref a_images0_values])), (a_images0_values, .inl (y.1, 20, .inl v_images0_values))]) (wv (As := [.ref a_now]) (rest := []) ⟨hx, hb, hml, hown, hts⟩ (c_X6_copyFrom l D y a_images1 a_images1_values a_now a_now_values v_images1_size v_images1_values v_now_size v_now_values _ _ rfl _ (sat_bind h)) (cwV 1 hts gX8_keep_X6_copyFrom rfl rfl rfl (by decide +kernel) ⟨Nat.le_of_ble_eq_true rfl, Nat.le_of_ble_eq_true rfl⟩) hK hP hD [4, 7, 2, 5] rfl rfl rfl 4 3 rfl rfl rfl rfl hl.1 rfl (Nat.le_of_ble_eq_true rfl) dX8_keep_26 ⟨Nat.zero_le _, Nat.zero_le _⟩) hS hP hD hA [4, 7, 2, 5] [0, 1, 3, 6] [0, 1, 6, 2, 4, 7, 3, 5] rfl rfl rfl (by decide) (fun _ => rfl) rfl (fun _ => rfl) (fun u3 H locs h hP hD hS => ?_)
        refine lv_aload_n hx hb dX8_keep_29 rfl (lv_at hl 0 rfl) ?_
        refine lv_dup hx hb dX8_keep_30 rfl ?_
        refine va_get (D := D) (ci := 5) (v := .int v_keptImages) (C := RX8) (T := TX8) (N := 12) hx hb hts iX8 hown hK hP 0 rfl rfl 11 (by decide) fl83 (fun _ h9 => h9) rfl dX8_keep_31 ?_
        refine lv_iconst (v := 1) hx hb dX8_keep_34 (by decide) ?_
        refine lv_iload_n hx hb dX8_keep_35 rfl (lv_at hl 1 rfl) ?_
        refine lv_ishl hx hb dX8_keep_36 ?_
        refine lv_ior hx hb dX8_keep_37 ?_
        obtain ⟨w4, ew4, h⟩ := sat_nm h
        refine tI ew4 ?_
        refine pf (D := D) (ci := 5) (v := .int w4) (ty := .int) (C := RX8) (T := TX8) (N := 12) (wn := [(a, .inr (5, [.ref a_now, .ref a_trial, .ref a_reader, .ref a_history, .ref a_congruences, .ref a_terms, .ref a_text, .int v_letters, .ref a_seen, .int v_seenSoFar, .ref a_images, .int w4])), (a_images, .inl (y.2.2.2, 2, .inr (.inr (.inr (.inr (im2 a_images0 a_images1)))))), (a_now, .inr (3, [.int v_now_size, .ref a_now_values])), (a_images0, .inr (3, [.int v_images0_size, .ref a_images0_values])), (a_images1, .inr (3, [.int u3.1, .ref a_images1_values])), (a_now_values, .inl (y.1, 20, .inl v_now_values)), (a_images0_values, .inl (y.1, 20, .inl v_images0_values)), (a_images1_values, .inl (y.1, 20, .inl u3.2))]) hx hb hts iX8 tyX8 tyX8_ok nmX8 hown hK hP hD hS 0 rfl rfl 11 (by decide) fl83 (fun _ h9 => h9) rfl (by decide +kernel) rfl rfl (Nat.le_of_ble_eq_true rfl) dX8_keep_38 rfl (fun H locs hP hD hS => ?_)
        refine lv_aload_n hx hb dX8_keep_41 rfl (lv_at hl 0 rfl) ?_
        refine va_get (D := D) (ci := 5) (v := .ref a_now) (C := RX8) (T := TX8) (N := 12) hx hb hts iX8 hown hK hP 0 rfl rfl 0 (by decide) fl10 (fun _ h9 => h9) rfl dX8_keep_42 ?_
        refine va_get (D := D) (ci := 3) (v := .int v_now_size) (C := RX6) (T := TX6) (N := 2) hx hb hts iX6 hown hK hP 2 rfl rfl 0 (by decide) fl187 (fun _ h9 => h9) rfl dX8_keep_45 ?_
        have h := sat_some h
        exact W.iret (v := v_now_size) hx hb hr (fun t ht hW => ⟨⟨v_now_size, (w4, v_images0_size, u3.1, v_images0_values, u3.2), rfl, h, by rw [ht]; exact hP, va_K.moved hW.alike hK, hD⟩, hS.F ht⟩) hS.2.2 dX8_keep_48
    · have h := sat_f c10 h
      refine lv_bipush (v := (-2)) hx hb dX8_keep_13 (by decide) ?_
      have h := sat_some h
      exact W.iret (v := (-2)) hx hb hr (fun t ht hW => ⟨⟨(-2), (v_keptImages, v_images0_size, v_images1_size, v_images0_values, v_images1_values), rfl, h, by rw [ht]; exact hP, va_K.moved hW.alike hK, hD⟩, hS.F ht⟩) hS.2.2 dX8_keep_15

/-! X8_back -/
set_option maxHeartbeats 4000000 in
set_option maxRecDepth 100000 in
theorem c_X8_back (l : Launch) (D : va_G) (y : ClassId × ClassId × ClassId × ClassId) (a a_history a_images a_now a_images0 a_images1 a_now_values a_images0_values a_images1_values a_trial a_reader a_congruences a_terms a_text a_seen a_history_places a_history_values : Nat) (v_letters : Int32) (v_seenSoFar : Int32) (v_keptImages : Int32) (v_history_known : Int32) (v_now_size : Int32) (v_images0_size : Int32) (v_images1_size : Int32) (v_now_values : Nat → Int32) (v_images0_values : Nat → Int32) (v_images1_values : Nat → Int32) (x1 : Int32) (sz : Nat) (A : Nat → Prop) (hAe : va_A [(a, .inr (5, [.ref a_now, .ref a_trial, .ref a_reader, .ref a_history, .ref a_congruences, .ref a_terms, .ref a_text, .int v_letters, .ref a_seen, .int v_seenSoFar, .ref a_images, .int v_keptImages])), (a_history, .inr (1, [.int v_history_known, .ref a_history_places, .ref a_history_values])), (a_images, .inl (y.2.2.2, 2, .inr (.inr (.inr (.inr (im2 a_images0 a_images1)))))), (a_now, .inr (3, [.int v_now_size, .ref a_now_values])), (a_images0, .inr (3, [.int v_images0_size, .ref a_images0_values])), (a_images1, .inr (3, [.int v_images1_size, .ref a_images1_values])), (a_now_values, .inl (y.1, 20, .inl v_now_values)), (a_images0_values, .inl (y.1, 20, .inl v_images0_values)), (a_images1_values, .inl (y.1, 20, .inl v_images1_values))] sz = A) (K : Int32 → (Int32 × Int32 × (Nat → Int32)) → Prop) (h : sat (m_X8_back v_keptImages v_history_known v_now_size v_images0_size v_images1_size v_now_values v_images0_values v_images1_values x1) (pK K)) : Met l yX8_back wsX8_back ({ frames := 2, cells := 0, slots := 0, locals := 61 } : Room) (pW D y ([.ref a, .int x1] : List Value) [(a, .inr (5, [.ref a_now, .ref a_trial, .ref a_reader, .ref a_history, .ref a_congruences, .ref a_terms, .ref a_text, .int v_letters, .ref a_seen, .int v_seenSoFar, .ref a_images, .int v_keptImages])), (a_history, .inr (1, [.int v_history_known, .ref a_history_places, .ref a_history_values])), (a_images, .inl (y.2.2.2, 2, .inr (.inr (.inr (.inr (im2 a_images0 a_images1)))))), (a_now, .inr (3, [.int v_now_size, .ref a_now_values])), (a_images0, .inr (3, [.int v_images0_size, .ref a_images0_values])), (a_images1, .inr (3, [.int v_images1_size, .ref a_images1_values])), (a_now_values, .inl (y.1, 20, .inl v_now_values)), (a_images0_values, .inl (y.1, 20, .inl v_images0_values)), (a_images1_values, .inl (y.1, 20, .inl v_images1_values))] sz) (va_Qi K (bW D y A (fun u : (Int32 × Int32 × (Nat → Int32)) => [(a, .inr (5, [.ref a_now, .ref a_trial, .ref a_reader, .ref a_history, .ref a_congruences, .ref a_terms, .ref a_text, .int v_letters, .ref a_seen, .int v_seenSoFar, .ref a_images, .int v_keptImages])), (a_history, .inr (1, [.int u.1, .ref a_history_places, .ref a_history_values])), (a_images, .inl (y.2.2.2, 2, .inr (.inr (.inr (.inr (im2 a_images0 a_images1)))))), (a_now, .inr (3, [.int u.2.1, .ref a_now_values])), (a_images0, .inr (3, [.int v_images0_size, .ref a_images0_values])), (a_images1, .inr (3, [.int v_images1_size, .ref a_images1_values])), (a_now_values, .inl (y.1, 20, .inl u.2.2)), (a_images0_values, .inl (y.1, 20, .inl v_images0_values)), (a_images1_values, .inl (y.1, 20, .inl v_images1_values))])) A) 0 0 A := by
  refine Met.ofW (cc := cX8_back) (maxL := 2) (ret := (some .int)) (by decide) rfl ?_
  intro p e s m args below meth c s₁ B hml hv
  obtain ⟨rfl, hsz, hP, hK, hD0⟩ := hv
  have hx := B.exec
  have hb := B.bytes
  have hr := B.returns
  have hts := atoms_spec (ws := wsX8_back) B.pre
  have hown : s.vm.findClass RX8 = some m.cls := findClass_of_methodNamed B.named
  have hlocks := B.notSynchronized
  subst hsz
  have hD : va_D A [(a, .inr (5, [.ref a_now, .ref a_trial, .ref a_reader, .ref a_history, .ref a_congruences, .ref a_terms, .ref a_text, .int v_letters, .ref a_seen, .int v_seenSoFar, .ref a_images, .int v_keptImages])), (a_history, .inr (1, [.int v_history_known, .ref a_history_places, .ref a_history_values])), (a_images, .inl (y.2.2.2, 2, .inr (.inr (.inr (.inr (im2 a_images0 a_images1)))))), (a_now, .inr (3, [.int v_now_size, .ref a_now_values])), (a_images0, .inr (3, [.int v_images0_size, .ref a_images0_values])), (a_images1, .inr (3, [.int v_images1_size, .ref a_images1_values])), (a_now_values, .inl (y.1, 20, .inl v_now_values)), (a_images0_values, .inl (y.1, 20, .inl v_images0_values)), (a_images1_values, .inl (y.1, 20, .inl v_images1_values))] := hAe ▸ hD0.self
  have hA : ∀ q : Nat, s.heap.size ≤ q → A q := fun q h => hAe ▸ Or.inr h
  have hS : va_S A s.heap s.heap [] := va_S.rf
  have iX6 : ∀ w ∈ wsX60, w ∈ wsX8_back := by decide +kernel
  have iX8 : ∀ w ∈ wsX80, w ∈ wsX8_back := by decide +kernel
  have fl54 := hts (.fieldLink RX8 54 "AlgebraLaws" "images" "[LAlgebraLaws$Tables;") (by decide +kernel)
  have fl83 := hts (.fieldLink RX8 83 "AlgebraLaws" "keptImages" "I") (by decide +kernel)
  have fl10 := hts (.fieldLink RX8 10 "AlgebraLaws" "now" "LAlgebraLaws$Tables;") (by decide +kernel)
  have fl29 := hts (.fieldLink RX8 29 "AlgebraLaws" "history" "LAlgebraLaws$History;") (by decide +kernel)
  have fl187 := hts (.fieldLink RX8 187 "AlgebraLaws$Tables" "size" "I") (by decide +kernel)
  have hl := lv_entry ([.ref a, .int x1] : List Value) (n := 2) (Nat.le_of_ble_eq_true rfl)
  rw [lg_entry_eq]
  generalize (lg_sl ([.ref a, .int x1] : List Value) ++ List.replicate (2 - (lg_sl ([.ref a, .int x1] : List Value)).length) Slot.unset).toArray = ls at hl ⊢
  have hl : lv_has ls 2 [(0, .ref a), (1, .int x1)] := hl
  unfold m_X8_back at h
  refine lv_iload_n hx hb dX8_back_0 rfl (lv_at hl 1 rfl) ?_
  refine lv_if_lt (tgt := 13) hx hb dX8_back_1 (by decide) (fun c1 => ?_) (fun c1 => ?_)
  · have h := sat_t c1 h
    refine lv_bipush (v := (-2)) hx hb dX8_back_13 (by decide) ?_
    have h := sat_some h
    exact W.iret (v := (-2)) hx hb hr (fun t ht hW => ⟨⟨(-2), (v_history_known, v_now_size, v_now_values), rfl, h, by rw [ht]; exact hP, va_K.moved hW.alike hK, hD⟩, hS.F ht⟩) hS.2.2 dX8_back_15
  · have h := sat_f c1 h
    refine lv_iload_n hx hb dX8_back_4 rfl (lv_at hl 1 rfl) ?_
    refine lv_aload_n hx hb dX8_back_5 rfl (lv_at hl 0 rfl) ?_
    refine va_get (D := D) (ci := 5) (v := .ref a_images) (C := RX8) (T := TX8) (N := 12) hx hb hts iX8 hown hK hP 0 rfl rfl 10 (by decide) fl54 (fun _ h9 => h9) rfl dX8_back_6 ?_
    refine va_alen (v := 2) hx hb hK hP 2 3 rfl rfl rfl dX8_back_9 ?_
    refine lv_icmp_lt (tgt := 16) hx hb dX8_back_10 (by decide) (fun c10 => ?_) (fun c10 => ?_)
    · have h := sat_t c10 h
      refine lv_aload_n hx hb dX8_back_16 rfl (lv_at hl 0 rfl) ?_
      refine va_get (D := D) (ci := 5) (v := .int v_keptImages) (C := RX8) (T := TX8) (N := 12) hx hb hts iX8 hown hK hP 0 rfl rfl 11 (by decide) fl83 (fun _ h9 => h9) rfl dX8_back_17 ?_
      refine lv_iload_n hx hb dX8_back_20 rfl (lv_at hl 1 rfl) ?_
      refine lv_ishr hx hb dX8_back_21 ?_
      refine lv_iconst (v := 1) hx hb dX8_back_22 (by decide) ?_
      refine lv_iand hx hb dX8_back_23 ?_
      refine lv_if_ne (tgt := 30) hx hb dX8_back_24 (by decide) (fun c24 => ?_) (fun c24 => ?_)
      · have h := sat_f c24 h
        refine lv_aload_n hx hb dX8_back_30 rfl (lv_at hl 0 rfl) ?_
        refine va_get (D := D) (ci := 5) (v := .ref a_now) (C := RX8) (T := TX8) (N := 12) hx hb hts iX8 hown hK hP 0 rfl rfl 0 (by decide) fl10 (fun _ h9 => h9) rfl dX8_back_31 ?_
        refine lv_aload_n hx hb dX8_back_34 rfl (lv_at hl 0 rfl) ?_
        refine va_get (D := D) (ci := 5) (v := .ref a_images) (C := RX8) (T := TX8) (N := 12) hx hb hts iX8 hown hK hP 0 rfl rfl 10 (by decide) fl54 (fun _ h9 => h9) rfl dX8_back_35 ?_
        refine lv_iload_n hx hb dX8_back_38 rfl (lv_at hl 1 rfl) ?_
        by_cases c9 : x1 = 0
        · have h := sat_t c9 h
          refine xa hx hb hK hP 2 3 rfl rfl (j := 0) (b := a_images0) (by rw [c9]; rfl) (by rw [c9]; unfold vp_in; decide) rfl dX8_back_39 ?_
          refine cw_v (wn := fun u1 => [(a, .inr (5, [.ref a_now, .ref a_trial, .ref a_reader, .ref a_history, .ref a_congruences, .ref a_terms, .ref a_text, .int v_letters, .ref a_seen, .int v_seenSoFar, .ref a_images, .int v_keptImages])), (a_history, .inr (1, [.int v_history_known, .ref a_history_places, .ref a_history_values])), (a_images, .inl (y.2.2.2, 2, .inr (.inr (.inr (.inr (im2 a_images0 a_images1)))))), (a_now, .inr (3, [.int u1.1, .ref a_now_values])), (a_images0, .inr (3, [.int v_images0_size, .ref a_images0_values])), (a_images1, .inr (3, [.int v_images1_size, .ref a_images1_values])), (a_now_values, .inl (y.1, 20, .inl u1.2)), (a_images0_values, .inl (y.1, 20, .inl v_images0_values)), (a_images1_values, .inl (y.1, 20, .inl v_images1_values))]) (wr := [(a, .inr (5, [.ref a_now, .ref a_trial, .ref a_reader, .ref a_history, .ref a_congruences, .ref a_terms, .ref a_text, .int v_letters, .ref a_seen, .int v_seenSoFar, .ref a_images, .int v_keptImages])), (a_history, .inr (1, [.int v_history_known, .ref a_history_places, .ref a_history_values])), (a_images, .inl (y.2.2.2, 2, .inr (.inr (.inr (.inr (im2 a_images0 a_images1)))))), (a_images1, .inr (3, [.int v_images1_size, .ref a_images1_values])), (a_images1_values, .inl (y.1, 20, .inl v_images1_values))]) (wv (As := [.ref a_images0]) (rest := []) ⟨hx, hb, hml, hown, hts⟩ (c_X6_copyFrom l D y a_now a_now_values a_images0 a_images0_values v_now_size v_now_values v_images0_size v_images0_values _ _ rfl _ (sat_bind h)) (cwV 1 hts gX8_back_X6_copyFrom rfl rfl rfl (by decide +kernel) ⟨Nat.le_of_ble_eq_true rfl, Nat.le_of_ble_eq_true rfl⟩) hK hP hD [3, 6, 4, 7] rfl rfl rfl 3 3 rfl rfl rfl rfl hl.1 rfl (Nat.le_of_ble_eq_true rfl) dX8_back_40 ⟨Nat.zero_le _, Nat.zero_le _⟩) hS hP hD hA [3, 6, 4, 7] [0, 1, 2, 5, 8] [0, 1, 2, 5, 7, 3, 6, 8, 4] rfl rfl rfl (by decide) (fun _ => rfl) rfl (fun _ => rfl) (fun u1 H locs h hP hD hS => ?_)
          refine lv_aload_n hx hb dX8_back_43 rfl (lv_at hl 0 rfl) ?_
          refine va_get (D := D) (ci := 5) (v := .ref a_history) (C := RX8) (T := TX8) (N := 12) hx hb hts iX8 hown hK hP 0 rfl rfl 3 (by decide) fl29 (fun _ h9 => h9) rfl dX8_back_44 ?_
          refine cw_v (wn := fun u2 => [(a, .inr (5, [.ref a_now, .ref a_trial, .ref a_reader, .ref a_history, .ref a_congruences, .ref a_terms, .ref a_text, .int v_letters, .ref a_seen, .int v_seenSoFar, .ref a_images, .int v_keptImages])), (a_history, .inr (1, [.int u2, .ref a_history_places, .ref a_history_values])), (a_images, .inl (y.2.2.2, 2, .inr (.inr (.inr (.inr (im2 a_images0 a_images1)))))), (a_now, .inr (3, [.int u1.1, .ref a_now_values])), (a_images0, .inr (3, [.int v_images0_size, .ref a_images0_values])), (a_images1, .inr (3, [.int v_images1_size, .ref a_images1_values])), (a_now_values, .inl (y.1, 20, .inl u1.2)), (a_images0_values, .inl (y.1, 20, .inl v_images0_values)), (a_images1_values, .inl (y.1, 20, .inl v_images1_values))]) (wr := [(a, .inr (5, [.ref a_now, .ref a_trial, .ref a_reader, .ref a_history, .ref a_congruences, .ref a_terms, .ref a_text, .int v_letters, .ref a_seen, .int v_seenSoFar, .ref a_images, .int v_keptImages])), (a_images, .inl (y.2.2.2, 2, .inr (.inr (.inr (.inr (im2 a_images0 a_images1)))))), (a_now, .inr (3, [.int u1.1, .ref a_now_values])), (a_images0, .inr (3, [.int v_images0_size, .ref a_images0_values])), (a_images1, .inr (3, [.int v_images1_size, .ref a_images1_values])), (a_now_values, .inl (y.1, 20, .inl u1.2)), (a_images0_values, .inl (y.1, 20, .inl v_images0_values)), (a_images1_values, .inl (y.1, 20, .inl v_images1_values))]) (wv (As := []) (rest := []) ⟨hx, hb, hml, hown, hts⟩ (c_X2_loseAll l D y a_history a_history_places a_history_values v_history_known _ _ rfl _ (sat_bind h)) (cwV 0 hts gX8_back_X2_loseAll rfl rfl rfl (by decide +kernel) ⟨Nat.le_of_ble_eq_true rfl, Nat.le_of_ble_eq_true rfl⟩) hK hP hD [1] rfl rfl rfl 1 1 rfl rfl rfl rfl hl.1 rfl (Nat.le_of_ble_eq_true rfl) dX8_back_47 ⟨Nat.zero_le _, Nat.zero_le _⟩) hS hP hD hA [1] [0, 2, 3, 4, 5, 6, 7, 8] [0, 8, 1, 2, 3, 4, 5, 6, 7] rfl rfl rfl (by decide) (fun _ => rfl) rfl (fun _ => rfl) (fun u2 H locs h hP hD hS => ?_)
          refine lv_aload_n hx hb dX8_back_50 rfl (lv_at hl 0 rfl) ?_
          refine va_get (D := D) (ci := 5) (v := .ref a_now) (C := RX8) (T := TX8) (N := 12) hx hb hts iX8 hown hK hP 0 rfl rfl 0 (by decide) fl10 (fun _ h9 => h9) rfl dX8_back_51 ?_
          refine va_get (D := D) (ci := 3) (v := .int u1.1) (C := RX6) (T := TX6) (N := 2) hx hb hts iX6 hown hK hP 3 rfl rfl 0 (by decide) fl187 (fun _ h9 => h9) rfl dX8_back_54 ?_
          have h := sat_some h
          exact W.iret (v := u1.1) hx hb hr (fun t ht hW => ⟨⟨u1.1, (u2, u1.1, u1.2), rfl, h, by rw [ht]; exact hP, va_K.moved hW.alike hK, hD⟩, hS.F ht⟩) hS.2.2 dX8_back_57
        · obtain ⟨c9, h⟩ := sat_gd (sat_f c9 h)
          refine xa hx hb hK hP 2 3 rfl rfl (j := 1) (b := a_images1) (by rw [c9]; rfl) (by rw [c9]; unfold vp_in; decide) rfl dX8_back_39 ?_
          refine cw_v (wn := fun u3 => [(a, .inr (5, [.ref a_now, .ref a_trial, .ref a_reader, .ref a_history, .ref a_congruences, .ref a_terms, .ref a_text, .int v_letters, .ref a_seen, .int v_seenSoFar, .ref a_images, .int v_keptImages])), (a_history, .inr (1, [.int v_history_known, .ref a_history_places, .ref a_history_values])), (a_images, .inl (y.2.2.2, 2, .inr (.inr (.inr (.inr (im2 a_images0 a_images1)))))), (a_now, .inr (3, [.int u3.1, .ref a_now_values])), (a_images0, .inr (3, [.int v_images0_size, .ref a_images0_values])), (a_images1, .inr (3, [.int v_images1_size, .ref a_images1_values])), (a_now_values, .inl (y.1, 20, .inl u3.2)), (a_images0_values, .inl (y.1, 20, .inl v_images0_values)), (a_images1_values, .inl (y.1, 20, .inl v_images1_values))]) (wr := [(a, .inr (5, [.ref a_now, .ref a_trial, .ref a_reader, .ref a_history, .ref a_congruences, .ref a_terms, .ref a_text, .int v_letters, .ref a_seen, .int v_seenSoFar, .ref a_images, .int v_keptImages])), (a_history, .inr (1, [.int v_history_known, .ref a_history_places, .ref a_history_values])), (a_images, .inl (y.2.2.2, 2, .inr (.inr (.inr (.inr (im2 a_images0 a_images1)))))), (a_images0, .inr (3, [.int v_images0_size, .ref a_images0_values])), (a_images0_values, .inl (y.1, 20, .inl v_images0_values))]) (wv (As := [.ref a_images1]) (rest := []) ⟨hx, hb, hml, hown, hts⟩ (c_X6_copyFrom l D y a_now a_now_values a_images1 a_images1_values v_now_size v_now_values v_images1_size v_images1_values _ _ rfl _ (sat_bind h)) (cwV 1 hts gX8_back_X6_copyFrom rfl rfl rfl (by decide +kernel) ⟨Nat.le_of_ble_eq_true rfl, Nat.le_of_ble_eq_true rfl⟩) hK hP hD [3, 6, 5, 8] rfl rfl rfl 3 3 rfl rfl rfl rfl hl.1 rfl (Nat.le_of_ble_eq_true rfl) dX8_back_40 ⟨Nat.zero_le _, Nat.zero_le _⟩) hS hP hD hA [3, 6, 5, 8] [0, 1, 2, 4, 7] [0, 1, 2, 5, 3, 7, 6, 4, 8] rfl rfl rfl (by decide) (fun _ => rfl) rfl (fun _ => rfl) (fun u3 H locs h hP hD hS => ?_)
          refine lv_aload_n hx hb dX8_back_43 rfl (lv_at hl 0 rfl) ?_
          refine va_get (D := D) (ci := 5) (v := .ref a_history) (C := RX8) (T := TX8) (N := 12) hx hb hts iX8 hown hK hP 0 rfl rfl 3 (by decide) fl29 (fun _ h9 => h9) rfl dX8_back_44 ?_
          refine cw_v (wn := fun u4 => [(a, .inr (5, [.ref a_now, .ref a_trial, .ref a_reader, .ref a_history, .ref a_congruences, .ref a_terms, .ref a_text, .int v_letters, .ref a_seen, .int v_seenSoFar, .ref a_images, .int v_keptImages])), (a_history, .inr (1, [.int u4, .ref a_history_places, .ref a_history_values])), (a_images, .inl (y.2.2.2, 2, .inr (.inr (.inr (.inr (im2 a_images0 a_images1)))))), (a_now, .inr (3, [.int u3.1, .ref a_now_values])), (a_images0, .inr (3, [.int v_images0_size, .ref a_images0_values])), (a_images1, .inr (3, [.int v_images1_size, .ref a_images1_values])), (a_now_values, .inl (y.1, 20, .inl u3.2)), (a_images0_values, .inl (y.1, 20, .inl v_images0_values)), (a_images1_values, .inl (y.1, 20, .inl v_images1_values))]) (wr := [(a, .inr (5, [.ref a_now, .ref a_trial, .ref a_reader, .ref a_history, .ref a_congruences, .ref a_terms, .ref a_text, .int v_letters, .ref a_seen, .int v_seenSoFar, .ref a_images, .int v_keptImages])), (a_images, .inl (y.2.2.2, 2, .inr (.inr (.inr (.inr (im2 a_images0 a_images1)))))), (a_now, .inr (3, [.int u3.1, .ref a_now_values])), (a_images0, .inr (3, [.int v_images0_size, .ref a_images0_values])), (a_images1, .inr (3, [.int v_images1_size, .ref a_images1_values])), (a_now_values, .inl (y.1, 20, .inl u3.2)), (a_images0_values, .inl (y.1, 20, .inl v_images0_values)), (a_images1_values, .inl (y.1, 20, .inl v_images1_values))]) (wv (As := []) (rest := []) ⟨hx, hb, hml, hown, hts⟩ (c_X2_loseAll l D y a_history a_history_places a_history_values v_history_known _ _ rfl _ (sat_bind h)) (cwV 0 hts gX8_back_X2_loseAll rfl rfl rfl (by decide +kernel) ⟨Nat.le_of_ble_eq_true rfl, Nat.le_of_ble_eq_true rfl⟩) hK hP hD [1] rfl rfl rfl 1 1 rfl rfl rfl rfl hl.1 rfl (Nat.le_of_ble_eq_true rfl) dX8_back_47 ⟨Nat.zero_le _, Nat.zero_le _⟩) hS hP hD hA [1] [0, 2, 3, 4, 5, 6, 7, 8] [0, 8, 1, 2, 3, 4, 5, 6, 7] rfl rfl rfl (by decide) (fun _ => rfl) rfl (fun _ => rfl) (fun u4 H locs h hP hD hS => ?_)
          refine lv_aload_n hx hb dX8_back_50 rfl (lv_at hl 0 rfl) ?_
          refine va_get (D := D) (ci := 5) (v := .ref a_now) (C := RX8) (T := TX8) (N := 12) hx hb hts iX8 hown hK hP 0 rfl rfl 0 (by decide) fl10 (fun _ h9 => h9) rfl dX8_back_51 ?_
          refine va_get (D := D) (ci := 3) (v := .int u3.1) (C := RX6) (T := TX6) (N := 2) hx hb hts iX6 hown hK hP 3 rfl rfl 0 (by decide) fl187 (fun _ h9 => h9) rfl dX8_back_54 ?_
          have h := sat_some h
          exact W.iret (v := u3.1) hx hb hr (fun t ht hW => ⟨⟨u3.1, (u4, u3.1, u3.2), rfl, h, by rw [ht]; exact hP, va_K.moved hW.alike hK, hD⟩, hS.F ht⟩) hS.2.2 dX8_back_57
      · have h := sat_t c24 h
        refine lv_bipush (v := (-3)) hx hb dX8_back_27 (by decide) ?_
        have h := sat_some h
        exact W.iret (v := (-3)) hx hb hr (fun t ht hW => ⟨⟨(-3), (v_history_known, v_now_size, v_now_values), rfl, h, by rw [ht]; exact hP, va_K.moved hW.alike hK, hD⟩, hS.F ht⟩) hS.2.2 dX8_back_29
    · have h := sat_f c10 h
      refine lv_bipush (v := (-2)) hx hb dX8_back_13 (by decide) ?_
      have h := sat_some h
      exact W.iret (v := (-2)) hx hb hr (fun t ht hW => ⟨⟨(-2), (v_history_known, v_now_size, v_now_values), rfl, h, by rw [ht]; exact hP, va_K.moved hW.alike hK, hD⟩, hS.F ht⟩) hS.2.2 dX8_back_15

/-! X8_count -/
set_option maxHeartbeats 4000000 in
set_option maxRecDepth 100000 in
theorem c_X8_count (l : Launch) (D : va_G) (y : ClassId × ClassId × ClassId × ClassId) (a a_congruences a_history a_now a_congruences_partitions a_now_values a_trial a_reader a_terms a_text a_seen a_images a_history_places a_history_values : Nat) (v_letters : Int32) (v_seenSoFar : Int32) (v_keptImages : Int32) (v_congruences_found : Int32) (v_congruences_size : Int32) (v_history_known : Int32) (v_now_size : Int32) (v_congruences_partitions : Nat → Int32) (v_now_values : Nat → Int32) (x1 : Int32) (tS : Nat) (sz : Nat) (A : Nat → Prop) (hAe : va_A [(a, .inr (5, [.ref a_now, .ref a_trial, .ref a_reader, .ref a_history, .ref a_congruences, .ref a_terms, .ref a_text, .int v_letters, .ref a_seen, .int v_seenSoFar, .ref a_images, .int v_keptImages])), (a_congruences, .inr (0, [.int v_congruences_found, .int v_congruences_size, .ref a_congruences_partitions])), (a_history, .inr (1, [.int v_history_known, .ref a_history_places, .ref a_history_values])), (a_now, .inr (3, [.int v_now_size, .ref a_now_values])), (a_congruences_partitions, .inl (y.1, 15, .inl v_congruences_partitions)), (a_now_values, .inl (y.1, 20, .inl v_now_values))] sz = A) (K : Int32 → (Int32 × Int32 × (Nat → Int32)) → Prop) (h : sat (m_X8_count v_letters v_seenSoFar v_congruences_found v_congruences_size v_history_known v_now_size v_congruences_partitions v_now_values x1) (pK K)) : Met l yX8_count wsX8_count ({ frames := 6, cells := 0, slots := 0, locals := 136 } : Room) (pWS D y ([.ref a, .int x1] : List Value) [(a, .inr (5, [.ref a_now, .ref a_trial, .ref a_reader, .ref a_history, .ref a_congruences, .ref a_terms, .ref a_text, .int v_letters, .ref a_seen, .int v_seenSoFar, .ref a_images, .int v_keptImages])), (a_congruences, .inr (0, [.int v_congruences_found, .int v_congruences_size, .ref a_congruences_partitions])), (a_history, .inr (1, [.int v_history_known, .ref a_history_places, .ref a_history_values])), (a_now, .inr (3, [.int v_now_size, .ref a_now_values])), (a_congruences_partitions, .inl (y.1, 15, .inl v_congruences_partitions)), (a_now_values, .inl (y.1, 20, .inl v_now_values))] sz A tS) (va_Qi K (bW D y A (fun u : (Int32 × Int32 × (Nat → Int32)) => [(a, .inr (5, [.ref a_now, .ref a_trial, .ref a_reader, .ref a_history, .ref a_congruences, .ref a_terms, .ref a_text, .int v_letters, .ref a_seen, .int v_seenSoFar, .ref a_images, .int v_keptImages])), (a_congruences, .inr (0, [.int u.1, .int u.2.1, .ref a_congruences_partitions])), (a_history, .inr (1, [.int v_history_known, .ref a_history_places, .ref a_history_values])), (a_now, .inr (3, [.int v_now_size, .ref a_now_values])), (a_congruences_partitions, .inl (y.1, 15, .inl u.2.2)), (a_now_values, .inl (y.1, 20, .inl v_now_values))])) A) 0 0 A := by
  refine Met.ofW (cc := cX8_count) (maxL := 2) (ret := (some .int)) (by decide) rfl ?_
  intro p e s m args below meth c s₁ B hml hv
  obtain ⟨rfl, hsz, hP, hK, hD0, hT⟩ := hv
  have hx := B.exec
  have hb := B.bytes
  have hr := B.returns
  have hts := atoms_spec (ws := wsX8_count) B.pre
  have hown : s.vm.findClass RX8 = some m.cls := findClass_of_methodNamed B.named
  have hlocks := B.notSynchronized
  subst hsz
  have hD : va_D A [(a, .inr (5, [.ref a_now, .ref a_trial, .ref a_reader, .ref a_history, .ref a_congruences, .ref a_terms, .ref a_text, .int v_letters, .ref a_seen, .int v_seenSoFar, .ref a_images, .int v_keptImages])), (a_congruences, .inr (0, [.int v_congruences_found, .int v_congruences_size, .ref a_congruences_partitions])), (a_history, .inr (1, [.int v_history_known, .ref a_history_places, .ref a_history_values])), (a_now, .inr (3, [.int v_now_size, .ref a_now_values])), (a_congruences_partitions, .inl (y.1, 15, .inl v_congruences_partitions)), (a_now_values, .inl (y.1, 20, .inl v_now_values))] := hAe ▸ hD0.self
  have hA : ∀ q : Nat, s.heap.size ≤ q → A q := fun q h => hAe ▸ Or.inr h
  have hS : va_S A s.heap s.heap [] := va_S.rf
  have iX1 : ∀ w ∈ wsX10, w ∈ wsX8_count := by decide +kernel
  have iX2 : ∀ w ∈ wsX20, w ∈ wsX8_count := by decide +kernel
  have iX6 : ∀ w ∈ wsX60, w ∈ wsX8_count := by decide +kernel
  have iX8 : ∀ w ∈ wsX80, w ∈ wsX8_count := by decide +kernel
  have fl10 := hts (.fieldLink RX8 10 "AlgebraLaws" "now" "LAlgebraLaws$Tables;") (by decide +kernel)
  have fl187 := hts (.fieldLink RX8 187 "AlgebraLaws$Tables" "size" "I") (by decide +kernel)
  have fl36 := hts (.fieldLink RX8 36 "AlgebraLaws" "congruences" "LAlgebraLaws$Congruences;") (by decide +kernel)
  have fl210 := hts (.fieldLink RX8 210 "AlgebraLaws$Congruences" "found" "I") (by decide +kernel)
  have fl80 := hts (.fieldLink RX8 80 "AlgebraLaws" "seenSoFar" "I") (by decide +kernel)
  have fl62 := hts (.fieldLink RX8 62 "AlgebraLaws" "letters" "I") (by decide +kernel)
  have fl29 := hts (.fieldLink RX8 29 "AlgebraLaws" "history" "LAlgebraLaws$History;") (by decide +kernel)
  have fl117 := hts (.fieldLink RX8 117 "AlgebraLaws$History" "known" "I") (by decide +kernel)
  have hl := lv_entry ([.ref a, .int x1] : List Value) (n := 2) (Nat.le_of_ble_eq_true rfl)
  rw [lg_entry_eq]
  generalize (lg_sl ([.ref a, .int x1] : List Value) ++ List.replicate (2 - (lg_sl ([.ref a, .int x1] : List Value)).length) Slot.unset).toArray = ls at hl ⊢
  have hl : lv_has ls 2 [(0, .ref a), (1, .int x1)] := hl
  unfold m_X8_count at h
  refine lv_iload_n hx hb dX8_count_0 rfl (lv_at hl 1 rfl) ?_
  by_cases c1_0 : x1 = 0
  · have h := sat_t c1_0 h
    refine lv_tableIn (tgt := 52) (off := 51) hx hb dX8_count_1 (by rw [c1_0]; decide) (by rw [c1_0]; decide) (by rw [c1_0]; rfl) (by decide) ?_
    refine lv_aload_n hx hb dX8_count_52 rfl (lv_at hl 0 rfl) ?_
    refine va_get (D := D) (ci := 5) (v := .ref a_now) (C := RX8) (T := TX8) (N := 12) hx hb hts iX8 hown hK hP 0 rfl rfl 0 (by decide) fl10 (fun _ h9 => h9) rfl dX8_count_53 ?_
    refine va_get (D := D) (ci := 3) (v := .int v_now_size) (C := RX6) (T := TX6) (N := 2) hx hb hts iX6 hown hK hP 3 rfl rfl 0 (by decide) fl187 (fun _ h9 => h9) rfl dX8_count_56 ?_
    have h := sat_some h
    exact W.iret (v := v_now_size) hx hb hr (fun t ht hW => ⟨⟨v_now_size, (v_congruences_found, v_congruences_size, v_congruences_partitions), rfl, h, by rw [ht]; exact hP, va_K.moved hW.alike hK, hD⟩, hS.F ht⟩) hS.2.2 dX8_count_59
  have h := sat_f c1_0 h
  by_cases c1_1 : x1 = 1
  · have h := sat_t c1_1 h
    refine lv_tableIn (tgt := 60) (off := 59) hx hb dX8_count_1 (by rw [c1_1]; decide) (by rw [c1_1]; decide) (by rw [c1_1]; rfl) (by decide) ?_
    refine lv_aload_n hx hb dX8_count_60 rfl (lv_at hl 0 rfl) ?_
    refine va_get (D := D) (ci := 5) (v := .ref a_now) (C := RX8) (T := TX8) (N := 12) hx hb hts iX8 hown hK hP 0 rfl rfl 0 (by decide) fl10 (fun _ h9 => h9) rfl dX8_count_61 ?_
    refine cr_i (rs (As := [.ref a_now]) (rest := []) ⟨hx, hb, hml, hown, hts⟩ (c_X0_howMany l D y a_now a_now_values v_now_size v_now_values _ (sat_bind h)) (va_cwS 1 hts gX8_count_X0_howMany rfl rfl rfl (by decide +kernel) ⟨Nat.le_of_ble_eq_true rfl, Nat.le_of_ble_eq_true rfl⟩) hK hP [3, 5] rfl rfl hl.1 rfl (Nat.le_of_ble_eq_true rfl) dX8_count_64 ⟨Nat.zero_le _, Nat.zero_le _⟩) (fun r1 h => ?_)
    have h := sat_some h
    exact W.iret (v := r1) hx hb hr (fun t ht hW => ⟨⟨r1, (v_congruences_found, v_congruences_size, v_congruences_partitions), rfl, h, by rw [ht]; exact hP, va_K.moved hW.alike hK, hD⟩, hS.F ht⟩) hS.2.2 dX8_count_67
  have h := sat_f c1_1 h
  by_cases c1_2 : x1 = 2
  · have h := sat_t c1_2 h
    refine lv_tableIn (tgt := 68) (off := 67) hx hb dX8_count_1 (by rw [c1_2]; decide) (by rw [c1_2]; decide) (by rw [c1_2]; rfl) (by decide) ?_
    refine lv_aload_n hx hb dX8_count_68 rfl (lv_at hl 0 rfl) ?_
    refine va_get (D := D) (ci := 5) (v := .ref a_congruences) (C := RX8) (T := TX8) (N := 12) hx hb hts iX8 hown hK hP 0 rfl rfl 4 (by decide) fl36 (fun _ h9 => h9) rfl dX8_count_69 ?_
    refine lv_aload_n hx hb dX8_count_72 rfl (lv_at hl 0 rfl) ?_
    refine va_get (D := D) (ci := 5) (v := .ref a_now) (C := RX8) (T := TX8) (N := 12) hx hb hts iX8 hown hK hP 0 rfl rfl 0 (by decide) fl10 (fun _ h9 => h9) rfl dX8_count_73 ?_
    refine cw_v (wn := fun u2 => [(a, .inr (5, [.ref a_now, .ref a_trial, .ref a_reader, .ref a_history, .ref a_congruences, .ref a_terms, .ref a_text, .int v_letters, .ref a_seen, .int v_seenSoFar, .ref a_images, .int v_keptImages])), (a_congruences, .inr (0, [.int u2.1, .int u2.2.1, .ref a_congruences_partitions])), (a_history, .inr (1, [.int v_history_known, .ref a_history_places, .ref a_history_values])), (a_now, .inr (3, [.int v_now_size, .ref a_now_values])), (a_congruences_partitions, .inl (y.1, 15, .inl u2.2.2)), (a_now_values, .inl (y.1, 20, .inl v_now_values))]) (wr := [(a, .inr (5, [.ref a_now, .ref a_trial, .ref a_reader, .ref a_history, .ref a_congruences, .ref a_terms, .ref a_text, .int v_letters, .ref a_seen, .int v_seenSoFar, .ref a_images, .int v_keptImages])), (a_history, .inr (1, [.int v_history_known, .ref a_history_places, .ref a_history_values]))]) (wvS hT hS hA (As := [.ref a_now]) (rest := []) ⟨hx, hb, hml, hown, hts⟩ (c_X1_seekIn l D y a_congruences a_congruences_partitions a_now a_now_values v_congruences_found v_congruences_size v_congruences_partitions v_now_size v_now_values tS _ _ rfl _ (sat_bind h)) (cwV 1 hts gX8_count_X1_seekIn rfl rfl rfl (by decide +kernel) ⟨Nat.le_of_ble_eq_true rfl, Nat.le_of_ble_eq_true rfl⟩) hK hP hD [1, 4, 3, 5] rfl rfl rfl 1 0 rfl rfl rfl rfl hl.1 rfl (Nat.le_of_ble_eq_true rfl) dX8_count_76 ⟨Nat.zero_le _, Nat.zero_le _⟩) hS hP hD hA [1, 4, 3, 5] [0, 2] [0, 2, 1, 4, 3, 5] rfl rfl rfl (by decide) (fun _ => rfl) rfl (fun _ => rfl) (fun u2 H locs h hP hD hS => ?_)
    refine lv_aload_n hx hb dX8_count_79 rfl (lv_at hl 0 rfl) ?_
    refine va_get (D := D) (ci := 5) (v := .ref a_congruences) (C := RX8) (T := TX8) (N := 12) hx hb hts iX8 hown hK hP 0 rfl rfl 4 (by decide) fl36 (fun _ h9 => h9) rfl dX8_count_80 ?_
    refine va_get (D := D) (ci := 0) (v := .int u2.1) (C := RX1) (T := TX1) (N := 3) hx hb hts iX1 hown hK hP 1 rfl rfl 0 (by decide) fl210 (fun _ h9 => h9) rfl dX8_count_83 ?_
    have h := sat_some h
    exact W.iret (v := u2.1) hx hb hr (fun t ht hW => ⟨⟨u2.1, (u2.1, u2.2.1, u2.2.2), rfl, h, by rw [ht]; exact hP, va_K.moved hW.alike hK, hD⟩, hS.F ht⟩) hS.2.2 dX8_count_86
  have h := sat_f c1_2 h
  by_cases c1_3 : x1 = 3
  · have h := sat_t c1_3 h
    refine lv_tableIn (tgt := 87) (off := 86) hx hb dX8_count_1 (by rw [c1_3]; decide) (by rw [c1_3]; decide) (by rw [c1_3]; rfl) (by decide) ?_
    refine lv_aload_n hx hb dX8_count_87 rfl (lv_at hl 0 rfl) ?_
    refine va_get (D := D) (ci := 5) (v := .ref a_now) (C := RX8) (T := TX8) (N := 12) hx hb hts iX8 hown hK hP 0 rfl rfl 0 (by decide) fl10 (fun _ h9 => h9) rfl dX8_count_88 ?_
    refine cr_i (rs (As := [.ref a_now]) (rest := []) ⟨hx, hb, hml, hown, hts⟩ (c_X3_thatHold l D y a_now a_now_values v_now_size v_now_values _ (sat_bind h)) (va_cwS 1 hts gX8_count_X3_thatHold rfl rfl rfl (by decide +kernel) ⟨Nat.le_of_ble_eq_true rfl, Nat.le_of_ble_eq_true rfl⟩) hK hP [3, 5] rfl rfl hl.1 rfl (Nat.le_of_ble_eq_true rfl) dX8_count_91 ⟨Nat.zero_le _, Nat.zero_le _⟩) (fun r3 h => ?_)
    have h := sat_some h
    exact W.iret (v := r3) hx hb hr (fun t ht hW => ⟨⟨r3, (v_congruences_found, v_congruences_size, v_congruences_partitions), rfl, h, by rw [ht]; exact hP, va_K.moved hW.alike hK, hD⟩, hS.F ht⟩) hS.2.2 dX8_count_94
  have h := sat_f c1_3 h
  by_cases c1_4 : x1 = 4
  · have h := sat_t c1_4 h
    refine lv_tableIn (tgt := 95) (off := 94) hx hb dX8_count_1 (by rw [c1_4]; decide) (by rw [c1_4]; decide) (by rw [c1_4]; rfl) (by decide) ?_
    refine lv_aload_n hx hb dX8_count_95 rfl (lv_at hl 0 rfl) ?_
    refine va_get (D := D) (ci := 5) (v := .ref a_now) (C := RX8) (T := TX8) (N := 12) hx hb hts iX8 hown hK hP 0 rfl rfl 0 (by decide) fl10 (fun _ h9 => h9) rfl dX8_count_96 ?_
    refine lv_iconst (v := 0) hx hb dX8_count_99 (by decide) ?_
    refine cr_i (rs (As := [.ref a_now, .int 0]) (rest := []) ⟨hx, hb, hml, hown, hts⟩ (c_X4_howMany l D y a_now a_now_values v_now_size v_now_values 0 _ (sat_bind h)) (va_cwS 2 hts gX8_count_X4_howMany rfl rfl rfl (by decide +kernel) ⟨Nat.le_of_ble_eq_true rfl, Nat.le_of_ble_eq_true rfl⟩) hK hP [3, 5] rfl rfl hl.1 rfl (Nat.le_of_ble_eq_true rfl) dX8_count_100 ⟨Nat.zero_le _, Nat.zero_le _⟩) (fun r4 h => ?_)
    have h := sat_some h
    exact W.iret (v := r4) hx hb hr (fun t ht hW => ⟨⟨r4, (v_congruences_found, v_congruences_size, v_congruences_partitions), rfl, h, by rw [ht]; exact hP, va_K.moved hW.alike hK, hD⟩, hS.F ht⟩) hS.2.2 dX8_count_103
  have h := sat_f c1_4 h
  by_cases c1_5 : x1 = 5
  · have h := sat_t c1_5 h
    refine lv_tableIn (tgt := 104) (off := 103) hx hb dX8_count_1 (by rw [c1_5]; decide) (by rw [c1_5]; decide) (by rw [c1_5]; rfl) (by decide) ?_
    refine lv_aload_n hx hb dX8_count_104 rfl (lv_at hl 0 rfl) ?_
    refine va_get (D := D) (ci := 5) (v := .ref a_now) (C := RX8) (T := TX8) (N := 12) hx hb hts iX8 hown hK hP 0 rfl rfl 0 (by decide) fl10 (fun _ h9 => h9) rfl dX8_count_105 ?_
    refine lv_iconst (v := 1) hx hb dX8_count_108 (by decide) ?_
    refine cr_i (rs (As := [.ref a_now, .int 1]) (rest := []) ⟨hx, hb, hml, hown, hts⟩ (c_X4_howMany l D y a_now a_now_values v_now_size v_now_values 1 _ (sat_bind h)) (va_cwS 2 hts gX8_count_X4_howMany rfl rfl rfl (by decide +kernel) ⟨Nat.le_of_ble_eq_true rfl, Nat.le_of_ble_eq_true rfl⟩) hK hP [3, 5] rfl rfl hl.1 rfl (Nat.le_of_ble_eq_true rfl) dX8_count_109 ⟨Nat.zero_le _, Nat.zero_le _⟩) (fun r5 h => ?_)
    have h := sat_some h
    exact W.iret (v := r5) hx hb hr (fun t ht hW => ⟨⟨r5, (v_congruences_found, v_congruences_size, v_congruences_partitions), rfl, h, by rw [ht]; exact hP, va_K.moved hW.alike hK, hD⟩, hS.F ht⟩) hS.2.2 dX8_count_112
  have h := sat_f c1_5 h
  by_cases c1_6 : x1 = 6
  · have h := sat_t c1_6 h
    refine lv_tableIn (tgt := 113) (off := 112) hx hb dX8_count_1 (by rw [c1_6]; decide) (by rw [c1_6]; decide) (by rw [c1_6]; rfl) (by decide) ?_
    refine lv_aload_n hx hb dX8_count_113 rfl (lv_at hl 0 rfl) ?_
    refine va_get (D := D) (ci := 5) (v := .int v_seenSoFar) (C := RX8) (T := TX8) (N := 12) hx hb hts iX8 hown hK hP 0 rfl rfl 9 (by decide) fl80 (fun _ h9 => h9) rfl dX8_count_114 ?_
    have h := sat_some h
    exact W.iret (v := v_seenSoFar) hx hb hr (fun t ht hW => ⟨⟨v_seenSoFar, (v_congruences_found, v_congruences_size, v_congruences_partitions), rfl, h, by rw [ht]; exact hP, va_K.moved hW.alike hK, hD⟩, hS.F ht⟩) hS.2.2 dX8_count_117
  have h := sat_f c1_6 h
  by_cases c1_7 : x1 = 7
  · have h := sat_t c1_7 h
    refine lv_tableIn (tgt := 118) (off := 117) hx hb dX8_count_1 (by rw [c1_7]; decide) (by rw [c1_7]; decide) (by rw [c1_7]; rfl) (by decide) ?_
    refine lv_aload_n hx hb dX8_count_118 rfl (lv_at hl 0 rfl) ?_
    refine va_get (D := D) (ci := 5) (v := .int v_letters) (C := RX8) (T := TX8) (N := 12) hx hb hts iX8 hown hK hP 0 rfl rfl 7 (by decide) fl62 (fun _ h9 => h9) rfl dX8_count_119 ?_
    have h := sat_some h
    exact W.iret (v := v_letters) hx hb hr (fun t ht hW => ⟨⟨v_letters, (v_congruences_found, v_congruences_size, v_congruences_partitions), rfl, h, by rw [ht]; exact hP, va_K.moved hW.alike hK, hD⟩, hS.F ht⟩) hS.2.2 dX8_count_122
  have h := sat_f c1_7 h
  by_cases c1_8 : x1 = 8
  · have h := sat_t c1_8 h
    refine lv_tableIn (tgt := 123) (off := 122) hx hb dX8_count_1 (by rw [c1_8]; decide) (by rw [c1_8]; decide) (by rw [c1_8]; rfl) (by decide) ?_
    refine lv_aload_n hx hb dX8_count_123 rfl (lv_at hl 0 rfl) ?_
    refine va_get (D := D) (ci := 5) (v := .ref a_history) (C := RX8) (T := TX8) (N := 12) hx hb hts iX8 hown hK hP 0 rfl rfl 3 (by decide) fl29 (fun _ h9 => h9) rfl dX8_count_124 ?_
    refine va_get (D := D) (ci := 1) (v := .int v_history_known) (C := RX2) (T := TX2) (N := 3) hx hb hts iX2 hown hK hP 2 rfl rfl 0 (by decide) fl117 (fun _ h9 => h9) rfl dX8_count_127 ?_
    have h := sat_some h
    exact W.iret (v := v_history_known) hx hb hr (fun t ht hW => ⟨⟨v_history_known, (v_congruences_found, v_congruences_size, v_congruences_partitions), rfl, h, by rw [ht]; exact hP, va_K.moved hW.alike hK, hD⟩, hS.F ht⟩) hS.2.2 dX8_count_130
  have h := sat_f c1_8 h
  have e1_0 : (x1).toInt ≠ 0 := fun q => c1_0 (Int32.toInt_inj.mp (q.trans rfl))
  have e1_1 : (x1).toInt ≠ 1 := fun q => c1_1 (Int32.toInt_inj.mp (q.trans rfl))
  have e1_2 : (x1).toInt ≠ 2 := fun q => c1_2 (Int32.toInt_inj.mp (q.trans rfl))
  have e1_3 : (x1).toInt ≠ 3 := fun q => c1_3 (Int32.toInt_inj.mp (q.trans rfl))
  have e1_4 : (x1).toInt ≠ 4 := fun q => c1_4 (Int32.toInt_inj.mp (q.trans rfl))
  have e1_5 : (x1).toInt ≠ 5 := fun q => c1_5 (Int32.toInt_inj.mp (q.trans rfl))
  have e1_6 : (x1).toInt ≠ 6 := fun q => c1_6 (Int32.toInt_inj.mp (q.trans rfl))
  have e1_7 : (x1).toInt ≠ 7 := fun q => c1_7 (Int32.toInt_inj.mp (q.trans rfl))
  have e1_8 : (x1).toInt ≠ 8 := fun q => c1_8 (Int32.toInt_inj.mp (q.trans rfl))
  refine lv_tableOut (tgt := 131) hx hb dX8_count_1 (by omega) (by decide) ?_
  refine lv_bipush (v := (-2)) hx hb dX8_count_131 (by decide) ?_
  have h := sat_some h
  exact W.iret (v := (-2)) hx hb hr (fun t ht hW => ⟨⟨(-2), (v_congruences_found, v_congruences_size, v_congruences_partitions), rfl, h, by rw [ht]; exact hP, va_K.moved hW.alike hK, hD⟩, hS.F ht⟩) hS.2.2 dX8_count_133
