/-! X9_free -/
set_option maxHeartbeats 4000000 in
set_option maxRecDepth 100000 in
theorem c_X9_free (l : Launch) (D : va_G) (y : ClassId × ClassId × ClassId × ClassId) (a a_now a_terms a_undos a_seen a_isKept a_kept a_text a_read a_congruences : Nat) (v_undoMany : Int32) (v_undoAt : Int32) (v_seenMany : Int32) (v_letterMany : Int32) (v_readAt : Int32) (v_tokenAt : Int32) (v_token : Int32) (v_faultAt : Int32) (v_readItems : Int32) (v_congruenceMany : Int32) (v_termMany : Int32) (v_rounds : Int32) (v_now : Nat → Int32) (v_terms : Nat → Int64) (x1 : Int32) (x2 : Int32) (sz : Nat) (A : Nat → Prop) (hAe : va_A [(a, .inr (6, [.ref a_now, .int v_undoMany, .int v_undoAt, .ref a_undos, .int v_seenMany, .ref a_seen, .ref a_isKept, .ref a_kept, .int v_letterMany, .ref a_text, .int v_readAt, .int v_tokenAt, .int v_token, .int v_faultAt, .int v_readItems, .ref a_read, .int v_congruenceMany, .ref a_congruences, .int v_termMany, .int v_rounds, .ref a_terms])), (a_now, .inl (y.1, 21, .inl v_now)), (a_terms, .inl (y.2.1, 202, .inr (.inl v_terms)))] sz = A) (K : Int32 → (Int32 × Int32 × (Nat → Int64)) → Prop) (h : sat (m_X9_free v_termMany v_rounds v_now v_terms x1 x2) (pK K)) : Met l yX9_free wsX9_free ({ frames := 3, cells := 0, slots := 0, locals := 74 } : Room) (pW D y ([.ref a, .int x1, .int x2] : List Value) [(a, .inr (6, [.ref a_now, .int v_undoMany, .int v_undoAt, .ref a_undos, .int v_seenMany, .ref a_seen, .ref a_isKept, .ref a_kept, .int v_letterMany, .ref a_text, .int v_readAt, .int v_tokenAt, .int v_token, .int v_faultAt, .int v_readItems, .ref a_read, .int v_congruenceMany, .ref a_congruences, .int v_termMany, .int v_rounds, .ref a_terms])), (a_now, .inl (y.1, 21, .inl v_now)), (a_terms, .inl (y.2.1, 202, .inr (.inl v_terms)))] sz) (va_Qi K (bW D y A (fun u : (Int32 × Int32 × (Nat → Int64)) => [(a, .inr (6, [.ref a_now, .int v_undoMany, .int v_undoAt, .ref a_undos, .int v_seenMany, .ref a_seen, .ref a_isKept, .ref a_kept, .int v_letterMany, .ref a_text, .int v_readAt, .int v_tokenAt, .int v_token, .int v_faultAt, .int v_readItems, .ref a_read, .int v_congruenceMany, .ref a_congruences, .int u.1, .int u.2.1, .ref a_terms])), (a_now, .inl (y.1, 21, .inl v_now)), (a_terms, .inl (y.2.1, 202, .inr (.inl u.2.2)))])) A) 0 0 A := by
  refine Met.ofW (cc := cX9_free) (maxL := 7) (ret := (some .int)) (by decide) rfl ?_
  intro p e s m args below meth c s₁ B hml hv
  obtain ⟨rfl, hsz, hP, hK, hD0⟩ := hv
  have hx := B.exec
  have hb := B.bytes
  have hr := B.returns
  have hts := atoms_spec (ws := wsX9_free) B.pre
  have hown : s.vm.findClass RX9 = some m.cls := findClass_of_methodNamed B.named
  have hlocks := B.notSynchronized
  subst hsz
  have hD : va_D A [(a, .inr (6, [.ref a_now, .int v_undoMany, .int v_undoAt, .ref a_undos, .int v_seenMany, .ref a_seen, .ref a_isKept, .ref a_kept, .int v_letterMany, .ref a_text, .int v_readAt, .int v_tokenAt, .int v_token, .int v_faultAt, .int v_readItems, .ref a_read, .int v_congruenceMany, .ref a_congruences, .int v_termMany, .int v_rounds, .ref a_terms])), (a_now, .inl (y.1, 21, .inl v_now)), (a_terms, .inl (y.2.1, 202, .inr (.inl v_terms)))] := hAe ▸ hD0.self
  have hA : ∀ q : Nat, s.heap.size ≤ q → A q := fun q h => hAe ▸ Or.inr h
  have hS : va_S A s.heap s.heap [] := va_S.rf
  have iX9 : ∀ w ∈ wsX90, w ∈ wsX9_free := by decide +kernel
  have fl182 := hts (.fieldLink RX9 182 "AlgebraLawsModel" "termMany" "I") (by decide +kernel)
  have fl203 := hts (.fieldLink RX9 203 "AlgebraLawsModel" "rounds" "I") (by decide +kernel)
  have hl := lv_entry ([.ref a, .int x1, .int x2] : List Value) (n := 7) (Nat.le_of_ble_eq_true rfl)
  rw [lg_entry_eq]
  generalize (lg_sl ([.ref a, .int x1, .int x2] : List Value) ++ List.replicate (7 - (lg_sl ([.ref a, .int x1, .int x2] : List Value)).length) Slot.unset).toArray = ls at hl ⊢
  have hl : lv_has ls 7 [(0, .ref a), (1, .int x1), (2, .int x2)] := hl
  have hJ152 : ∀ (v_termMany_152 : Int32) (v_rounds_152 : Int32) (v_terms_152 : Nat → Int64) (ls : Array Slot) (H : Heap) (locs : List Loc), sat (m_X9_free_j152 x2 v_termMany_152 v_rounds_152 v_terms_152) (pK K) → lv_has ls 7 [(0, .ref a), (2, .int x2)] → va_P D vwCl [(a, .inr (6, [.ref a_now, .int v_undoMany, .int v_undoAt, .ref a_undos, .int v_seenMany, .ref a_seen, .ref a_isKept, .ref a_kept, .int v_letterMany, .ref a_text, .int v_readAt, .int v_tokenAt, .int v_token, .int v_faultAt, .int v_readItems, .ref a_read, .int v_congruenceMany, .ref a_congruences, .int v_termMany_152, .int v_rounds_152, .ref a_terms])), (a_now, .inl (y.1, 21, .inl v_now)), (a_terms, .inl (y.2.1, 202, .inr (.inl v_terms_152)))] H → va_D A [(a, .inr (6, [.ref a_now, .int v_undoMany, .int v_undoAt, .ref a_undos, .int v_seenMany, .ref a_seen, .ref a_isKept, .ref a_kept, .int v_letterMany, .ref a_text, .int v_readAt, .int v_tokenAt, .int v_token, .int v_faultAt, .int v_readItems, .ref a_read, .int v_congruenceMany, .ref a_congruences, .int v_termMany_152, .int v_rounds_152, .ref a_terms])), (a_now, .inl (y.1, 21, .inl v_now)), (a_terms, .inl (y.2.1, 202, .inr (.inl v_terms_152)))] → va_S A s.heap H locs → W p l e (headSpec wsX9_free ({ frames := 3, cells := 0, slots := 0, locals := 74 } : Room)).room s m ([.ref a, .int x1, .int x2] : List Value).toArray below meth c H locs 0 0 (MQ below (va_Qi K (bW D y A (fun u : (Int32 × Int32 × (Nat → Int64)) => [(a, .inr (6, [.ref a_now, .int v_undoMany, .int v_undoAt, .ref a_undos, .int v_seenMany, .ref a_seen, .ref a_isKept, .ref a_kept, .int v_letterMany, .ref a_text, .int v_readAt, .int v_tokenAt, .int v_token, .int v_faultAt, .int v_readItems, .ref a_read, .int v_congruenceMany, .ref a_congruences, .int u.1, .int u.2.1, .ref a_terms])), (a_now, .inl (y.1, 21, .inl v_now)), (a_terms, .inl (y.2.1, 202, .inr (.inl u.2.2)))])) A) ([.ref a, .int x1, .int x2] : List Value).toArray s 0 0 A) (F0 m 152 ls []) := by
    intro v_termMany_152 v_rounds_152 v_terms_152 ls H locs h hl hP hD hS
    unfold m_X9_free_j152 at h
    refine lv_aload_n hx hb dX9_free_152 rfl (lv_at hl 0 rfl) ?_
    refine va_get (D := D) (ci := 6) (v := .int v_termMany_152) (C := RX9) (T := TX9) (N := 21) hx hb hts iX9 hown hK hP 0 rfl rfl 18 (by decide) fl182 (fun _ h9 => h9) rfl dX9_free_153 ?_
    refine lv_sipush (v := 200) hx hb dX9_free_156 (by decide) ?_
    refine lv_icmp_le (tgt := 167) hx hb dX9_free_159 (by decide) (fun c159 => ?_) (fun c159 => ?_)
    · have h := sat_t c159 h
      refine lv_iload_n hx hb dX9_free_167 rfl (lv_at hl 1 rfl) ?_
      refine lv_if_ne (tgt := 178) hx hb dX9_free_168 (by decide) (fun c168 => ?_) (fun c168 => ?_)
      · have h := sat_f c168 h
        refine lv_aload_n hx hb dX9_free_178 rfl (lv_at hl 0 rfl) ?_
        refine va_get (D := D) (ci := 6) (v := .int v_rounds_152) (C := RX9) (T := TX9) (N := 21) hx hb hts iX9 hown hK hP 0 rfl rfl 19 (by decide) fl203 (fun _ h9 => h9) rfl dX9_free_179 ?_
        have h := sat_some h
        exact W.iret (v := v_rounds_152) hx hb hr (fun t ht hW => ⟨⟨v_rounds_152, (v_termMany_152, v_rounds_152, v_terms_152), rfl, h, by rw [ht]; exact hP, va_K.moved hW.alike hK, hD⟩, hS.F ht⟩) hS.2.2 dX9_free_182
      · have h := sat_t c168 h
        refine lv_aload_n hx hb dX9_free_171 rfl (lv_at hl 0 rfl) ?_
        refine va_get (D := D) (ci := 6) (v := .int v_termMany_152) (C := RX9) (T := TX9) (N := 21) hx hb hts iX9 hown hK hP 0 rfl rfl 18 (by decide) fl182 (fun _ h9 => h9) rfl dX9_free_172 ?_
        refine lv_goto (tgt := 182) hx hb dX9_free_175 (by decide) ?_
        have h := sat_some h
        exact W.iret (v := v_termMany_152) hx hb hr (fun t ht hW => ⟨⟨v_termMany_152, (v_termMany_152, v_rounds_152, v_terms_152), rfl, h, by rw [ht]; exact hP, va_K.moved hW.alike hK, hD⟩, hS.F ht⟩) hS.2.2 dX9_free_182
    · have h := sat_f c159 h
      refine lv_bipush (v := (-4)) hx hb dX9_free_162 (by decide) ?_
      refine lv_goto (tgt := 182) hx hb dX9_free_164 (by decide) ?_
      have h := sat_some h
      exact W.iret (v := (-4)) hx hb hr (fun t ht hW => ⟨⟨(-4), (v_termMany_152, v_rounds_152, v_terms_152), rfl, h, by rw [ht]; exact hP, va_K.moved hW.alike hK, hD⟩, hS.F ht⟩) hS.2.2 dX9_free_182
  have hJ121 : ∀ (x3_121 : Int32) (v_termMany_121 : Int32) (v_rounds_121 : Int32) (v_terms_121 : Nat → Int64) (ls : Array Slot) (H : Heap) (locs : List Loc), sat (m_X9_free_j121 v_now x2 x3_121 v_termMany_121 v_rounds_121 v_terms_121) (pK K) → lv_has ls 7 [(0, .ref a), (2, .int x2), (3, .int x3_121)] → va_P D vwCl [(a, .inr (6, [.ref a_now, .int v_undoMany, .int v_undoAt, .ref a_undos, .int v_seenMany, .ref a_seen, .ref a_isKept, .ref a_kept, .int v_letterMany, .ref a_text, .int v_readAt, .int v_tokenAt, .int v_token, .int v_faultAt, .int v_readItems, .ref a_read, .int v_congruenceMany, .ref a_congruences, .int v_termMany_121, .int v_rounds_121, .ref a_terms])), (a_now, .inl (y.1, 21, .inl v_now)), (a_terms, .inl (y.2.1, 202, .inr (.inl v_terms_121)))] H → va_D A [(a, .inr (6, [.ref a_now, .int v_undoMany, .int v_undoAt, .ref a_undos, .int v_seenMany, .ref a_seen, .ref a_isKept, .ref a_kept, .int v_letterMany, .ref a_text, .int v_readAt, .int v_tokenAt, .int v_token, .int v_faultAt, .int v_readItems, .ref a_read, .int v_congruenceMany, .ref a_congruences, .int v_termMany_121, .int v_rounds_121, .ref a_terms])), (a_now, .inl (y.1, 21, .inl v_now)), (a_terms, .inl (y.2.1, 202, .inr (.inl v_terms_121)))] → va_S A s.heap H locs → W p l e (headSpec wsX9_free ({ frames := 3, cells := 0, slots := 0, locals := 74 } : Room)).room s m ([.ref a, .int x1, .int x2] : List Value).toArray below meth c H locs 0 0 (MQ below (va_Qi K (bW D y A (fun u : (Int32 × Int32 × (Nat → Int64)) => [(a, .inr (6, [.ref a_now, .int v_undoMany, .int v_undoAt, .ref a_undos, .int v_seenMany, .ref a_seen, .ref a_isKept, .ref a_kept, .int v_letterMany, .ref a_text, .int v_readAt, .int v_tokenAt, .int v_token, .int v_faultAt, .int v_readItems, .ref a_read, .int v_congruenceMany, .ref a_congruences, .int u.1, .int u.2.1, .ref a_terms])), (a_now, .inl (y.1, 21, .inl v_now)), (a_terms, .inl (y.2.1, 202, .inr (.inl u.2.2)))])) A) ([.ref a, .int x1, .int x2] : List Value).toArray s 0 0 A) (F0 m 121 ls []) := by
    intro x3_121 v_termMany_121 v_rounds_121 v_terms_121 ls H locs h hl hP hD hS
    unfold m_X9_free_j121 at h
    have hL121 : ∀ (K121 : (Int32 × Int32 × (Nat → Int64)) → Prop)
        (hE121 : ∀ (z121 : (Int32 × Int32 × (Nat → Int64))) (ls : Array Slot) (H : Heap) (locs : List Loc), K121 z121 → lv_has ls 7 [(0, .ref a), (2, .int x2)] → va_P D vwCl [(a, .inr (6, [.ref a_now, .int v_undoMany, .int v_undoAt, .ref a_undos, .int v_seenMany, .ref a_seen, .ref a_isKept, .ref a_kept, .int v_letterMany, .ref a_text, .int v_readAt, .int v_tokenAt, .int v_token, .int v_faultAt, .int v_readItems, .ref a_read, .int v_congruenceMany, .ref a_congruences, .int z121.1, .int z121.2.1, .ref a_terms])), (a_now, .inl (y.1, 21, .inl v_now)), (a_terms, .inl (y.2.1, 202, .inr (.inl z121.2.2)))] H → va_D A [(a, .inr (6, [.ref a_now, .int v_undoMany, .int v_undoAt, .ref a_undos, .int v_seenMany, .ref a_seen, .ref a_isKept, .ref a_kept, .int v_letterMany, .ref a_text, .int v_readAt, .int v_tokenAt, .int v_token, .int v_faultAt, .int v_readItems, .ref a_read, .int v_congruenceMany, .ref a_congruences, .int z121.1, .int z121.2.1, .ref a_terms])), (a_now, .inl (y.1, 21, .inl v_now)), (a_terms, .inl (y.2.1, 202, .inr (.inl z121.2.2)))] → va_S A s.heap H locs → W p l e (headSpec wsX9_free ({ frames := 3, cells := 0, slots := 0, locals := 74 } : Room)).room s m ([.ref a, .int x1, .int x2] : List Value).toArray below meth c H locs 0 0 (MQ below (va_Qi K (bW D y A (fun u : (Int32 × Int32 × (Nat → Int64)) => [(a, .inr (6, [.ref a_now, .int v_undoMany, .int v_undoAt, .ref a_undos, .int v_seenMany, .ref a_seen, .ref a_isKept, .ref a_kept, .int v_letterMany, .ref a_text, .int v_readAt, .int v_tokenAt, .int v_token, .int v_faultAt, .int v_readItems, .ref a_read, .int v_congruenceMany, .ref a_congruences, .int u.1, .int u.2.1, .ref a_terms])), (a_now, .inl (y.1, 21, .inl v_now)), (a_terms, .inl (y.2.1, 202, .inr (.inl u.2.2)))])) A) ([.ref a, .int x1, .int x2] : List Value).toArray s 0 0 A) (F0 m 152 ls []))
        (n : Nat) (v_termMany_121 : Int32) (v_rounds_121 : Int32) (v_terms_121 : Nat → Int64) (ls : Array Slot) (H : Heap) (locs : List Loc), sat (lp (fun q : (Int32 × Int32 × (Nat → Int64)) => m_X9_free_s121 v_now x3_121 q.1 q.2.1 q.2.2) n (v_termMany_121, v_rounds_121, v_terms_121)) K121 → lv_has ls 7 [(0, .ref a), (2, .int x2), (3, .int x3_121)] → va_P D vwCl [(a, .inr (6, [.ref a_now, .int v_undoMany, .int v_undoAt, .ref a_undos, .int v_seenMany, .ref a_seen, .ref a_isKept, .ref a_kept, .int v_letterMany, .ref a_text, .int v_readAt, .int v_tokenAt, .int v_token, .int v_faultAt, .int v_readItems, .ref a_read, .int v_congruenceMany, .ref a_congruences, .int v_termMany_121, .int v_rounds_121, .ref a_terms])), (a_now, .inl (y.1, 21, .inl v_now)), (a_terms, .inl (y.2.1, 202, .inr (.inl v_terms_121)))] H → va_D A [(a, .inr (6, [.ref a_now, .int v_undoMany, .int v_undoAt, .ref a_undos, .int v_seenMany, .ref a_seen, .ref a_isKept, .ref a_kept, .int v_letterMany, .ref a_text, .int v_readAt, .int v_tokenAt, .int v_token, .int v_faultAt, .int v_readItems, .ref a_read, .int v_congruenceMany, .ref a_congruences, .int v_termMany_121, .int v_rounds_121, .ref a_terms])), (a_now, .inl (y.1, 21, .inl v_now)), (a_terms, .inl (y.2.1, 202, .inr (.inl v_terms_121)))] → va_S A s.heap H locs → W p l e (headSpec wsX9_free ({ frames := 3, cells := 0, slots := 0, locals := 74 } : Room)).room s m ([.ref a, .int x1, .int x2] : List Value).toArray below meth c H locs 0 0 (MQ below (va_Qi K (bW D y A (fun u : (Int32 × Int32 × (Nat → Int64)) => [(a, .inr (6, [.ref a_now, .int v_undoMany, .int v_undoAt, .ref a_undos, .int v_seenMany, .ref a_seen, .ref a_isKept, .ref a_kept, .int v_letterMany, .ref a_text, .int v_readAt, .int v_tokenAt, .int v_token, .int v_faultAt, .int v_readItems, .ref a_read, .int v_congruenceMany, .ref a_congruences, .int u.1, .int u.2.1, .ref a_terms])), (a_now, .inl (y.1, 21, .inl v_now)), (a_terms, .inl (y.2.1, 202, .inr (.inl u.2.2)))])) A) ([.ref a, .int x1, .int x2] : List Value).toArray s 0 0 A) (F0 m 121 ls []) := by
      intro K121 hE121 n
      induction n with
      | zero => intro v_termMany_121 v_rounds_121 v_terms_121 ls H locs h; exact (sat_lp0 h).elim
      | succ n ih =>
        intro v_termMany_121 v_rounds_121 v_terms_121 ls H locs h hl hP hD hS
        have h := sat_lp h
        have h : sat (m_X9_free_s121 v_now x3_121 v_termMany_121 v_rounds_121 v_terms_121) (lk (fun s' => sat (lp (fun q : (Int32 × Int32 × (Nat → Int64)) => m_X9_free_s121 v_now x3_121 q.1 q.2.1 q.2.2) n s') K121) K121) := h
        unfold m_X9_free_s121 at h
        refine lv_aload_n hx hb dX9_free_121 rfl (lv_at hl 0 rfl) ?_
        refine va_get (D := D) (ci := 6) (v := .int v_termMany_121) (C := RX9) (T := TX9) (N := 21) hx hb hts iX9 hown hK hP 0 rfl rfl 18 (by decide) fl182 (fun _ h9 => h9) rfl dX9_free_122 ?_
        refine lv_sipush (v := 200) hx hb dX9_free_125 (by decide) ?_
        refine lv_icmp_gt (tgt := 152) hx hb dX9_free_128 (by decide) (fun c128 => ?_) (fun c128 => ?_)
        · have h := sat_t c128 h
          have h := lk_r (sat_some h)
          exact hE121 (v_termMany_121, v_rounds_121, v_terms_121) ls H locs h (lv_sub hl [0, 1] rfl) hP hD hS
        · have h := sat_f c128 h
          refine lv_aload_n hx hb dX9_free_131 rfl (lv_at hl 0 rfl) ?_
          refine lv_iload_n hx hb dX9_free_132 rfl (lv_at hl 2 rfl) ?_
          refine cw_i (wn := fun u2 => [(a, .inr (6, [.ref a_now, .int v_undoMany, .int v_undoAt, .ref a_undos, .int v_seenMany, .ref a_seen, .ref a_isKept, .ref a_kept, .int v_letterMany, .ref a_text, .int v_readAt, .int v_tokenAt, .int v_token, .int v_faultAt, .int v_readItems, .ref a_read, .int v_congruenceMany, .ref a_congruences, .int u2.1, .int v_rounds_121, .ref a_terms])), (a_now, .inl (y.1, 21, .inl v_now)), (a_terms, .inl (y.2.1, 202, .inr (.inl u2.2)))]) (wr := []) (wv (As := [.int x3_121]) (rest := []) ⟨hx, hb, hml, hown, hts⟩ (c_X9_goesRound l D y a a_now a_terms a_undos a_seen a_isKept a_kept a_text a_read a_congruences v_undoMany v_undoAt v_seenMany v_letterMany v_readAt v_tokenAt v_token v_faultAt v_readItems v_congruenceMany v_termMany_121 v_rounds_121 v_now v_terms_121 x3_121 _ _ rfl _ (sat_bd2 h)) (cwV 1 hts gX9_free_X9_goesRound rfl rfl rfl (by decide +kernel) ⟨Nat.le_of_ble_eq_true rfl, Nat.le_of_ble_eq_true rfl⟩) hK hP hD [0, 1, 2] rfl rfl rfl 0 6 rfl rfl rfl rfl hl.1 rfl (Nat.le_of_ble_eq_true rfl) dX9_free_133 ⟨Nat.zero_le _, Nat.zero_le _⟩) hS hP hD hA [0, 1, 2] [] [0, 1, 2] rfl rfl rfl (by decide) (fun _ => rfl) rfl (fun _ => rfl) (fun r3 u2 H locs h hP hD hS => ?_)
          refine lv_if_eq (tgt := 152) hx hb dX9_free_136 (by decide) (fun c136 => ?_) (fun c136 => ?_)
          · have h := sat_t c136 h
            have h := lk_r (sat_some h)
            exact hE121 (u2.1, v_rounds_121, u2.2) ls H locs h (lv_sub hl [0, 1] rfl) hP hD hS
          · have h := sat_f c136 h
            refine lv_aload_n hx hb dX9_free_139 rfl (lv_at hl 0 rfl) ?_
            refine lv_dup hx hb dX9_free_140 rfl ?_
            refine va_get (D := D) (ci := 6) (v := .int v_rounds_121) (C := RX9) (T := TX9) (N := 21) hx hb hts iX9 hown hK hP 0 rfl rfl 19 (by decide) fl203 (fun _ h9 => h9) rfl dX9_free_141 ?_
            refine lv_iconst (v := 1) hx hb dX9_free_144 (by decide) ?_
            refine lv_iadd hx hb dX9_free_145 ?_
            refine pf (D := D) (ci := 6) (v := .int (v_rounds_121 + 1)) (ty := .int) (C := RX9) (T := TX9) (N := 21) (wn := [(a, .inr (6, [.ref a_now, .int v_undoMany, .int v_undoAt, .ref a_undos, .int v_seenMany, .ref a_seen, .ref a_isKept, .ref a_kept, .int v_letterMany, .ref a_text, .int v_readAt, .int v_tokenAt, .int v_token, .int v_faultAt, .int v_readItems, .ref a_read, .int v_congruenceMany, .ref a_congruences, .int u2.1, .int (v_rounds_121 + 1), .ref a_terms])), (a_now, .inl (y.1, 21, .inl v_now)), (a_terms, .inl (y.2.1, 202, .inr (.inl u2.2)))]) hx hb hts iX9 tyX9 tyX9_ok nmX9 hown hK hP hD hS 0 rfl rfl 19 (by decide) fl203 (fun _ h9 => h9) rfl (by decide +kernel) rfl rfl (Nat.le_of_ble_eq_true rfl) dX9_free_146 rfl (fun H locs hP hD hS => ?_)
            refine lv_goto (tgt := 121) hx hb dX9_free_149 (by decide) ?_
            have h := lk_l (sat_some h)
            exact ih u2.1 (v_rounds_121 + 1) u2.2 ls H locs h hl hP hD hS
    have h := sat_bind h
    refine hL121 _ (fun z121 ls H locs h hl hP hD hS => ?_) 1000 v_termMany_121 v_rounds_121 v_terms_121 ls H locs h hl hP hD hS
    exact hJ152 z121.1 z121.2.1 z121.2.2 ls H locs h hl hP hD hS
  have hJ42 : ∀ (t0_42 : Int32) (v_termMany_42 : Int32) (v_rounds_42 : Int32) (v_terms_42 : Nat → Int64) (ls : Array Slot) (H : Heap) (locs : List Loc), sat (m_X9_free_j42 v_now x1 x2 t0_42 v_termMany_42 v_rounds_42 v_terms_42) (pK K) → lv_has ls 7 [(0, .ref a), (1, .int x1), (2, .int x2)] → va_P D vwCl [(a, .inr (6, [.ref a_now, .int v_undoMany, .int v_undoAt, .ref a_undos, .int v_seenMany, .ref a_seen, .ref a_isKept, .ref a_kept, .int v_letterMany, .ref a_text, .int v_readAt, .int v_tokenAt, .int v_token, .int v_faultAt, .int v_readItems, .ref a_read, .int v_congruenceMany, .ref a_congruences, .int v_termMany_42, .int v_rounds_42, .ref a_terms])), (a_now, .inl (y.1, 21, .inl v_now)), (a_terms, .inl (y.2.1, 202, .inr (.inl v_terms_42)))] H → va_D A [(a, .inr (6, [.ref a_now, .int v_undoMany, .int v_undoAt, .ref a_undos, .int v_seenMany, .ref a_seen, .ref a_isKept, .ref a_kept, .int v_letterMany, .ref a_text, .int v_readAt, .int v_tokenAt, .int v_token, .int v_faultAt, .int v_readItems, .ref a_read, .int v_congruenceMany, .ref a_congruences, .int v_termMany_42, .int v_rounds_42, .ref a_terms])), (a_now, .inl (y.1, 21, .inl v_now)), (a_terms, .inl (y.2.1, 202, .inr (.inl v_terms_42)))] → va_S A s.heap H locs → W p l e (headSpec wsX9_free ({ frames := 3, cells := 0, slots := 0, locals := 74 } : Room)).room s m ([.ref a, .int x1, .int x2] : List Value).toArray below meth c H locs 0 0 (MQ below (va_Qi K (bW D y A (fun u : (Int32 × Int32 × (Nat → Int64)) => [(a, .inr (6, [.ref a_now, .int v_undoMany, .int v_undoAt, .ref a_undos, .int v_seenMany, .ref a_seen, .ref a_isKept, .ref a_kept, .int v_letterMany, .ref a_text, .int v_readAt, .int v_tokenAt, .int v_token, .int v_faultAt, .int v_readItems, .ref a_read, .int v_congruenceMany, .ref a_congruences, .int u.1, .int u.2.1, .ref a_terms])), (a_now, .inl (y.1, 21, .inl v_now)), (a_terms, .inl (y.2.1, 202, .inr (.inl u.2.2)))])) A) ([.ref a, .int x1, .int x2] : List Value).toArray s 0 0 A) (F0 m 42 ls [.int t0_42]) := by
    intro t0_42 v_termMany_42 v_rounds_42 v_terms_42 ls H locs h hl hP hD hS
    unfold m_X9_free_j42 at h
    refine lv_istore_n (lv' := [(3, .int t0_42), (0, .ref a), (1, .int x1), (2, .int x2)]) hx hb dX9_free_42 rfl hl (by decide) rfl (fun ls hl => ?_)
    refine lv_aload_n hx hb dX9_free_43 rfl (lv_at hl 1 rfl) ?_
    refine lv_iconst (v := 0) hx hb dX9_free_44 (by decide) ?_
    refine pf (D := D) (ci := 6) (v := .int 0) (ty := .int) (C := RX9) (T := TX9) (N := 21) (wn := [(a, .inr (6, [.ref a_now, .int v_undoMany, .int v_undoAt, .ref a_undos, .int v_seenMany, .ref a_seen, .ref a_isKept, .ref a_kept, .int v_letterMany, .ref a_text, .int v_readAt, .int v_tokenAt, .int v_token, .int v_faultAt, .int v_readItems, .ref a_read, .int v_congruenceMany, .ref a_congruences, .int 0, .int v_rounds_42, .ref a_terms])), (a_now, .inl (y.1, 21, .inl v_now)), (a_terms, .inl (y.2.1, 202, .inr (.inl v_terms_42)))]) hx hb hts iX9 tyX9 tyX9_ok nmX9 hown hK hP hD hS 0 rfl rfl 18 (by decide) fl182 (fun _ h9 => h9) rfl (by decide +kernel) rfl rfl (Nat.le_of_ble_eq_true rfl) dX9_free_45 rfl (fun H locs hP hD hS => ?_)
    refine lv_aload_n hx hb dX9_free_48 rfl (lv_at hl 1 rfl) ?_
    refine lv_iconst (v := 0) hx hb dX9_free_49 (by decide) ?_
    refine pf (D := D) (ci := 6) (v := .int 0) (ty := .int) (C := RX9) (T := TX9) (N := 21) (wn := [(a, .inr (6, [.ref a_now, .int v_undoMany, .int v_undoAt, .ref a_undos, .int v_seenMany, .ref a_seen, .ref a_isKept, .ref a_kept, .int v_letterMany, .ref a_text, .int v_readAt, .int v_tokenAt, .int v_token, .int v_faultAt, .int v_readItems, .ref a_read, .int v_congruenceMany, .ref a_congruences, .int 0, .int 0, .ref a_terms])), (a_now, .inl (y.1, 21, .inl v_now)), (a_terms, .inl (y.2.1, 202, .inr (.inl v_terms_42)))]) hx hb hts iX9 tyX9 tyX9_ok nmX9 hown hK hP hD hS 0 rfl rfl 19 (by decide) fl203 (fun _ h9 => h9) rfl (by decide +kernel) rfl rfl (Nat.le_of_ble_eq_true rfl) dX9_free_50 rfl (fun H locs hP hD hS => ?_)
    refine lv_iload_n hx hb dX9_free_53 rfl (lv_at hl 2 rfl) ?_
    refine lv_iconst (v := 2) hx hb dX9_free_54 (by decide) ?_
    refine lv_icmp_ne (tgt := 81) hx hb dX9_free_55 (by decide) (fun c55 => ?_) (fun c55 => ?_)
    · have h := sat_f c55 h
      refine lv_lconst (v := 0) hx hb dX9_free_81 (by decide) ?_
      refine lv_lstore (lv' := [(4, .long (0 : Int64)), (3, .int t0_42), (0, .ref a), (1, .int x1), (2, .int x2)]) hx hb dX9_free_82 hl (by decide) rfl (fun ls hl => ?_)
      refine lv_iconst (v := 0) hx hb dX9_free_84 (by decide) ?_
      refine lv_istore (lv' := [(6, .int 0), (4, .long (0 : Int64)), (3, .int t0_42), (0, .ref a), (1, .int x1), (2, .int x2)]) hx hb dX9_free_85 hl (by decide) rfl (fun ls hl => ?_)
      have hL87 : ∀ (K87 : Int64 → Prop)
          (hE87 : ∀ (z87 : Int64) (ls : Array Slot) (H : Heap) (locs : List Loc), K87 z87 → lv_has ls 7 [(0, .ref a), (2, .int x2), (3, .int t0_42), (4, .long z87)] → va_P D vwCl [(a, .inr (6, [.ref a_now, .int v_undoMany, .int v_undoAt, .ref a_undos, .int v_seenMany, .ref a_seen, .ref a_isKept, .ref a_kept, .int v_letterMany, .ref a_text, .int v_readAt, .int v_tokenAt, .int v_token, .int v_faultAt, .int v_readItems, .ref a_read, .int v_congruenceMany, .ref a_congruences, .int 0, .int 0, .ref a_terms])), (a_now, .inl (y.1, 21, .inl v_now)), (a_terms, .inl (y.2.1, 202, .inr (.inl v_terms_42)))] H → va_D A [(a, .inr (6, [.ref a_now, .int v_undoMany, .int v_undoAt, .ref a_undos, .int v_seenMany, .ref a_seen, .ref a_isKept, .ref a_kept, .int v_letterMany, .ref a_text, .int v_readAt, .int v_tokenAt, .int v_token, .int v_faultAt, .int v_readItems, .ref a_read, .int v_congruenceMany, .ref a_congruences, .int 0, .int 0, .ref a_terms])), (a_now, .inl (y.1, 21, .inl v_now)), (a_terms, .inl (y.2.1, 202, .inr (.inl v_terms_42)))] → va_S A s.heap H locs → W p l e (headSpec wsX9_free ({ frames := 3, cells := 0, slots := 0, locals := 74 } : Room)).room s m ([.ref a, .int x1, .int x2] : List Value).toArray below meth c H locs 0 0 (MQ below (va_Qi K (bW D y A (fun u : (Int32 × Int32 × (Nat → Int64)) => [(a, .inr (6, [.ref a_now, .int v_undoMany, .int v_undoAt, .ref a_undos, .int v_seenMany, .ref a_seen, .ref a_isKept, .ref a_kept, .int v_letterMany, .ref a_text, .int v_readAt, .int v_tokenAt, .int v_token, .int v_faultAt, .int v_readItems, .ref a_read, .int v_congruenceMany, .ref a_congruences, .int u.1, .int u.2.1, .ref a_terms])), (a_now, .inl (y.1, 21, .inl v_now)), (a_terms, .inl (y.2.1, 202, .inr (.inl u.2.2)))])) A) ([.ref a, .int x1, .int x2] : List Value).toArray s 0 0 A) (F0 m 115 ls []))
          (n : Nat) (x4_87 : Int64) (x6_87 : Int32) (ls : Array Slot) (H : Heap) (locs : List Loc), sat (lp (fun q : (Int64 × Int32) => m_X9_free_s87 v_now q.1 q.2) n (x4_87, x6_87)) K87 → lv_has ls 7 [(0, .ref a), (2, .int x2), (3, .int t0_42), (4, .long x4_87), (6, .int x6_87)] → va_P D vwCl [(a, .inr (6, [.ref a_now, .int v_undoMany, .int v_undoAt, .ref a_undos, .int v_seenMany, .ref a_seen, .ref a_isKept, .ref a_kept, .int v_letterMany, .ref a_text, .int v_readAt, .int v_tokenAt, .int v_token, .int v_faultAt, .int v_readItems, .ref a_read, .int v_congruenceMany, .ref a_congruences, .int 0, .int 0, .ref a_terms])), (a_now, .inl (y.1, 21, .inl v_now)), (a_terms, .inl (y.2.1, 202, .inr (.inl v_terms_42)))] H → va_D A [(a, .inr (6, [.ref a_now, .int v_undoMany, .int v_undoAt, .ref a_undos, .int v_seenMany, .ref a_seen, .ref a_isKept, .ref a_kept, .int v_letterMany, .ref a_text, .int v_readAt, .int v_tokenAt, .int v_token, .int v_faultAt, .int v_readItems, .ref a_read, .int v_congruenceMany, .ref a_congruences, .int 0, .int 0, .ref a_terms])), (a_now, .inl (y.1, 21, .inl v_now)), (a_terms, .inl (y.2.1, 202, .inr (.inl v_terms_42)))] → va_S A s.heap H locs → W p l e (headSpec wsX9_free ({ frames := 3, cells := 0, slots := 0, locals := 74 } : Room)).room s m ([.ref a, .int x1, .int x2] : List Value).toArray below meth c H locs 0 0 (MQ below (va_Qi K (bW D y A (fun u : (Int32 × Int32 × (Nat → Int64)) => [(a, .inr (6, [.ref a_now, .int v_undoMany, .int v_undoAt, .ref a_undos, .int v_seenMany, .ref a_seen, .ref a_isKept, .ref a_kept, .int v_letterMany, .ref a_text, .int v_readAt, .int v_tokenAt, .int v_token, .int v_faultAt, .int v_readItems, .ref a_read, .int v_congruenceMany, .ref a_congruences, .int u.1, .int u.2.1, .ref a_terms])), (a_now, .inl (y.1, 21, .inl v_now)), (a_terms, .inl (y.2.1, 202, .inr (.inl u.2.2)))])) A) ([.ref a, .int x1, .int x2] : List Value).toArray s 0 0 A) (F0 m 87 ls []) := by
        intro K87 hE87 n
        induction n with
        | zero => intro x4_87 x6_87 ls H locs h; exact (sat_lp0 h).elim
        | succ n ih =>
          intro x4_87 x6_87 ls H locs h hl hP hD hS
          have h := sat_lp h
          have h : sat (m_X9_free_s87 v_now x4_87 x6_87) (lk (fun s' => sat (lp (fun q : (Int64 × Int32) => m_X9_free_s87 v_now q.1 q.2) n s') K87) K87) := h
          unfold m_X9_free_s87 at h
          refine lv_iload hx hb dX9_free_87 (lv_at hl 4 rfl) ?_
          refine lv_aload_n hx hb dX9_free_89 rfl (lv_at hl 0 rfl) ?_
          refine cr_i (rv (As := []) (rest := [.int x6_87]) ⟨hx, hb, hml, hown, hts⟩ (c_X9_size l D y a a_now a_undos a_seen a_isKept a_kept a_text a_read a_congruences a_terms v_undoMany v_undoAt v_seenMany v_letterMany v_readAt v_tokenAt v_token v_faultAt v_readItems v_congruenceMany 0 0 v_now _ (sat_bind h)) (cwV 0 hts gX9_free_X9_size rfl rfl rfl (by decide +kernel) ⟨Nat.le_of_ble_eq_true rfl, Nat.le_of_ble_eq_true rfl⟩) hK hP [0, 1] rfl 0 6 rfl rfl rfl rfl hl.1 rfl (Nat.le_of_ble_eq_true rfl) dX9_free_90 ⟨Nat.zero_le _, Nat.zero_le _⟩) (fun r5 h => ?_)
          refine lv_icmp_ge (tgt := 115) hx hb dX9_free_93 (by decide) (fun c93 => ?_) (fun c93 => ?_)
          · have h := sat_t c93 h
            have h := lk_r (sat_some h)
            exact hE87 x4_87 ls H locs h (lv_sub hl [0, 1, 2, 3] rfl) hP hD hS
          · have h := sat_f c93 h
            refine lv_lload hx hb dX9_free_96 (lv_at hl 3 rfl) ?_
            refine lv_iload hx hb dX9_free_98 (lv_at hl 4 rfl) ?_
            refine lv_i2l (v := x6_87.toInt64) hx hb dX9_free_100 rfl ?_
            refine lv_iconst (v := 2) hx hb dX9_free_101 (by decide) ?_
            refine lv_iload hx hb dX9_free_102 (lv_at hl 4 rfl) ?_
            refine lv_imul hx hb dX9_free_104 ?_
            refine lv_lshl (v := x6_87.toInt64 <<< ((2 * x6_87).toInt64 &&& 63)) hx hb dX9_free_105 rfl ?_
            refine lv_lor hx hb dX9_free_106 ?_
            obtain ⟨w6, ew6, h⟩ := sat_nm h
            refine tL ew6 ?_
            refine lv_lstore (lv' := [(4, .long w6), (0, .ref a), (2, .int x2), (3, .int t0_42), (6, .int x6_87)]) hx hb dX9_free_107 hl (by decide) rfl (fun ls hl => ?_)
            refine lv_iinc (v := x6_87 + 1) (lv' := [(6, .int (x6_87 + 1)), (4, .long w6), (0, .ref a), (2, .int x2), (3, .int t0_42)]) hx hb dX9_free_109 hl (k := 4) rfl rfl (by decide) rfl (fun ls hl => ?_)
            refine lv_goto (tgt := 87) hx hb dX9_free_112 (by decide) ?_
            have h := lk_l (sat_some h)
            exact ih w6 (x6_87 + 1) ls H locs h (lv_sub hl [2, 3, 4, 1, 0] rfl) hP hD hS
      have h := sat_bind h
      refine hL87 _ (fun z87 ls H locs h hl hP hD hS => ?_) 1000 (0 : Int64) 0 ls H locs h (lv_sub hl [3, 5, 2, 1, 0] rfl) hP hD hS
      refine lv_aload_n hx hb dX9_free_115 rfl (lv_at hl 0 rfl) ?_
      refine lv_lload hx hb dX9_free_116 (lv_at hl 3 rfl) ?_
      refine cw_v (wn := fun u7 => [(a, .inr (6, [.ref a_now, .int v_undoMany, .int v_undoAt, .ref a_undos, .int v_seenMany, .ref a_seen, .ref a_isKept, .ref a_kept, .int v_letterMany, .ref a_text, .int v_readAt, .int v_tokenAt, .int v_token, .int v_faultAt, .int v_readItems, .ref a_read, .int v_congruenceMany, .ref a_congruences, .int u7.1, .int 0, .ref a_terms])), (a_now, .inl (y.1, 21, .inl v_now)), (a_terms, .inl (y.2.1, 202, .inr (.inl u7.2)))]) (wr := [(a_now, .inl (y.1, 21, .inl v_now))]) (wv (As := [.long z87]) (rest := []) ⟨hx, hb, hml, hown, hts⟩ (c_X9_comes l D y a a_terms a_now a_undos a_seen a_isKept a_kept a_text a_read a_congruences v_undoMany v_undoAt v_seenMany v_letterMany v_readAt v_tokenAt v_token v_faultAt v_readItems v_congruenceMany 0 0 v_terms_42 z87 _ _ rfl _ (sat_bind h)) (cwV 1 hts gX9_free_X9_comes rfl rfl rfl (by decide +kernel) ⟨Nat.le_of_ble_eq_true rfl, Nat.le_of_ble_eq_true rfl⟩) hK hP hD [0, 2] rfl rfl rfl 0 6 rfl rfl rfl rfl hl.1 rfl (Nat.le_of_ble_eq_true rfl) dX9_free_118 ⟨Nat.zero_le _, Nat.zero_le _⟩) hS hP hD hA [0, 2] [1] [1, 0, 2] rfl rfl rfl (by decide) (fun _ => rfl) rfl (fun _ => rfl) (fun u7 H locs h hP hD hS => ?_)
      exact hJ121 t0_42 u7.1 0 u7.2 ls H locs h (lv_sub hl [0, 1, 2] rfl) hP hD hS
    · have h := sat_t c55 h
      refine lv_aload_n hx hb dX9_free_58 rfl (lv_at hl 1 rfl) ?_
      refine lv_aload_n hx hb dX9_free_59 rfl (lv_at hl 1 rfl) ?_
      refine lv_iconst (v := 1) hx hb dX9_free_60 (by decide) ?_
      refine lv_iconst (v := 0) hx hb dX9_free_61 (by decide) ?_
      refine cr_l (rv (As := [.int 1, .int 0]) (rest := [.ref a]) ⟨hx, hb, hml, hown, hts⟩ (c_X9_letterRow l D y a a_now a_undos a_seen a_isKept a_kept a_text a_read a_congruences a_terms v_undoMany v_undoAt v_seenMany v_letterMany v_readAt v_tokenAt v_token v_faultAt v_readItems v_congruenceMany 0 0 v_now 1 0 _ (sat_bind h)) (cwV 2 hts gX9_free_X9_letterRow rfl rfl rfl (by decide +kernel) ⟨Nat.le_of_ble_eq_true rfl, Nat.le_of_ble_eq_true rfl⟩) hK hP [0, 1] rfl 0 6 rfl rfl rfl rfl hl.1 rfl (Nat.le_of_ble_eq_true rfl) dX9_free_62 ⟨Nat.zero_le _, Nat.zero_le _⟩) (fun r8 h => ?_)
      refine cw_v (wn := fun u9 => [(a, .inr (6, [.ref a_now, .int v_undoMany, .int v_undoAt, .ref a_undos, .int v_seenMany, .ref a_seen, .ref a_isKept, .ref a_kept, .int v_letterMany, .ref a_text, .int v_readAt, .int v_tokenAt, .int v_token, .int v_faultAt, .int v_readItems, .ref a_read, .int v_congruenceMany, .ref a_congruences, .int u9.1, .int 0, .ref a_terms])), (a_now, .inl (y.1, 21, .inl v_now)), (a_terms, .inl (y.2.1, 202, .inr (.inl u9.2)))]) (wr := [(a_now, .inl (y.1, 21, .inl v_now))]) (wv (As := [.long r8]) (rest := []) ⟨hx, hb, hml, hown, hts⟩ (c_X9_comes l D y a a_terms a_now a_undos a_seen a_isKept a_kept a_text a_read a_congruences v_undoMany v_undoAt v_seenMany v_letterMany v_readAt v_tokenAt v_token v_faultAt v_readItems v_congruenceMany 0 0 v_terms_42 r8 _ _ rfl _ (sat_bind h)) (cwV 1 hts gX9_free_X9_comes rfl rfl rfl (by decide +kernel) ⟨Nat.le_of_ble_eq_true rfl, Nat.le_of_ble_eq_true rfl⟩) hK hP hD [0, 2] rfl rfl rfl 0 6 rfl rfl rfl rfl hl.1 rfl (Nat.le_of_ble_eq_true rfl) dX9_free_65 ⟨Nat.zero_le _, Nat.zero_le _⟩) hS hP hD hA [0, 2] [1] [1, 0, 2] rfl rfl rfl (by decide) (fun _ => rfl) rfl (fun _ => rfl) (fun u9 H locs h hP hD hS => ?_)
      refine lv_aload_n hx hb dX9_free_68 rfl (lv_at hl 1 rfl) ?_
      refine lv_aload_n hx hb dX9_free_69 rfl (lv_at hl 1 rfl) ?_
      refine lv_iconst (v := 1) hx hb dX9_free_70 (by decide) ?_
      refine lv_iconst (v := 1) hx hb dX9_free_71 (by decide) ?_
      refine cr_l (rv (As := [.int 1, .int 1]) (rest := [.ref a]) ⟨hx, hb, hml, hown, hts⟩ (c_X9_letterRow l D y a a_now a_undos a_seen a_isKept a_kept a_text a_read a_congruences a_terms v_undoMany v_undoAt v_seenMany v_letterMany v_readAt v_tokenAt v_token v_faultAt v_readItems v_congruenceMany u9.1 0 v_now 1 1 _ (sat_bind h)) (cwV 2 hts gX9_free_X9_letterRow rfl rfl rfl (by decide +kernel) ⟨Nat.le_of_ble_eq_true rfl, Nat.le_of_ble_eq_true rfl⟩) hK hP [0, 1] rfl 0 6 rfl rfl rfl rfl hl.1 rfl (Nat.le_of_ble_eq_true rfl) dX9_free_72 ⟨Nat.zero_le _, Nat.zero_le _⟩) (fun r10 h => ?_)
      refine cw_v (wn := fun u11 => [(a, .inr (6, [.ref a_now, .int v_undoMany, .int v_undoAt, .ref a_undos, .int v_seenMany, .ref a_seen, .ref a_isKept, .ref a_kept, .int v_letterMany, .ref a_text, .int v_readAt, .int v_tokenAt, .int v_token, .int v_faultAt, .int v_readItems, .ref a_read, .int v_congruenceMany, .ref a_congruences, .int u11.1, .int 0, .ref a_terms])), (a_now, .inl (y.1, 21, .inl v_now)), (a_terms, .inl (y.2.1, 202, .inr (.inl u11.2)))]) (wr := [(a_now, .inl (y.1, 21, .inl v_now))]) (wv (As := [.long r10]) (rest := []) ⟨hx, hb, hml, hown, hts⟩ (c_X9_comes l D y a a_terms a_now a_undos a_seen a_isKept a_kept a_text a_read a_congruences v_undoMany v_undoAt v_seenMany v_letterMany v_readAt v_tokenAt v_token v_faultAt v_readItems v_congruenceMany u9.1 0 u9.2 r10 _ _ rfl _ (sat_bind h)) (cwV 1 hts gX9_free_X9_comes rfl rfl rfl (by decide +kernel) ⟨Nat.le_of_ble_eq_true rfl, Nat.le_of_ble_eq_true rfl⟩) hK hP hD [0, 2] rfl rfl rfl 0 6 rfl rfl rfl rfl hl.1 rfl (Nat.le_of_ble_eq_true rfl) dX9_free_75 ⟨Nat.zero_le _, Nat.zero_le _⟩) hS hP hD hA [0, 2] [1] [1, 0, 2] rfl rfl rfl (by decide) (fun _ => rfl) rfl (fun _ => rfl) (fun u11 H locs h hP hD hS => ?_)
      refine lv_goto (tgt := 121) hx hb dX9_free_78 (by decide) ?_
      exact hJ121 t0_42 u11.1 0 u11.2 ls H locs h (lv_sub hl [1, 3, 0] rfl) hP hD hS
  unfold m_X9_free at h
  refine lv_iload_n hx hb dX9_free_0 rfl (lv_at hl 1 rfl) ?_
  refine lv_iconst (v := 1) hx hb dX9_free_1 (by decide) ?_
  refine lv_iconst (v := 2) hx hb dX9_free_2 (by decide) ?_
  refine cr_i (rs (As := [.int x1, .int 1, .int 2]) (rest := []) ⟨hx, hb, hml, hown, hts⟩ (c_X9_in l D y x1 1 2 _ (sat_bind h)) (va_cwS 3 hts gX9_free_X9_in rfl rfl rfl (by decide +kernel) ⟨Nat.le_of_ble_eq_true rfl, Nat.le_of_ble_eq_true rfl⟩) hK hP [] rfl rfl hl.1 rfl (Nat.le_of_ble_eq_true rfl) dX9_free_3 ⟨Nat.zero_le _, Nat.zero_le _⟩) (fun r12 h => ?_)
  refine lv_if_eq (tgt := 18) hx hb dX9_free_6 (by decide) (fun c6 => ?_) (fun c6 => ?_)
  · have h := sat_t c6 h
    refine lv_bipush (v := (-2)) hx hb dX9_free_18 (by decide) ?_
    have h := sat_some h
    exact W.iret (v := (-2)) hx hb hr (fun t ht hW => ⟨⟨(-2), (v_termMany, v_rounds, v_terms), rfl, h, by rw [ht]; exact hP, va_K.moved hW.alike hK, hD⟩, hS.F ht⟩) hS.2.2 dX9_free_20
  · have h := sat_f c6 h
    refine lv_iload_n hx hb dX9_free_9 rfl (lv_at hl 2 rfl) ?_
    refine lv_iconst (v := 0) hx hb dX9_free_10 (by decide) ?_
    refine lv_iconst (v := 1) hx hb dX9_free_11 (by decide) ?_
    refine cr_i (rs (As := [.int x2, .int 0, .int 1]) (rest := []) ⟨hx, hb, hml, hown, hts⟩ (c_X9_in l D y x2 0 1 _ (sat_bind h)) (va_cwS 3 hts gX9_free_X9_in rfl rfl rfl (by decide +kernel) ⟨Nat.le_of_ble_eq_true rfl, Nat.le_of_ble_eq_true rfl⟩) hK hP [] rfl rfl hl.1 rfl (Nat.le_of_ble_eq_true rfl) dX9_free_12 ⟨Nat.zero_le _, Nat.zero_le _⟩) (fun r13 h => ?_)
    refine lv_if_ne (tgt := 21) hx hb dX9_free_15 (by decide) (fun c15 => ?_) (fun c15 => ?_)
    · have h := sat_f c15 h
      refine lv_iload_n hx hb dX9_free_21 rfl (lv_at hl 1 rfl) ?_
      refine lv_iconst (v := 1) hx hb dX9_free_22 (by decide) ?_
      refine lv_icmp_ne (tgt := 33) hx hb dX9_free_23 (by decide) (fun c23 => ?_) (fun c23 => ?_)
      · have h := sat_f c23 h
        refine lv_aload_n hx hb dX9_free_33 rfl (lv_at hl 0 rfl) ?_
        refine cr_i (rv (As := []) (rest := []) ⟨hx, hb, hml, hown, hts⟩ (c_X9_size l D y a a_now a_undos a_seen a_isKept a_kept a_text a_read a_congruences a_terms v_undoMany v_undoAt v_seenMany v_letterMany v_readAt v_tokenAt v_token v_faultAt v_readItems v_congruenceMany v_termMany v_rounds v_now _ (sat_bind h)) (cwV 0 hts gX9_free_X9_size rfl rfl rfl (by decide +kernel) ⟨Nat.le_of_ble_eq_true rfl, Nat.le_of_ble_eq_true rfl⟩) hK hP [0, 1] rfl 0 6 rfl rfl rfl rfl hl.1 rfl (Nat.le_of_ble_eq_true rfl) dX9_free_34 ⟨Nat.zero_le _, Nat.zero_le _⟩) (fun r14 h => ?_)
        refine lv_aload_n hx hb dX9_free_37 rfl (lv_at hl 0 rfl) ?_
        refine cr_i (rv (As := []) (rest := [.int r14]) ⟨hx, hb, hml, hown, hts⟩ (c_X9_size l D y a a_now a_undos a_seen a_isKept a_kept a_text a_read a_congruences a_terms v_undoMany v_undoAt v_seenMany v_letterMany v_readAt v_tokenAt v_token v_faultAt v_readItems v_congruenceMany v_termMany v_rounds v_now _ (sat_bind h)) (cwV 0 hts gX9_free_X9_size rfl rfl rfl (by decide +kernel) ⟨Nat.le_of_ble_eq_true rfl, Nat.le_of_ble_eq_true rfl⟩) hK hP [0, 1] rfl 0 6 rfl rfl rfl rfl hl.1 rfl (Nat.le_of_ble_eq_true rfl) dX9_free_38 ⟨Nat.zero_le _, Nat.zero_le _⟩) (fun r15 h => ?_)
        refine lv_imul hx hb dX9_free_41 ?_
        exact hJ42 (r14 * r15) v_termMany v_rounds v_terms ls s.heap [] h hl hP hD hS
      · have h := sat_t c23 h
        refine lv_aload_n hx hb dX9_free_26 rfl (lv_at hl 0 rfl) ?_
        refine cr_i (rv (As := []) (rest := []) ⟨hx, hb, hml, hown, hts⟩ (c_X9_size l D y a a_now a_undos a_seen a_isKept a_kept a_text a_read a_congruences a_terms v_undoMany v_undoAt v_seenMany v_letterMany v_readAt v_tokenAt v_token v_faultAt v_readItems v_congruenceMany v_termMany v_rounds v_now _ (sat_bind h)) (cwV 0 hts gX9_free_X9_size rfl rfl rfl (by decide +kernel) ⟨Nat.le_of_ble_eq_true rfl, Nat.le_of_ble_eq_true rfl⟩) hK hP [0, 1] rfl 0 6 rfl rfl rfl rfl hl.1 rfl (Nat.le_of_ble_eq_true rfl) dX9_free_27 ⟨Nat.zero_le _, Nat.zero_le _⟩) (fun r16 h => ?_)
        refine lv_goto (tgt := 42) hx hb dX9_free_30 (by decide) ?_
        exact hJ42 r16 v_termMany v_rounds v_terms ls s.heap [] h hl hP hD hS
    · have h := sat_t c15 h
      refine lv_bipush (v := (-2)) hx hb dX9_free_18 (by decide) ?_
      have h := sat_some h
      exact W.iret (v := (-2)) hx hb hr (fun t ht hW => ⟨⟨(-2), (v_termMany, v_rounds, v_terms), rfl, h, by rw [ht]; exact hP, va_K.moved hW.alike hK, hD⟩, hS.F ht⟩) hS.2.2 dX9_free_20

/-! X9_term -/
set_option maxHeartbeats 4000000 in
set_option maxRecDepth 100000 in
theorem c_X9_term (l : Launch) (D : va_G) (y : ClassId × ClassId × ClassId × ClassId) (a a_now a_terms a_undos a_seen a_isKept a_kept a_text a_read a_congruences : Nat) (v_undoMany : Int32) (v_undoAt : Int32) (v_seenMany : Int32) (v_letterMany : Int32) (v_readAt : Int32) (v_tokenAt : Int32) (v_token : Int32) (v_faultAt : Int32) (v_readItems : Int32) (v_congruenceMany : Int32) (v_termMany : Int32) (v_rounds : Int32) (v_now : Nat → Int32) (v_terms : Nat → Int64) (x1 : Int32) (sz : Nat) (A : Nat → Prop) (hAe : va_A [(a, .inr (6, [.ref a_now, .int v_undoMany, .int v_undoAt, .ref a_undos, .int v_seenMany, .ref a_seen, .ref a_isKept, .ref a_kept, .int v_letterMany, .ref a_text, .int v_readAt, .int v_tokenAt, .int v_token, .int v_faultAt, .int v_readItems, .ref a_read, .int v_congruenceMany, .ref a_congruences, .int v_termMany, .int v_rounds, .ref a_terms])), (a_now, .inl (y.1, 21, .inl v_now)), (a_terms, .inl (y.2.1, 202, .inr (.inl v_terms)))] sz = A) (K : Int32 → (Int32 × Int32 × (Nat → Int64)) → Prop) (h : sat (m_X9_term v_termMany v_rounds v_now v_terms x1) (pK K)) : Met l yX9_term wsX9_term ({ frames := 3, cells := 0, slots := 0, locals := 74 } : Room) (pW D y ([.ref a, .int x1] : List Value) [(a, .inr (6, [.ref a_now, .int v_undoMany, .int v_undoAt, .ref a_undos, .int v_seenMany, .ref a_seen, .ref a_isKept, .ref a_kept, .int v_letterMany, .ref a_text, .int v_readAt, .int v_tokenAt, .int v_token, .int v_faultAt, .int v_readItems, .ref a_read, .int v_congruenceMany, .ref a_congruences, .int v_termMany, .int v_rounds, .ref a_terms])), (a_now, .inl (y.1, 21, .inl v_now)), (a_terms, .inl (y.2.1, 202, .inr (.inl v_terms)))] sz) (va_Qi K (bW D y A (fun u : (Int32 × Int32 × (Nat → Int64)) => [(a, .inr (6, [.ref a_now, .int v_undoMany, .int v_undoAt, .ref a_undos, .int v_seenMany, .ref a_seen, .ref a_isKept, .ref a_kept, .int v_letterMany, .ref a_text, .int v_readAt, .int v_tokenAt, .int v_token, .int v_faultAt, .int v_readItems, .ref a_read, .int v_congruenceMany, .ref a_congruences, .int u.1, .int u.2.1, .ref a_terms])), (a_now, .inl (y.1, 21, .inl v_now)), (a_terms, .inl (y.2.1, 202, .inr (.inl u.2.2)))])) A) 0 0 A := by
  refine Met.ofW (cc := cX9_term) (maxL := 6) (ret := (some .int)) (by decide) rfl ?_
  intro p e s m args below meth c s₁ B hml hv
  obtain ⟨rfl, hsz, hP, hK, hD0⟩ := hv
  have hx := B.exec
  have hb := B.bytes
  have hr := B.returns
  have hts := atoms_spec (ws := wsX9_term) B.pre
  have hown : s.vm.findClass RX9 = some m.cls := findClass_of_methodNamed B.named
  have hlocks := B.notSynchronized
  subst hsz
  have hD : va_D A [(a, .inr (6, [.ref a_now, .int v_undoMany, .int v_undoAt, .ref a_undos, .int v_seenMany, .ref a_seen, .ref a_isKept, .ref a_kept, .int v_letterMany, .ref a_text, .int v_readAt, .int v_tokenAt, .int v_token, .int v_faultAt, .int v_readItems, .ref a_read, .int v_congruenceMany, .ref a_congruences, .int v_termMany, .int v_rounds, .ref a_terms])), (a_now, .inl (y.1, 21, .inl v_now)), (a_terms, .inl (y.2.1, 202, .inr (.inl v_terms)))] := hAe ▸ hD0.self
  have hA : ∀ q : Nat, s.heap.size ≤ q → A q := fun q h => hAe ▸ Or.inr h
  have hS : va_S A s.heap s.heap [] := va_S.rf
  have iX9 : ∀ w ∈ wsX90, w ∈ wsX9_term := by decide +kernel
  have fl182 := hts (.fieldLink RX9 182 "AlgebraLawsModel" "termMany" "I") (by decide +kernel)
  have fl203 := hts (.fieldLink RX9 203 "AlgebraLawsModel" "rounds" "I") (by decide +kernel)
  have hl := lv_entry ([.ref a, .int x1] : List Value) (n := 6) (Nat.le_of_ble_eq_true rfl)
  rw [lg_entry_eq]
  generalize (lg_sl ([.ref a, .int x1] : List Value) ++ List.replicate (6 - (lg_sl ([.ref a, .int x1] : List Value)).length) Slot.unset).toArray = ls at hl ⊢
  have hl : lv_has ls 6 [(0, .ref a), (1, .int x1)] := hl
  have hJ177 : ∀ (x4_177 : Int64) (v_termMany_177 : Int32) (v_rounds_177 : Int32) (v_terms_177 : Nat → Int64) (ls : Array Slot) (H : Heap) (locs : List Loc), sat (m_X9_term_j177 x4_177 v_termMany_177 v_rounds_177 v_terms_177) (pK K) → lv_has ls 6 [(0, .ref a), (4, .long x4_177)] → va_P D vwCl [(a, .inr (6, [.ref a_now, .int v_undoMany, .int v_undoAt, .ref a_undos, .int v_seenMany, .ref a_seen, .ref a_isKept, .ref a_kept, .int v_letterMany, .ref a_text, .int v_readAt, .int v_tokenAt, .int v_token, .int v_faultAt, .int v_readItems, .ref a_read, .int v_congruenceMany, .ref a_congruences, .int v_termMany_177, .int v_rounds_177, .ref a_terms])), (a_now, .inl (y.1, 21, .inl v_now)), (a_terms, .inl (y.2.1, 202, .inr (.inl v_terms_177)))] H → va_D A [(a, .inr (6, [.ref a_now, .int v_undoMany, .int v_undoAt, .ref a_undos, .int v_seenMany, .ref a_seen, .ref a_isKept, .ref a_kept, .int v_letterMany, .ref a_text, .int v_readAt, .int v_tokenAt, .int v_token, .int v_faultAt, .int v_readItems, .ref a_read, .int v_congruenceMany, .ref a_congruences, .int v_termMany_177, .int v_rounds_177, .ref a_terms])), (a_now, .inl (y.1, 21, .inl v_now)), (a_terms, .inl (y.2.1, 202, .inr (.inl v_terms_177)))] → va_S A s.heap H locs → W p l e (headSpec wsX9_term ({ frames := 3, cells := 0, slots := 0, locals := 74 } : Room)).room s m ([.ref a, .int x1] : List Value).toArray below meth c H locs 0 0 (MQ below (va_Qi K (bW D y A (fun u : (Int32 × Int32 × (Nat → Int64)) => [(a, .inr (6, [.ref a_now, .int v_undoMany, .int v_undoAt, .ref a_undos, .int v_seenMany, .ref a_seen, .ref a_isKept, .ref a_kept, .int v_letterMany, .ref a_text, .int v_readAt, .int v_tokenAt, .int v_token, .int v_faultAt, .int v_readItems, .ref a_read, .int v_congruenceMany, .ref a_congruences, .int u.1, .int u.2.1, .ref a_terms])), (a_now, .inl (y.1, 21, .inl v_now)), (a_terms, .inl (y.2.1, 202, .inr (.inl u.2.2)))])) A) ([.ref a, .int x1] : List Value).toArray s 0 0 A) (F0 m 177 ls []) := by
    intro x4_177 v_termMany_177 v_rounds_177 v_terms_177 ls H locs h hl hP hD hS
    unfold m_X9_term_j177 at h
    refine lv_aload_n hx hb dX9_term_177 rfl (lv_at hl 0 rfl) ?_
    refine va_get (D := D) (ci := 6) (v := .int v_termMany_177) (C := RX9) (T := TX9) (N := 21) hx hb hts iX9 hown hK hP 0 rfl rfl 18 (by decide) fl182 (fun _ h9 => h9) rfl dX9_term_178 ?_
    refine lv_sipush (v := 200) hx hb dX9_term_181 (by decide) ?_
    refine lv_icmp_le (tgt := 192) hx hb dX9_term_184 (by decide) (fun c184 => ?_) (fun c184 => ?_)
    · have h := sat_t c184 h
      refine lv_aload_n hx hb dX9_term_192 rfl (lv_at hl 0 rfl) ?_
      refine lv_lload hx hb dX9_term_193 (lv_at hl 1 rfl) ?_
      refine cr_i (rv (As := [.long x4_177]) (rest := []) ⟨hx, hb, hml, hown, hts⟩ (c_X9_isTerm l D y a a_terms a_now a_undos a_seen a_isKept a_kept a_text a_read a_congruences v_undoMany v_undoAt v_seenMany v_letterMany v_readAt v_tokenAt v_token v_faultAt v_readItems v_congruenceMany v_termMany_177 v_rounds_177 v_terms_177 x4_177 _ (sat_bind h)) (cwV 1 hts gX9_term_X9_isTerm rfl rfl rfl (by decide +kernel) ⟨Nat.le_of_ble_eq_true rfl, Nat.le_of_ble_eq_true rfl⟩) hK hP [0, 2] rfl 0 6 rfl rfl rfl rfl hl.1 rfl (Nat.le_of_ble_eq_true rfl) dX9_term_195 ⟨Nat.zero_le _, Nat.zero_le _⟩) (fun r1 h => ?_)
      refine lv_if_eq (tgt := 205) hx hb dX9_term_198 (by decide) (fun c198 => ?_) (fun c198 => ?_)
      · have h := sat_t c198 h
        refine lv_iconst (v := 0) hx hb dX9_term_205 (by decide) ?_
        have h := sat_some h
        exact W.iret (v := 0) hx hb hr (fun t ht hW => ⟨⟨0, (v_termMany_177, v_rounds_177, v_terms_177), rfl, h, by rw [ht]; exact hP, va_K.moved hW.alike hK, hD⟩, hS.F ht⟩) hS.2.2 dX9_term_206
      · have h := sat_f c198 h
        refine lv_iconst (v := 1) hx hb dX9_term_201 (by decide) ?_
        refine lv_goto (tgt := 206) hx hb dX9_term_202 (by decide) ?_
        have h := sat_some h
        exact W.iret (v := 1) hx hb hr (fun t ht hW => ⟨⟨1, (v_termMany_177, v_rounds_177, v_terms_177), rfl, h, by rw [ht]; exact hP, va_K.moved hW.alike hK, hD⟩, hS.F ht⟩) hS.2.2 dX9_term_206
    · have h := sat_f c184 h
      refine lv_bipush (v := (-4)) hx hb dX9_term_187 (by decide) ?_
      refine lv_goto (tgt := 206) hx hb dX9_term_189 (by decide) ?_
      have h := sat_some h
      exact W.iret (v := (-4)) hx hb hr (fun t ht hW => ⟨⟨(-4), (v_termMany_177, v_rounds_177, v_terms_177), rfl, h, by rw [ht]; exact hP, va_K.moved hW.alike hK, hD⟩, hS.F ht⟩) hS.2.2 dX9_term_206
  have hJ134 : ∀ (x3_134 : Int32) (x4_134 : Int64) (t1_134 : Int64) (v_termMany_134 : Int32) (v_rounds_134 : Int32) (v_terms_134 : Nat → Int64) (ls : Array Slot) (H : Heap) (locs : List Loc), sat (m_X9_term_j134 v_now x3_134 x4_134 t1_134 v_termMany_134 v_rounds_134 v_terms_134) (pK K) → lv_has ls 6 [(0, .ref a), (3, .int x3_134), (4, .long x4_134)] → va_P D vwCl [(a, .inr (6, [.ref a_now, .int v_undoMany, .int v_undoAt, .ref a_undos, .int v_seenMany, .ref a_seen, .ref a_isKept, .ref a_kept, .int v_letterMany, .ref a_text, .int v_readAt, .int v_tokenAt, .int v_token, .int v_faultAt, .int v_readItems, .ref a_read, .int v_congruenceMany, .ref a_congruences, .int v_termMany_134, .int v_rounds_134, .ref a_terms])), (a_now, .inl (y.1, 21, .inl v_now)), (a_terms, .inl (y.2.1, 202, .inr (.inl v_terms_134)))] H → va_D A [(a, .inr (6, [.ref a_now, .int v_undoMany, .int v_undoAt, .ref a_undos, .int v_seenMany, .ref a_seen, .ref a_isKept, .ref a_kept, .int v_letterMany, .ref a_text, .int v_readAt, .int v_tokenAt, .int v_token, .int v_faultAt, .int v_readItems, .ref a_read, .int v_congruenceMany, .ref a_congruences, .int v_termMany_134, .int v_rounds_134, .ref a_terms])), (a_now, .inl (y.1, 21, .inl v_now)), (a_terms, .inl (y.2.1, 202, .inr (.inl v_terms_134)))] → va_S A s.heap H locs → W p l e (headSpec wsX9_term ({ frames := 3, cells := 0, slots := 0, locals := 74 } : Room)).room s m ([.ref a, .int x1] : List Value).toArray below meth c H locs 0 0 (MQ below (va_Qi K (bW D y A (fun u : (Int32 × Int32 × (Nat → Int64)) => [(a, .inr (6, [.ref a_now, .int v_undoMany, .int v_undoAt, .ref a_undos, .int v_seenMany, .ref a_seen, .ref a_isKept, .ref a_kept, .int v_letterMany, .ref a_text, .int v_readAt, .int v_tokenAt, .int v_token, .int v_faultAt, .int v_readItems, .ref a_read, .int v_congruenceMany, .ref a_congruences, .int u.1, .int u.2.1, .ref a_terms])), (a_now, .inl (y.1, 21, .inl v_now)), (a_terms, .inl (y.2.1, 202, .inr (.inl u.2.2)))])) A) ([.ref a, .int x1] : List Value).toArray s 0 0 A) (F0 m 134 ls [.long t1_134, .ref a]) := by
    intro x3_134 x4_134 t1_134 v_termMany_134 v_rounds_134 v_terms_134 ls H locs h hl hP hD hS
    unfold m_X9_term_j134 at h
    refine cw_v (wn := fun u2 => [(a, .inr (6, [.ref a_now, .int v_undoMany, .int v_undoAt, .ref a_undos, .int v_seenMany, .ref a_seen, .ref a_isKept, .ref a_kept, .int v_letterMany, .ref a_text, .int v_readAt, .int v_tokenAt, .int v_token, .int v_faultAt, .int v_readItems, .ref a_read, .int v_congruenceMany, .ref a_congruences, .int u2.1, .int v_rounds_134, .ref a_terms])), (a_now, .inl (y.1, 21, .inl v_now)), (a_terms, .inl (y.2.1, 202, .inr (.inl u2.2)))]) (wr := [(a_now, .inl (y.1, 21, .inl v_now))]) (wv (As := [.long t1_134]) (rest := []) ⟨hx, hb, hml, hown, hts⟩ (c_X9_comes l D y a a_terms a_now a_undos a_seen a_isKept a_kept a_text a_read a_congruences v_undoMany v_undoAt v_seenMany v_letterMany v_readAt v_tokenAt v_token v_faultAt v_readItems v_congruenceMany v_termMany_134 v_rounds_134 v_terms_134 t1_134 _ _ rfl _ (sat_bind h)) (cwV 1 hts gX9_term_X9_comes rfl rfl rfl (by decide +kernel) ⟨Nat.le_of_ble_eq_true rfl, Nat.le_of_ble_eq_true rfl⟩) hK hP hD [0, 2] rfl rfl rfl 0 6 rfl rfl rfl rfl hl.1 rfl (Nat.le_of_ble_eq_true rfl) dX9_term_134 ⟨Nat.zero_le _, Nat.zero_le _⟩) hS hP hD hA [0, 2] [1] [1, 0, 2] rfl rfl rfl (by decide) (fun _ => rfl) rfl (fun _ => rfl) (fun u2 H locs h hP hD hS => ?_)
    have hL137 : ∀ (K137 : (Int32 × Int32 × (Nat → Int64)) → Prop)
        (hE137 : ∀ (z137 : (Int32 × Int32 × (Nat → Int64))) (ls : Array Slot) (H : Heap) (locs : List Loc), K137 z137 → lv_has ls 6 [(0, .ref a), (4, .long x4_134)] → va_P D vwCl [(a, .inr (6, [.ref a_now, .int v_undoMany, .int v_undoAt, .ref a_undos, .int v_seenMany, .ref a_seen, .ref a_isKept, .ref a_kept, .int v_letterMany, .ref a_text, .int v_readAt, .int v_tokenAt, .int v_token, .int v_faultAt, .int v_readItems, .ref a_read, .int v_congruenceMany, .ref a_congruences, .int z137.1, .int z137.2.1, .ref a_terms])), (a_now, .inl (y.1, 21, .inl v_now)), (a_terms, .inl (y.2.1, 202, .inr (.inl z137.2.2)))] H → va_D A [(a, .inr (6, [.ref a_now, .int v_undoMany, .int v_undoAt, .ref a_undos, .int v_seenMany, .ref a_seen, .ref a_isKept, .ref a_kept, .int v_letterMany, .ref a_text, .int v_readAt, .int v_tokenAt, .int v_token, .int v_faultAt, .int v_readItems, .ref a_read, .int v_congruenceMany, .ref a_congruences, .int z137.1, .int z137.2.1, .ref a_terms])), (a_now, .inl (y.1, 21, .inl v_now)), (a_terms, .inl (y.2.1, 202, .inr (.inl z137.2.2)))] → va_S A s.heap H locs → W p l e (headSpec wsX9_term ({ frames := 3, cells := 0, slots := 0, locals := 74 } : Room)).room s m ([.ref a, .int x1] : List Value).toArray below meth c H locs 0 0 (MQ below (va_Qi K (bW D y A (fun u : (Int32 × Int32 × (Nat → Int64)) => [(a, .inr (6, [.ref a_now, .int v_undoMany, .int v_undoAt, .ref a_undos, .int v_seenMany, .ref a_seen, .ref a_isKept, .ref a_kept, .int v_letterMany, .ref a_text, .int v_readAt, .int v_tokenAt, .int v_token, .int v_faultAt, .int v_readItems, .ref a_read, .int v_congruenceMany, .ref a_congruences, .int u.1, .int u.2.1, .ref a_terms])), (a_now, .inl (y.1, 21, .inl v_now)), (a_terms, .inl (y.2.1, 202, .inr (.inl u.2.2)))])) A) ([.ref a, .int x1] : List Value).toArray s 0 0 A) (F0 m 177 ls []))
        (n : Nat) (v_termMany_137 : Int32) (v_rounds_137 : Int32) (v_terms_137 : Nat → Int64) (ls : Array Slot) (H : Heap) (locs : List Loc), sat (lp (fun q : (Int32 × Int32 × (Nat → Int64)) => m_X9_term_s137 v_now x3_134 x4_134 q.1 q.2.1 q.2.2) n (v_termMany_137, v_rounds_137, v_terms_137)) K137 → lv_has ls 6 [(0, .ref a), (3, .int x3_134), (4, .long x4_134)] → va_P D vwCl [(a, .inr (6, [.ref a_now, .int v_undoMany, .int v_undoAt, .ref a_undos, .int v_seenMany, .ref a_seen, .ref a_isKept, .ref a_kept, .int v_letterMany, .ref a_text, .int v_readAt, .int v_tokenAt, .int v_token, .int v_faultAt, .int v_readItems, .ref a_read, .int v_congruenceMany, .ref a_congruences, .int v_termMany_137, .int v_rounds_137, .ref a_terms])), (a_now, .inl (y.1, 21, .inl v_now)), (a_terms, .inl (y.2.1, 202, .inr (.inl v_terms_137)))] H → va_D A [(a, .inr (6, [.ref a_now, .int v_undoMany, .int v_undoAt, .ref a_undos, .int v_seenMany, .ref a_seen, .ref a_isKept, .ref a_kept, .int v_letterMany, .ref a_text, .int v_readAt, .int v_tokenAt, .int v_token, .int v_faultAt, .int v_readItems, .ref a_read, .int v_congruenceMany, .ref a_congruences, .int v_termMany_137, .int v_rounds_137, .ref a_terms])), (a_now, .inl (y.1, 21, .inl v_now)), (a_terms, .inl (y.2.1, 202, .inr (.inl v_terms_137)))] → va_S A s.heap H locs → W p l e (headSpec wsX9_term ({ frames := 3, cells := 0, slots := 0, locals := 74 } : Room)).room s m ([.ref a, .int x1] : List Value).toArray below meth c H locs 0 0 (MQ below (va_Qi K (bW D y A (fun u : (Int32 × Int32 × (Nat → Int64)) => [(a, .inr (6, [.ref a_now, .int v_undoMany, .int v_undoAt, .ref a_undos, .int v_seenMany, .ref a_seen, .ref a_isKept, .ref a_kept, .int v_letterMany, .ref a_text, .int v_readAt, .int v_tokenAt, .int v_token, .int v_faultAt, .int v_readItems, .ref a_read, .int v_congruenceMany, .ref a_congruences, .int u.1, .int u.2.1, .ref a_terms])), (a_now, .inl (y.1, 21, .inl v_now)), (a_terms, .inl (y.2.1, 202, .inr (.inl u.2.2)))])) A) ([.ref a, .int x1] : List Value).toArray s 0 0 A) (F0 m 137 ls []) := by
      intro K137 hE137 n
      induction n with
      | zero => intro v_termMany_137 v_rounds_137 v_terms_137 ls H locs h; exact (sat_lp0 h).elim
      | succ n ih =>
        intro v_termMany_137 v_rounds_137 v_terms_137 ls H locs h hl hP hD hS
        have h := sat_lp h
        have h : sat (m_X9_term_s137 v_now x3_134 x4_134 v_termMany_137 v_rounds_137 v_terms_137) (lk (fun s' => sat (lp (fun q : (Int32 × Int32 × (Nat → Int64)) => m_X9_term_s137 v_now x3_134 x4_134 q.1 q.2.1 q.2.2) n s') K137) K137) := h
        unfold m_X9_term_s137 at h
        refine lv_aload_n hx hb dX9_term_137 rfl (lv_at hl 0 rfl) ?_
        refine lv_lload hx hb dX9_term_138 (lv_at hl 2 rfl) ?_
        refine cr_i (rv (As := [.long x4_134]) (rest := []) ⟨hx, hb, hml, hown, hts⟩ (c_X9_isTerm l D y a a_terms a_now a_undos a_seen a_isKept a_kept a_text a_read a_congruences v_undoMany v_undoAt v_seenMany v_letterMany v_readAt v_tokenAt v_token v_faultAt v_readItems v_congruenceMany v_termMany_137 v_rounds_137 v_terms_137 x4_134 _ (sat_bind h)) (cwV 1 hts gX9_term_X9_isTerm rfl rfl rfl (by decide +kernel) ⟨Nat.le_of_ble_eq_true rfl, Nat.le_of_ble_eq_true rfl⟩) hK hP [0, 2] rfl 0 6 rfl rfl rfl rfl hl.1 rfl (Nat.le_of_ble_eq_true rfl) dX9_term_140 ⟨Nat.zero_le _, Nat.zero_le _⟩) (fun r4 h => ?_)
        refine lv_if_ne (tgt := 177) hx hb dX9_term_143 (by decide) (fun c143 => ?_) (fun c143 => ?_)
        · have h := sat_f c143 h
          have h := lk_r (sat_some h)
          exact hE137 (v_termMany_137, v_rounds_137, v_terms_137) ls H locs h (lv_sub hl [0, 2] rfl) hP hD hS
        · have h := sat_t c143 h
          refine lv_aload_n hx hb dX9_term_146 rfl (lv_at hl 0 rfl) ?_
          refine lv_iload_n hx hb dX9_term_147 rfl (lv_at hl 1 rfl) ?_
          refine cw_i (wn := fun u5 => [(a, .inr (6, [.ref a_now, .int v_undoMany, .int v_undoAt, .ref a_undos, .int v_seenMany, .ref a_seen, .ref a_isKept, .ref a_kept, .int v_letterMany, .ref a_text, .int v_readAt, .int v_tokenAt, .int v_token, .int v_faultAt, .int v_readItems, .ref a_read, .int v_congruenceMany, .ref a_congruences, .int u5.1, .int v_rounds_137, .ref a_terms])), (a_now, .inl (y.1, 21, .inl v_now)), (a_terms, .inl (y.2.1, 202, .inr (.inl u5.2)))]) (wr := []) (wv (As := [.int x3_134]) (rest := []) ⟨hx, hb, hml, hown, hts⟩ (c_X9_goesRound l D y a a_now a_terms a_undos a_seen a_isKept a_kept a_text a_read a_congruences v_undoMany v_undoAt v_seenMany v_letterMany v_readAt v_tokenAt v_token v_faultAt v_readItems v_congruenceMany v_termMany_137 v_rounds_137 v_now v_terms_137 x3_134 _ _ rfl _ (sat_bd2 h)) (cwV 1 hts gX9_term_X9_goesRound rfl rfl rfl (by decide +kernel) ⟨Nat.le_of_ble_eq_true rfl, Nat.le_of_ble_eq_true rfl⟩) hK hP hD [0, 1, 2] rfl rfl rfl 0 6 rfl rfl rfl rfl hl.1 rfl (Nat.le_of_ble_eq_true rfl) dX9_term_148 ⟨Nat.zero_le _, Nat.zero_le _⟩) hS hP hD hA [0, 1, 2] [] [0, 1, 2] rfl rfl rfl (by decide) (fun _ => rfl) rfl (fun _ => rfl) (fun r6 u5 H locs h hP hD hS => ?_)
          refine lv_if_eq (tgt := 177) hx hb dX9_term_151 (by decide) (fun c151 => ?_) (fun c151 => ?_)
          · have h := sat_t c151 h
            have h := lk_r (sat_some h)
            exact hE137 (u5.1, v_rounds_137, u5.2) ls H locs h (lv_sub hl [0, 2] rfl) hP hD hS
          · have h := sat_f c151 h
            refine lv_aload_n hx hb dX9_term_154 rfl (lv_at hl 0 rfl) ?_
            refine va_get (D := D) (ci := 6) (v := .int u5.1) (C := RX9) (T := TX9) (N := 21) hx hb hts iX9 hown hK hP 0 rfl rfl 18 (by decide) fl182 (fun _ h9 => h9) rfl dX9_term_155 ?_
            refine lv_sipush (v := 200) hx hb dX9_term_158 (by decide) ?_
            refine lv_icmp_gt (tgt := 177) hx hb dX9_term_161 (by decide) (fun c161 => ?_) (fun c161 => ?_)
            · have h := sat_t c161 h
              have h := lk_r (sat_some h)
              exact hE137 (u5.1, v_rounds_137, u5.2) ls H locs h (lv_sub hl [0, 2] rfl) hP hD hS
            · have h := sat_f c161 h
              refine lv_aload_n hx hb dX9_term_164 rfl (lv_at hl 0 rfl) ?_
              refine lv_dup hx hb dX9_term_165 rfl ?_
              refine va_get (D := D) (ci := 6) (v := .int v_rounds_137) (C := RX9) (T := TX9) (N := 21) hx hb hts iX9 hown hK hP 0 rfl rfl 19 (by decide) fl203 (fun _ h9 => h9) rfl dX9_term_166 ?_
              refine lv_iconst (v := 1) hx hb dX9_term_169 (by decide) ?_
              refine lv_iadd hx hb dX9_term_170 ?_
              refine pf (D := D) (ci := 6) (v := .int (v_rounds_137 + 1)) (ty := .int) (C := RX9) (T := TX9) (N := 21) (wn := [(a, .inr (6, [.ref a_now, .int v_undoMany, .int v_undoAt, .ref a_undos, .int v_seenMany, .ref a_seen, .ref a_isKept, .ref a_kept, .int v_letterMany, .ref a_text, .int v_readAt, .int v_tokenAt, .int v_token, .int v_faultAt, .int v_readItems, .ref a_read, .int v_congruenceMany, .ref a_congruences, .int u5.1, .int (v_rounds_137 + 1), .ref a_terms])), (a_now, .inl (y.1, 21, .inl v_now)), (a_terms, .inl (y.2.1, 202, .inr (.inl u5.2)))]) hx hb hts iX9 tyX9 tyX9_ok nmX9 hown hK hP hD hS 0 rfl rfl 19 (by decide) fl203 (fun _ h9 => h9) rfl (by decide +kernel) rfl rfl (Nat.le_of_ble_eq_true rfl) dX9_term_171 rfl (fun H locs hP hD hS => ?_)
              refine lv_goto (tgt := 137) hx hb dX9_term_174 (by decide) ?_
              have h := lk_l (sat_some h)
              exact ih u5.1 (v_rounds_137 + 1) u5.2 ls H locs h hl hP hD hS
    have h := sat_bind h
    refine hL137 _ (fun z137 ls H locs h hl hP hD hS => ?_) 1000 u2.1 v_rounds_134 u2.2 ls H locs h hl hP hD hS
    exact hJ177 x4_134 z137.1 z137.2.1 z137.2.2 ls H locs h hl hP hD hS
  have hJ111 : ∀ (x3_111 : Int32) (x4_111 : Int64) (t1_111 : Int64) (v_termMany_111 : Int32) (v_rounds_111 : Int32) (v_terms_111 : Nat → Int64) (ls : Array Slot) (H : Heap) (locs : List Loc), sat (m_X9_term_j111 v_now x1 x3_111 x4_111 t1_111 v_termMany_111 v_rounds_111 v_terms_111) (pK K) → lv_has ls 6 [(0, .ref a), (1, .int x1), (3, .int x3_111), (4, .long x4_111)] → va_P D vwCl [(a, .inr (6, [.ref a_now, .int v_undoMany, .int v_undoAt, .ref a_undos, .int v_seenMany, .ref a_seen, .ref a_isKept, .ref a_kept, .int v_letterMany, .ref a_text, .int v_readAt, .int v_tokenAt, .int v_token, .int v_faultAt, .int v_readItems, .ref a_read, .int v_congruenceMany, .ref a_congruences, .int v_termMany_111, .int v_rounds_111, .ref a_terms])), (a_now, .inl (y.1, 21, .inl v_now)), (a_terms, .inl (y.2.1, 202, .inr (.inl v_terms_111)))] H → va_D A [(a, .inr (6, [.ref a_now, .int v_undoMany, .int v_undoAt, .ref a_undos, .int v_seenMany, .ref a_seen, .ref a_isKept, .ref a_kept, .int v_letterMany, .ref a_text, .int v_readAt, .int v_tokenAt, .int v_token, .int v_faultAt, .int v_readItems, .ref a_read, .int v_congruenceMany, .ref a_congruences, .int v_termMany_111, .int v_rounds_111, .ref a_terms])), (a_now, .inl (y.1, 21, .inl v_now)), (a_terms, .inl (y.2.1, 202, .inr (.inl v_terms_111)))] → va_S A s.heap H locs → W p l e (headSpec wsX9_term ({ frames := 3, cells := 0, slots := 0, locals := 74 } : Room)).room s m ([.ref a, .int x1] : List Value).toArray below meth c H locs 0 0 (MQ below (va_Qi K (bW D y A (fun u : (Int32 × Int32 × (Nat → Int64)) => [(a, .inr (6, [.ref a_now, .int v_undoMany, .int v_undoAt, .ref a_undos, .int v_seenMany, .ref a_seen, .ref a_isKept, .ref a_kept, .int v_letterMany, .ref a_text, .int v_readAt, .int v_tokenAt, .int v_token, .int v_faultAt, .int v_readItems, .ref a_read, .int v_congruenceMany, .ref a_congruences, .int u.1, .int u.2.1, .ref a_terms])), (a_now, .inl (y.1, 21, .inl v_now)), (a_terms, .inl (y.2.1, 202, .inr (.inl u.2.2)))])) A) ([.ref a, .int x1] : List Value).toArray s 0 0 A) (F0 m 111 ls [.long t1_111, .ref a]) := by
    intro x3_111 x4_111 t1_111 v_termMany_111 v_rounds_111 v_terms_111 ls H locs h hl hP hD hS
    unfold m_X9_term_j111 at h
    refine cw_v (wn := fun u7 => [(a, .inr (6, [.ref a_now, .int v_undoMany, .int v_undoAt, .ref a_undos, .int v_seenMany, .ref a_seen, .ref a_isKept, .ref a_kept, .int v_letterMany, .ref a_text, .int v_readAt, .int v_tokenAt, .int v_token, .int v_faultAt, .int v_readItems, .ref a_read, .int v_congruenceMany, .ref a_congruences, .int u7.1, .int v_rounds_111, .ref a_terms])), (a_now, .inl (y.1, 21, .inl v_now)), (a_terms, .inl (y.2.1, 202, .inr (.inl u7.2)))]) (wr := [(a_now, .inl (y.1, 21, .inl v_now))]) (wv (As := [.long t1_111]) (rest := []) ⟨hx, hb, hml, hown, hts⟩ (c_X9_comes l D y a a_terms a_now a_undos a_seen a_isKept a_kept a_text a_read a_congruences v_undoMany v_undoAt v_seenMany v_letterMany v_readAt v_tokenAt v_token v_faultAt v_readItems v_congruenceMany v_termMany_111 v_rounds_111 v_terms_111 t1_111 _ _ rfl _ (sat_bind h)) (cwV 1 hts gX9_term_X9_comes rfl rfl rfl (by decide +kernel) ⟨Nat.le_of_ble_eq_true rfl, Nat.le_of_ble_eq_true rfl⟩) hK hP hD [0, 2] rfl rfl rfl 0 6 rfl rfl rfl rfl hl.1 rfl (Nat.le_of_ble_eq_true rfl) dX9_term_111 ⟨Nat.zero_le _, Nat.zero_le _⟩) hS hP hD hA [0, 2] [1] [1, 0, 2] rfl rfl rfl (by decide) (fun _ => rfl) rfl (fun _ => rfl) (fun u7 H locs h hP hD hS => ?_)
    refine lv_aload_n hx hb dX9_term_114 rfl (lv_at hl 0 rfl) ?_
    refine lv_iload_n hx hb dX9_term_115 rfl (lv_at hl 1 rfl) ?_
    refine lv_if_ne (tgt := 128) hx hb dX9_term_116 (by decide) (fun c116 => ?_) (fun c116 => ?_)
    · have h := sat_f c116 h
      refine lv_aload_n hx hb dX9_term_128 rfl (lv_at hl 0 rfl) ?_
      refine lv_iconst (v := 3) hx hb dX9_term_129 (by decide) ?_
      refine lv_iconst (v := 1) hx hb dX9_term_130 (by decide) ?_
      refine cr_l (rv (As := [.int 3, .int 1]) (rest := [.ref a]) ⟨hx, hb, hml, hown, hts⟩ (c_X9_letterRow l D y a a_now a_undos a_seen a_isKept a_kept a_text a_read a_congruences a_terms v_undoMany v_undoAt v_seenMany v_letterMany v_readAt v_tokenAt v_token v_faultAt v_readItems v_congruenceMany u7.1 v_rounds_111 v_now 3 1 _ (sat_bind h)) (cwV 2 hts gX9_term_X9_letterRow rfl rfl rfl (by decide +kernel) ⟨Nat.le_of_ble_eq_true rfl, Nat.le_of_ble_eq_true rfl⟩) hK hP [0, 1] rfl 0 6 rfl rfl rfl rfl hl.1 rfl (Nat.le_of_ble_eq_true rfl) dX9_term_131 ⟨Nat.zero_le _, Nat.zero_le _⟩) (fun r8 h => ?_)
      exact hJ134 x3_111 x4_111 r8 u7.1 v_rounds_111 u7.2 ls H locs h (lv_sub hl [0, 2, 3] rfl) hP hD hS
    · have h := sat_t c116 h
      refine lv_aload_n hx hb dX9_term_119 rfl (lv_at hl 0 rfl) ?_
      refine lv_iconst (v := 2) hx hb dX9_term_120 (by decide) ?_
      refine lv_iconst (v := 3) hx hb dX9_term_121 (by decide) ?_
      refine cr_l (rv (As := [.int 2, .int 3]) (rest := [.ref a]) ⟨hx, hb, hml, hown, hts⟩ (c_X9_letterRow l D y a a_now a_undos a_seen a_isKept a_kept a_text a_read a_congruences a_terms v_undoMany v_undoAt v_seenMany v_letterMany v_readAt v_tokenAt v_token v_faultAt v_readItems v_congruenceMany u7.1 v_rounds_111 v_now 2 3 _ (sat_bind h)) (cwV 2 hts gX9_term_X9_letterRow rfl rfl rfl (by decide +kernel) ⟨Nat.le_of_ble_eq_true rfl, Nat.le_of_ble_eq_true rfl⟩) hK hP [0, 1] rfl 0 6 rfl rfl rfl rfl hl.1 rfl (Nat.le_of_ble_eq_true rfl) dX9_term_122 ⟨Nat.zero_le _, Nat.zero_le _⟩) (fun r9 h => ?_)
      refine lv_goto (tgt := 134) hx hb dX9_term_125 (by decide) ?_
      exact hJ134 x3_111 x4_111 r9 u7.1 v_rounds_111 u7.2 ls H locs h (lv_sub hl [0, 2, 3] rfl) hP hD hS
  have hJ88 : ∀ (x3_88 : Int32) (x4_88 : Int64) (t1_88 : Int64) (v_termMany_88 : Int32) (v_rounds_88 : Int32) (v_terms_88 : Nat → Int64) (ls : Array Slot) (H : Heap) (locs : List Loc), sat (m_X9_term_j88 v_now x1 x3_88 x4_88 t1_88 v_termMany_88 v_rounds_88 v_terms_88) (pK K) → lv_has ls 6 [(0, .ref a), (1, .int x1), (3, .int x3_88), (4, .long x4_88)] → va_P D vwCl [(a, .inr (6, [.ref a_now, .int v_undoMany, .int v_undoAt, .ref a_undos, .int v_seenMany, .ref a_seen, .ref a_isKept, .ref a_kept, .int v_letterMany, .ref a_text, .int v_readAt, .int v_tokenAt, .int v_token, .int v_faultAt, .int v_readItems, .ref a_read, .int v_congruenceMany, .ref a_congruences, .int v_termMany_88, .int v_rounds_88, .ref a_terms])), (a_now, .inl (y.1, 21, .inl v_now)), (a_terms, .inl (y.2.1, 202, .inr (.inl v_terms_88)))] H → va_D A [(a, .inr (6, [.ref a_now, .int v_undoMany, .int v_undoAt, .ref a_undos, .int v_seenMany, .ref a_seen, .ref a_isKept, .ref a_kept, .int v_letterMany, .ref a_text, .int v_readAt, .int v_tokenAt, .int v_token, .int v_faultAt, .int v_readItems, .ref a_read, .int v_congruenceMany, .ref a_congruences, .int v_termMany_88, .int v_rounds_88, .ref a_terms])), (a_now, .inl (y.1, 21, .inl v_now)), (a_terms, .inl (y.2.1, 202, .inr (.inl v_terms_88)))] → va_S A s.heap H locs → W p l e (headSpec wsX9_term ({ frames := 3, cells := 0, slots := 0, locals := 74 } : Room)).room s m ([.ref a, .int x1] : List Value).toArray below meth c H locs 0 0 (MQ below (va_Qi K (bW D y A (fun u : (Int32 × Int32 × (Nat → Int64)) => [(a, .inr (6, [.ref a_now, .int v_undoMany, .int v_undoAt, .ref a_undos, .int v_seenMany, .ref a_seen, .ref a_isKept, .ref a_kept, .int v_letterMany, .ref a_text, .int v_readAt, .int v_tokenAt, .int v_token, .int v_faultAt, .int v_readItems, .ref a_read, .int v_congruenceMany, .ref a_congruences, .int u.1, .int u.2.1, .ref a_terms])), (a_now, .inl (y.1, 21, .inl v_now)), (a_terms, .inl (y.2.1, 202, .inr (.inl u.2.2)))])) A) ([.ref a, .int x1] : List Value).toArray s 0 0 A) (F0 m 88 ls [.long t1_88, .ref a]) := by
    intro x3_88 x4_88 t1_88 v_termMany_88 v_rounds_88 v_terms_88 ls H locs h hl hP hD hS
    unfold m_X9_term_j88 at h
    refine cw_v (wn := fun u10 => [(a, .inr (6, [.ref a_now, .int v_undoMany, .int v_undoAt, .ref a_undos, .int v_seenMany, .ref a_seen, .ref a_isKept, .ref a_kept, .int v_letterMany, .ref a_text, .int v_readAt, .int v_tokenAt, .int v_token, .int v_faultAt, .int v_readItems, .ref a_read, .int v_congruenceMany, .ref a_congruences, .int u10.1, .int v_rounds_88, .ref a_terms])), (a_now, .inl (y.1, 21, .inl v_now)), (a_terms, .inl (y.2.1, 202, .inr (.inl u10.2)))]) (wr := [(a_now, .inl (y.1, 21, .inl v_now))]) (wv (As := [.long t1_88]) (rest := []) ⟨hx, hb, hml, hown, hts⟩ (c_X9_comes l D y a a_terms a_now a_undos a_seen a_isKept a_kept a_text a_read a_congruences v_undoMany v_undoAt v_seenMany v_letterMany v_readAt v_tokenAt v_token v_faultAt v_readItems v_congruenceMany v_termMany_88 v_rounds_88 v_terms_88 t1_88 _ _ rfl _ (sat_bind h)) (cwV 1 hts gX9_term_X9_comes rfl rfl rfl (by decide +kernel) ⟨Nat.le_of_ble_eq_true rfl, Nat.le_of_ble_eq_true rfl⟩) hK hP hD [0, 2] rfl rfl rfl 0 6 rfl rfl rfl rfl hl.1 rfl (Nat.le_of_ble_eq_true rfl) dX9_term_88 ⟨Nat.zero_le _, Nat.zero_le _⟩) hS hP hD hA [0, 2] [1] [1, 0, 2] rfl rfl rfl (by decide) (fun _ => rfl) rfl (fun _ => rfl) (fun u10 H locs h hP hD hS => ?_)
    refine lv_aload_n hx hb dX9_term_91 rfl (lv_at hl 0 rfl) ?_
    refine lv_iload_n hx hb dX9_term_92 rfl (lv_at hl 1 rfl) ?_
    refine lv_if_ne (tgt := 105) hx hb dX9_term_93 (by decide) (fun c93 => ?_) (fun c93 => ?_)
    · have h := sat_f c93 h
      refine lv_aload_n hx hb dX9_term_105 rfl (lv_at hl 0 rfl) ?_
      refine lv_iconst (v := 3) hx hb dX9_term_106 (by decide) ?_
      refine lv_iconst (v := 2) hx hb dX9_term_107 (by decide) ?_
      refine cr_l (rv (As := [.int 3, .int 2]) (rest := [.ref a]) ⟨hx, hb, hml, hown, hts⟩ (c_X9_letterRow l D y a a_now a_undos a_seen a_isKept a_kept a_text a_read a_congruences a_terms v_undoMany v_undoAt v_seenMany v_letterMany v_readAt v_tokenAt v_token v_faultAt v_readItems v_congruenceMany u10.1 v_rounds_88 v_now 3 2 _ (sat_bind h)) (cwV 2 hts gX9_term_X9_letterRow rfl rfl rfl (by decide +kernel) ⟨Nat.le_of_ble_eq_true rfl, Nat.le_of_ble_eq_true rfl⟩) hK hP [0, 1] rfl 0 6 rfl rfl rfl rfl hl.1 rfl (Nat.le_of_ble_eq_true rfl) dX9_term_108 ⟨Nat.zero_le _, Nat.zero_le _⟩) (fun r11 h => ?_)
      exact hJ111 x3_88 x4_88 r11 u10.1 v_rounds_88 u10.2 ls H locs h hl hP hD hS
    · have h := sat_t c93 h
      refine lv_aload_n hx hb dX9_term_96 rfl (lv_at hl 0 rfl) ?_
      refine lv_iconst (v := 2) hx hb dX9_term_97 (by decide) ?_
      refine lv_iconst (v := 1) hx hb dX9_term_98 (by decide) ?_
      refine cr_l (rv (As := [.int 2, .int 1]) (rest := [.ref a]) ⟨hx, hb, hml, hown, hts⟩ (c_X9_letterRow l D y a a_now a_undos a_seen a_isKept a_kept a_text a_read a_congruences a_terms v_undoMany v_undoAt v_seenMany v_letterMany v_readAt v_tokenAt v_token v_faultAt v_readItems v_congruenceMany u10.1 v_rounds_88 v_now 2 1 _ (sat_bind h)) (cwV 2 hts gX9_term_X9_letterRow rfl rfl rfl (by decide +kernel) ⟨Nat.le_of_ble_eq_true rfl, Nat.le_of_ble_eq_true rfl⟩) hK hP [0, 1] rfl 0 6 rfl rfl rfl rfl hl.1 rfl (Nat.le_of_ble_eq_true rfl) dX9_term_99 ⟨Nat.zero_le _, Nat.zero_le _⟩) (fun r12 h => ?_)
      refine lv_goto (tgt := 111) hx hb dX9_term_102 (by decide) ?_
      exact hJ111 x3_88 x4_88 r12 u10.1 v_rounds_88 u10.2 ls H locs h hl hP hD hS
  have hJ61 : ∀ (x3_61 : Int32) (t0_61 : Int64) (v_termMany_61 : Int32) (v_rounds_61 : Int32) (v_terms_61 : Nat → Int64) (ls : Array Slot) (H : Heap) (locs : List Loc), sat (m_X9_term_j61 v_now x1 x3_61 t0_61 v_termMany_61 v_rounds_61 v_terms_61) (pK K) → lv_has ls 6 [(0, .ref a), (1, .int x1), (3, .int x3_61)] → va_P D vwCl [(a, .inr (6, [.ref a_now, .int v_undoMany, .int v_undoAt, .ref a_undos, .int v_seenMany, .ref a_seen, .ref a_isKept, .ref a_kept, .int v_letterMany, .ref a_text, .int v_readAt, .int v_tokenAt, .int v_token, .int v_faultAt, .int v_readItems, .ref a_read, .int v_congruenceMany, .ref a_congruences, .int v_termMany_61, .int v_rounds_61, .ref a_terms])), (a_now, .inl (y.1, 21, .inl v_now)), (a_terms, .inl (y.2.1, 202, .inr (.inl v_terms_61)))] H → va_D A [(a, .inr (6, [.ref a_now, .int v_undoMany, .int v_undoAt, .ref a_undos, .int v_seenMany, .ref a_seen, .ref a_isKept, .ref a_kept, .int v_letterMany, .ref a_text, .int v_readAt, .int v_tokenAt, .int v_token, .int v_faultAt, .int v_readItems, .ref a_read, .int v_congruenceMany, .ref a_congruences, .int v_termMany_61, .int v_rounds_61, .ref a_terms])), (a_now, .inl (y.1, 21, .inl v_now)), (a_terms, .inl (y.2.1, 202, .inr (.inl v_terms_61)))] → va_S A s.heap H locs → W p l e (headSpec wsX9_term ({ frames := 3, cells := 0, slots := 0, locals := 74 } : Room)).room s m ([.ref a, .int x1] : List Value).toArray below meth c H locs 0 0 (MQ below (va_Qi K (bW D y A (fun u : (Int32 × Int32 × (Nat → Int64)) => [(a, .inr (6, [.ref a_now, .int v_undoMany, .int v_undoAt, .ref a_undos, .int v_seenMany, .ref a_seen, .ref a_isKept, .ref a_kept, .int v_letterMany, .ref a_text, .int v_readAt, .int v_tokenAt, .int v_token, .int v_faultAt, .int v_readItems, .ref a_read, .int v_congruenceMany, .ref a_congruences, .int u.1, .int u.2.1, .ref a_terms])), (a_now, .inl (y.1, 21, .inl v_now)), (a_terms, .inl (y.2.1, 202, .inr (.inl u.2.2)))])) A) ([.ref a, .int x1] : List Value).toArray s 0 0 A) (F0 m 61 ls [.long t0_61]) := by
    intro x3_61 t0_61 v_termMany_61 v_rounds_61 v_terms_61 ls H locs h hl hP hD hS
    unfold m_X9_term_j61 at h
    refine lv_lstore (lv' := [(4, .long t0_61), (0, .ref a), (1, .int x1), (3, .int x3_61)]) hx hb dX9_term_61 hl (by decide) rfl (fun ls hl => ?_)
    refine lv_aload_n hx hb dX9_term_63 rfl (lv_at hl 1 rfl) ?_
    refine lv_iconst (v := 0) hx hb dX9_term_64 (by decide) ?_
    refine pf (D := D) (ci := 6) (v := .int 0) (ty := .int) (C := RX9) (T := TX9) (N := 21) (wn := [(a, .inr (6, [.ref a_now, .int v_undoMany, .int v_undoAt, .ref a_undos, .int v_seenMany, .ref a_seen, .ref a_isKept, .ref a_kept, .int v_letterMany, .ref a_text, .int v_readAt, .int v_tokenAt, .int v_token, .int v_faultAt, .int v_readItems, .ref a_read, .int v_congruenceMany, .ref a_congruences, .int 0, .int v_rounds_61, .ref a_terms])), (a_now, .inl (y.1, 21, .inl v_now)), (a_terms, .inl (y.2.1, 202, .inr (.inl v_terms_61)))]) hx hb hts iX9 tyX9 tyX9_ok nmX9 hown hK hP hD hS 0 rfl rfl 18 (by decide) fl182 (fun _ h9 => h9) rfl (by decide +kernel) rfl rfl (Nat.le_of_ble_eq_true rfl) dX9_term_65 rfl (fun H locs hP hD hS => ?_)
    refine lv_aload_n hx hb dX9_term_68 rfl (lv_at hl 1 rfl) ?_
    refine lv_iload_n hx hb dX9_term_69 rfl (lv_at hl 2 rfl) ?_
    refine lv_if_ne (tgt := 82) hx hb dX9_term_70 (by decide) (fun c70 => ?_) (fun c70 => ?_)
    · have h := sat_f c70 h
      refine lv_aload_n hx hb dX9_term_82 rfl (lv_at hl 1 rfl) ?_
      refine lv_iconst (v := 3) hx hb dX9_term_83 (by decide) ?_
      refine lv_iconst (v := 4) hx hb dX9_term_84 (by decide) ?_
      refine cr_l (rv (As := [.int 3, .int 4]) (rest := [.ref a]) ⟨hx, hb, hml, hown, hts⟩ (c_X9_letterRow l D y a a_now a_undos a_seen a_isKept a_kept a_text a_read a_congruences a_terms v_undoMany v_undoAt v_seenMany v_letterMany v_readAt v_tokenAt v_token v_faultAt v_readItems v_congruenceMany 0 v_rounds_61 v_now 3 4 _ (sat_bind h)) (cwV 2 hts gX9_term_X9_letterRow rfl rfl rfl (by decide +kernel) ⟨Nat.le_of_ble_eq_true rfl, Nat.le_of_ble_eq_true rfl⟩) hK hP [0, 1] rfl 0 6 rfl rfl rfl rfl hl.1 rfl (Nat.le_of_ble_eq_true rfl) dX9_term_85 ⟨Nat.zero_le _, Nat.zero_le _⟩) (fun r13 h => ?_)
      exact hJ88 x3_61 t0_61 r13 0 v_rounds_61 v_terms_61 ls H locs h (lv_sub hl [1, 2, 3, 0] rfl) hP hD hS
    · have h := sat_t c70 h
      refine lv_aload_n hx hb dX9_term_73 rfl (lv_at hl 1 rfl) ?_
      refine lv_iconst (v := 2) hx hb dX9_term_74 (by decide) ?_
      refine lv_iconst (v := 0) hx hb dX9_term_75 (by decide) ?_
      refine cr_l (rv (As := [.int 2, .int 0]) (rest := [.ref a]) ⟨hx, hb, hml, hown, hts⟩ (c_X9_letterRow l D y a a_now a_undos a_seen a_isKept a_kept a_text a_read a_congruences a_terms v_undoMany v_undoAt v_seenMany v_letterMany v_readAt v_tokenAt v_token v_faultAt v_readItems v_congruenceMany 0 v_rounds_61 v_now 2 0 _ (sat_bind h)) (cwV 2 hts gX9_term_X9_letterRow rfl rfl rfl (by decide +kernel) ⟨Nat.le_of_ble_eq_true rfl, Nat.le_of_ble_eq_true rfl⟩) hK hP [0, 1] rfl 0 6 rfl rfl rfl rfl hl.1 rfl (Nat.le_of_ble_eq_true rfl) dX9_term_76 ⟨Nat.zero_le _, Nat.zero_le _⟩) (fun r14 h => ?_)
      refine lv_goto (tgt := 88) hx hb dX9_term_79 (by decide) ?_
      exact hJ88 x3_61 t0_61 r14 0 v_rounds_61 v_terms_61 ls H locs h (lv_sub hl [1, 2, 3, 0] rfl) hP hD hS
  have hJ29 : ∀ (t0_29 : Int32) (v_termMany_29 : Int32) (v_rounds_29 : Int32) (v_terms_29 : Nat → Int64) (ls : Array Slot) (H : Heap) (locs : List Loc), sat (m_X9_term_j29 v_now x1 t0_29 v_termMany_29 v_rounds_29 v_terms_29) (pK K) → lv_has ls 6 [(0, .ref a), (1, .int x1)] → va_P D vwCl [(a, .inr (6, [.ref a_now, .int v_undoMany, .int v_undoAt, .ref a_undos, .int v_seenMany, .ref a_seen, .ref a_isKept, .ref a_kept, .int v_letterMany, .ref a_text, .int v_readAt, .int v_tokenAt, .int v_token, .int v_faultAt, .int v_readItems, .ref a_read, .int v_congruenceMany, .ref a_congruences, .int v_termMany_29, .int v_rounds_29, .ref a_terms])), (a_now, .inl (y.1, 21, .inl v_now)), (a_terms, .inl (y.2.1, 202, .inr (.inl v_terms_29)))] H → va_D A [(a, .inr (6, [.ref a_now, .int v_undoMany, .int v_undoAt, .ref a_undos, .int v_seenMany, .ref a_seen, .ref a_isKept, .ref a_kept, .int v_letterMany, .ref a_text, .int v_readAt, .int v_tokenAt, .int v_token, .int v_faultAt, .int v_readItems, .ref a_read, .int v_congruenceMany, .ref a_congruences, .int v_termMany_29, .int v_rounds_29, .ref a_terms])), (a_now, .inl (y.1, 21, .inl v_now)), (a_terms, .inl (y.2.1, 202, .inr (.inl v_terms_29)))] → va_S A s.heap H locs → W p l e (headSpec wsX9_term ({ frames := 3, cells := 0, slots := 0, locals := 74 } : Room)).room s m ([.ref a, .int x1] : List Value).toArray below meth c H locs 0 0 (MQ below (va_Qi K (bW D y A (fun u : (Int32 × Int32 × (Nat → Int64)) => [(a, .inr (6, [.ref a_now, .int v_undoMany, .int v_undoAt, .ref a_undos, .int v_seenMany, .ref a_seen, .ref a_isKept, .ref a_kept, .int v_letterMany, .ref a_text, .int v_readAt, .int v_tokenAt, .int v_token, .int v_faultAt, .int v_readItems, .ref a_read, .int v_congruenceMany, .ref a_congruences, .int u.1, .int u.2.1, .ref a_terms])), (a_now, .inl (y.1, 21, .inl v_now)), (a_terms, .inl (y.2.1, 202, .inr (.inl u.2.2)))])) A) ([.ref a, .int x1] : List Value).toArray s 0 0 A) (F0 m 29 ls [.int t0_29]) := by
    intro t0_29 v_termMany_29 v_rounds_29 v_terms_29 ls H locs h hl hP hD hS
    unfold m_X9_term_j29 at h
    refine lv_istore_n (lv' := [(2, .int t0_29), (0, .ref a), (1, .int x1)]) hx hb dX9_term_29 rfl hl (by decide) rfl (fun ls hl => ?_)
    refine lv_iload_n hx hb dX9_term_30 rfl (lv_at hl 0 rfl) ?_
    refine lv_aload_n hx hb dX9_term_31 rfl (lv_at hl 1 rfl) ?_
    refine cr_i (rv (As := []) (rest := [.int t0_29]) ⟨hx, hb, hml, hown, hts⟩ (c_X9_size l D y a a_now a_undos a_seen a_isKept a_kept a_text a_read a_congruences a_terms v_undoMany v_undoAt v_seenMany v_letterMany v_readAt v_tokenAt v_token v_faultAt v_readItems v_congruenceMany v_termMany_29 v_rounds_29 v_now _ (sat_bind h)) (cwV 0 hts gX9_term_X9_size rfl rfl rfl (by decide +kernel) ⟨Nat.le_of_ble_eq_true rfl, Nat.le_of_ble_eq_true rfl⟩) hK hP [0, 1] rfl 0 6 rfl rfl rfl rfl hl.1 rfl (Nat.le_of_ble_eq_true rfl) dX9_term_32 ⟨Nat.zero_le _, Nat.zero_le _⟩) (fun r15 h => ?_)
    refine lv_imul hx hb dX9_term_35 ?_
    refine lv_aload_n hx hb dX9_term_36 rfl (lv_at hl 1 rfl) ?_
    refine cr_i (rv (As := []) (rest := [.int (t0_29 * r15)]) ⟨hx, hb, hml, hown, hts⟩ (c_X9_size l D y a a_now a_undos a_seen a_isKept a_kept a_text a_read a_congruences a_terms v_undoMany v_undoAt v_seenMany v_letterMany v_readAt v_tokenAt v_token v_faultAt v_readItems v_congruenceMany v_termMany_29 v_rounds_29 v_now _ (sat_bind h)) (cwV 0 hts gX9_term_X9_size rfl rfl rfl (by decide +kernel) ⟨Nat.le_of_ble_eq_true rfl, Nat.le_of_ble_eq_true rfl⟩) hK hP [0, 1] rfl 0 6 rfl rfl rfl rfl hl.1 rfl (Nat.le_of_ble_eq_true rfl) dX9_term_37 ⟨Nat.zero_le _, Nat.zero_le _⟩) (fun r16 h => ?_)
    refine lv_imul hx hb dX9_term_40 ?_
    refine lv_istore_n (lv' := [(3, .int ((t0_29 * r15) * r16)), (2, .int t0_29), (0, .ref a), (1, .int x1)]) hx hb dX9_term_41 rfl hl (by decide) rfl (fun ls hl => ?_)
    refine lv_iload_n hx hb dX9_term_42 rfl (lv_at hl 3 rfl) ?_
    refine lv_if_ne (tgt := 55) hx hb dX9_term_43 (by decide) (fun c43 => ?_) (fun c43 => ?_)
    · have h := sat_f c43 h
      refine lv_aload_n hx hb dX9_term_55 rfl (lv_at hl 2 rfl) ?_
      refine lv_iconst (v := 3) hx hb dX9_term_56 (by decide) ?_
      refine lv_iconst (v := 0) hx hb dX9_term_57 (by decide) ?_
      refine cr_l (rv (As := [.int 3, .int 0]) (rest := []) ⟨hx, hb, hml, hown, hts⟩ (c_X9_letterRow l D y a a_now a_undos a_seen a_isKept a_kept a_text a_read a_congruences a_terms v_undoMany v_undoAt v_seenMany v_letterMany v_readAt v_tokenAt v_token v_faultAt v_readItems v_congruenceMany v_termMany_29 v_rounds_29 v_now 3 0 _ (sat_bind h)) (cwV 2 hts gX9_term_X9_letterRow rfl rfl rfl (by decide +kernel) ⟨Nat.le_of_ble_eq_true rfl, Nat.le_of_ble_eq_true rfl⟩) hK hP [0, 1] rfl 0 6 rfl rfl rfl rfl hl.1 rfl (Nat.le_of_ble_eq_true rfl) dX9_term_58 ⟨Nat.zero_le _, Nat.zero_le _⟩) (fun r17 h => ?_)
      exact hJ61 ((t0_29 * r15) * r16) r17 v_termMany_29 v_rounds_29 v_terms_29 ls H locs h (lv_sub hl [2, 3, 0] rfl) hP hD hS
    · have h := sat_t c43 h
      refine lv_aload_n hx hb dX9_term_46 rfl (lv_at hl 2 rfl) ?_
      refine lv_iconst (v := 2) hx hb dX9_term_47 (by decide) ?_
      refine lv_iconst (v := 2) hx hb dX9_term_48 (by decide) ?_
      refine cr_l (rv (As := [.int 2, .int 2]) (rest := []) ⟨hx, hb, hml, hown, hts⟩ (c_X9_letterRow l D y a a_now a_undos a_seen a_isKept a_kept a_text a_read a_congruences a_terms v_undoMany v_undoAt v_seenMany v_letterMany v_readAt v_tokenAt v_token v_faultAt v_readItems v_congruenceMany v_termMany_29 v_rounds_29 v_now 2 2 _ (sat_bind h)) (cwV 2 hts gX9_term_X9_letterRow rfl rfl rfl (by decide +kernel) ⟨Nat.le_of_ble_eq_true rfl, Nat.le_of_ble_eq_true rfl⟩) hK hP [0, 1] rfl 0 6 rfl rfl rfl rfl hl.1 rfl (Nat.le_of_ble_eq_true rfl) dX9_term_49 ⟨Nat.zero_le _, Nat.zero_le _⟩) (fun r18 h => ?_)
      refine lv_goto (tgt := 61) hx hb dX9_term_52 (by decide) ?_
      exact hJ61 ((t0_29 * r15) * r16) r18 v_termMany_29 v_rounds_29 v_terms_29 ls H locs h (lv_sub hl [2, 3, 0] rfl) hP hD hS
  unfold m_X9_term at h
  refine lv_iload_n hx hb dX9_term_0 rfl (lv_at hl 1 rfl) ?_
  refine lv_iconst (v := 0) hx hb dX9_term_1 (by decide) ?_
  refine lv_iconst (v := 1) hx hb dX9_term_2 (by decide) ?_
  refine cr_i (rs (As := [.int x1, .int 0, .int 1]) (rest := []) ⟨hx, hb, hml, hown, hts⟩ (c_X9_in l D y x1 0 1 _ (sat_bind h)) (va_cwS 3 hts gX9_term_X9_in rfl rfl rfl (by decide +kernel) ⟨Nat.le_of_ble_eq_true rfl, Nat.le_of_ble_eq_true rfl⟩) hK hP [] rfl rfl hl.1 rfl (Nat.le_of_ble_eq_true rfl) dX9_term_3 ⟨Nat.zero_le _, Nat.zero_le _⟩) (fun r19 h => ?_)
  refine lv_if_eq (tgt := 17) hx hb dX9_term_6 (by decide) (fun c6 => ?_) (fun c6 => ?_)
  · have h := sat_t c6 h
    refine lv_bipush (v := (-2)) hx hb dX9_term_17 (by decide) ?_
    have h := sat_some h
    exact W.iret (v := (-2)) hx hb hr (fun t ht hW => ⟨⟨(-2), (v_termMany, v_rounds, v_terms), rfl, h, by rw [ht]; exact hP, va_K.moved hW.alike hK, hD⟩, hS.F ht⟩) hS.2.2 dX9_term_19
  · have h := sat_f c6 h
    refine lv_aload_n hx hb dX9_term_9 rfl (lv_at hl 0 rfl) ?_
    refine cr_i (rv (As := []) (rest := []) ⟨hx, hb, hml, hown, hts⟩ (c_X9_size l D y a a_now a_undos a_seen a_isKept a_kept a_text a_read a_congruences a_terms v_undoMany v_undoAt v_seenMany v_letterMany v_readAt v_tokenAt v_token v_faultAt v_readItems v_congruenceMany v_termMany v_rounds v_now _ (sat_bind h)) (cwV 0 hts gX9_term_X9_size rfl rfl rfl (by decide +kernel) ⟨Nat.le_of_ble_eq_true rfl, Nat.le_of_ble_eq_true rfl⟩) hK hP [0, 1] rfl 0 6 rfl rfl rfl rfl hl.1 rfl (Nat.le_of_ble_eq_true rfl) dX9_term_10 ⟨Nat.zero_le _, Nat.zero_le _⟩) (fun r20 h => ?_)
    refine lv_iconst (v := 4) hx hb dX9_term_13 (by decide) ?_
    refine lv_icmp_ne (tgt := 20) hx hb dX9_term_14 (by decide) (fun c14 => ?_) (fun c14 => ?_)
    · have h := sat_f c14 h
      refine lv_iload_n hx hb dX9_term_20 rfl (lv_at hl 1 rfl) ?_
      refine lv_if_ne (tgt := 28) hx hb dX9_term_21 (by decide) (fun c21 => ?_) (fun c21 => ?_)
      · have h := sat_f c21 h
        refine lv_iconst (v := 3) hx hb dX9_term_28 (by decide) ?_
        exact hJ29 3 v_termMany v_rounds v_terms ls s.heap [] h hl hP hD hS
      · have h := sat_t c21 h
        refine lv_iconst (v := 2) hx hb dX9_term_24 (by decide) ?_
        refine lv_goto (tgt := 29) hx hb dX9_term_25 (by decide) ?_
        exact hJ29 2 v_termMany v_rounds v_terms ls s.heap [] h hl hP hD hS
    · have h := sat_t c14 h
      refine lv_bipush (v := (-2)) hx hb dX9_term_17 (by decide) ?_
      have h := sat_some h
      exact W.iret (v := (-2)) hx hb hr (fun t ht hW => ⟨⟨(-2), (v_termMany, v_rounds, v_terms), rfl, h, by rw [ht]; exact hP, va_K.moved hW.alike hK, hD⟩, hS.F ht⟩) hS.2.2 dX9_term_19

/-! X9_sees -/
set_option maxHeartbeats 4000000 in
set_option maxRecDepth 100000 in
theorem c_X9_sees (l : Launch) (D : va_G) (y : ClassId × ClassId × ClassId × ClassId) (a a_seen a_now a_undos a_isKept a_kept a_text a_read a_congruences a_terms : Nat) (v_undoMany : Int32) (v_undoAt : Int32) (v_seenMany : Int32) (v_letterMany : Int32) (v_readAt : Int32) (v_tokenAt : Int32) (v_token : Int32) (v_faultAt : Int32) (v_readItems : Int32) (v_congruenceMany : Int32) (v_termMany : Int32) (v_rounds : Int32) (v_seen : Nat → Int32) (x1 : Int32) (sz : Nat) (A : Nat → Prop) (hAe : va_A [(a, .inr (6, [.ref a_now, .int v_undoMany, .int v_undoAt, .ref a_undos, .int v_seenMany, .ref a_seen, .ref a_isKept, .ref a_kept, .int v_letterMany, .ref a_text, .int v_readAt, .int v_tokenAt, .int v_token, .int v_faultAt, .int v_readItems, .ref a_read, .int v_congruenceMany, .ref a_congruences, .int v_termMany, .int v_rounds, .ref a_terms])), (a_seen, .inl (y.1, 6, .inl v_seen))] sz = A) (K : Int32 → (Int32 × (Nat → Int32)) → Prop) (h : sat (m_X9_sees v_seenMany v_seen x1) (pK K)) : Met l yX9_sees wsX9_sees ({ frames := 1, cells := 0, slots := 0, locals := 22 } : Room) (pW D y ([.ref a, .int x1] : List Value) [(a, .inr (6, [.ref a_now, .int v_undoMany, .int v_undoAt, .ref a_undos, .int v_seenMany, .ref a_seen, .ref a_isKept, .ref a_kept, .int v_letterMany, .ref a_text, .int v_readAt, .int v_tokenAt, .int v_token, .int v_faultAt, .int v_readItems, .ref a_read, .int v_congruenceMany, .ref a_congruences, .int v_termMany, .int v_rounds, .ref a_terms])), (a_seen, .inl (y.1, 6, .inl v_seen))] sz) (va_Qi K (bW D y A (fun u : (Int32 × (Nat → Int32)) => [(a, .inr (6, [.ref a_now, .int v_undoMany, .int v_undoAt, .ref a_undos, .int u.1, .ref a_seen, .ref a_isKept, .ref a_kept, .int v_letterMany, .ref a_text, .int v_readAt, .int v_tokenAt, .int v_token, .int v_faultAt, .int v_readItems, .ref a_read, .int v_congruenceMany, .ref a_congruences, .int v_termMany, .int v_rounds, .ref a_terms])), (a_seen, .inl (y.1, 6, .inl u.2))])) A) 0 0 A := by
  refine Met.ofW (cc := cX9_sees) (maxL := 2) (ret := (some .int)) (by decide) rfl ?_
  intro p e s m args below meth c s₁ B hml hv
  obtain ⟨rfl, hsz, hP, hK, hD0⟩ := hv
  have hx := B.exec
  have hb := B.bytes
  have hr := B.returns
  have hts := atoms_spec (ws := wsX9_sees) B.pre
  have hown : s.vm.findClass RX9 = some m.cls := findClass_of_methodNamed B.named
  have hlocks := B.notSynchronized
  subst hsz
  have hD : va_D A [(a, .inr (6, [.ref a_now, .int v_undoMany, .int v_undoAt, .ref a_undos, .int v_seenMany, .ref a_seen, .ref a_isKept, .ref a_kept, .int v_letterMany, .ref a_text, .int v_readAt, .int v_tokenAt, .int v_token, .int v_faultAt, .int v_readItems, .ref a_read, .int v_congruenceMany, .ref a_congruences, .int v_termMany, .int v_rounds, .ref a_terms])), (a_seen, .inl (y.1, 6, .inl v_seen))] := hAe ▸ hD0.self
  have hA : ∀ q : Nat, s.heap.size ≤ q → A q := fun q h => hAe ▸ Or.inr h
  have hS : va_S A s.heap s.heap [] := va_S.rf
  have iX9 : ∀ w ∈ wsX90, w ∈ wsX9_sees := by decide +kernel
  have fl99 := hts (.fieldLink RX9 99 "AlgebraLawsModel" "seenMany" "I") (by decide +kernel)
  have fl16 := hts (.fieldLink RX9 16 "AlgebraLawsModel" "seen" "[I") (by decide +kernel)
  have hl := lv_entry ([.ref a, .int x1] : List Value) (n := 2) (Nat.le_of_ble_eq_true rfl)
  rw [lg_entry_eq]
  generalize (lg_sl ([.ref a, .int x1] : List Value) ++ List.replicate (2 - (lg_sl ([.ref a, .int x1] : List Value)).length) Slot.unset).toArray = ls at hl ⊢
  have hl : lv_has ls 2 [(0, .ref a), (1, .int x1)] := hl
  unfold m_X9_sees at h
  refine lv_iload_n hx hb dX9_sees_0 rfl (lv_at hl 1 rfl) ?_
  refine lv_iconst (v := 0) hx hb dX9_sees_1 (by decide) ?_
  refine lv_bipush (v := 16) hx hb dX9_sees_2 (by decide) ?_
  refine cr_i (rs (As := [.int x1, .int 0, .int 16]) (rest := []) ⟨hx, hb, hml, hown, hts⟩ (c_X9_in l D y x1 0 16 _ (sat_bind h)) (va_cwS 3 hts gX9_sees_X9_in rfl rfl rfl (by decide +kernel) ⟨Nat.le_of_ble_eq_true rfl, Nat.le_of_ble_eq_true rfl⟩) hK hP [] rfl rfl hl.1 rfl (Nat.le_of_ble_eq_true rfl) dX9_sees_4 ⟨Nat.zero_le _, Nat.zero_le _⟩) (fun r1 h => ?_)
  refine lv_if_ne (tgt := 13) hx hb dX9_sees_7 (by decide) (fun c7 => ?_) (fun c7 => ?_)
  · have h := sat_f c7 h
    refine lv_aload_n hx hb dX9_sees_13 rfl (lv_at hl 0 rfl) ?_
    refine va_get (D := D) (ci := 6) (v := .int v_seenMany) (C := RX9) (T := TX9) (N := 21) hx hb hts iX9 hown hK hP 0 rfl rfl 4 (by decide) fl99 (fun _ h9 => h9) rfl dX9_sees_14 ?_
    refine lv_bipush (v := 6) hx hb dX9_sees_17 (by decide) ?_
    refine lv_icmp_ne (tgt := 25) hx hb dX9_sees_19 (by decide) (fun c19 => ?_) (fun c19 => ?_)
    · have h := sat_f c19 h
      refine lv_aload_n hx hb dX9_sees_25 rfl (lv_at hl 0 rfl) ?_
      refine va_get (D := D) (ci := 6) (v := .ref a_seen) (C := RX9) (T := TX9) (N := 21) hx hb hts iX9 hown hK hP 0 rfl rfl 5 (by decide) fl16 (fun _ h9 => h9) rfl dX9_sees_26 ?_
      refine lv_aload_n hx hb dX9_sees_29 rfl (lv_at hl 0 rfl) ?_
      refine va_get (D := D) (ci := 6) (v := .int v_seenMany) (C := RX9) (T := TX9) (N := 21) hx hb hts iX9 hown hK hP 0 rfl rfl 4 (by decide) fl99 (fun _ h9 => h9) rfl dX9_sees_30 ?_
      refine lv_iload_n hx hb dX9_sees_33 rfl (lv_at hl 1 rfl) ?_
      obtain ⟨f2, ef2, hin, h⟩ := sat_wrI h
      refine yi (wn := [(a, .inr (6, [.ref a_now, .int v_undoMany, .int v_undoAt, .ref a_undos, .int v_seenMany, .ref a_seen, .ref a_isKept, .ref a_kept, .int v_letterMany, .ref a_text, .int v_readAt, .int v_tokenAt, .int v_token, .int v_faultAt, .int v_readItems, .ref a_read, .int v_congruenceMany, .ref a_congruences, .int v_termMany, .int v_rounds, .ref a_terms])), (a_seen, .inl (y.1, 6, .inl f2))]) hx hb hK hP hD hS 1 0 rfl rfl ef2 hin dX9_sees_34 rfl (fun H locs hP hD hS => ?_)
      refine lv_aload_n hx hb dX9_sees_35 rfl (lv_at hl 0 rfl) ?_
      refine lv_dup hx hb dX9_sees_36 rfl ?_
      refine va_get (D := D) (ci := 6) (v := .int v_seenMany) (C := RX9) (T := TX9) (N := 21) hx hb hts iX9 hown hK hP 0 rfl rfl 4 (by decide) fl99 (fun _ h9 => h9) rfl dX9_sees_37 ?_
      refine lv_iconst (v := 1) hx hb dX9_sees_40 (by decide) ?_
      refine lv_iadd hx hb dX9_sees_41 ?_
      refine pf (D := D) (ci := 6) (v := .int (v_seenMany + 1)) (ty := .int) (C := RX9) (T := TX9) (N := 21) (wn := [(a, .inr (6, [.ref a_now, .int v_undoMany, .int v_undoAt, .ref a_undos, .int (v_seenMany + 1), .ref a_seen, .ref a_isKept, .ref a_kept, .int v_letterMany, .ref a_text, .int v_readAt, .int v_tokenAt, .int v_token, .int v_faultAt, .int v_readItems, .ref a_read, .int v_congruenceMany, .ref a_congruences, .int v_termMany, .int v_rounds, .ref a_terms])), (a_seen, .inl (y.1, 6, .inl f2))]) hx hb hts iX9 tyX9 tyX9_ok nmX9 hown hK hP hD hS 0 rfl rfl 4 (by decide) fl99 (fun _ h9 => h9) rfl (by decide +kernel) rfl rfl (Nat.le_of_ble_eq_true rfl) dX9_sees_42 rfl (fun H locs hP hD hS => ?_)
      refine lv_aload_n hx hb dX9_sees_45 rfl (lv_at hl 0 rfl) ?_
      refine va_get (D := D) (ci := 6) (v := .int (v_seenMany + 1)) (C := RX9) (T := TX9) (N := 21) hx hb hts iX9 hown hK hP 0 rfl rfl 4 (by decide) fl99 (fun _ h9 => h9) rfl dX9_sees_46 ?_
      have h := sat_some h
      exact W.iret (v := v_seenMany + 1) hx hb hr (fun t ht hW => ⟨⟨v_seenMany + 1, (v_seenMany + 1, f2), rfl, h, by rw [ht]; exact hP, va_K.moved hW.alike hK, hD⟩, hS.F ht⟩) hS.2.2 dX9_sees_49
    · have h := sat_t c19 h
      refine lv_bipush (v := (-4)) hx hb dX9_sees_22 (by decide) ?_
      have h := sat_some h
      exact W.iret (v := (-4)) hx hb hr (fun t ht hW => ⟨⟨(-4), (v_seenMany, v_seen), rfl, h, by rw [ht]; exact hP, va_K.moved hW.alike hK, hD⟩, hS.F ht⟩) hS.2.2 dX9_sees_24
  · have h := sat_t c7 h
    refine lv_bipush (v := (-2)) hx hb dX9_sees_10 (by decide) ?_
    have h := sat_some h
    exact W.iret (v := (-2)) hx hb hr (fun t ht hW => ⟨⟨(-2), (v_seenMany, v_seen), rfl, h, by rw [ht]; exact hP, va_K.moved hW.alike hK, hD⟩, hS.F ht⟩) hS.2.2 dX9_sees_12

/-! X9_forget -/
set_option maxHeartbeats 4000000 in
set_option maxRecDepth 100000 in
theorem c_X9_forget (l : Launch) (D : va_G) (y : ClassId × ClassId × ClassId × ClassId) (a a_now a_undos a_seen a_isKept a_kept a_text a_read a_congruences a_terms : Nat) (v_undoMany : Int32) (v_undoAt : Int32) (v_seenMany : Int32) (v_letterMany : Int32) (v_readAt : Int32) (v_tokenAt : Int32) (v_token : Int32) (v_faultAt : Int32) (v_readItems : Int32) (v_congruenceMany : Int32) (v_termMany : Int32) (v_rounds : Int32) (sz : Nat) (A : Nat → Prop) (hAe : va_A [(a, .inr (6, [.ref a_now, .int v_undoMany, .int v_undoAt, .ref a_undos, .int v_seenMany, .ref a_seen, .ref a_isKept, .ref a_kept, .int v_letterMany, .ref a_text, .int v_readAt, .int v_tokenAt, .int v_token, .int v_faultAt, .int v_readItems, .ref a_read, .int v_congruenceMany, .ref a_congruences, .int v_termMany, .int v_rounds, .ref a_terms]))] sz = A) (K : Int32 → Int32 → Prop) (h : sat (m_X9_forget v_seenMany) (pK K)) : Met l yX9_forget wsX9_forget ({ frames := 0, cells := 0, slots := 0, locals := 0 } : Room) (pW D y ([.ref a] : List Value) [(a, .inr (6, [.ref a_now, .int v_undoMany, .int v_undoAt, .ref a_undos, .int v_seenMany, .ref a_seen, .ref a_isKept, .ref a_kept, .int v_letterMany, .ref a_text, .int v_readAt, .int v_tokenAt, .int v_token, .int v_faultAt, .int v_readItems, .ref a_read, .int v_congruenceMany, .ref a_congruences, .int v_termMany, .int v_rounds, .ref a_terms]))] sz) (va_Qi K (bW D y A (fun u : Int32 => [(a, .inr (6, [.ref a_now, .int v_undoMany, .int v_undoAt, .ref a_undos, .int u, .ref a_seen, .ref a_isKept, .ref a_kept, .int v_letterMany, .ref a_text, .int v_readAt, .int v_tokenAt, .int v_token, .int v_faultAt, .int v_readItems, .ref a_read, .int v_congruenceMany, .ref a_congruences, .int v_termMany, .int v_rounds, .ref a_terms]))])) A) 0 0 A := by
  refine Met.ofW (cc := cX9_forget) (maxL := 2) (ret := (some .int)) (by decide) rfl ?_
  intro p e s m args below meth c s₁ B hml hv
  obtain ⟨rfl, hsz, hP, hK, hD0⟩ := hv
  have hx := B.exec
  have hb := B.bytes
  have hr := B.returns
  have hts := atoms_spec (ws := wsX9_forget) B.pre
  have hown : s.vm.findClass RX9 = some m.cls := findClass_of_methodNamed B.named
  have hlocks := B.notSynchronized
  subst hsz
  have hD : va_D A [(a, .inr (6, [.ref a_now, .int v_undoMany, .int v_undoAt, .ref a_undos, .int v_seenMany, .ref a_seen, .ref a_isKept, .ref a_kept, .int v_letterMany, .ref a_text, .int v_readAt, .int v_tokenAt, .int v_token, .int v_faultAt, .int v_readItems, .ref a_read, .int v_congruenceMany, .ref a_congruences, .int v_termMany, .int v_rounds, .ref a_terms]))] := hAe ▸ hD0.self
  have hA : ∀ q : Nat, s.heap.size ≤ q → A q := fun q h => hAe ▸ Or.inr h
  have hS : va_S A s.heap s.heap [] := va_S.rf
  have iX9 : ∀ w ∈ wsX90, w ∈ wsX9_forget := by decide +kernel
  have fl99 := hts (.fieldLink RX9 99 "AlgebraLawsModel" "seenMany" "I") (by decide +kernel)
  have hl := lv_entry ([.ref a] : List Value) (n := 2) (Nat.le_of_ble_eq_true rfl)
  rw [lg_entry_eq]
  generalize (lg_sl ([.ref a] : List Value) ++ List.replicate (2 - (lg_sl ([.ref a] : List Value)).length) Slot.unset).toArray = ls at hl ⊢
  have hl : lv_has ls 2 [(0, .ref a)] := hl
  unfold m_X9_forget at h
  refine lv_aload_n hx hb dX9_forget_0 rfl (lv_at hl 0 rfl) ?_
  refine va_get (D := D) (ci := 6) (v := .int v_seenMany) (C := RX9) (T := TX9) (N := 21) hx hb hts iX9 hown hK hP 0 rfl rfl 4 (by decide) fl99 (fun _ h9 => h9) rfl dX9_forget_1 ?_
  refine lv_istore_n (lv' := [(1, .int v_seenMany), (0, .ref a)]) hx hb dX9_forget_4 rfl hl (by decide) rfl (fun ls hl => ?_)
  refine lv_aload_n hx hb dX9_forget_5 rfl (lv_at hl 1 rfl) ?_
  refine lv_iconst (v := 0) hx hb dX9_forget_6 (by decide) ?_
  refine pf (D := D) (ci := 6) (v := .int 0) (ty := .int) (C := RX9) (T := TX9) (N := 21) (wn := [(a, .inr (6, [.ref a_now, .int v_undoMany, .int v_undoAt, .ref a_undos, .int 0, .ref a_seen, .ref a_isKept, .ref a_kept, .int v_letterMany, .ref a_text, .int v_readAt, .int v_tokenAt, .int v_token, .int v_faultAt, .int v_readItems, .ref a_read, .int v_congruenceMany, .ref a_congruences, .int v_termMany, .int v_rounds, .ref a_terms]))]) hx hb hts iX9 tyX9 tyX9_ok nmX9 hown hK hP hD hS 0 rfl rfl 4 (by decide) fl99 (fun _ h9 => h9) rfl (by decide +kernel) rfl rfl (Nat.le_of_ble_eq_true rfl) dX9_forget_7 rfl (fun H locs hP hD hS => ?_)
  refine lv_iload_n hx hb dX9_forget_10 rfl (lv_at hl 0 rfl) ?_
  have h := sat_some h
  exact W.iret (v := v_seenMany) hx hb hr (fun t ht hW => ⟨⟨v_seenMany, 0, rfl, h, by rw [ht]; exact hP, va_K.moved hW.alike hK, hD⟩, hS.F ht⟩) hS.2.2 dX9_forget_11

/-! X9_isSeen -/
set_option maxHeartbeats 4000000 in
set_option maxRecDepth 100000 in
theorem c_X9_isSeen (l : Launch) (D : va_G) (y : ClassId × ClassId × ClassId × ClassId) (a a_seen a_now a_undos a_isKept a_kept a_text a_read a_congruences a_terms : Nat) (v_undoMany : Int32) (v_undoAt : Int32) (v_seenMany : Int32) (v_letterMany : Int32) (v_readAt : Int32) (v_tokenAt : Int32) (v_token : Int32) (v_faultAt : Int32) (v_readItems : Int32) (v_congruenceMany : Int32) (v_termMany : Int32) (v_rounds : Int32) (v_seen : Nat → Int32) (x1 : Int32) (K : Int32 → Prop) (h : sat (m_X9_isSeen v_seenMany v_seen x1) K) : Met l yX9_isSeen wsX9_isSeen ({ frames := 0, cells := 0, slots := 0, locals := 0 } : Room) (pR D y ([.ref a, .int x1] : List Value) [(a, .inr (6, [.ref a_now, .int v_undoMany, .int v_undoAt, .ref a_undos, .int v_seenMany, .ref a_seen, .ref a_isKept, .ref a_kept, .int v_letterMany, .ref a_text, .int v_readAt, .int v_tokenAt, .int v_token, .int v_faultAt, .int v_readItems, .ref a_read, .int v_congruenceMany, .ref a_congruences, .int v_termMany, .int v_rounds, .ref a_terms])), (a_seen, .inl (y.1, 6, .inl v_seen))]) (qSi K) 0 0 (fun _ => False) := by
  refine Met.ofW (cc := cX9_isSeen) (maxL := 4) (ret := (some .boolean)) (by decide) rfl ?_
  intro p e s m args below meth c s₁ B hml hv
  obtain ⟨rfl, hP, hK⟩ := hv
  have hx := B.exec
  have hb := B.bytes
  have hr := B.returns
  have hts := atoms_spec (ws := wsX9_isSeen) B.pre
  have hown : s.vm.findClass RX9 = some m.cls := findClass_of_methodNamed B.named
  have hlocks := B.notSynchronized
  have iX9 : ∀ w ∈ wsX90, w ∈ wsX9_isSeen := by decide +kernel
  have fl99 := hts (.fieldLink RX9 99 "AlgebraLawsModel" "seenMany" "I") (by decide +kernel)
  have fl16 := hts (.fieldLink RX9 16 "AlgebraLawsModel" "seen" "[I") (by decide +kernel)
  have hl := lv_entry ([.ref a, .int x1] : List Value) (n := 4) (Nat.le_of_ble_eq_true rfl)
  rw [lg_entry_eq]
  generalize (lg_sl ([.ref a, .int x1] : List Value) ++ List.replicate (4 - (lg_sl ([.ref a, .int x1] : List Value)).length) Slot.unset).toArray = ls at hl ⊢
  have hl : lv_has ls 4 [(0, .ref a), (1, .int x1)] := hl
  unfold m_X9_isSeen at h
  refine lv_iconst (v := 1) hx hb dX9_isSeen_0 (by decide) ?_
  refine lv_istore_n (lv' := [(2, .int 1), (0, .ref a), (1, .int x1)]) hx hb dX9_isSeen_1 rfl hl (by decide) rfl (fun ls hl => ?_)
  refine lv_iconst (v := 0) hx hb dX9_isSeen_2 (by decide) ?_
  refine lv_istore_n (lv' := [(3, .int 0), (2, .int 1), (0, .ref a), (1, .int x1)]) hx hb dX9_isSeen_3 rfl hl (by decide) rfl (fun ls hl => ?_)
  have hL4 : ∀ (K4 : Int32 → Prop)
      (hE4 : ∀ (z4 : Int32) (ls : Array Slot), K4 z4 → lv_has ls 4 [(2, .int z4)] → W p l e (headSpec wsX9_isSeen ({ frames := 0, cells := 0, slots := 0, locals := 0 } : Room)).room s m ([.ref a, .int x1] : List Value).toArray below meth c s.heap [] 0 0 (MQ below (qSi K) ([.ref a, .int x1] : List Value).toArray s 0 0 (fun _ => False)) (F0 m 38 ls []))
      (n : Nat) (x2_4 : Int32) (x3_4 : Int32) (ls : Array Slot), sat (lp (fun q : (Int32 × Int32) => m_X9_isSeen_s4 v_seenMany v_seen x1 q.1 q.2) n (x2_4, x3_4)) K4 → lv_has ls 4 [(0, .ref a), (1, .int x1), (2, .int x2_4), (3, .int x3_4)] → W p l e (headSpec wsX9_isSeen ({ frames := 0, cells := 0, slots := 0, locals := 0 } : Room)).room s m ([.ref a, .int x1] : List Value).toArray below meth c s.heap [] 0 0 (MQ below (qSi K) ([.ref a, .int x1] : List Value).toArray s 0 0 (fun _ => False)) (F0 m 4 ls []) := by
    intro K4 hE4 n
    induction n with
    | zero => intro x2_4 x3_4 ls h; exact (sat_lp0 h).elim
    | succ n ih =>
      intro x2_4 x3_4 ls h hl
      have h := sat_lp h
      have h : sat (m_X9_isSeen_s4 v_seenMany v_seen x1 x2_4 x3_4) (lk (fun s' => sat (lp (fun q : (Int32 × Int32) => m_X9_isSeen_s4 v_seenMany v_seen x1 q.1 q.2) n s') K4) K4) := h
      unfold m_X9_isSeen_s4 at h
      refine lv_iload_n hx hb dX9_isSeen_4 rfl (lv_at hl 3 rfl) ?_
      refine lv_aload_n hx hb dX9_isSeen_5 rfl (lv_at hl 0 rfl) ?_
      refine va_get (D := D) (ci := 6) (v := .int v_seenMany) (C := RX9) (T := TX9) (N := 21) hx hb hts iX9 hown hK hP 0 rfl rfl 4 (by decide) fl99 (fun _ h9 => h9) rfl dX9_isSeen_6 ?_
      refine lv_icmp_ge (tgt := 38) hx hb dX9_isSeen_9 (by decide) (fun c9 => ?_) (fun c9 => ?_)
      · have h := sat_t c9 h
        have h := lk_r (sat_some h)
        exact hE4 x2_4 ls h (lv_sub hl [2] rfl)
      · have h := sat_f c9 h
        refine lv_iload_n hx hb dX9_isSeen_12 rfl (lv_at hl 2 rfl) ?_
        refine lv_if_eq (tgt := 30) hx hb dX9_isSeen_13 (by decide) (fun c13 => ?_) (fun c13 => ?_)
        · have h := sat_t c13 h
          refine lv_iconst (v := 0) hx hb dX9_isSeen_30 (by decide) ?_
          refine lv_istore_n (lv' := [(2, .int 0), (0, .ref a), (1, .int x1), (3, .int x3_4)]) hx hb dX9_isSeen_31 rfl hl (by decide) rfl (fun ls hl => ?_)
          refine lv_iinc (v := x3_4 + 1) (lv' := [(3, .int (x3_4 + 1)), (2, .int 0), (0, .ref a), (1, .int x1)]) hx hb dX9_isSeen_32 hl (k := 3) rfl rfl (by decide) rfl (fun ls hl => ?_)
          refine lv_goto (tgt := 4) hx hb dX9_isSeen_35 (by decide) ?_
          have h := lk_l (sat_some h)
          exact ih 0 (x3_4 + 1) ls h (lv_sub hl [2, 3, 1, 0] rfl)
        · have h := sat_f c13 h
          refine lv_aload_n hx hb dX9_isSeen_16 rfl (lv_at hl 0 rfl) ?_
          refine va_get (D := D) (ci := 6) (v := .ref a_seen) (C := RX9) (T := TX9) (N := 21) hx hb hts iX9 hown hK hP 0 rfl rfl 5 (by decide) fl16 (fun _ h9 => h9) rfl dX9_isSeen_17 ?_
          refine lv_iload_n hx hb dX9_isSeen_20 rfl (lv_at hl 3 rfl) ?_
          obtain ⟨r2, er2, hin, h⟩ := sat_rd h
          refine xi hx hb hK hP 1 0 rfl rfl er2 hin dX9_isSeen_21 ?_
          refine lv_iload_n hx hb dX9_isSeen_22 rfl (lv_at hl 1 rfl) ?_
          refine lv_icmp_ne (tgt := 30) hx hb dX9_isSeen_23 (by decide) (fun c23 => ?_) (fun c23 => ?_)
          · have h := sat_f c23 h
            refine lv_iconst (v := 0) hx hb dX9_isSeen_30 (by decide) ?_
            refine lv_istore_n (lv' := [(2, .int 0), (0, .ref a), (1, .int x1), (3, .int x3_4)]) hx hb dX9_isSeen_31 rfl hl (by decide) rfl (fun ls hl => ?_)
            refine lv_iinc (v := x3_4 + 1) (lv' := [(3, .int (x3_4 + 1)), (2, .int 0), (0, .ref a), (1, .int x1)]) hx hb dX9_isSeen_32 hl (k := 3) rfl rfl (by decide) rfl (fun ls hl => ?_)
            refine lv_goto (tgt := 4) hx hb dX9_isSeen_35 (by decide) ?_
            have h := lk_l (sat_some h)
            exact ih 0 (x3_4 + 1) ls h (lv_sub hl [2, 3, 1, 0] rfl)
          · have h := sat_t c23 h
            refine lv_iconst (v := 1) hx hb dX9_isSeen_26 (by decide) ?_
            refine lv_goto (tgt := 31) hx hb dX9_isSeen_27 (by decide) ?_
            refine lv_istore_n (lv' := [(2, .int 1), (0, .ref a), (1, .int x1), (3, .int x3_4)]) hx hb dX9_isSeen_31 rfl hl (by decide) rfl (fun ls hl => ?_)
            refine lv_iinc (v := x3_4 + 1) (lv' := [(3, .int (x3_4 + 1)), (2, .int 1), (0, .ref a), (1, .int x1)]) hx hb dX9_isSeen_32 hl (k := 3) rfl rfl (by decide) rfl (fun ls hl => ?_)
            refine lv_goto (tgt := 4) hx hb dX9_isSeen_35 (by decide) ?_
            have h := lk_l (sat_some h)
            exact ih 1 (x3_4 + 1) ls h (lv_sub hl [2, 3, 1, 0] rfl)
  have h := sat_bind h
  refine hL4 _ (fun z4 ls h hl => ?_) 1000 1 0 ls h (lv_sub hl [2, 3, 1, 0] rfl)
  refine lv_iload_n hx hb dX9_isSeen_38 rfl (lv_at hl 0 rfl) ?_
  obtain ⟨hz, h⟩ := sat_gd h
  have h := sat_some h
  exact W.zret (v := z4) hx hb hr (zn hz) (fun t ht _ => ⟨z4, rfl, h, ht⟩) (fun _ hq => by cases hq) dX9_isSeen_39
