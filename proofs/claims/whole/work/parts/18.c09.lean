/-! X9_layCongruences -/
set_option maxHeartbeats 4000000 in
set_option maxRecDepth 100000 in
theorem c_X9_layCongruences (l : Launch) (D : va_G) (y : ClassId × ClassId × ClassId × ClassId) (a a_congruences a_now a_undos a_seen a_isKept a_kept a_text a_read a_terms : Nat) (v_undoMany : Int32) (v_undoAt : Int32) (v_seenMany : Int32) (v_letterMany : Int32) (v_readAt : Int32) (v_tokenAt : Int32) (v_token : Int32) (v_faultAt : Int32) (v_readItems : Int32) (v_congruenceMany : Int32) (v_termMany : Int32) (v_rounds : Int32) (v_congruences : Nat → Int32) (v_now : Nat → Int32) (sz : Nat) (A : Nat → Prop) (hAe : va_A [(a, .inr (6, [.ref a_now, .int v_undoMany, .int v_undoAt, .ref a_undos, .int v_seenMany, .ref a_seen, .ref a_isKept, .ref a_kept, .int v_letterMany, .ref a_text, .int v_readAt, .int v_tokenAt, .int v_token, .int v_faultAt, .int v_readItems, .ref a_read, .int v_congruenceMany, .ref a_congruences, .int v_termMany, .int v_rounds, .ref a_terms])), (a_congruences, .inl (y.1, 16, .inl v_congruences)), (a_now, .inl (y.1, 21, .inl v_now))] sz = A) (K : (Int32 × (Nat → Int32)) → Prop) (h : sat (m_X9_layCongruences v_congruenceMany v_congruences v_now) K) : Met l yX9_layCongruences wsX9_layCongruences ({ frames := 3, cells := 0, slots := 0, locals := 69 } : Room) (pW D y ([.ref a] : List Value) [(a, .inr (6, [.ref a_now, .int v_undoMany, .int v_undoAt, .ref a_undos, .int v_seenMany, .ref a_seen, .ref a_isKept, .ref a_kept, .int v_letterMany, .ref a_text, .int v_readAt, .int v_tokenAt, .int v_token, .int v_faultAt, .int v_readItems, .ref a_read, .int v_congruenceMany, .ref a_congruences, .int v_termMany, .int v_rounds, .ref a_terms])), (a_congruences, .inl (y.1, 16, .inl v_congruences)), (a_now, .inl (y.1, 21, .inl v_now))] sz) (va_Qv K (bW D y A (fun u : (Int32 × (Nat → Int32)) => [(a, .inr (6, [.ref a_now, .int v_undoMany, .int v_undoAt, .ref a_undos, .int v_seenMany, .ref a_seen, .ref a_isKept, .ref a_kept, .int v_letterMany, .ref a_text, .int v_readAt, .int v_tokenAt, .int v_token, .int v_faultAt, .int v_readItems, .ref a_read, .int u.1, .ref a_congruences, .int v_termMany, .int v_rounds, .ref a_terms])), (a_congruences, .inl (y.1, 16, .inl u.2)), (a_now, .inl (y.1, 21, .inl v_now))])) A) 0 0 A := by
  refine Met.ofW (cc := cX9_layCongruences) (maxL := 2) (ret := none) (by decide) rfl ?_
  intro p e s m args below meth c s₁ B hml hv
  obtain ⟨rfl, hsz, hP, hK, hD0⟩ := hv
  have hx := B.exec
  have hb := B.bytes
  have hr := B.returns
  have hts := atoms_spec (ws := wsX9_layCongruences) B.pre
  have hown : s.vm.findClass RX9 = some m.cls := findClass_of_methodNamed B.named
  have hlocks := B.notSynchronized
  subst hsz
  have hD : va_D A [(a, .inr (6, [.ref a_now, .int v_undoMany, .int v_undoAt, .ref a_undos, .int v_seenMany, .ref a_seen, .ref a_isKept, .ref a_kept, .int v_letterMany, .ref a_text, .int v_readAt, .int v_tokenAt, .int v_token, .int v_faultAt, .int v_readItems, .ref a_read, .int v_congruenceMany, .ref a_congruences, .int v_termMany, .int v_rounds, .ref a_terms])), (a_congruences, .inl (y.1, 16, .inl v_congruences)), (a_now, .inl (y.1, 21, .inl v_now))] := hAe ▸ hD0.self
  have hA : ∀ q : Nat, s.heap.size ≤ q → A q := fun q h => hAe ▸ Or.inr h
  have hS : va_S A s.heap s.heap [] := va_S.rf
  have iX9 : ∀ w ∈ wsX90, w ∈ wsX9_layCongruences := by decide +kernel
  have fl145 := hts (.fieldLink RX9 145 "AlgebraLawsModel" "congruenceMany" "I") (by decide +kernel)
  have fl32 := hts (.fieldLink RX9 32 "AlgebraLawsModel" "congruences" "[I") (by decide +kernel)
  have hl := lv_entry ([.ref a] : List Value) (n := 2) (Nat.le_of_ble_eq_true rfl)
  rw [lg_entry_eq]
  generalize (lg_sl ([.ref a] : List Value) ++ List.replicate (2 - (lg_sl ([.ref a] : List Value)).length) Slot.unset).toArray = ls at hl ⊢
  have hl : lv_has ls 2 [(0, .ref a)] := hl
  unfold m_X9_layCongruences at h
  refine lv_aload_n hx hb dX9_layCongruences_0 rfl (lv_at hl 0 rfl) ?_
  refine lv_iconst (v := 0) hx hb dX9_layCongruences_1 (by decide) ?_
  refine pf (D := D) (ci := 6) (v := .int 0) (ty := .int) (C := RX9) (T := TX9) (N := 21) (wn := [(a, .inr (6, [.ref a_now, .int v_undoMany, .int v_undoAt, .ref a_undos, .int v_seenMany, .ref a_seen, .ref a_isKept, .ref a_kept, .int v_letterMany, .ref a_text, .int v_readAt, .int v_tokenAt, .int v_token, .int v_faultAt, .int v_readItems, .ref a_read, .int 0, .ref a_congruences, .int v_termMany, .int v_rounds, .ref a_terms])), (a_congruences, .inl (y.1, 16, .inl v_congruences)), (a_now, .inl (y.1, 21, .inl v_now))]) hx hb hts iX9 tyX9 tyX9_ok nmX9 hown hK hP hD hS 0 rfl rfl 16 (by decide) fl145 (fun _ h9 => h9) rfl (by decide +kernel) rfl rfl (Nat.le_of_ble_eq_true rfl) dX9_layCongruences_2 rfl (fun H locs hP hD hS => ?_)
  refine lv_iconst (v := 0) hx hb dX9_layCongruences_5 (by decide) ?_
  refine lv_istore_n (lv' := [(1, .int 0), (0, .ref a)]) hx hb dX9_layCongruences_6 rfl hl (by decide) rfl (fun ls hl => ?_)
  have hL7 : ∀ (K7 : (Int32 × (Nat → Int32)) → Prop)
      (hE7 : ∀ (z7 : (Int32 × (Nat → Int32))) (ls : Array Slot) (H : Heap) (locs : List Loc), K7 z7 → lv_has ls 2 [] → va_P D vwCl [(a, .inr (6, [.ref a_now, .int v_undoMany, .int v_undoAt, .ref a_undos, .int v_seenMany, .ref a_seen, .ref a_isKept, .ref a_kept, .int v_letterMany, .ref a_text, .int v_readAt, .int v_tokenAt, .int v_token, .int v_faultAt, .int v_readItems, .ref a_read, .int z7.1, .ref a_congruences, .int v_termMany, .int v_rounds, .ref a_terms])), (a_congruences, .inl (y.1, 16, .inl z7.2)), (a_now, .inl (y.1, 21, .inl v_now))] H → va_D A [(a, .inr (6, [.ref a_now, .int v_undoMany, .int v_undoAt, .ref a_undos, .int v_seenMany, .ref a_seen, .ref a_isKept, .ref a_kept, .int v_letterMany, .ref a_text, .int v_readAt, .int v_tokenAt, .int v_token, .int v_faultAt, .int v_readItems, .ref a_read, .int z7.1, .ref a_congruences, .int v_termMany, .int v_rounds, .ref a_terms])), (a_congruences, .inl (y.1, 16, .inl z7.2)), (a_now, .inl (y.1, 21, .inl v_now))] → va_S A s.heap H locs → W p l e (headSpec wsX9_layCongruences ({ frames := 3, cells := 0, slots := 0, locals := 69 } : Room)).room s m ([.ref a] : List Value).toArray below meth c H locs 0 0 (MQ below (va_Qv K (bW D y A (fun u : (Int32 × (Nat → Int32)) => [(a, .inr (6, [.ref a_now, .int v_undoMany, .int v_undoAt, .ref a_undos, .int v_seenMany, .ref a_seen, .ref a_isKept, .ref a_kept, .int v_letterMany, .ref a_text, .int v_readAt, .int v_tokenAt, .int v_token, .int v_faultAt, .int v_readItems, .ref a_read, .int u.1, .ref a_congruences, .int v_termMany, .int v_rounds, .ref a_terms])), (a_congruences, .inl (y.1, 16, .inl u.2)), (a_now, .inl (y.1, 21, .inl v_now))])) A) ([.ref a] : List Value).toArray s 0 0 A) (F0 m 56 ls []))
      (n : Nat) (x1_7 : Int32) (v_congruenceMany_7 : Int32) (v_congruences_7 : Nat → Int32) (ls : Array Slot) (H : Heap) (locs : List Loc), sat (lp (fun q : (Int32 × Int32 × (Nat → Int32)) => m_X9_layCongruences_s7 v_now q.1 q.2.1 q.2.2) n (x1_7, v_congruenceMany_7, v_congruences_7)) K7 → lv_has ls 2 [(0, .ref a), (1, .int x1_7)] → va_P D vwCl [(a, .inr (6, [.ref a_now, .int v_undoMany, .int v_undoAt, .ref a_undos, .int v_seenMany, .ref a_seen, .ref a_isKept, .ref a_kept, .int v_letterMany, .ref a_text, .int v_readAt, .int v_tokenAt, .int v_token, .int v_faultAt, .int v_readItems, .ref a_read, .int v_congruenceMany_7, .ref a_congruences, .int v_termMany, .int v_rounds, .ref a_terms])), (a_congruences, .inl (y.1, 16, .inl v_congruences_7)), (a_now, .inl (y.1, 21, .inl v_now))] H → va_D A [(a, .inr (6, [.ref a_now, .int v_undoMany, .int v_undoAt, .ref a_undos, .int v_seenMany, .ref a_seen, .ref a_isKept, .ref a_kept, .int v_letterMany, .ref a_text, .int v_readAt, .int v_tokenAt, .int v_token, .int v_faultAt, .int v_readItems, .ref a_read, .int v_congruenceMany_7, .ref a_congruences, .int v_termMany, .int v_rounds, .ref a_terms])), (a_congruences, .inl (y.1, 16, .inl v_congruences_7)), (a_now, .inl (y.1, 21, .inl v_now))] → va_S A s.heap H locs → W p l e (headSpec wsX9_layCongruences ({ frames := 3, cells := 0, slots := 0, locals := 69 } : Room)).room s m ([.ref a] : List Value).toArray below meth c H locs 0 0 (MQ below (va_Qv K (bW D y A (fun u : (Int32 × (Nat → Int32)) => [(a, .inr (6, [.ref a_now, .int v_undoMany, .int v_undoAt, .ref a_undos, .int v_seenMany, .ref a_seen, .ref a_isKept, .ref a_kept, .int v_letterMany, .ref a_text, .int v_readAt, .int v_tokenAt, .int v_token, .int v_faultAt, .int v_readItems, .ref a_read, .int u.1, .ref a_congruences, .int v_termMany, .int v_rounds, .ref a_terms])), (a_congruences, .inl (y.1, 16, .inl u.2)), (a_now, .inl (y.1, 21, .inl v_now))])) A) ([.ref a] : List Value).toArray s 0 0 A) (F0 m 7 ls []) := by
    intro K7 hE7 n
    induction n with
    | zero => intro x1_7 v_congruenceMany_7 v_congruences_7 ls H locs h; exact (sat_lp0 h).elim
    | succ n ih =>
      intro x1_7 v_congruenceMany_7 v_congruences_7 ls H locs h hl hP hD hS
      have h := sat_lp h
      have h : sat (m_X9_layCongruences_s7 v_now x1_7 v_congruenceMany_7 v_congruences_7) (lk (fun s' => sat (lp (fun q : (Int32 × Int32 × (Nat → Int32)) => m_X9_layCongruences_s7 v_now q.1 q.2.1 q.2.2) n s') K7) K7) := h
      unfold m_X9_layCongruences_s7 at h
      refine lv_iload_n hx hb dX9_layCongruences_7 rfl (lv_at hl 1 rfl) ?_
      refine lv_sipush (v := 256) hx hb dX9_layCongruences_8 (by decide) ?_
      refine lv_icmp_ge (tgt := 56) hx hb dX9_layCongruences_11 (by decide) (fun c11 => ?_) (fun c11 => ?_)
      · have h := sat_t c11 h
        have h := lk_r (sat_some h)
        exact hE7 (v_congruenceMany_7, v_congruences_7) ls H locs h (lv_sub hl [] rfl) hP hD hS
      · have h := sat_f c11 h
        refine lv_aload_n hx hb dX9_layCongruences_14 rfl (lv_at hl 0 rfl) ?_
        refine lv_iload_n hx hb dX9_layCongruences_15 rfl (lv_at hl 1 rfl) ?_
        refine cr_i (rv (As := [.int x1_7]) (rest := []) ⟨hx, hb, hml, hown, hts⟩ (c_X9_isPartition l D y a a_now a_undos a_seen a_isKept a_kept a_text a_read a_congruences a_terms v_undoMany v_undoAt v_seenMany v_letterMany v_readAt v_tokenAt v_token v_faultAt v_readItems v_congruenceMany_7 v_termMany v_rounds v_now x1_7 _ (sat_bind h)) (cwV 1 hts gX9_layCongruences_X9_isPartition rfl rfl rfl (by decide +kernel) ⟨Nat.le_of_ble_eq_true rfl, Nat.le_of_ble_eq_true rfl⟩) hK hP [0, 2] rfl 0 6 rfl rfl rfl rfl hl.1 rfl (Nat.le_of_ble_eq_true rfl) dX9_layCongruences_16 ⟨Nat.zero_le _, Nat.zero_le _⟩) (fun r2 h => ?_)
        refine lv_if_eq (tgt := 50) hx hb dX9_layCongruences_19 (by decide) (fun c19 => ?_) (fun c19 => ?_)
        · have h := sat_t c19 h
          refine lv_iinc (v := x1_7 + 1) (lv' := [(1, .int (x1_7 + 1)), (0, .ref a)]) hx hb dX9_layCongruences_50 hl (k := 1) rfl rfl (by decide) rfl (fun ls hl => ?_)
          refine lv_goto (tgt := 7) hx hb dX9_layCongruences_53 (by decide) ?_
          have h := lk_l (sat_some h)
          exact ih (x1_7 + 1) v_congruenceMany_7 v_congruences_7 ls H locs h (lv_sub hl [1, 0] rfl) hP hD hS
        · have h := sat_f c19 h
          refine lv_aload_n hx hb dX9_layCongruences_22 rfl (lv_at hl 0 rfl) ?_
          refine lv_iload_n hx hb dX9_layCongruences_23 rfl (lv_at hl 1 rfl) ?_
          refine cr_i (rv (As := [.int x1_7]) (rest := []) ⟨hx, hb, hml, hown, hts⟩ (c_X9_goesAlong l D y a a_now a_undos a_seen a_isKept a_kept a_text a_read a_congruences a_terms v_undoMany v_undoAt v_seenMany v_letterMany v_readAt v_tokenAt v_token v_faultAt v_readItems v_congruenceMany_7 v_termMany v_rounds v_now x1_7 _ (sat_bind h)) (cwV 1 hts gX9_layCongruences_X9_goesAlong rfl rfl rfl (by decide +kernel) ⟨Nat.le_of_ble_eq_true rfl, Nat.le_of_ble_eq_true rfl⟩) hK hP [0, 2] rfl 0 6 rfl rfl rfl rfl hl.1 rfl (Nat.le_of_ble_eq_true rfl) dX9_layCongruences_24 ⟨Nat.zero_le _, Nat.zero_le _⟩) (fun r3 h => ?_)
          refine lv_if_eq (tgt := 50) hx hb dX9_layCongruences_27 (by decide) (fun c27 => ?_) (fun c27 => ?_)
          · have h := sat_t c27 h
            refine lv_iinc (v := x1_7 + 1) (lv' := [(1, .int (x1_7 + 1)), (0, .ref a)]) hx hb dX9_layCongruences_50 hl (k := 1) rfl rfl (by decide) rfl (fun ls hl => ?_)
            refine lv_goto (tgt := 7) hx hb dX9_layCongruences_53 (by decide) ?_
            have h := lk_l (sat_some h)
            exact ih (x1_7 + 1) v_congruenceMany_7 v_congruences_7 ls H locs h (lv_sub hl [1, 0] rfl) hP hD hS
          · have h := sat_f c27 h
            refine lv_aload_n hx hb dX9_layCongruences_30 rfl (lv_at hl 0 rfl) ?_
            refine va_get (D := D) (ci := 6) (v := .ref a_congruences) (C := RX9) (T := TX9) (N := 21) hx hb hts iX9 hown hK hP 0 rfl rfl 17 (by decide) fl32 (fun _ h9 => h9) rfl dX9_layCongruences_31 ?_
            refine lv_aload_n hx hb dX9_layCongruences_34 rfl (lv_at hl 0 rfl) ?_
            refine va_get (D := D) (ci := 6) (v := .int v_congruenceMany_7) (C := RX9) (T := TX9) (N := 21) hx hb hts iX9 hown hK hP 0 rfl rfl 16 (by decide) fl145 (fun _ h9 => h9) rfl dX9_layCongruences_35 ?_
            refine lv_iload_n hx hb dX9_layCongruences_38 rfl (lv_at hl 1 rfl) ?_
            obtain ⟨f4, ef4, hin, h⟩ := sat_wrI h
            refine yi (wn := [(a, .inr (6, [.ref a_now, .int v_undoMany, .int v_undoAt, .ref a_undos, .int v_seenMany, .ref a_seen, .ref a_isKept, .ref a_kept, .int v_letterMany, .ref a_text, .int v_readAt, .int v_tokenAt, .int v_token, .int v_faultAt, .int v_readItems, .ref a_read, .int v_congruenceMany_7, .ref a_congruences, .int v_termMany, .int v_rounds, .ref a_terms])), (a_congruences, .inl (y.1, 16, .inl f4)), (a_now, .inl (y.1, 21, .inl v_now))]) hx hb hK hP hD hS 1 0 rfl rfl ef4 hin dX9_layCongruences_39 rfl (fun H locs hP hD hS => ?_)
            refine lv_aload_n hx hb dX9_layCongruences_40 rfl (lv_at hl 0 rfl) ?_
            refine lv_dup hx hb dX9_layCongruences_41 rfl ?_
            refine va_get (D := D) (ci := 6) (v := .int v_congruenceMany_7) (C := RX9) (T := TX9) (N := 21) hx hb hts iX9 hown hK hP 0 rfl rfl 16 (by decide) fl145 (fun _ h9 => h9) rfl dX9_layCongruences_42 ?_
            refine lv_iconst (v := 1) hx hb dX9_layCongruences_45 (by decide) ?_
            refine lv_iadd hx hb dX9_layCongruences_46 ?_
            refine pf (D := D) (ci := 6) (v := .int (v_congruenceMany_7 + 1)) (ty := .int) (C := RX9) (T := TX9) (N := 21) (wn := [(a, .inr (6, [.ref a_now, .int v_undoMany, .int v_undoAt, .ref a_undos, .int v_seenMany, .ref a_seen, .ref a_isKept, .ref a_kept, .int v_letterMany, .ref a_text, .int v_readAt, .int v_tokenAt, .int v_token, .int v_faultAt, .int v_readItems, .ref a_read, .int (v_congruenceMany_7 + 1), .ref a_congruences, .int v_termMany, .int v_rounds, .ref a_terms])), (a_congruences, .inl (y.1, 16, .inl f4)), (a_now, .inl (y.1, 21, .inl v_now))]) hx hb hts iX9 tyX9 tyX9_ok nmX9 hown hK hP hD hS 0 rfl rfl 16 (by decide) fl145 (fun _ h9 => h9) rfl (by decide +kernel) rfl rfl (Nat.le_of_ble_eq_true rfl) dX9_layCongruences_47 rfl (fun H locs hP hD hS => ?_)
            refine lv_iinc (v := x1_7 + 1) (lv' := [(1, .int (x1_7 + 1)), (0, .ref a)]) hx hb dX9_layCongruences_50 hl (k := 1) rfl rfl (by decide) rfl (fun ls hl => ?_)
            refine lv_goto (tgt := 7) hx hb dX9_layCongruences_53 (by decide) ?_
            have h := lk_l (sat_some h)
            exact ih (x1_7 + 1) (v_congruenceMany_7 + 1) f4 ls H locs h (lv_sub hl [1, 0] rfl) hP hD hS
  have h := sat_bind h
  refine hL7 _ (fun z7 ls H locs h hl hP hD hS => ?_) 1000 0 0 v_congruences ls H locs h (lv_sub hl [1, 0] rfl) hP hD hS
  have h := sat_some h
  exact W.vret hx hb hr (fun t ht hW => ⟨⟨(z7.1, z7.2), rfl, h, by rw [ht]; exact hP, va_K.moved hW.alike hK, hD⟩, hS.F ht⟩) hS.2.2 dX9_layCongruences_56

/-! X9_nameOf -/
set_option maxHeartbeats 4000000 in
set_option maxRecDepth 100000 in
theorem c_X9_nameOf (l : Launch) (D : va_G) (y : ClassId × ClassId × ClassId × ClassId) (a a_now a_undos a_seen a_isKept a_kept a_text a_read a_congruences a_terms : Nat) (v_undoMany : Int32) (v_undoAt : Int32) (v_seenMany : Int32) (v_letterMany : Int32) (v_readAt : Int32) (v_tokenAt : Int32) (v_token : Int32) (v_faultAt : Int32) (v_readItems : Int32) (v_congruenceMany : Int32) (v_termMany : Int32) (v_rounds : Int32) (v_now : Nat → Int32) (x1 : Int32) (K : Int32 → Prop) (h : sat (m_X9_nameOf v_now x1) K) : Met l yX9_nameOf wsX9_nameOf ({ frames := 1, cells := 0, slots := 0, locals := 21 } : Room) (pR D y ([.ref a, .int x1] : List Value) [(a, .inr (6, [.ref a_now, .int v_undoMany, .int v_undoAt, .ref a_undos, .int v_seenMany, .ref a_seen, .ref a_isKept, .ref a_kept, .int v_letterMany, .ref a_text, .int v_readAt, .int v_tokenAt, .int v_token, .int v_faultAt, .int v_readItems, .ref a_read, .int v_congruenceMany, .ref a_congruences, .int v_termMany, .int v_rounds, .ref a_terms])), (a_now, .inl (y.1, 21, .inl v_now))]) (qSi K) 0 0 (fun _ => False) := by
  refine Met.ofW (cc := cX9_nameOf) (maxL := 4) (ret := (some .int)) (by decide) rfl ?_
  intro p e s m args below meth c s₁ B hml hv
  obtain ⟨rfl, hP, hK⟩ := hv
  have hx := B.exec
  have hb := B.bytes
  have hr := B.returns
  have hts := atoms_spec (ws := wsX9_nameOf) B.pre
  have hown : s.vm.findClass RX9 = some m.cls := findClass_of_methodNamed B.named
  have hlocks := B.notSynchronized
  have hl := lv_entry ([.ref a, .int x1] : List Value) (n := 4) (Nat.le_of_ble_eq_true rfl)
  rw [lg_entry_eq]
  generalize (lg_sl ([.ref a, .int x1] : List Value) ++ List.replicate (4 - (lg_sl ([.ref a, .int x1] : List Value)).length) Slot.unset).toArray = ls at hl ⊢
  have hl : lv_has ls 4 [(0, .ref a), (1, .int x1)] := hl
  unfold m_X9_nameOf at h
  refine lv_iconst (v := 0) hx hb dX9_nameOf_0 (by decide) ?_
  refine lv_istore_n (lv' := [(2, .int 0), (0, .ref a), (1, .int x1)]) hx hb dX9_nameOf_1 rfl hl (by decide) rfl (fun ls hl => ?_)
  refine lv_iconst (v := 0) hx hb dX9_nameOf_2 (by decide) ?_
  refine lv_istore_n (lv' := [(3, .int 0), (2, .int 0), (0, .ref a), (1, .int x1)]) hx hb dX9_nameOf_3 rfl hl (by decide) rfl (fun ls hl => ?_)
  have hL4 : ∀ (K4 : Int32 → Prop)
      (hE4 : ∀ (z4 : Int32) (ls : Array Slot), K4 z4 → lv_has ls 4 [(2, .int z4)] → W p l e (headSpec wsX9_nameOf ({ frames := 1, cells := 0, slots := 0, locals := 21 } : Room)).room s m ([.ref a, .int x1] : List Value).toArray below meth c s.heap [] 0 0 (MQ below (qSi K) ([.ref a, .int x1] : List Value).toArray s 0 0 (fun _ => False)) (F0 m 29 ls []))
      (n : Nat) (x2_4 : Int32) (x3_4 : Int32) (ls : Array Slot), sat (lp (fun q : (Int32 × Int32) => m_X9_nameOf_s4 v_now x1 q.1 q.2) n (x2_4, x3_4)) K4 → lv_has ls 4 [(0, .ref a), (1, .int x1), (2, .int x2_4), (3, .int x3_4)] → W p l e (headSpec wsX9_nameOf ({ frames := 1, cells := 0, slots := 0, locals := 21 } : Room)).room s m ([.ref a, .int x1] : List Value).toArray below meth c s.heap [] 0 0 (MQ below (qSi K) ([.ref a, .int x1] : List Value).toArray s 0 0 (fun _ => False)) (F0 m 4 ls []) := by
    intro K4 hE4 n
    induction n with
    | zero => intro x2_4 x3_4 ls h; exact (sat_lp0 h).elim
    | succ n ih =>
      intro x2_4 x3_4 ls h hl
      have h := sat_lp h
      have h : sat (m_X9_nameOf_s4 v_now x1 x2_4 x3_4) (lk (fun s' => sat (lp (fun q : (Int32 × Int32) => m_X9_nameOf_s4 v_now x1 q.1 q.2) n s') K4) K4) := h
      unfold m_X9_nameOf_s4 at h
      refine lv_iload_n hx hb dX9_nameOf_4 rfl (lv_at hl 3 rfl) ?_
      refine lv_aload_n hx hb dX9_nameOf_5 rfl (lv_at hl 0 rfl) ?_
      refine cr_i (rv (As := []) (rest := [.int x3_4]) ⟨hx, hb, hml, hown, hts⟩ (c_X9_size l D y a a_now a_undos a_seen a_isKept a_kept a_text a_read a_congruences a_terms v_undoMany v_undoAt v_seenMany v_letterMany v_readAt v_tokenAt v_token v_faultAt v_readItems v_congruenceMany v_termMany v_rounds v_now _ (sat_bind h)) (cwV 0 hts gX9_nameOf_X9_size rfl rfl rfl (by decide +kernel) ⟨Nat.le_of_ble_eq_true rfl, Nat.le_of_ble_eq_true rfl⟩) hK hP [0, 1] rfl 0 6 rfl rfl rfl rfl hl.1 rfl (Nat.le_of_ble_eq_true rfl) dX9_nameOf_6 ⟨Nat.zero_le _, Nat.zero_le _⟩) (fun r2 h => ?_)
      refine lv_icmp_ge (tgt := 29) hx hb dX9_nameOf_9 (by decide) (fun c9 => ?_) (fun c9 => ?_)
      · have h := sat_t c9 h
        have h := lk_r (sat_some h)
        exact hE4 x2_4 ls h (lv_sub hl [2] rfl)
      · have h := sat_f c9 h
        refine lv_bipush (v := 10) hx hb dX9_nameOf_12 (by decide) ?_
        refine lv_iload_n hx hb dX9_nameOf_14 rfl (lv_at hl 2 rfl) ?_
        refine lv_imul hx hb dX9_nameOf_15 ?_
        refine lv_iload_n hx hb dX9_nameOf_16 rfl (lv_at hl 1 rfl) ?_
        refine lv_iload_n hx hb dX9_nameOf_17 rfl (lv_at hl 3 rfl) ?_
        refine cr_i (rs (As := [.int x1, .int x3_4]) (rest := [.int (10 * x2_4)]) ⟨hx, hb, hml, hown, hts⟩ (c_X9_figureOf l D y x1 x3_4 _ (sat_bind h)) (va_cwS 2 hts gX9_nameOf_X9_figureOf rfl rfl rfl (by decide +kernel) ⟨Nat.le_of_ble_eq_true rfl, Nat.le_of_ble_eq_true rfl⟩) hK hP [] rfl rfl hl.1 rfl (Nat.le_of_ble_eq_true rfl) dX9_nameOf_18 ⟨Nat.zero_le _, Nat.zero_le _⟩) (fun r3 h => ?_)
        refine lv_iadd hx hb dX9_nameOf_21 ?_
        refine lv_istore_n (lv' := [(2, .int ((10 * x2_4) + r3)), (0, .ref a), (1, .int x1), (3, .int x3_4)]) hx hb dX9_nameOf_22 rfl hl (by decide) rfl (fun ls hl => ?_)
        refine lv_iinc (v := x3_4 + 1) (lv' := [(3, .int (x3_4 + 1)), (2, .int ((10 * x2_4) + r3)), (0, .ref a), (1, .int x1)]) hx hb dX9_nameOf_23 hl (k := 3) rfl rfl (by decide) rfl (fun ls hl => ?_)
        refine lv_goto (tgt := 4) hx hb dX9_nameOf_26 (by decide) ?_
        have h := lk_l (sat_some h)
        exact ih ((10 * x2_4) + r3) (x3_4 + 1) ls h (lv_sub hl [2, 3, 1, 0] rfl)
  have h := sat_bind h
  refine hL4 _ (fun z4 ls h hl => ?_) 1000 0 0 ls h (lv_sub hl [2, 3, 1, 0] rfl)
  refine lv_iload_n hx hb dX9_nameOf_29 rfl (lv_at hl 0 rfl) ?_
  have h := sat_some h
  exact W.iret (v := z4) hx hb hr (fun t ht _ => ⟨z4, rfl, h, ht⟩) (fun _ hq => by cases hq) dX9_nameOf_30

/-! X9_congruence -/
set_option maxHeartbeats 4000000 in
set_option maxRecDepth 100000 in
theorem c_X9_congruence (l : Launch) (D : va_G) (y : ClassId × ClassId × ClassId × ClassId) (a a_congruences a_now a_undos a_seen a_isKept a_kept a_text a_read a_terms : Nat) (v_undoMany : Int32) (v_undoAt : Int32) (v_seenMany : Int32) (v_letterMany : Int32) (v_readAt : Int32) (v_tokenAt : Int32) (v_token : Int32) (v_faultAt : Int32) (v_readItems : Int32) (v_congruenceMany : Int32) (v_termMany : Int32) (v_rounds : Int32) (v_congruences : Nat → Int32) (v_now : Nat → Int32) (x1 : Int32) (sz : Nat) (A : Nat → Prop) (hAe : va_A [(a, .inr (6, [.ref a_now, .int v_undoMany, .int v_undoAt, .ref a_undos, .int v_seenMany, .ref a_seen, .ref a_isKept, .ref a_kept, .int v_letterMany, .ref a_text, .int v_readAt, .int v_tokenAt, .int v_token, .int v_faultAt, .int v_readItems, .ref a_read, .int v_congruenceMany, .ref a_congruences, .int v_termMany, .int v_rounds, .ref a_terms])), (a_congruences, .inl (y.1, 16, .inl v_congruences)), (a_now, .inl (y.1, 21, .inl v_now))] sz = A) (K : Int32 → (Int32 × (Nat → Int32)) → Prop) (h : sat (m_X9_congruence v_congruenceMany v_congruences v_now x1) (pK K)) : Met l yX9_congruence wsX9_congruence ({ frames := 4, cells := 0, slots := 0, locals := 90 } : Room) (pW D y ([.ref a, .int x1] : List Value) [(a, .inr (6, [.ref a_now, .int v_undoMany, .int v_undoAt, .ref a_undos, .int v_seenMany, .ref a_seen, .ref a_isKept, .ref a_kept, .int v_letterMany, .ref a_text, .int v_readAt, .int v_tokenAt, .int v_token, .int v_faultAt, .int v_readItems, .ref a_read, .int v_congruenceMany, .ref a_congruences, .int v_termMany, .int v_rounds, .ref a_terms])), (a_congruences, .inl (y.1, 16, .inl v_congruences)), (a_now, .inl (y.1, 21, .inl v_now))] sz) (va_Qi K (bW D y A (fun u : (Int32 × (Nat → Int32)) => [(a, .inr (6, [.ref a_now, .int v_undoMany, .int v_undoAt, .ref a_undos, .int v_seenMany, .ref a_seen, .ref a_isKept, .ref a_kept, .int v_letterMany, .ref a_text, .int v_readAt, .int v_tokenAt, .int v_token, .int v_faultAt, .int v_readItems, .ref a_read, .int u.1, .ref a_congruences, .int v_termMany, .int v_rounds, .ref a_terms])), (a_congruences, .inl (y.1, 16, .inl u.2)), (a_now, .inl (y.1, 21, .inl v_now))])) A) 0 0 A := by
  refine Met.ofW (cc := cX9_congruence) (maxL := 2) (ret := (some .int)) (by decide) rfl ?_
  intro p e s m args below meth c s₁ B hml hv
  obtain ⟨rfl, hsz, hP, hK, hD0⟩ := hv
  have hx := B.exec
  have hb := B.bytes
  have hr := B.returns
  have hts := atoms_spec (ws := wsX9_congruence) B.pre
  have hown : s.vm.findClass RX9 = some m.cls := findClass_of_methodNamed B.named
  have hlocks := B.notSynchronized
  subst hsz
  have hD : va_D A [(a, .inr (6, [.ref a_now, .int v_undoMany, .int v_undoAt, .ref a_undos, .int v_seenMany, .ref a_seen, .ref a_isKept, .ref a_kept, .int v_letterMany, .ref a_text, .int v_readAt, .int v_tokenAt, .int v_token, .int v_faultAt, .int v_readItems, .ref a_read, .int v_congruenceMany, .ref a_congruences, .int v_termMany, .int v_rounds, .ref a_terms])), (a_congruences, .inl (y.1, 16, .inl v_congruences)), (a_now, .inl (y.1, 21, .inl v_now))] := hAe ▸ hD0.self
  have hA : ∀ q : Nat, s.heap.size ≤ q → A q := fun q h => hAe ▸ Or.inr h
  have hS : va_S A s.heap s.heap [] := va_S.rf
  have iX9 : ∀ w ∈ wsX90, w ∈ wsX9_congruence := by decide +kernel
  have fl145 := hts (.fieldLink RX9 145 "AlgebraLawsModel" "congruenceMany" "I") (by decide +kernel)
  have fl32 := hts (.fieldLink RX9 32 "AlgebraLawsModel" "congruences" "[I") (by decide +kernel)
  have hl := lv_entry ([.ref a, .int x1] : List Value) (n := 2) (Nat.le_of_ble_eq_true rfl)
  rw [lg_entry_eq]
  generalize (lg_sl ([.ref a, .int x1] : List Value) ++ List.replicate (2 - (lg_sl ([.ref a, .int x1] : List Value)).length) Slot.unset).toArray = ls at hl ⊢
  have hl : lv_has ls 2 [(0, .ref a), (1, .int x1)] := hl
  unfold m_X9_congruence at h
  refine lv_iload_n hx hb dX9_congruence_0 rfl (lv_at hl 1 rfl) ?_
  refine lv_if_ge (tgt := 7) hx hb dX9_congruence_1 (by decide) (fun c1 => ?_) (fun c1 => ?_)
  · have h := sat_t c1 h
    refine lv_aload_n hx hb dX9_congruence_7 rfl (lv_at hl 0 rfl) ?_
    refine cw_v (wn := fun u1 => [(a, .inr (6, [.ref a_now, .int v_undoMany, .int v_undoAt, .ref a_undos, .int v_seenMany, .ref a_seen, .ref a_isKept, .ref a_kept, .int v_letterMany, .ref a_text, .int v_readAt, .int v_tokenAt, .int v_token, .int v_faultAt, .int v_readItems, .ref a_read, .int u1.1, .ref a_congruences, .int v_termMany, .int v_rounds, .ref a_terms])), (a_congruences, .inl (y.1, 16, .inl u1.2)), (a_now, .inl (y.1, 21, .inl v_now))]) (wr := []) (wv (As := []) (rest := []) ⟨hx, hb, hml, hown, hts⟩ (c_X9_layCongruences l D y a a_congruences a_now a_undos a_seen a_isKept a_kept a_text a_read a_terms v_undoMany v_undoAt v_seenMany v_letterMany v_readAt v_tokenAt v_token v_faultAt v_readItems v_congruenceMany v_termMany v_rounds v_congruences v_now _ _ rfl _ (sat_bind h)) (cwV 0 hts gX9_congruence_X9_layCongruences rfl rfl rfl (by decide +kernel) ⟨Nat.le_of_ble_eq_true rfl, Nat.le_of_ble_eq_true rfl⟩) hK hP hD [0, 1, 2] rfl rfl rfl 0 6 rfl rfl rfl rfl hl.1 rfl (Nat.le_of_ble_eq_true rfl) dX9_congruence_8 ⟨Nat.zero_le _, Nat.zero_le _⟩) hS hP hD hA [0, 1, 2] [] [0, 1, 2] rfl rfl rfl (by decide) (fun _ => rfl) rfl (fun _ => rfl) (fun u1 H locs h hP hD hS => ?_)
    refine lv_iload_n hx hb dX9_congruence_11 rfl (lv_at hl 1 rfl) ?_
    refine lv_aload_n hx hb dX9_congruence_12 rfl (lv_at hl 0 rfl) ?_
    refine va_get (D := D) (ci := 6) (v := .int u1.1) (C := RX9) (T := TX9) (N := 21) hx hb hts iX9 hown hK hP 0 rfl rfl 16 (by decide) fl145 (fun _ h9 => h9) rfl dX9_congruence_13 ?_
    refine lv_icmp_ge (tgt := 32) hx hb dX9_congruence_16 (by decide) (fun c16 => ?_) (fun c16 => ?_)
    · have h := sat_t c16 h
      refine lv_bipush (v := (-9)) hx hb dX9_congruence_32 (by decide) ?_
      have h := sat_some h
      exact W.iret (v := (-9)) hx hb hr (fun t ht hW => ⟨⟨(-9), (u1.1, u1.2), rfl, h, by rw [ht]; exact hP, va_K.moved hW.alike hK, hD⟩, hS.F ht⟩) hS.2.2 dX9_congruence_34
    · have h := sat_f c16 h
      refine lv_aload_n hx hb dX9_congruence_19 rfl (lv_at hl 0 rfl) ?_
      refine lv_aload_n hx hb dX9_congruence_20 rfl (lv_at hl 0 rfl) ?_
      refine va_get (D := D) (ci := 6) (v := .ref a_congruences) (C := RX9) (T := TX9) (N := 21) hx hb hts iX9 hown hK hP 0 rfl rfl 17 (by decide) fl32 (fun _ h9 => h9) rfl dX9_congruence_21 ?_
      refine lv_iload_n hx hb dX9_congruence_24 rfl (lv_at hl 1 rfl) ?_
      obtain ⟨r2, er2, hin, h⟩ := sat_rd h
      refine xi hx hb hK hP 1 0 rfl rfl er2 hin dX9_congruence_25 ?_
      refine cr_i (rv (As := [.int r2]) (rest := []) ⟨hx, hb, hml, hown, hts⟩ (c_X9_nameOf l D y a a_now a_undos a_seen a_isKept a_kept a_text a_read a_congruences a_terms v_undoMany v_undoAt v_seenMany v_letterMany v_readAt v_tokenAt v_token v_faultAt v_readItems u1.1 v_termMany v_rounds v_now r2 _ (sat_bind h)) (cwV 1 hts gX9_congruence_X9_nameOf rfl rfl rfl (by decide +kernel) ⟨Nat.le_of_ble_eq_true rfl, Nat.le_of_ble_eq_true rfl⟩) hK hP [0, 2] rfl 0 6 rfl rfl rfl rfl hl.1 rfl (Nat.le_of_ble_eq_true rfl) dX9_congruence_26 ⟨Nat.zero_le _, Nat.zero_le _⟩) (fun r3 h => ?_)
      refine lv_goto (tgt := 34) hx hb dX9_congruence_29 (by decide) ?_
      have h := sat_some h
      exact W.iret (v := r3) hx hb hr (fun t ht hW => ⟨⟨r3, (u1.1, u1.2), rfl, h, by rw [ht]; exact hP, va_K.moved hW.alike hK, hD⟩, hS.F ht⟩) hS.2.2 dX9_congruence_34
  · have h := sat_f c1 h
    refine lv_bipush (v := (-2)) hx hb dX9_congruence_4 (by decide) ?_
    have h := sat_some h
    exact W.iret (v := (-2)) hx hb hr (fun t ht hW => ⟨⟨(-2), (v_congruenceMany, v_congruences), rfl, h, by rw [ht]; exact hP, va_K.moved hW.alike hK, hD⟩, hS.F ht⟩) hS.2.2 dX9_congruence_6

/-! X9_isFiner -/
set_option maxHeartbeats 4000000 in
set_option maxRecDepth 100000 in
theorem c_X9_isFiner (l : Launch) (D : va_G) (y : ClassId × ClassId × ClassId × ClassId) (a a_now a_undos a_seen a_isKept a_kept a_text a_read a_congruences a_terms : Nat) (v_undoMany : Int32) (v_undoAt : Int32) (v_seenMany : Int32) (v_letterMany : Int32) (v_readAt : Int32) (v_tokenAt : Int32) (v_token : Int32) (v_faultAt : Int32) (v_readItems : Int32) (v_congruenceMany : Int32) (v_termMany : Int32) (v_rounds : Int32) (v_now : Nat → Int32) (x1 : Int32) (x2 : Int32) (K : Int32 → Prop) (h : sat (m_X9_isFiner v_now x1 x2) K) : Met l yX9_isFiner wsX9_isFiner ({ frames := 2, cells := 0, slots := 0, locals := 44 } : Room) (pR D y ([.ref a, .int x1, .int x2] : List Value) [(a, .inr (6, [.ref a_now, .int v_undoMany, .int v_undoAt, .ref a_undos, .int v_seenMany, .ref a_seen, .ref a_isKept, .ref a_kept, .int v_letterMany, .ref a_text, .int v_readAt, .int v_tokenAt, .int v_token, .int v_faultAt, .int v_readItems, .ref a_read, .int v_congruenceMany, .ref a_congruences, .int v_termMany, .int v_rounds, .ref a_terms])), (a_now, .inl (y.1, 21, .inl v_now))]) (qSi K) 0 0 (fun _ => False) := by
  refine Met.ofW (cc := cX9_isFiner) (maxL := 6) (ret := (some .boolean)) (by decide) rfl ?_
  intro p e s m args below meth c s₁ B hml hv
  obtain ⟨rfl, hP, hK⟩ := hv
  have hx := B.exec
  have hb := B.bytes
  have hr := B.returns
  have hts := atoms_spec (ws := wsX9_isFiner) B.pre
  have hown : s.vm.findClass RX9 = some m.cls := findClass_of_methodNamed B.named
  have hlocks := B.notSynchronized
  have hl := lv_entry ([.ref a, .int x1, .int x2] : List Value) (n := 6) (Nat.le_of_ble_eq_true rfl)
  rw [lg_entry_eq]
  generalize (lg_sl ([.ref a, .int x1, .int x2] : List Value) ++ List.replicate (6 - (lg_sl ([.ref a, .int x1, .int x2] : List Value)).length) Slot.unset).toArray = ls at hl ⊢
  have hl : lv_has ls 6 [(0, .ref a), (1, .int x1), (2, .int x2)] := hl
  unfold m_X9_isFiner at h
  refine lv_iconst (v := 1) hx hb dX9_isFiner_0 (by decide) ?_
  refine lv_istore_n (lv' := [(3, .int 1), (0, .ref a), (1, .int x1), (2, .int x2)]) hx hb dX9_isFiner_1 rfl hl (by decide) rfl (fun ls hl => ?_)
  refine lv_iconst (v := 0) hx hb dX9_isFiner_2 (by decide) ?_
  refine lv_istore (lv' := [(4, .int 0), (3, .int 1), (0, .ref a), (1, .int x1), (2, .int x2)]) hx hb dX9_isFiner_3 hl (by decide) rfl (fun ls hl => ?_)
  have hL5 : ∀ (K5 : Int32 → Prop)
      (hE5 : ∀ (z5 : Int32) (ls : Array Slot), K5 z5 → lv_has ls 6 [(3, .int z5)] → W p l e (headSpec wsX9_isFiner ({ frames := 2, cells := 0, slots := 0, locals := 44 } : Room)).room s m ([.ref a, .int x1, .int x2] : List Value).toArray below meth c s.heap [] 0 0 (MQ below (qSi K) ([.ref a, .int x1, .int x2] : List Value).toArray s 0 0 (fun _ => False)) (F0 m 70 ls []))
      (n : Nat) (x3_5 : Int32) (x4_5 : Int32) (ls : Array Slot), sat (lp (fun q : (Int32 × Int32) => m_X9_isFiner_s5 v_now x1 x2 q.1 q.2) n (x3_5, x4_5)) K5 → lv_has ls 6 [(0, .ref a), (1, .int x1), (2, .int x2), (3, .int x3_5), (4, .int x4_5)] → W p l e (headSpec wsX9_isFiner ({ frames := 2, cells := 0, slots := 0, locals := 44 } : Room)).room s m ([.ref a, .int x1, .int x2] : List Value).toArray below meth c s.heap [] 0 0 (MQ below (qSi K) ([.ref a, .int x1, .int x2] : List Value).toArray s 0 0 (fun _ => False)) (F0 m 5 ls []) := by
    intro K5 hE5 n
    induction n with
    | zero => intro x3_5 x4_5 ls h; exact (sat_lp0 h).elim
    | succ n ih =>
      intro x3_5 x4_5 ls h hl
      have h := sat_lp h
      have h : sat (m_X9_isFiner_s5 v_now x1 x2 x3_5 x4_5) (lk (fun s' => sat (lp (fun q : (Int32 × Int32) => m_X9_isFiner_s5 v_now x1 x2 q.1 q.2) n s') K5) K5) := h
      unfold m_X9_isFiner_s5 at h
      refine lv_iload hx hb dX9_isFiner_5 (lv_at hl 4 rfl) ?_
      refine lv_aload_n hx hb dX9_isFiner_7 rfl (lv_at hl 0 rfl) ?_
      refine cr_i (rv (As := []) (rest := [.int x4_5]) ⟨hx, hb, hml, hown, hts⟩ (c_X9_size l D y a a_now a_undos a_seen a_isKept a_kept a_text a_read a_congruences a_terms v_undoMany v_undoAt v_seenMany v_letterMany v_readAt v_tokenAt v_token v_faultAt v_readItems v_congruenceMany v_termMany v_rounds v_now _ (sat_bind h)) (cwV 0 hts gX9_isFiner_X9_size rfl rfl rfl (by decide +kernel) ⟨Nat.le_of_ble_eq_true rfl, Nat.le_of_ble_eq_true rfl⟩) hK hP [0, 1] rfl 0 6 rfl rfl rfl rfl hl.1 rfl (Nat.le_of_ble_eq_true rfl) dX9_isFiner_8 ⟨Nat.zero_le _, Nat.zero_le _⟩) (fun r2 h => ?_)
      refine lv_icmp_ge (tgt := 70) hx hb dX9_isFiner_11 (by decide) (fun c11 => ?_) (fun c11 => ?_)
      · have h := sat_t c11 h
        have h := lk_r (sat_some h)
        exact hE5 x3_5 ls h (lv_sub hl [3] rfl)
      · have h := sat_f c11 h
        refine lv_iconst (v := 0) hx hb dX9_isFiner_14 (by decide) ?_
        refine lv_istore (lv' := [(5, .int 0), (0, .ref a), (1, .int x1), (2, .int x2), (3, .int x3_5), (4, .int x4_5)]) hx hb dX9_isFiner_15 hl (by decide) rfl (fun ls hl => ?_)
        have hL17 : ∀ (K17 : Int32 → Prop)
            (hE17 : ∀ (z17 : Int32) (ls : Array Slot), K17 z17 → lv_has ls 6 [(0, .ref a), (1, .int x1), (2, .int x2), (3, .int z17), (4, .int x4_5)] → W p l e (headSpec wsX9_isFiner ({ frames := 2, cells := 0, slots := 0, locals := 44 } : Room)).room s m ([.ref a, .int x1, .int x2] : List Value).toArray below meth c s.heap [] 0 0 (MQ below (qSi K) ([.ref a, .int x1, .int x2] : List Value).toArray s 0 0 (fun _ => False)) (F0 m 64 ls []))
            (n : Nat) (x3_17 : Int32) (x5_17 : Int32) (ls : Array Slot), sat (lp (fun q : (Int32 × Int32) => m_X9_isFiner_s17 x1 x2 x4_5 q.1 q.2) n (x3_17, x5_17)) K17 → lv_has ls 6 [(0, .ref a), (1, .int x1), (2, .int x2), (3, .int x3_17), (4, .int x4_5), (5, .int x5_17)] → W p l e (headSpec wsX9_isFiner ({ frames := 2, cells := 0, slots := 0, locals := 44 } : Room)).room s m ([.ref a, .int x1, .int x2] : List Value).toArray below meth c s.heap [] 0 0 (MQ below (qSi K) ([.ref a, .int x1, .int x2] : List Value).toArray s 0 0 (fun _ => False)) (F0 m 17 ls []) := by
          intro K17 hE17 n
          induction n with
          | zero => intro x3_17 x5_17 ls h; exact (sat_lp0 h).elim
          | succ n ih =>
            intro x3_17 x5_17 ls h hl
            have h := sat_lp h
            have h : sat (m_X9_isFiner_s17 x1 x2 x4_5 x3_17 x5_17) (lk (fun s' => sat (lp (fun q : (Int32 × Int32) => m_X9_isFiner_s17 x1 x2 x4_5 q.1 q.2) n s') K17) K17) := h
            unfold m_X9_isFiner_s17 at h
            refine lv_iload hx hb dX9_isFiner_17 (lv_at hl 5 rfl) ?_
            refine lv_iload hx hb dX9_isFiner_19 (lv_at hl 4 rfl) ?_
            refine lv_icmp_ge (tgt := 64) hx hb dX9_isFiner_21 (by decide) (fun c21 => ?_) (fun c21 => ?_)
            · have h := sat_t c21 h
              have h := lk_r (sat_some h)
              exact hE17 x3_17 ls h (lv_sub hl [0, 1, 2, 3, 4] rfl)
            · have h := sat_f c21 h
              refine lv_iload_n hx hb dX9_isFiner_24 rfl (lv_at hl 3 rfl) ?_
              refine lv_if_eq (tgt := 56) hx hb dX9_isFiner_25 (by decide) (fun c25 => ?_) (fun c25 => ?_)
              · have h := sat_t c25 h
                refine lv_iconst (v := 0) hx hb dX9_isFiner_56 (by decide) ?_
                refine lv_istore_n (lv' := [(3, .int 0), (0, .ref a), (1, .int x1), (2, .int x2), (4, .int x4_5), (5, .int x5_17)]) hx hb dX9_isFiner_57 rfl hl (by decide) rfl (fun ls hl => ?_)
                refine lv_iinc (v := x5_17 + 1) (lv' := [(5, .int (x5_17 + 1)), (3, .int 0), (0, .ref a), (1, .int x1), (2, .int x2), (4, .int x4_5)]) hx hb dX9_isFiner_58 hl (k := 5) rfl rfl (by decide) rfl (fun ls hl => ?_)
                refine lv_goto (tgt := 17) hx hb dX9_isFiner_61 (by decide) ?_
                have h := lk_l (sat_some h)
                exact ih 0 (x5_17 + 1) ls h (lv_sub hl [2, 3, 4, 1, 5, 0] rfl)
              · have h := sat_f c25 h
                refine lv_aload_n hx hb dX9_isFiner_28 rfl (lv_at hl 0 rfl) ?_
                refine lv_iload_n hx hb dX9_isFiner_29 rfl (lv_at hl 1 rfl) ?_
                refine lv_iload hx hb dX9_isFiner_30 (lv_at hl 4 rfl) ?_
                refine lv_iload hx hb dX9_isFiner_32 (lv_at hl 5 rfl) ?_
                refine cr_i (rv (As := [.int x1, .int x4_5, .int x5_17]) (rest := []) ⟨hx, hb, hml, hown, hts⟩ (c_X9_isWith l D y a x1 x4_5 x5_17 _ (sat_bind h)) (cwV 3 hts gX9_isFiner_X9_isWith rfl rfl rfl (by decide +kernel) ⟨Nat.le_of_ble_eq_true rfl, Nat.le_of_ble_eq_true rfl⟩) hK hP [] rfl 0 6 rfl rfl rfl rfl hl.1 rfl (Nat.le_of_ble_eq_true rfl) dX9_isFiner_34 ⟨Nat.zero_le _, Nat.zero_le _⟩) (fun r4 h => ?_)
                refine lv_if_eq (tgt := 52) hx hb dX9_isFiner_37 (by decide) (fun c37 => ?_) (fun c37 => ?_)
                · have h := sat_t c37 h
                  refine lv_iconst (v := 1) hx hb dX9_isFiner_52 (by decide) ?_
                  refine lv_goto (tgt := 57) hx hb dX9_isFiner_53 (by decide) ?_
                  refine lv_istore_n (lv' := [(3, .int 1), (0, .ref a), (1, .int x1), (2, .int x2), (4, .int x4_5), (5, .int x5_17)]) hx hb dX9_isFiner_57 rfl hl (by decide) rfl (fun ls hl => ?_)
                  refine lv_iinc (v := x5_17 + 1) (lv' := [(5, .int (x5_17 + 1)), (3, .int 1), (0, .ref a), (1, .int x1), (2, .int x2), (4, .int x4_5)]) hx hb dX9_isFiner_58 hl (k := 5) rfl rfl (by decide) rfl (fun ls hl => ?_)
                  refine lv_goto (tgt := 17) hx hb dX9_isFiner_61 (by decide) ?_
                  have h := lk_l (sat_some h)
                  exact ih 1 (x5_17 + 1) ls h (lv_sub hl [2, 3, 4, 1, 5, 0] rfl)
                · have h := sat_f c37 h
                  refine lv_aload_n hx hb dX9_isFiner_40 rfl (lv_at hl 0 rfl) ?_
                  refine lv_iload_n hx hb dX9_isFiner_41 rfl (lv_at hl 2 rfl) ?_
                  refine lv_iload hx hb dX9_isFiner_42 (lv_at hl 4 rfl) ?_
                  refine lv_iload hx hb dX9_isFiner_44 (lv_at hl 5 rfl) ?_
                  refine cr_i (rv (As := [.int x2, .int x4_5, .int x5_17]) (rest := []) ⟨hx, hb, hml, hown, hts⟩ (c_X9_isWith l D y a x2 x4_5 x5_17 _ (sat_bind h)) (cwV 3 hts gX9_isFiner_X9_isWith rfl rfl rfl (by decide +kernel) ⟨Nat.le_of_ble_eq_true rfl, Nat.le_of_ble_eq_true rfl⟩) hK hP [] rfl 0 6 rfl rfl rfl rfl hl.1 rfl (Nat.le_of_ble_eq_true rfl) dX9_isFiner_46 ⟨Nat.zero_le _, Nat.zero_le _⟩) (fun r5 h => ?_)
                  refine lv_if_eq (tgt := 56) hx hb dX9_isFiner_49 (by decide) (fun c49 => ?_) (fun c49 => ?_)
                  · have h := sat_t c49 h
                    refine lv_iconst (v := 0) hx hb dX9_isFiner_56 (by decide) ?_
                    refine lv_istore_n (lv' := [(3, .int 0), (0, .ref a), (1, .int x1), (2, .int x2), (4, .int x4_5), (5, .int x5_17)]) hx hb dX9_isFiner_57 rfl hl (by decide) rfl (fun ls hl => ?_)
                    refine lv_iinc (v := x5_17 + 1) (lv' := [(5, .int (x5_17 + 1)), (3, .int 0), (0, .ref a), (1, .int x1), (2, .int x2), (4, .int x4_5)]) hx hb dX9_isFiner_58 hl (k := 5) rfl rfl (by decide) rfl (fun ls hl => ?_)
                    refine lv_goto (tgt := 17) hx hb dX9_isFiner_61 (by decide) ?_
                    have h := lk_l (sat_some h)
                    exact ih 0 (x5_17 + 1) ls h (lv_sub hl [2, 3, 4, 1, 5, 0] rfl)
                  · have h := sat_f c49 h
                    refine lv_iconst (v := 1) hx hb dX9_isFiner_52 (by decide) ?_
                    refine lv_goto (tgt := 57) hx hb dX9_isFiner_53 (by decide) ?_
                    refine lv_istore_n (lv' := [(3, .int 1), (0, .ref a), (1, .int x1), (2, .int x2), (4, .int x4_5), (5, .int x5_17)]) hx hb dX9_isFiner_57 rfl hl (by decide) rfl (fun ls hl => ?_)
                    refine lv_iinc (v := x5_17 + 1) (lv' := [(5, .int (x5_17 + 1)), (3, .int 1), (0, .ref a), (1, .int x1), (2, .int x2), (4, .int x4_5)]) hx hb dX9_isFiner_58 hl (k := 5) rfl rfl (by decide) rfl (fun ls hl => ?_)
                    refine lv_goto (tgt := 17) hx hb dX9_isFiner_61 (by decide) ?_
                    have h := lk_l (sat_some h)
                    exact ih 1 (x5_17 + 1) ls h (lv_sub hl [2, 3, 4, 1, 5, 0] rfl)
        have h := sat_bind h
        refine hL17 _ (fun z17 ls h hl => ?_) 1000 x3_5 0 ls h (lv_sub hl [1, 2, 3, 4, 5, 0] rfl)
        refine lv_iinc (v := x4_5 + 1) (lv' := [(4, .int (x4_5 + 1)), (0, .ref a), (1, .int x1), (2, .int x2), (3, .int z17)]) hx hb dX9_isFiner_64 hl (k := 4) rfl rfl (by decide) rfl (fun ls hl => ?_)
        refine lv_goto (tgt := 5) hx hb dX9_isFiner_67 (by decide) ?_
        have h := lk_l (sat_some h)
        exact ih z17 (x4_5 + 1) ls h (lv_sub hl [1, 2, 3, 4, 0] rfl)
  have h := sat_bind h
  refine hL5 _ (fun z5 ls h hl => ?_) 1000 1 0 ls h (lv_sub hl [2, 3, 4, 1, 0] rfl)
  refine lv_iload_n hx hb dX9_isFiner_70 rfl (lv_at hl 0 rfl) ?_
  obtain ⟨hz, h⟩ := sat_gd h
  have h := sat_some h
  exact W.zret (v := z5) hx hb hr (zn hz) (fun t ht _ => ⟨z5, rfl, h, ht⟩) (fun _ hq => by cases hq) dX9_isFiner_71

/-! X9_blocks -/
set_option maxHeartbeats 4000000 in
set_option maxRecDepth 100000 in
theorem c_X9_blocks (l : Launch) (D : va_G) (y : ClassId × ClassId × ClassId × ClassId) (a a_now a_undos a_seen a_isKept a_kept a_text a_read a_congruences a_terms : Nat) (v_undoMany : Int32) (v_undoAt : Int32) (v_seenMany : Int32) (v_letterMany : Int32) (v_readAt : Int32) (v_tokenAt : Int32) (v_token : Int32) (v_faultAt : Int32) (v_readItems : Int32) (v_congruenceMany : Int32) (v_termMany : Int32) (v_rounds : Int32) (v_now : Nat → Int32) (x1 : Int32) (K : Int32 → Prop) (h : sat (m_X9_blocks v_now x1) K) : Met l yX9_blocks wsX9_blocks ({ frames := 1, cells := 0, slots := 0, locals := 21 } : Room) (pR D y ([.ref a, .int x1] : List Value) [(a, .inr (6, [.ref a_now, .int v_undoMany, .int v_undoAt, .ref a_undos, .int v_seenMany, .ref a_seen, .ref a_isKept, .ref a_kept, .int v_letterMany, .ref a_text, .int v_readAt, .int v_tokenAt, .int v_token, .int v_faultAt, .int v_readItems, .ref a_read, .int v_congruenceMany, .ref a_congruences, .int v_termMany, .int v_rounds, .ref a_terms])), (a_now, .inl (y.1, 21, .inl v_now))]) (qSi K) 0 0 (fun _ => False) := by
  refine Met.ofW (cc := cX9_blocks) (maxL := 4) (ret := (some .int)) (by decide) rfl ?_
  intro p e s m args below meth c s₁ B hml hv
  obtain ⟨rfl, hP, hK⟩ := hv
  have hx := B.exec
  have hb := B.bytes
  have hr := B.returns
  have hts := atoms_spec (ws := wsX9_blocks) B.pre
  have hown : s.vm.findClass RX9 = some m.cls := findClass_of_methodNamed B.named
  have hlocks := B.notSynchronized
  have hl := lv_entry ([.ref a, .int x1] : List Value) (n := 4) (Nat.le_of_ble_eq_true rfl)
  rw [lg_entry_eq]
  generalize (lg_sl ([.ref a, .int x1] : List Value) ++ List.replicate (4 - (lg_sl ([.ref a, .int x1] : List Value)).length) Slot.unset).toArray = ls at hl ⊢
  have hl : lv_has ls 4 [(0, .ref a), (1, .int x1)] := hl
  unfold m_X9_blocks at h
  refine lv_iconst (v := 0) hx hb dX9_blocks_0 (by decide) ?_
  refine lv_istore_n (lv' := [(2, .int 0), (0, .ref a), (1, .int x1)]) hx hb dX9_blocks_1 rfl hl (by decide) rfl (fun ls hl => ?_)
  refine lv_iconst (v := 0) hx hb dX9_blocks_2 (by decide) ?_
  refine lv_istore_n (lv' := [(3, .int 0), (2, .int 0), (0, .ref a), (1, .int x1)]) hx hb dX9_blocks_3 rfl hl (by decide) rfl (fun ls hl => ?_)
  have hL4 : ∀ (K4 : Int32 → Prop)
      (hE4 : ∀ (z4 : Int32) (ls : Array Slot), K4 z4 → lv_has ls 4 [(2, .int z4)] → W p l e (headSpec wsX9_blocks ({ frames := 1, cells := 0, slots := 0, locals := 21 } : Room)).room s m ([.ref a, .int x1] : List Value).toArray below meth c s.heap [] 0 0 (MQ below (qSi K) ([.ref a, .int x1] : List Value).toArray s 0 0 (fun _ => False)) (F0 m 35 ls []))
      (n : Nat) (x2_4 : Int32) (x3_4 : Int32) (ls : Array Slot), sat (lp (fun q : (Int32 × Int32) => m_X9_blocks_s4 v_now x1 q.1 q.2) n (x2_4, x3_4)) K4 → lv_has ls 4 [(0, .ref a), (1, .int x1), (2, .int x2_4), (3, .int x3_4)] → W p l e (headSpec wsX9_blocks ({ frames := 1, cells := 0, slots := 0, locals := 21 } : Room)).room s m ([.ref a, .int x1] : List Value).toArray below meth c s.heap [] 0 0 (MQ below (qSi K) ([.ref a, .int x1] : List Value).toArray s 0 0 (fun _ => False)) (F0 m 4 ls []) := by
    intro K4 hE4 n
    induction n with
    | zero => intro x2_4 x3_4 ls h; exact (sat_lp0 h).elim
    | succ n ih =>
      intro x2_4 x3_4 ls h hl
      have h := sat_lp h
      have h : sat (m_X9_blocks_s4 v_now x1 x2_4 x3_4) (lk (fun s' => sat (lp (fun q : (Int32 × Int32) => m_X9_blocks_s4 v_now x1 q.1 q.2) n s') K4) K4) := h
      unfold m_X9_blocks_s4 at h
      refine lv_iload_n hx hb dX9_blocks_4 rfl (lv_at hl 3 rfl) ?_
      refine lv_aload_n hx hb dX9_blocks_5 rfl (lv_at hl 0 rfl) ?_
      refine cr_i (rv (As := []) (rest := [.int x3_4]) ⟨hx, hb, hml, hown, hts⟩ (c_X9_size l D y a a_now a_undos a_seen a_isKept a_kept a_text a_read a_congruences a_terms v_undoMany v_undoAt v_seenMany v_letterMany v_readAt v_tokenAt v_token v_faultAt v_readItems v_congruenceMany v_termMany v_rounds v_now _ (sat_bind h)) (cwV 0 hts gX9_blocks_X9_size rfl rfl rfl (by decide +kernel) ⟨Nat.le_of_ble_eq_true rfl, Nat.le_of_ble_eq_true rfl⟩) hK hP [0, 1] rfl 0 6 rfl rfl rfl rfl hl.1 rfl (Nat.le_of_ble_eq_true rfl) dX9_blocks_6 ⟨Nat.zero_le _, Nat.zero_le _⟩) (fun r2 h => ?_)
      refine lv_icmp_ge (tgt := 35) hx hb dX9_blocks_9 (by decide) (fun c9 => ?_) (fun c9 => ?_)
      · have h := sat_t c9 h
        have h := lk_r (sat_some h)
        exact hE4 x2_4 ls h (lv_sub hl [2] rfl)
      · have h := sat_f c9 h
        refine lv_iload_n hx hb dX9_blocks_12 rfl (lv_at hl 2 rfl) ?_
        refine lv_iload_n hx hb dX9_blocks_13 rfl (lv_at hl 1 rfl) ?_
        refine lv_iload_n hx hb dX9_blocks_14 rfl (lv_at hl 3 rfl) ?_
        refine cr_i (rs (As := [.int x1, .int x3_4]) (rest := [.int x2_4]) ⟨hx, hb, hml, hown, hts⟩ (c_X9_figureOf l D y x1 x3_4 _ (sat_bind h)) (va_cwS 2 hts gX9_blocks_X9_figureOf rfl rfl rfl (by decide +kernel) ⟨Nat.le_of_ble_eq_true rfl, Nat.le_of_ble_eq_true rfl⟩) hK hP [] rfl rfl hl.1 rfl (Nat.le_of_ble_eq_true rfl) dX9_blocks_15 ⟨Nat.zero_le _, Nat.zero_le _⟩) (fun r3 h => ?_)
        refine lv_iload_n hx hb dX9_blocks_18 rfl (lv_at hl 3 rfl) ?_
        refine lv_icmp_ne (tgt := 26) hx hb dX9_blocks_19 (by decide) (fun c19 => ?_) (fun c19 => ?_)
        · have h := sat_f c19 h
          refine lv_iconst (v := 0) hx hb dX9_blocks_26 (by decide) ?_
          refine lv_iadd hx hb dX9_blocks_27 ?_
          refine lv_istore_n (lv' := [(2, .int (x2_4 + 0)), (0, .ref a), (1, .int x1), (3, .int x3_4)]) hx hb dX9_blocks_28 rfl hl (by decide) rfl (fun ls hl => ?_)
          refine lv_iinc (v := x3_4 + 1) (lv' := [(3, .int (x3_4 + 1)), (2, .int (x2_4 + 0)), (0, .ref a), (1, .int x1)]) hx hb dX9_blocks_29 hl (k := 3) rfl rfl (by decide) rfl (fun ls hl => ?_)
          refine lv_goto (tgt := 4) hx hb dX9_blocks_32 (by decide) ?_
          have h := lk_l (sat_some h)
          exact ih (x2_4 + 0) (x3_4 + 1) ls h (lv_sub hl [2, 3, 1, 0] rfl)
        · have h := sat_t c19 h
          refine lv_iconst (v := 1) hx hb dX9_blocks_22 (by decide) ?_
          refine lv_goto (tgt := 27) hx hb dX9_blocks_23 (by decide) ?_
          refine lv_iadd hx hb dX9_blocks_27 ?_
          refine lv_istore_n (lv' := [(2, .int (x2_4 + 1)), (0, .ref a), (1, .int x1), (3, .int x3_4)]) hx hb dX9_blocks_28 rfl hl (by decide) rfl (fun ls hl => ?_)
          refine lv_iinc (v := x3_4 + 1) (lv' := [(3, .int (x3_4 + 1)), (2, .int (x2_4 + 1)), (0, .ref a), (1, .int x1)]) hx hb dX9_blocks_29 hl (k := 3) rfl rfl (by decide) rfl (fun ls hl => ?_)
          refine lv_goto (tgt := 4) hx hb dX9_blocks_32 (by decide) ?_
          have h := lk_l (sat_some h)
          exact ih (x2_4 + 1) (x3_4 + 1) ls h (lv_sub hl [2, 3, 1, 0] rfl)
  have h := sat_bind h
  refine hL4 _ (fun z4 ls h hl => ?_) 1000 0 0 ls h (lv_sub hl [2, 3, 1, 0] rfl)
  refine lv_iload_n hx hb dX9_blocks_35 rfl (lv_at hl 0 rfl) ?_
  have h := sat_some h
  exact W.iret (v := z4) hx hb hr (fun t ht _ => ⟨z4, rfl, h, ht⟩) (fun _ hq => by cases hq) dX9_blocks_36

/-! X9_principal -/
set_option maxHeartbeats 4000000 in
set_option maxRecDepth 100000 in
theorem c_X9_principal (l : Launch) (D : va_G) (y : ClassId × ClassId × ClassId × ClassId) (a a_congruences a_now a_undos a_seen a_isKept a_kept a_text a_read a_terms : Nat) (v_undoMany : Int32) (v_undoAt : Int32) (v_seenMany : Int32) (v_letterMany : Int32) (v_readAt : Int32) (v_tokenAt : Int32) (v_token : Int32) (v_faultAt : Int32) (v_readItems : Int32) (v_congruenceMany : Int32) (v_termMany : Int32) (v_rounds : Int32) (v_congruences : Nat → Int32) (v_now : Nat → Int32) (x1 : Int32) (x2 : Int32) (sz : Nat) (A : Nat → Prop) (hAe : va_A [(a, .inr (6, [.ref a_now, .int v_undoMany, .int v_undoAt, .ref a_undos, .int v_seenMany, .ref a_seen, .ref a_isKept, .ref a_kept, .int v_letterMany, .ref a_text, .int v_readAt, .int v_tokenAt, .int v_token, .int v_faultAt, .int v_readItems, .ref a_read, .int v_congruenceMany, .ref a_congruences, .int v_termMany, .int v_rounds, .ref a_terms])), (a_congruences, .inl (y.1, 16, .inl v_congruences)), (a_now, .inl (y.1, 21, .inl v_now))] sz = A) (K : Int32 → (Int32 × (Nat → Int32)) → Prop) (h : sat (m_X9_principal v_congruenceMany v_congruences v_now x1 x2) (pK K)) : Met l yX9_principal wsX9_principal ({ frames := 4, cells := 0, slots := 0, locals := 90 } : Room) (pW D y ([.ref a, .int x1, .int x2] : List Value) [(a, .inr (6, [.ref a_now, .int v_undoMany, .int v_undoAt, .ref a_undos, .int v_seenMany, .ref a_seen, .ref a_isKept, .ref a_kept, .int v_letterMany, .ref a_text, .int v_readAt, .int v_tokenAt, .int v_token, .int v_faultAt, .int v_readItems, .ref a_read, .int v_congruenceMany, .ref a_congruences, .int v_termMany, .int v_rounds, .ref a_terms])), (a_congruences, .inl (y.1, 16, .inl v_congruences)), (a_now, .inl (y.1, 21, .inl v_now))] sz) (va_Qi K (bW D y A (fun u : (Int32 × (Nat → Int32)) => [(a, .inr (6, [.ref a_now, .int v_undoMany, .int v_undoAt, .ref a_undos, .int v_seenMany, .ref a_seen, .ref a_isKept, .ref a_kept, .int v_letterMany, .ref a_text, .int v_readAt, .int v_tokenAt, .int v_token, .int v_faultAt, .int v_readItems, .ref a_read, .int u.1, .ref a_congruences, .int v_termMany, .int v_rounds, .ref a_terms])), (a_congruences, .inl (y.1, 16, .inl u.2)), (a_now, .inl (y.1, 21, .inl v_now))])) A) 0 0 A := by
  refine Met.ofW (cc := cX9_principal) (maxL := 6) (ret := (some .int)) (by decide) rfl ?_
  intro p e s m args below meth c s₁ B hml hv
  obtain ⟨rfl, hsz, hP, hK, hD0⟩ := hv
  have hx := B.exec
  have hb := B.bytes
  have hr := B.returns
  have hts := atoms_spec (ws := wsX9_principal) B.pre
  have hown : s.vm.findClass RX9 = some m.cls := findClass_of_methodNamed B.named
  have hlocks := B.notSynchronized
  subst hsz
  have hD : va_D A [(a, .inr (6, [.ref a_now, .int v_undoMany, .int v_undoAt, .ref a_undos, .int v_seenMany, .ref a_seen, .ref a_isKept, .ref a_kept, .int v_letterMany, .ref a_text, .int v_readAt, .int v_tokenAt, .int v_token, .int v_faultAt, .int v_readItems, .ref a_read, .int v_congruenceMany, .ref a_congruences, .int v_termMany, .int v_rounds, .ref a_terms])), (a_congruences, .inl (y.1, 16, .inl v_congruences)), (a_now, .inl (y.1, 21, .inl v_now))] := hAe ▸ hD0.self
  have hA : ∀ q : Nat, s.heap.size ≤ q → A q := fun q h => hAe ▸ Or.inr h
  have hS : va_S A s.heap s.heap [] := va_S.rf
  have iX9 : ∀ w ∈ wsX90, w ∈ wsX9_principal := by decide +kernel
  have fl145 := hts (.fieldLink RX9 145 "AlgebraLawsModel" "congruenceMany" "I") (by decide +kernel)
  have fl32 := hts (.fieldLink RX9 32 "AlgebraLawsModel" "congruences" "[I") (by decide +kernel)
  have hl := lv_entry ([.ref a, .int x1, .int x2] : List Value) (n := 6) (Nat.le_of_ble_eq_true rfl)
  rw [lg_entry_eq]
  generalize (lg_sl ([.ref a, .int x1, .int x2] : List Value) ++ List.replicate (6 - (lg_sl ([.ref a, .int x1, .int x2] : List Value)).length) Slot.unset).toArray = ls at hl ⊢
  have hl : lv_has ls 6 [(0, .ref a), (1, .int x1), (2, .int x2)] := hl
  unfold m_X9_principal at h
  refine lv_aload_n hx hb dX9_principal_0 rfl (lv_at hl 0 rfl) ?_
  refine lv_iload_n hx hb dX9_principal_1 rfl (lv_at hl 1 rfl) ?_
  refine cr_i (rv (As := [.int x1]) (rest := []) ⟨hx, hb, hml, hown, hts⟩ (c_X9_is l D y a a_now a_undos a_seen a_isKept a_kept a_text a_read a_congruences a_terms v_undoMany v_undoAt v_seenMany v_letterMany v_readAt v_tokenAt v_token v_faultAt v_readItems v_congruenceMany v_termMany v_rounds v_now x1 _ (sat_bind h)) (cwV 1 hts gX9_principal_X9_is rfl rfl rfl (by decide +kernel) ⟨Nat.le_of_ble_eq_true rfl, Nat.le_of_ble_eq_true rfl⟩) hK hP [0, 2] rfl 0 6 rfl rfl rfl rfl hl.1 rfl (Nat.le_of_ble_eq_true rfl) dX9_principal_2 ⟨Nat.zero_le _, Nat.zero_le _⟩) (fun r1 h => ?_)
  refine lv_if_eq (tgt := 16) hx hb dX9_principal_5 (by decide) (fun c5 => ?_) (fun c5 => ?_)
  · have h := sat_t c5 h
    refine lv_bipush (v := (-2)) hx hb dX9_principal_16 (by decide) ?_
    have h := sat_some h
    exact W.iret (v := (-2)) hx hb hr (fun t ht hW => ⟨⟨(-2), (v_congruenceMany, v_congruences), rfl, h, by rw [ht]; exact hP, va_K.moved hW.alike hK, hD⟩, hS.F ht⟩) hS.2.2 dX9_principal_18
  · have h := sat_f c5 h
    refine lv_aload_n hx hb dX9_principal_8 rfl (lv_at hl 0 rfl) ?_
    refine lv_iload_n hx hb dX9_principal_9 rfl (lv_at hl 2 rfl) ?_
    refine cr_i (rv (As := [.int x2]) (rest := []) ⟨hx, hb, hml, hown, hts⟩ (c_X9_is l D y a a_now a_undos a_seen a_isKept a_kept a_text a_read a_congruences a_terms v_undoMany v_undoAt v_seenMany v_letterMany v_readAt v_tokenAt v_token v_faultAt v_readItems v_congruenceMany v_termMany v_rounds v_now x2 _ (sat_bind h)) (cwV 1 hts gX9_principal_X9_is rfl rfl rfl (by decide +kernel) ⟨Nat.le_of_ble_eq_true rfl, Nat.le_of_ble_eq_true rfl⟩) hK hP [0, 2] rfl 0 6 rfl rfl rfl rfl hl.1 rfl (Nat.le_of_ble_eq_true rfl) dX9_principal_10 ⟨Nat.zero_le _, Nat.zero_le _⟩) (fun r2 h => ?_)
    refine lv_if_ne (tgt := 19) hx hb dX9_principal_13 (by decide) (fun c13 => ?_) (fun c13 => ?_)
    · have h := sat_f c13 h
      refine lv_aload_n hx hb dX9_principal_19 rfl (lv_at hl 0 rfl) ?_
      refine cw_v (wn := fun u3 => [(a, .inr (6, [.ref a_now, .int v_undoMany, .int v_undoAt, .ref a_undos, .int v_seenMany, .ref a_seen, .ref a_isKept, .ref a_kept, .int v_letterMany, .ref a_text, .int v_readAt, .int v_tokenAt, .int v_token, .int v_faultAt, .int v_readItems, .ref a_read, .int u3.1, .ref a_congruences, .int v_termMany, .int v_rounds, .ref a_terms])), (a_congruences, .inl (y.1, 16, .inl u3.2)), (a_now, .inl (y.1, 21, .inl v_now))]) (wr := []) (wv (As := []) (rest := []) ⟨hx, hb, hml, hown, hts⟩ (c_X9_layCongruences l D y a a_congruences a_now a_undos a_seen a_isKept a_kept a_text a_read a_terms v_undoMany v_undoAt v_seenMany v_letterMany v_readAt v_tokenAt v_token v_faultAt v_readItems v_congruenceMany v_termMany v_rounds v_congruences v_now _ _ rfl _ (sat_bind h)) (cwV 0 hts gX9_principal_X9_layCongruences rfl rfl rfl (by decide +kernel) ⟨Nat.le_of_ble_eq_true rfl, Nat.le_of_ble_eq_true rfl⟩) hK hP hD [0, 1, 2] rfl rfl rfl 0 6 rfl rfl rfl rfl hl.1 rfl (Nat.le_of_ble_eq_true rfl) dX9_principal_20 ⟨Nat.zero_le _, Nat.zero_le _⟩) hS hP hD hA [0, 1, 2] [] [0, 1, 2] rfl rfl rfl (by decide) (fun _ => rfl) rfl (fun _ => rfl) (fun u3 H locs h hP hD hS => ?_)
      refine lv_bipush (v := (-9)) hx hb dX9_principal_23 (by decide) ?_
      refine lv_istore_n (lv' := [(3, .int (-9)), (0, .ref a), (1, .int x1), (2, .int x2)]) hx hb dX9_principal_25 rfl hl (by decide) rfl (fun ls hl => ?_)
      refine lv_iconst (v := 0) hx hb dX9_principal_26 (by decide) ?_
      refine lv_istore (lv' := [(4, .int 0), (3, .int (-9)), (0, .ref a), (1, .int x1), (2, .int x2)]) hx hb dX9_principal_27 hl (by decide) rfl (fun ls hl => ?_)
      have hL29 : ∀ (K29 : Int32 → Prop)
          (hE29 : ∀ (z29 : Int32) (ls : Array Slot) (H : Heap) (locs : List Loc), K29 z29 → lv_has ls 6 [(3, .int z29)] → va_P D vwCl [(a, .inr (6, [.ref a_now, .int v_undoMany, .int v_undoAt, .ref a_undos, .int v_seenMany, .ref a_seen, .ref a_isKept, .ref a_kept, .int v_letterMany, .ref a_text, .int v_readAt, .int v_tokenAt, .int v_token, .int v_faultAt, .int v_readItems, .ref a_read, .int u3.1, .ref a_congruences, .int v_termMany, .int v_rounds, .ref a_terms])), (a_congruences, .inl (y.1, 16, .inl u3.2)), (a_now, .inl (y.1, 21, .inl v_now))] H → va_D A [(a, .inr (6, [.ref a_now, .int v_undoMany, .int v_undoAt, .ref a_undos, .int v_seenMany, .ref a_seen, .ref a_isKept, .ref a_kept, .int v_letterMany, .ref a_text, .int v_readAt, .int v_tokenAt, .int v_token, .int v_faultAt, .int v_readItems, .ref a_read, .int u3.1, .ref a_congruences, .int v_termMany, .int v_rounds, .ref a_terms])), (a_congruences, .inl (y.1, 16, .inl u3.2)), (a_now, .inl (y.1, 21, .inl v_now))] → va_S A s.heap H locs → W p l e (headSpec wsX9_principal ({ frames := 4, cells := 0, slots := 0, locals := 90 } : Room)).room s m ([.ref a, .int x1, .int x2] : List Value).toArray below meth c H locs 0 0 (MQ below (va_Qi K (bW D y A (fun u : (Int32 × (Nat → Int32)) => [(a, .inr (6, [.ref a_now, .int v_undoMany, .int v_undoAt, .ref a_undos, .int v_seenMany, .ref a_seen, .ref a_isKept, .ref a_kept, .int v_letterMany, .ref a_text, .int v_readAt, .int v_tokenAt, .int v_token, .int v_faultAt, .int v_readItems, .ref a_read, .int u.1, .ref a_congruences, .int v_termMany, .int v_rounds, .ref a_terms])), (a_congruences, .inl (y.1, 16, .inl u.2)), (a_now, .inl (y.1, 21, .inl v_now))])) A) ([.ref a, .int x1, .int x2] : List Value).toArray s 0 0 A) (F0 m 109 ls []))
          (n : Nat) (x3_29 : Int32) (x4_29 : Int32) (ls : Array Slot) (H : Heap) (locs : List Loc), sat (lp (fun q : (Int32 × Int32) => m_X9_principal_s29 v_now x1 x2 u3 q.1 q.2) n (x3_29, x4_29)) K29 → lv_has ls 6 [(0, .ref a), (1, .int x1), (2, .int x2), (3, .int x3_29), (4, .int x4_29)] → va_P D vwCl [(a, .inr (6, [.ref a_now, .int v_undoMany, .int v_undoAt, .ref a_undos, .int v_seenMany, .ref a_seen, .ref a_isKept, .ref a_kept, .int v_letterMany, .ref a_text, .int v_readAt, .int v_tokenAt, .int v_token, .int v_faultAt, .int v_readItems, .ref a_read, .int u3.1, .ref a_congruences, .int v_termMany, .int v_rounds, .ref a_terms])), (a_congruences, .inl (y.1, 16, .inl u3.2)), (a_now, .inl (y.1, 21, .inl v_now))] H → va_D A [(a, .inr (6, [.ref a_now, .int v_undoMany, .int v_undoAt, .ref a_undos, .int v_seenMany, .ref a_seen, .ref a_isKept, .ref a_kept, .int v_letterMany, .ref a_text, .int v_readAt, .int v_tokenAt, .int v_token, .int v_faultAt, .int v_readItems, .ref a_read, .int u3.1, .ref a_congruences, .int v_termMany, .int v_rounds, .ref a_terms])), (a_congruences, .inl (y.1, 16, .inl u3.2)), (a_now, .inl (y.1, 21, .inl v_now))] → va_S A s.heap H locs → W p l e (headSpec wsX9_principal ({ frames := 4, cells := 0, slots := 0, locals := 90 } : Room)).room s m ([.ref a, .int x1, .int x2] : List Value).toArray below meth c H locs 0 0 (MQ below (va_Qi K (bW D y A (fun u : (Int32 × (Nat → Int32)) => [(a, .inr (6, [.ref a_now, .int v_undoMany, .int v_undoAt, .ref a_undos, .int v_seenMany, .ref a_seen, .ref a_isKept, .ref a_kept, .int v_letterMany, .ref a_text, .int v_readAt, .int v_tokenAt, .int v_token, .int v_faultAt, .int v_readItems, .ref a_read, .int u.1, .ref a_congruences, .int v_termMany, .int v_rounds, .ref a_terms])), (a_congruences, .inl (y.1, 16, .inl u.2)), (a_now, .inl (y.1, 21, .inl v_now))])) A) ([.ref a, .int x1, .int x2] : List Value).toArray s 0 0 A) (F0 m 29 ls []) := by
        intro K29 hE29 n
        induction n with
        | zero => intro x3_29 x4_29 ls H locs h; exact (sat_lp0 h).elim
        | succ n ih =>
          intro x3_29 x4_29 ls H locs h hl hP hD hS
          have h := sat_lp h
          have h : sat (m_X9_principal_s29 v_now x1 x2 u3 x3_29 x4_29) (lk (fun s' => sat (lp (fun q : (Int32 × Int32) => m_X9_principal_s29 v_now x1 x2 u3 q.1 q.2) n s') K29) K29) := h
          have hJ89 : ∀ (x3_89 : Int32) (x4_89 : Int32) (t0_89 : Int32) (ls : Array Slot) (H : Heap) (locs : List Loc), sat (m_X9_principal_j89 x3_89 x4_89 t0_89) (lk (fun s' => sat (lp (fun q : (Int32 × Int32) => m_X9_principal_s29 v_now x1 x2 u3 q.1 q.2) n s') K29) K29) → lv_has ls 6 [(0, .ref a), (1, .int x1), (2, .int x2), (3, .int x3_89), (4, .int x4_89)] → va_P D vwCl [(a, .inr (6, [.ref a_now, .int v_undoMany, .int v_undoAt, .ref a_undos, .int v_seenMany, .ref a_seen, .ref a_isKept, .ref a_kept, .int v_letterMany, .ref a_text, .int v_readAt, .int v_tokenAt, .int v_token, .int v_faultAt, .int v_readItems, .ref a_read, .int u3.1, .ref a_congruences, .int v_termMany, .int v_rounds, .ref a_terms])), (a_congruences, .inl (y.1, 16, .inl u3.2)), (a_now, .inl (y.1, 21, .inl v_now))] H → va_D A [(a, .inr (6, [.ref a_now, .int v_undoMany, .int v_undoAt, .ref a_undos, .int v_seenMany, .ref a_seen, .ref a_isKept, .ref a_kept, .int v_letterMany, .ref a_text, .int v_readAt, .int v_tokenAt, .int v_token, .int v_faultAt, .int v_readItems, .ref a_read, .int u3.1, .ref a_congruences, .int v_termMany, .int v_rounds, .ref a_terms])), (a_congruences, .inl (y.1, 16, .inl u3.2)), (a_now, .inl (y.1, 21, .inl v_now))] → va_S A s.heap H locs → W p l e (headSpec wsX9_principal ({ frames := 4, cells := 0, slots := 0, locals := 90 } : Room)).room s m ([.ref a, .int x1, .int x2] : List Value).toArray below meth c H locs 0 0 (MQ below (va_Qi K (bW D y A (fun u : (Int32 × (Nat → Int32)) => [(a, .inr (6, [.ref a_now, .int v_undoMany, .int v_undoAt, .ref a_undos, .int v_seenMany, .ref a_seen, .ref a_isKept, .ref a_kept, .int v_letterMany, .ref a_text, .int v_readAt, .int v_tokenAt, .int v_token, .int v_faultAt, .int v_readItems, .ref a_read, .int u.1, .ref a_congruences, .int v_termMany, .int v_rounds, .ref a_terms])), (a_congruences, .inl (y.1, 16, .inl u.2)), (a_now, .inl (y.1, 21, .inl v_now))])) A) ([.ref a, .int x1, .int x2] : List Value).toArray s 0 0 A) (F0 m 89 ls [.int t0_89]) := by
            intro x3_89 x4_89 t0_89 ls H locs h hl hP hD hS
            unfold m_X9_principal_j89 at h
            refine lv_istore (lv' := [(5, .int t0_89), (0, .ref a), (1, .int x1), (2, .int x2), (3, .int x3_89), (4, .int x4_89)]) hx hb dX9_principal_89 hl (by decide) rfl (fun ls hl => ?_)
            refine lv_iload hx hb dX9_principal_91 (lv_at hl 0 rfl) ?_
            refine lv_if_eq (tgt := 101) hx hb dX9_principal_93 (by decide) (fun c93 => ?_) (fun c93 => ?_)
            · have h := sat_t c93 h
              refine lv_iload_n hx hb dX9_principal_101 rfl (lv_at hl 4 rfl) ?_
              refine lv_istore_n (lv' := [(3, .int x3_89), (5, .int t0_89), (0, .ref a), (1, .int x1), (2, .int x2), (4, .int x4_89)]) hx hb dX9_principal_102 rfl hl (by decide) rfl (fun ls hl => ?_)
              refine lv_iinc (v := x4_89 + 1) (lv' := [(4, .int (x4_89 + 1)), (3, .int x3_89), (5, .int t0_89), (0, .ref a), (1, .int x1), (2, .int x2)]) hx hb dX9_principal_103 hl (k := 5) rfl rfl (by decide) rfl (fun ls hl => ?_)
              refine lv_goto (tgt := 29) hx hb dX9_principal_106 (by decide) ?_
              have h := lk_l (sat_some h)
              exact ih x3_89 (x4_89 + 1) ls H locs h (lv_sub hl [3, 4, 5, 1, 0] rfl) hP hD hS
            · have h := sat_f c93 h
              refine lv_iload hx hb dX9_principal_96 (lv_at hl 5 rfl) ?_
              refine lv_goto (tgt := 102) hx hb dX9_principal_98 (by decide) ?_
              refine lv_istore_n (lv' := [(3, .int x4_89), (5, .int t0_89), (0, .ref a), (1, .int x1), (2, .int x2), (4, .int x4_89)]) hx hb dX9_principal_102 rfl hl (by decide) rfl (fun ls hl => ?_)
              refine lv_iinc (v := x4_89 + 1) (lv' := [(4, .int (x4_89 + 1)), (3, .int x4_89), (5, .int t0_89), (0, .ref a), (1, .int x1), (2, .int x2)]) hx hb dX9_principal_103 hl (k := 5) rfl rfl (by decide) rfl (fun ls hl => ?_)
              refine lv_goto (tgt := 29) hx hb dX9_principal_106 (by decide) ?_
              have h := lk_l (sat_some h)
              exact ih x4_89 (x4_89 + 1) ls H locs h (lv_sub hl [3, 4, 5, 1, 0] rfl) hP hD hS
          have hJ88 : ∀ (x3_88 : Int32) (x4_88 : Int32) (ls : Array Slot) (H : Heap) (locs : List Loc), sat (m_X9_principal_j88 x3_88 x4_88) (lk (fun s' => sat (lp (fun q : (Int32 × Int32) => m_X9_principal_s29 v_now x1 x2 u3 q.1 q.2) n s') K29) K29) → lv_has ls 6 [(0, .ref a), (1, .int x1), (2, .int x2), (3, .int x3_88), (4, .int x4_88)] → va_P D vwCl [(a, .inr (6, [.ref a_now, .int v_undoMany, .int v_undoAt, .ref a_undos, .int v_seenMany, .ref a_seen, .ref a_isKept, .ref a_kept, .int v_letterMany, .ref a_text, .int v_readAt, .int v_tokenAt, .int v_token, .int v_faultAt, .int v_readItems, .ref a_read, .int u3.1, .ref a_congruences, .int v_termMany, .int v_rounds, .ref a_terms])), (a_congruences, .inl (y.1, 16, .inl u3.2)), (a_now, .inl (y.1, 21, .inl v_now))] H → va_D A [(a, .inr (6, [.ref a_now, .int v_undoMany, .int v_undoAt, .ref a_undos, .int v_seenMany, .ref a_seen, .ref a_isKept, .ref a_kept, .int v_letterMany, .ref a_text, .int v_readAt, .int v_tokenAt, .int v_token, .int v_faultAt, .int v_readItems, .ref a_read, .int u3.1, .ref a_congruences, .int v_termMany, .int v_rounds, .ref a_terms])), (a_congruences, .inl (y.1, 16, .inl u3.2)), (a_now, .inl (y.1, 21, .inl v_now))] → va_S A s.heap H locs → W p l e (headSpec wsX9_principal ({ frames := 4, cells := 0, slots := 0, locals := 90 } : Room)).room s m ([.ref a, .int x1, .int x2] : List Value).toArray below meth c H locs 0 0 (MQ below (va_Qi K (bW D y A (fun u : (Int32 × (Nat → Int32)) => [(a, .inr (6, [.ref a_now, .int v_undoMany, .int v_undoAt, .ref a_undos, .int v_seenMany, .ref a_seen, .ref a_isKept, .ref a_kept, .int v_letterMany, .ref a_text, .int v_readAt, .int v_tokenAt, .int v_token, .int v_faultAt, .int v_readItems, .ref a_read, .int u.1, .ref a_congruences, .int v_termMany, .int v_rounds, .ref a_terms])), (a_congruences, .inl (y.1, 16, .inl u.2)), (a_now, .inl (y.1, 21, .inl v_now))])) A) ([.ref a, .int x1, .int x2] : List Value).toArray s 0 0 A) (F0 m 88 ls []) := by
            intro x3_88 x4_88 ls H locs h hl hP hD hS
            unfold m_X9_principal_j88 at h
            refine lv_iconst (v := 0) hx hb dX9_principal_88 (by decide) ?_
            exact hJ89 x3_88 x4_88 0 ls H locs h hl hP hD hS
          have hJ84 : ∀ (x3_84 : Int32) (x4_84 : Int32) (ls : Array Slot) (H : Heap) (locs : List Loc), sat (m_X9_principal_j84 x3_84 x4_84) (lk (fun s' => sat (lp (fun q : (Int32 × Int32) => m_X9_principal_s29 v_now x1 x2 u3 q.1 q.2) n s') K29) K29) → lv_has ls 6 [(0, .ref a), (1, .int x1), (2, .int x2), (3, .int x3_84), (4, .int x4_84)] → va_P D vwCl [(a, .inr (6, [.ref a_now, .int v_undoMany, .int v_undoAt, .ref a_undos, .int v_seenMany, .ref a_seen, .ref a_isKept, .ref a_kept, .int v_letterMany, .ref a_text, .int v_readAt, .int v_tokenAt, .int v_token, .int v_faultAt, .int v_readItems, .ref a_read, .int u3.1, .ref a_congruences, .int v_termMany, .int v_rounds, .ref a_terms])), (a_congruences, .inl (y.1, 16, .inl u3.2)), (a_now, .inl (y.1, 21, .inl v_now))] H → va_D A [(a, .inr (6, [.ref a_now, .int v_undoMany, .int v_undoAt, .ref a_undos, .int v_seenMany, .ref a_seen, .ref a_isKept, .ref a_kept, .int v_letterMany, .ref a_text, .int v_readAt, .int v_tokenAt, .int v_token, .int v_faultAt, .int v_readItems, .ref a_read, .int u3.1, .ref a_congruences, .int v_termMany, .int v_rounds, .ref a_terms])), (a_congruences, .inl (y.1, 16, .inl u3.2)), (a_now, .inl (y.1, 21, .inl v_now))] → va_S A s.heap H locs → W p l e (headSpec wsX9_principal ({ frames := 4, cells := 0, slots := 0, locals := 90 } : Room)).room s m ([.ref a, .int x1, .int x2] : List Value).toArray below meth c H locs 0 0 (MQ below (va_Qi K (bW D y A (fun u : (Int32 × (Nat → Int32)) => [(a, .inr (6, [.ref a_now, .int v_undoMany, .int v_undoAt, .ref a_undos, .int v_seenMany, .ref a_seen, .ref a_isKept, .ref a_kept, .int v_letterMany, .ref a_text, .int v_readAt, .int v_tokenAt, .int v_token, .int v_faultAt, .int v_readItems, .ref a_read, .int u.1, .ref a_congruences, .int v_termMany, .int v_rounds, .ref a_terms])), (a_congruences, .inl (y.1, 16, .inl u.2)), (a_now, .inl (y.1, 21, .inl v_now))])) A) ([.ref a, .int x1, .int x2] : List Value).toArray s 0 0 A) (F0 m 84 ls []) := by
            intro x3_84 x4_84 ls H locs h hl hP hD hS
            unfold m_X9_principal_j84 at h
            refine lv_iconst (v := 1) hx hb dX9_principal_84 (by decide) ?_
            refine lv_goto (tgt := 89) hx hb dX9_principal_85 (by decide) ?_
            exact hJ89 x3_84 x4_84 1 ls H locs h hl hP hD hS
          unfold m_X9_principal_s29 at h
          refine lv_iload hx hb dX9_principal_29 (lv_at hl 4 rfl) ?_
          refine lv_aload_n hx hb dX9_principal_31 rfl (lv_at hl 0 rfl) ?_
          refine va_get (D := D) (ci := 6) (v := .int u3.1) (C := RX9) (T := TX9) (N := 21) hx hb hts iX9 hown hK hP 0 rfl rfl 16 (by decide) fl145 (fun _ h9 => h9) rfl dX9_principal_32 ?_
          refine lv_icmp_ge (tgt := 109) hx hb dX9_principal_35 (by decide) (fun c35 => ?_) (fun c35 => ?_)
          · have h := sat_t c35 h
            have h := lk_r (sat_some h)
            exact hE29 x3_29 ls H locs h (lv_sub hl [3] rfl) hP hD hS
          · have h := sat_f c35 h
            refine lv_aload_n hx hb dX9_principal_38 rfl (lv_at hl 0 rfl) ?_
            refine lv_aload_n hx hb dX9_principal_39 rfl (lv_at hl 0 rfl) ?_
            refine va_get (D := D) (ci := 6) (v := .ref a_congruences) (C := RX9) (T := TX9) (N := 21) hx hb hts iX9 hown hK hP 0 rfl rfl 17 (by decide) fl32 (fun _ h9 => h9) rfl dX9_principal_40 ?_
            refine lv_iload hx hb dX9_principal_43 (lv_at hl 4 rfl) ?_
            obtain ⟨r5, er5, hin, h⟩ := sat_rd h
            refine xi hx hb hK hP 1 0 rfl rfl er5 hin dX9_principal_45 ?_
            refine lv_iload_n hx hb dX9_principal_46 rfl (lv_at hl 1 rfl) ?_
            refine lv_iload_n hx hb dX9_principal_47 rfl (lv_at hl 2 rfl) ?_
            refine cr_i (rv (As := [.int r5, .int x1, .int x2]) (rest := []) ⟨hx, hb, hml, hown, hts⟩ (c_X9_isWith l D y a r5 x1 x2 _ (sat_bind h)) (cwV 3 hts gX9_principal_X9_isWith rfl rfl rfl (by decide +kernel) ⟨Nat.le_of_ble_eq_true rfl, Nat.le_of_ble_eq_true rfl⟩) hK hP [] rfl 0 6 rfl rfl rfl rfl hl.1 rfl (Nat.le_of_ble_eq_true rfl) dX9_principal_48 ⟨Nat.zero_le _, Nat.zero_le _⟩) (fun r6 h => ?_)
            refine lv_if_eq (tgt := 88) hx hb dX9_principal_51 (by decide) (fun c51 => ?_) (fun c51 => ?_)
            · have h := sat_t c51 h
              exact hJ88 x3_29 x4_29 ls H locs h hl hP hD hS
            · have h := sat_f c51 h
              refine lv_iload_n hx hb dX9_principal_54 rfl (lv_at hl 3 rfl) ?_
              refine lv_bipush (v := (-9)) hx hb dX9_principal_55 (by decide) ?_
              refine lv_icmp_eq (tgt := 84) hx hb dX9_principal_57 (by decide) (fun c57 => ?_) (fun c57 => ?_)
              · have h := sat_t c57 h
                exact hJ84 x3_29 x4_29 ls H locs h hl hP hD hS
              · have h := sat_f c57 h
                refine lv_aload_n hx hb dX9_principal_60 rfl (lv_at hl 0 rfl) ?_
                refine lv_aload_n hx hb dX9_principal_61 rfl (lv_at hl 0 rfl) ?_
                refine va_get (D := D) (ci := 6) (v := .ref a_congruences) (C := RX9) (T := TX9) (N := 21) hx hb hts iX9 hown hK hP 0 rfl rfl 17 (by decide) fl32 (fun _ h9 => h9) rfl dX9_principal_62 ?_
                refine lv_iload hx hb dX9_principal_65 (lv_at hl 4 rfl) ?_
                obtain ⟨r7, er7, hin, h⟩ := sat_rd h
                refine xi hx hb hK hP 1 0 rfl rfl er7 hin dX9_principal_67 ?_
                refine cr_i (rv (As := [.int r7]) (rest := []) ⟨hx, hb, hml, hown, hts⟩ (c_X9_blocks l D y a a_now a_undos a_seen a_isKept a_kept a_text a_read a_congruences a_terms v_undoMany v_undoAt v_seenMany v_letterMany v_readAt v_tokenAt v_token v_faultAt v_readItems u3.1 v_termMany v_rounds v_now r7 _ (sat_bind h)) (cwV 1 hts gX9_principal_X9_blocks rfl rfl rfl (by decide +kernel) ⟨Nat.le_of_ble_eq_true rfl, Nat.le_of_ble_eq_true rfl⟩) hK hP [0, 2] rfl 0 6 rfl rfl rfl rfl hl.1 rfl (Nat.le_of_ble_eq_true rfl) dX9_principal_68 ⟨Nat.zero_le _, Nat.zero_le _⟩) (fun r8 h => ?_)
                refine lv_aload_n hx hb dX9_principal_71 rfl (lv_at hl 0 rfl) ?_
                refine lv_aload_n hx hb dX9_principal_72 rfl (lv_at hl 0 rfl) ?_
                refine va_get (D := D) (ci := 6) (v := .ref a_congruences) (C := RX9) (T := TX9) (N := 21) hx hb hts iX9 hown hK hP 0 rfl rfl 17 (by decide) fl32 (fun _ h9 => h9) rfl dX9_principal_73 ?_
                refine lv_iload_n hx hb dX9_principal_76 rfl (lv_at hl 3 rfl) ?_
                obtain ⟨r9, er9, hin, h⟩ := sat_rd h
                refine xi hx hb hK hP 1 0 rfl rfl er9 hin dX9_principal_77 ?_
                refine cr_i (rv (As := [.int r9]) (rest := [.int r8]) ⟨hx, hb, hml, hown, hts⟩ (c_X9_blocks l D y a a_now a_undos a_seen a_isKept a_kept a_text a_read a_congruences a_terms v_undoMany v_undoAt v_seenMany v_letterMany v_readAt v_tokenAt v_token v_faultAt v_readItems u3.1 v_termMany v_rounds v_now r9 _ (sat_bind h)) (cwV 1 hts gX9_principal_X9_blocks rfl rfl rfl (by decide +kernel) ⟨Nat.le_of_ble_eq_true rfl, Nat.le_of_ble_eq_true rfl⟩) hK hP [0, 2] rfl 0 6 rfl rfl rfl rfl hl.1 rfl (Nat.le_of_ble_eq_true rfl) dX9_principal_78 ⟨Nat.zero_le _, Nat.zero_le _⟩) (fun r10 h => ?_)
                refine lv_icmp_le (tgt := 88) hx hb dX9_principal_81 (by decide) (fun c81 => ?_) (fun c81 => ?_)
                · have h := sat_t c81 h
                  exact hJ88 x3_29 x4_29 ls H locs h hl hP hD hS
                · have h := sat_f c81 h
                  exact hJ84 x3_29 x4_29 ls H locs h hl hP hD hS
      have h := sat_bind h
      refine hL29 _ (fun z29 ls H locs h hl hP hD hS => ?_) 1000 (-9) 0 ls H locs h (lv_sub hl [2, 3, 4, 1, 0] rfl) hP hD hS
      refine lv_iload_n hx hb dX9_principal_109 rfl (lv_at hl 0 rfl) ?_
      have h := sat_some h
      exact W.iret (v := z29) hx hb hr (fun t ht hW => ⟨⟨z29, (u3.1, u3.2), rfl, h, by rw [ht]; exact hP, va_K.moved hW.alike hK, hD⟩, hS.F ht⟩) hS.2.2 dX9_principal_110
    · have h := sat_t c13 h
      refine lv_bipush (v := (-2)) hx hb dX9_principal_16 (by decide) ?_
      have h := sat_some h
      exact W.iret (v := (-2)) hx hb hr (fun t ht hW => ⟨⟨(-2), (v_congruenceMany, v_congruences), rfl, h, by rw [ht]; exact hP, va_K.moved hW.alike hK, hD⟩, hS.F ht⟩) hS.2.2 dX9_principal_18

/-! X9_between -/
set_option maxHeartbeats 4000000 in
set_option maxRecDepth 100000 in
theorem c_X9_between (l : Launch) (D : va_G) (y : ClassId × ClassId × ClassId × ClassId) (a a_congruences a_now a_undos a_seen a_isKept a_kept a_text a_read a_terms : Nat) (v_undoMany : Int32) (v_undoAt : Int32) (v_seenMany : Int32) (v_letterMany : Int32) (v_readAt : Int32) (v_tokenAt : Int32) (v_token : Int32) (v_faultAt : Int32) (v_readItems : Int32) (v_congruenceMany : Int32) (v_termMany : Int32) (v_rounds : Int32) (v_congruences : Nat → Int32) (v_now : Nat → Int32) (x1 : Int32) (x2 : Int32) (x3 : Int32) (K : Int32 → Prop) (h : sat (m_X9_between v_congruenceMany v_congruences v_now x1 x2 x3) K) : Met l yX9_between wsX9_between ({ frames := 3, cells := 0, slots := 0, locals := 69 } : Room) (pR D y ([.ref a, .int x1, .int x2, .int x3] : List Value) [(a, .inr (6, [.ref a_now, .int v_undoMany, .int v_undoAt, .ref a_undos, .int v_seenMany, .ref a_seen, .ref a_isKept, .ref a_kept, .int v_letterMany, .ref a_text, .int v_readAt, .int v_tokenAt, .int v_token, .int v_faultAt, .int v_readItems, .ref a_read, .int v_congruenceMany, .ref a_congruences, .int v_termMany, .int v_rounds, .ref a_terms])), (a_congruences, .inl (y.1, 16, .inl v_congruences)), (a_now, .inl (y.1, 21, .inl v_now))]) (qSi K) 0 0 (fun _ => False) := by
  refine Met.ofW (cc := cX9_between) (maxL := 9) (ret := (some .int)) (by decide) rfl ?_
  intro p e s m args below meth c s₁ B hml hv
  obtain ⟨rfl, hP, hK⟩ := hv
  have hx := B.exec
  have hb := B.bytes
  have hr := B.returns
  have hts := atoms_spec (ws := wsX9_between) B.pre
  have hown : s.vm.findClass RX9 = some m.cls := findClass_of_methodNamed B.named
  have hlocks := B.notSynchronized
  have iX9 : ∀ w ∈ wsX90, w ∈ wsX9_between := by decide +kernel
  have fl32 := hts (.fieldLink RX9 32 "AlgebraLawsModel" "congruences" "[I") (by decide +kernel)
  have fl145 := hts (.fieldLink RX9 145 "AlgebraLawsModel" "congruenceMany" "I") (by decide +kernel)
  have hl := lv_entry ([.ref a, .int x1, .int x2, .int x3] : List Value) (n := 9) (Nat.le_of_ble_eq_true rfl)
  rw [lg_entry_eq]
  generalize (lg_sl ([.ref a, .int x1, .int x2, .int x3] : List Value) ++ List.replicate (9 - (lg_sl ([.ref a, .int x1, .int x2, .int x3] : List Value)).length) Slot.unset).toArray = ls at hl ⊢
  have hl : lv_has ls 9 [(0, .ref a), (1, .int x1), (2, .int x2), (3, .int x3)] := hl
  unfold m_X9_between at h
  refine lv_bipush (v := (-9)) hx hb dX9_between_0 (by decide) ?_
  refine lv_istore (lv' := [(4, .int (-9)), (0, .ref a), (1, .int x1), (2, .int x2), (3, .int x3)]) hx hb dX9_between_2 hl (by decide) rfl (fun ls hl => ?_)
  refine lv_iconst (v := 0) hx hb dX9_between_4 (by decide) ?_
  refine lv_istore (lv' := [(5, .int 0), (4, .int (-9)), (0, .ref a), (1, .int x1), (2, .int x2), (3, .int x3)]) hx hb dX9_between_5 hl (by decide) rfl (fun ls hl => ?_)
  have hL7 : ∀ (K7 : Int32 → Prop)
      (hE7 : ∀ (z7 : Int32) (ls : Array Slot), K7 z7 → lv_has ls 9 [(4, .int z7)] → W p l e (headSpec wsX9_between ({ frames := 3, cells := 0, slots := 0, locals := 69 } : Room)).room s m ([.ref a, .int x1, .int x2, .int x3] : List Value).toArray below meth c s.heap [] 0 0 (MQ below (qSi K) ([.ref a, .int x1, .int x2, .int x3] : List Value).toArray s 0 0 (fun _ => False)) (F0 m 159 ls []))
      (n : Nat) (x4_7 : Int32) (x5_7 : Int32) (ls : Array Slot), sat (lp (fun q : (Int32 × Int32) => m_X9_between_s7 v_congruenceMany v_congruences v_now x1 x2 x3 q.1 q.2) n (x4_7, x5_7)) K7 → lv_has ls 9 [(0, .ref a), (1, .int x1), (2, .int x2), (3, .int x3), (4, .int x4_7), (5, .int x5_7)] → W p l e (headSpec wsX9_between ({ frames := 3, cells := 0, slots := 0, locals := 69 } : Room)).room s m ([.ref a, .int x1, .int x2, .int x3] : List Value).toArray below meth c s.heap [] 0 0 (MQ below (qSi K) ([.ref a, .int x1, .int x2, .int x3] : List Value).toArray s 0 0 (fun _ => False)) (F0 m 7 ls []) := by
    intro K7 hE7 n
    induction n with
    | zero => intro x4_7 x5_7 ls h; exact (sat_lp0 h).elim
    | succ n ih =>
      intro x4_7 x5_7 ls h hl
      have h := sat_lp h
      have h : sat (m_X9_between_s7 v_congruenceMany v_congruences v_now x1 x2 x3 x4_7 x5_7) (lk (fun s' => sat (lp (fun q : (Int32 × Int32) => m_X9_between_s7 v_congruenceMany v_congruences v_now x1 x2 x3 q.1 q.2) n s') K7) K7) := h
      have hJ113 : ∀ (x4_113 : Int32) (x5_113 : Int32) (x7_113 : Int32) (t0_113 : Int32) (ls : Array Slot), sat (m_X9_between_j113 x3 x4_113 x5_113 x7_113 t0_113) (lk (fun s' => sat (lp (fun q : (Int32 × Int32) => m_X9_between_s7 v_congruenceMany v_congruences v_now x1 x2 x3 q.1 q.2) n s') K7) K7) → lv_has ls 9 [(0, .ref a), (1, .int x1), (2, .int x2), (3, .int x3), (4, .int x4_113), (5, .int x5_113), (7, .int x7_113)] → W p l e (headSpec wsX9_between ({ frames := 3, cells := 0, slots := 0, locals := 69 } : Room)).room s m ([.ref a, .int x1, .int x2, .int x3] : List Value).toArray below meth c s.heap [] 0 0 (MQ below (qSi K) ([.ref a, .int x1, .int x2, .int x3] : List Value).toArray s 0 0 (fun _ => False)) (F0 m 113 ls [.int t0_113]) := by
        intro x4_113 x5_113 x7_113 t0_113 ls h hl
        unfold m_X9_between_j113 at h
        refine lv_istore (lv' := [(8, .int t0_113), (0, .ref a), (1, .int x1), (2, .int x2), (3, .int x3), (4, .int x4_113), (5, .int x5_113), (7, .int x7_113)]) hx hb dX9_between_113 hl (by decide) rfl (fun ls hl => ?_)
        refine lv_iload hx hb dX9_between_115 (lv_at hl 7 rfl) ?_
        refine lv_if_eq (tgt := 149) hx hb dX9_between_117 (by decide) (fun c117 => ?_) (fun c117 => ?_)
        · have h := sat_t c117 h
          refine lv_iload hx hb dX9_between_149 (lv_at hl 5 rfl) ?_
          refine lv_istore (lv' := [(4, .int x4_113), (8, .int t0_113), (0, .ref a), (1, .int x1), (2, .int x2), (3, .int x3), (5, .int x5_113), (7, .int x7_113)]) hx hb dX9_between_151 hl (by decide) rfl (fun ls hl => ?_)
          refine lv_iinc (v := x5_113 + 1) (lv' := [(5, .int (x5_113 + 1)), (4, .int x4_113), (8, .int t0_113), (0, .ref a), (1, .int x1), (2, .int x2), (3, .int x3), (7, .int x7_113)]) hx hb dX9_between_153 hl (k := 6) rfl rfl (by decide) rfl (fun ls hl => ?_)
          refine lv_goto (tgt := 7) hx hb dX9_between_156 (by decide) ?_
          have h := lk_l (sat_some h)
          exact ih x4_113 (x5_113 + 1) ls h (lv_sub hl [3, 4, 5, 6, 1, 0] rfl)
        · have h := sat_f c117 h
          refine lv_iload hx hb dX9_between_120 (lv_at hl 5 rfl) ?_
          refine lv_bipush (v := (-9)) hx hb dX9_between_122 (by decide) ?_
          refine lv_icmp_eq (tgt := 144) hx hb dX9_between_124 (by decide) (fun c124 => ?_) (fun c124 => ?_)
          · have h := sat_t c124 h
            refine lv_iload hx hb dX9_between_144 (lv_at hl 6 rfl) ?_
            refine lv_goto (tgt := 151) hx hb dX9_between_146 (by decide) ?_
            refine lv_istore (lv' := [(4, .int x5_113), (8, .int t0_113), (0, .ref a), (1, .int x1), (2, .int x2), (3, .int x3), (5, .int x5_113), (7, .int x7_113)]) hx hb dX9_between_151 hl (by decide) rfl (fun ls hl => ?_)
            refine lv_iinc (v := x5_113 + 1) (lv' := [(5, .int (x5_113 + 1)), (4, .int x5_113), (8, .int t0_113), (0, .ref a), (1, .int x1), (2, .int x2), (3, .int x3), (7, .int x7_113)]) hx hb dX9_between_153 hl (k := 6) rfl rfl (by decide) rfl (fun ls hl => ?_)
            refine lv_goto (tgt := 7) hx hb dX9_between_156 (by decide) ?_
            have h := lk_l (sat_some h)
            exact ih x5_113 (x5_113 + 1) ls h (lv_sub hl [3, 4, 5, 6, 1, 0] rfl)
          · have h := sat_f c124 h
            refine lv_iload_n hx hb dX9_between_127 rfl (lv_at hl 4 rfl) ?_
            refine lv_if_eq (tgt := 139) hx hb dX9_between_128 (by decide) (fun c128 => ?_) (fun c128 => ?_)
            · have h := sat_t c128 h
              refine lv_iload hx hb dX9_between_139 (lv_at hl 0 rfl) ?_
              refine lv_if_ge (tgt := 149) hx hb dX9_between_141 (by decide) (fun c141 => ?_) (fun c141 => ?_)
              · have h := sat_t c141 h
                refine lv_iload hx hb dX9_between_149 (lv_at hl 5 rfl) ?_
                refine lv_istore (lv' := [(4, .int x4_113), (8, .int t0_113), (0, .ref a), (1, .int x1), (2, .int x2), (3, .int x3), (5, .int x5_113), (7, .int x7_113)]) hx hb dX9_between_151 hl (by decide) rfl (fun ls hl => ?_)
                refine lv_iinc (v := x5_113 + 1) (lv' := [(5, .int (x5_113 + 1)), (4, .int x4_113), (8, .int t0_113), (0, .ref a), (1, .int x1), (2, .int x2), (3, .int x3), (7, .int x7_113)]) hx hb dX9_between_153 hl (k := 6) rfl rfl (by decide) rfl (fun ls hl => ?_)
                refine lv_goto (tgt := 7) hx hb dX9_between_156 (by decide) ?_
                have h := lk_l (sat_some h)
                exact ih x4_113 (x5_113 + 1) ls h (lv_sub hl [3, 4, 5, 6, 1, 0] rfl)
              · have h := sat_f c141 h
                refine lv_iload hx hb dX9_between_144 (lv_at hl 6 rfl) ?_
                refine lv_goto (tgt := 151) hx hb dX9_between_146 (by decide) ?_
                refine lv_istore (lv' := [(4, .int x5_113), (8, .int t0_113), (0, .ref a), (1, .int x1), (2, .int x2), (3, .int x3), (5, .int x5_113), (7, .int x7_113)]) hx hb dX9_between_151 hl (by decide) rfl (fun ls hl => ?_)
                refine lv_iinc (v := x5_113 + 1) (lv' := [(5, .int (x5_113 + 1)), (4, .int x5_113), (8, .int t0_113), (0, .ref a), (1, .int x1), (2, .int x2), (3, .int x3), (7, .int x7_113)]) hx hb dX9_between_153 hl (k := 6) rfl rfl (by decide) rfl (fun ls hl => ?_)
                refine lv_goto (tgt := 7) hx hb dX9_between_156 (by decide) ?_
                have h := lk_l (sat_some h)
                exact ih x5_113 (x5_113 + 1) ls h (lv_sub hl [3, 4, 5, 6, 1, 0] rfl)
            · have h := sat_f c128 h
              refine lv_iload hx hb dX9_between_131 (lv_at hl 0 rfl) ?_
              refine lv_if_le (tgt := 149) hx hb dX9_between_133 (by decide) (fun c133 => ?_) (fun c133 => ?_)
              · have h := sat_t c133 h
                refine lv_iload hx hb dX9_between_149 (lv_at hl 5 rfl) ?_
                refine lv_istore (lv' := [(4, .int x4_113), (8, .int t0_113), (0, .ref a), (1, .int x1), (2, .int x2), (3, .int x3), (5, .int x5_113), (7, .int x7_113)]) hx hb dX9_between_151 hl (by decide) rfl (fun ls hl => ?_)
                refine lv_iinc (v := x5_113 + 1) (lv' := [(5, .int (x5_113 + 1)), (4, .int x4_113), (8, .int t0_113), (0, .ref a), (1, .int x1), (2, .int x2), (3, .int x3), (7, .int x7_113)]) hx hb dX9_between_153 hl (k := 6) rfl rfl (by decide) rfl (fun ls hl => ?_)
                refine lv_goto (tgt := 7) hx hb dX9_between_156 (by decide) ?_
                have h := lk_l (sat_some h)
                exact ih x4_113 (x5_113 + 1) ls h (lv_sub hl [3, 4, 5, 6, 1, 0] rfl)
              · have h := sat_f c133 h
                refine lv_goto (tgt := 144) hx hb dX9_between_136 (by decide) ?_
                refine lv_iload hx hb dX9_between_144 (lv_at hl 6 rfl) ?_
                refine lv_goto (tgt := 151) hx hb dX9_between_146 (by decide) ?_
                refine lv_istore (lv' := [(4, .int x5_113), (8, .int t0_113), (0, .ref a), (1, .int x1), (2, .int x2), (3, .int x3), (5, .int x5_113), (7, .int x7_113)]) hx hb dX9_between_151 hl (by decide) rfl (fun ls hl => ?_)
                refine lv_iinc (v := x5_113 + 1) (lv' := [(5, .int (x5_113 + 1)), (4, .int x5_113), (8, .int t0_113), (0, .ref a), (1, .int x1), (2, .int x2), (3, .int x3), (7, .int x7_113)]) hx hb dX9_between_153 hl (k := 6) rfl rfl (by decide) rfl (fun ls hl => ?_)
                refine lv_goto (tgt := 7) hx hb dX9_between_156 (by decide) ?_
                have h := lk_l (sat_some h)
                exact ih x5_113 (x5_113 + 1) ls h (lv_sub hl [3, 4, 5, 6, 1, 0] rfl)
      have hJ82 : ∀ (x4_82 : Int32) (x5_82 : Int32) (x6_82 : Int32) (t0_82 : Int32) (ls : Array Slot), sat (m_X9_between_j82 v_congruences v_now x3 x4_82 x5_82 x6_82 t0_82) (lk (fun s' => sat (lp (fun q : (Int32 × Int32) => m_X9_between_s7 v_congruenceMany v_congruences v_now x1 x2 x3 q.1 q.2) n s') K7) K7) → lv_has ls 9 [(0, .ref a), (1, .int x1), (2, .int x2), (3, .int x3), (4, .int x4_82), (5, .int x5_82), (6, .int x6_82)] → W p l e (headSpec wsX9_between ({ frames := 3, cells := 0, slots := 0, locals := 69 } : Room)).room s m ([.ref a, .int x1, .int x2, .int x3] : List Value).toArray below meth c s.heap [] 0 0 (MQ below (qSi K) ([.ref a, .int x1, .int x2, .int x3] : List Value).toArray s 0 0 (fun _ => False)) (F0 m 82 ls [.int t0_82]) := by
        intro x4_82 x5_82 x6_82 t0_82 ls h hl
        unfold m_X9_between_j82 at h
        refine lv_istore (lv' := [(7, .int t0_82), (0, .ref a), (1, .int x1), (2, .int x2), (3, .int x3), (4, .int x4_82), (5, .int x5_82), (6, .int x6_82)]) hx hb dX9_between_82 hl (by decide) rfl (fun ls hl => ?_)
        refine lv_iload hx hb dX9_between_84 (lv_at hl 5 rfl) ?_
        refine lv_bipush (v := (-9)) hx hb dX9_between_86 (by decide) ?_
        refine lv_icmp_ne (tgt := 95) hx hb dX9_between_88 (by decide) (fun c88 => ?_) (fun c88 => ?_)
        · have h := sat_f c88 h
          refine lv_aload_n hx hb dX9_between_95 rfl (lv_at hl 1 rfl) ?_
          refine lv_iload hx hb dX9_between_96 (lv_at hl 7 rfl) ?_
          refine cr_i (rv (As := [.int x6_82]) (rest := []) ⟨hx, hb, hml, hown, hts⟩ (c_X9_blocks l D y a a_now a_undos a_seen a_isKept a_kept a_text a_read a_congruences a_terms v_undoMany v_undoAt v_seenMany v_letterMany v_readAt v_tokenAt v_token v_faultAt v_readItems v_congruenceMany v_termMany v_rounds v_now x6_82 _ (sat_bind h)) (cwV 1 hts gX9_between_X9_blocks rfl rfl rfl (by decide +kernel) ⟨Nat.le_of_ble_eq_true rfl, Nat.le_of_ble_eq_true rfl⟩) hK hP [0, 2] rfl 0 6 rfl rfl rfl rfl hl.1 rfl (Nat.le_of_ble_eq_true rfl) dX9_between_98 ⟨Nat.zero_le _, Nat.zero_le _⟩) (fun r2 h => ?_)
          refine lv_aload_n hx hb dX9_between_101 rfl (lv_at hl 1 rfl) ?_
          refine lv_aload_n hx hb dX9_between_102 rfl (lv_at hl 1 rfl) ?_
          refine va_get (D := D) (ci := 6) (v := .ref a_congruences) (C := RX9) (T := TX9) (N := 21) hx hb hts iX9 hown hK hP 0 rfl rfl 17 (by decide) fl32 (fun _ h9 => h9) rfl dX9_between_103 ?_
          refine lv_iload hx hb dX9_between_106 (lv_at hl 5 rfl) ?_
          obtain ⟨r3, er3, hin, h⟩ := sat_rd h
          refine xi hx hb hK hP 1 0 rfl rfl er3 hin dX9_between_108 ?_
          refine cr_i (rv (As := [.int r3]) (rest := [.int r2]) ⟨hx, hb, hml, hown, hts⟩ (c_X9_blocks l D y a a_now a_undos a_seen a_isKept a_kept a_text a_read a_congruences a_terms v_undoMany v_undoAt v_seenMany v_letterMany v_readAt v_tokenAt v_token v_faultAt v_readItems v_congruenceMany v_termMany v_rounds v_now r3 _ (sat_bind h)) (cwV 1 hts gX9_between_X9_blocks rfl rfl rfl (by decide +kernel) ⟨Nat.le_of_ble_eq_true rfl, Nat.le_of_ble_eq_true rfl⟩) hK hP [0, 2] rfl 0 6 rfl rfl rfl rfl hl.1 rfl (Nat.le_of_ble_eq_true rfl) dX9_between_109 ⟨Nat.zero_le _, Nat.zero_le _⟩) (fun r4 h => ?_)
          refine lv_isub hx hb dX9_between_112 ?_
          exact hJ113 x4_82 x5_82 t0_82 (r2 - r4) ls h (lv_sub hl [1, 2, 3, 4, 5, 6, 0] rfl)
        · have h := sat_t c88 h
          refine lv_iconst (v := 1) hx hb dX9_between_91 (by decide) ?_
          refine lv_goto (tgt := 113) hx hb dX9_between_92 (by decide) ?_
          exact hJ113 x4_82 x5_82 t0_82 1 ls h (lv_sub hl [1, 2, 3, 4, 5, 6, 0] rfl)
      have hJ81 : ∀ (x4_81 : Int32) (x5_81 : Int32) (x6_81 : Int32) (ls : Array Slot), sat (m_X9_between_j81 v_congruences v_now x3 x4_81 x5_81 x6_81) (lk (fun s' => sat (lp (fun q : (Int32 × Int32) => m_X9_between_s7 v_congruenceMany v_congruences v_now x1 x2 x3 q.1 q.2) n s') K7) K7) → lv_has ls 9 [(0, .ref a), (1, .int x1), (2, .int x2), (3, .int x3), (4, .int x4_81), (5, .int x5_81), (6, .int x6_81)] → W p l e (headSpec wsX9_between ({ frames := 3, cells := 0, slots := 0, locals := 69 } : Room)).room s m ([.ref a, .int x1, .int x2, .int x3] : List Value).toArray below meth c s.heap [] 0 0 (MQ below (qSi K) ([.ref a, .int x1, .int x2, .int x3] : List Value).toArray s 0 0 (fun _ => False)) (F0 m 81 ls []) := by
        intro x4_81 x5_81 x6_81 ls h hl
        unfold m_X9_between_j81 at h
        refine lv_iconst (v := 0) hx hb dX9_between_81 (by decide) ?_
        exact hJ82 x4_81 x5_81 x6_81 0 ls h hl
      have hJ53 : ∀ (x4_53 : Int32) (x5_53 : Int32) (x6_53 : Int32) (ls : Array Slot), sat (m_X9_between_j53 v_congruences v_now x3 x4_53 x5_53 x6_53) (lk (fun s' => sat (lp (fun q : (Int32 × Int32) => m_X9_between_s7 v_congruenceMany v_congruences v_now x1 x2 x3 q.1 q.2) n s') K7) K7) → lv_has ls 9 [(0, .ref a), (1, .int x1), (2, .int x2), (3, .int x3), (4, .int x4_53), (5, .int x5_53), (6, .int x6_53)] → W p l e (headSpec wsX9_between ({ frames := 3, cells := 0, slots := 0, locals := 69 } : Room)).room s m ([.ref a, .int x1, .int x2, .int x3] : List Value).toArray below meth c s.heap [] 0 0 (MQ below (qSi K) ([.ref a, .int x1, .int x2, .int x3] : List Value).toArray s 0 0 (fun _ => False)) (F0 m 53 ls []) := by
        intro x4_53 x5_53 x6_53 ls h hl
        unfold m_X9_between_j53 at h
        refine lv_iconst (v := 0) hx hb dX9_between_53 (by decide) ?_
        refine lv_goto (tgt := 82) hx hb dX9_between_54 (by decide) ?_
        exact hJ82 x4_53 x5_53 x6_53 0 ls h hl
      unfold m_X9_between_s7 at h
      refine lv_iload hx hb dX9_between_7 (lv_at hl 5 rfl) ?_
      refine lv_aload_n hx hb dX9_between_9 rfl (lv_at hl 0 rfl) ?_
      refine va_get (D := D) (ci := 6) (v := .int v_congruenceMany) (C := RX9) (T := TX9) (N := 21) hx hb hts iX9 hown hK hP 0 rfl rfl 16 (by decide) fl145 (fun _ h9 => h9) rfl dX9_between_10 ?_
      refine lv_icmp_ge (tgt := 159) hx hb dX9_between_13 (by decide) (fun c13 => ?_) (fun c13 => ?_)
      · have h := sat_t c13 h
        have h := lk_r (sat_some h)
        exact hE7 x4_7 ls h (lv_sub hl [4] rfl)
      · have h := sat_f c13 h
        refine lv_aload_n hx hb dX9_between_16 rfl (lv_at hl 0 rfl) ?_
        refine va_get (D := D) (ci := 6) (v := .ref a_congruences) (C := RX9) (T := TX9) (N := 21) hx hb hts iX9 hown hK hP 0 rfl rfl 17 (by decide) fl32 (fun _ h9 => h9) rfl dX9_between_17 ?_
        refine lv_iload hx hb dX9_between_20 (lv_at hl 5 rfl) ?_
        obtain ⟨r5, er5, hin, h⟩ := sat_rd h
        refine xi hx hb hK hP 1 0 rfl rfl er5 hin dX9_between_22 ?_
        refine lv_istore (lv' := [(6, .int r5), (0, .ref a), (1, .int x1), (2, .int x2), (3, .int x3), (4, .int x4_7), (5, .int x5_7)]) hx hb dX9_between_23 hl (by decide) rfl (fun ls hl => ?_)
        refine lv_iload_n hx hb dX9_between_25 rfl (lv_at hl 4 rfl) ?_
        refine lv_if_eq (tgt := 57) hx hb dX9_between_26 (by decide) (fun c26 => ?_) (fun c26 => ?_)
        · have h := sat_t c26 h
          refine lv_aload_n hx hb dX9_between_57 rfl (lv_at hl 1 rfl) ?_
          refine lv_iload hx hb dX9_between_58 (lv_at hl 0 rfl) ?_
          refine lv_iload_n hx hb dX9_between_60 rfl (lv_at hl 2 rfl) ?_
          refine cr_i (rv (As := [.int r5, .int x1]) (rest := []) ⟨hx, hb, hml, hown, hts⟩ (c_X9_isFiner l D y a a_now a_undos a_seen a_isKept a_kept a_text a_read a_congruences a_terms v_undoMany v_undoAt v_seenMany v_letterMany v_readAt v_tokenAt v_token v_faultAt v_readItems v_congruenceMany v_termMany v_rounds v_now r5 x1 _ (sat_bind h)) (cwV 2 hts gX9_between_X9_isFiner rfl rfl rfl (by decide +kernel) ⟨Nat.le_of_ble_eq_true rfl, Nat.le_of_ble_eq_true rfl⟩) hK hP [0, 2] rfl 0 6 rfl rfl rfl rfl hl.1 rfl (Nat.le_of_ble_eq_true rfl) dX9_between_61 ⟨Nat.zero_le _, Nat.zero_le _⟩) (fun r6 h => ?_)
          refine lv_if_eq (tgt := 81) hx hb dX9_between_64 (by decide) (fun c64 => ?_) (fun c64 => ?_)
          · have h := sat_t c64 h
            exact hJ81 x4_7 x5_7 r5 ls h (lv_sub hl [1, 2, 3, 4, 5, 6, 0] rfl)
          · have h := sat_f c64 h
            refine lv_aload_n hx hb dX9_between_67 rfl (lv_at hl 1 rfl) ?_
            refine lv_iload hx hb dX9_between_68 (lv_at hl 0 rfl) ?_
            refine lv_iload_n hx hb dX9_between_70 rfl (lv_at hl 3 rfl) ?_
            refine cr_i (rv (As := [.int r5, .int x2]) (rest := []) ⟨hx, hb, hml, hown, hts⟩ (c_X9_isFiner l D y a a_now a_undos a_seen a_isKept a_kept a_text a_read a_congruences a_terms v_undoMany v_undoAt v_seenMany v_letterMany v_readAt v_tokenAt v_token v_faultAt v_readItems v_congruenceMany v_termMany v_rounds v_now r5 x2 _ (sat_bind h)) (cwV 2 hts gX9_between_X9_isFiner rfl rfl rfl (by decide +kernel) ⟨Nat.le_of_ble_eq_true rfl, Nat.le_of_ble_eq_true rfl⟩) hK hP [0, 2] rfl 0 6 rfl rfl rfl rfl hl.1 rfl (Nat.le_of_ble_eq_true rfl) dX9_between_71 ⟨Nat.zero_le _, Nat.zero_le _⟩) (fun r7 h => ?_)
            refine lv_if_eq (tgt := 81) hx hb dX9_between_74 (by decide) (fun c74 => ?_) (fun c74 => ?_)
            · have h := sat_t c74 h
              exact hJ81 x4_7 x5_7 r5 ls h (lv_sub hl [1, 2, 3, 4, 5, 6, 0] rfl)
            · have h := sat_f c74 h
              refine lv_iconst (v := 1) hx hb dX9_between_77 (by decide) ?_
              refine lv_goto (tgt := 82) hx hb dX9_between_78 (by decide) ?_
              exact hJ82 x4_7 x5_7 r5 1 ls h (lv_sub hl [1, 2, 3, 4, 5, 6, 0] rfl)
        · have h := sat_f c26 h
          refine lv_aload_n hx hb dX9_between_29 rfl (lv_at hl 1 rfl) ?_
          refine lv_iload_n hx hb dX9_between_30 rfl (lv_at hl 2 rfl) ?_
          refine lv_iload hx hb dX9_between_31 (lv_at hl 0 rfl) ?_
          refine cr_i (rv (As := [.int x1, .int r5]) (rest := []) ⟨hx, hb, hml, hown, hts⟩ (c_X9_isFiner l D y a a_now a_undos a_seen a_isKept a_kept a_text a_read a_congruences a_terms v_undoMany v_undoAt v_seenMany v_letterMany v_readAt v_tokenAt v_token v_faultAt v_readItems v_congruenceMany v_termMany v_rounds v_now x1 r5 _ (sat_bind h)) (cwV 2 hts gX9_between_X9_isFiner rfl rfl rfl (by decide +kernel) ⟨Nat.le_of_ble_eq_true rfl, Nat.le_of_ble_eq_true rfl⟩) hK hP [0, 2] rfl 0 6 rfl rfl rfl rfl hl.1 rfl (Nat.le_of_ble_eq_true rfl) dX9_between_33 ⟨Nat.zero_le _, Nat.zero_le _⟩) (fun r8 h => ?_)
          refine lv_if_eq (tgt := 53) hx hb dX9_between_36 (by decide) (fun c36 => ?_) (fun c36 => ?_)
          · have h := sat_t c36 h
            exact hJ53 x4_7 x5_7 r5 ls h (lv_sub hl [1, 2, 3, 4, 5, 6, 0] rfl)
          · have h := sat_f c36 h
            refine lv_aload_n hx hb dX9_between_39 rfl (lv_at hl 1 rfl) ?_
            refine lv_iload_n hx hb dX9_between_40 rfl (lv_at hl 3 rfl) ?_
            refine lv_iload hx hb dX9_between_41 (lv_at hl 0 rfl) ?_
            refine cr_i (rv (As := [.int x2, .int r5]) (rest := []) ⟨hx, hb, hml, hown, hts⟩ (c_X9_isFiner l D y a a_now a_undos a_seen a_isKept a_kept a_text a_read a_congruences a_terms v_undoMany v_undoAt v_seenMany v_letterMany v_readAt v_tokenAt v_token v_faultAt v_readItems v_congruenceMany v_termMany v_rounds v_now x2 r5 _ (sat_bind h)) (cwV 2 hts gX9_between_X9_isFiner rfl rfl rfl (by decide +kernel) ⟨Nat.le_of_ble_eq_true rfl, Nat.le_of_ble_eq_true rfl⟩) hK hP [0, 2] rfl 0 6 rfl rfl rfl rfl hl.1 rfl (Nat.le_of_ble_eq_true rfl) dX9_between_43 ⟨Nat.zero_le _, Nat.zero_le _⟩) (fun r9 h => ?_)
            refine lv_if_eq (tgt := 53) hx hb dX9_between_46 (by decide) (fun c46 => ?_) (fun c46 => ?_)
            · have h := sat_t c46 h
              exact hJ53 x4_7 x5_7 r5 ls h (lv_sub hl [1, 2, 3, 4, 5, 6, 0] rfl)
            · have h := sat_f c46 h
              refine lv_iconst (v := 1) hx hb dX9_between_49 (by decide) ?_
              refine lv_goto (tgt := 82) hx hb dX9_between_50 (by decide) ?_
              exact hJ82 x4_7 x5_7 r5 1 ls h (lv_sub hl [1, 2, 3, 4, 5, 6, 0] rfl)
  have h := sat_bind h
  refine hL7 _ (fun z7 ls h hl => ?_) 1000 (-9) 0 ls h (lv_sub hl [2, 3, 4, 5, 1, 0] rfl)
  refine lv_iload hx hb dX9_between_159 (lv_at hl 0 rfl) ?_
  have h := sat_some h
  exact W.iret (v := z7) hx hb hr (fun t ht _ => ⟨z7, rfl, h, ht⟩) (fun _ hq => by cases hq) dX9_between_161

/-! X9_isThrough -/
set_option maxHeartbeats 4000000 in
set_option maxRecDepth 100000 in
theorem c_X9_isThrough (l : Launch) (D : va_G) (y : ClassId × ClassId × ClassId × ClassId) (a a_now a_undos a_seen a_isKept a_kept a_text a_read a_congruences a_terms : Nat) (v_undoMany : Int32) (v_undoAt : Int32) (v_seenMany : Int32) (v_letterMany : Int32) (v_readAt : Int32) (v_tokenAt : Int32) (v_token : Int32) (v_faultAt : Int32) (v_readItems : Int32) (v_congruenceMany : Int32) (v_termMany : Int32) (v_rounds : Int32) (v_now : Nat → Int32) (x1 : Int32) (x2 : Int32) (x3 : Int32) (x4 : Int32) (K : Int32 → Prop) (h : sat (m_X9_isThrough v_now x1 x2 x3 x4) K) : Met l yX9_isThrough wsX9_isThrough ({ frames := 2, cells := 0, slots := 0, locals := 44 } : Room) (pR D y ([.ref a, .int x1, .int x2, .int x3, .int x4] : List Value) [(a, .inr (6, [.ref a_now, .int v_undoMany, .int v_undoAt, .ref a_undos, .int v_seenMany, .ref a_seen, .ref a_isKept, .ref a_kept, .int v_letterMany, .ref a_text, .int v_readAt, .int v_tokenAt, .int v_token, .int v_faultAt, .int v_readItems, .ref a_read, .int v_congruenceMany, .ref a_congruences, .int v_termMany, .int v_rounds, .ref a_terms])), (a_now, .inl (y.1, 21, .inl v_now))]) (qSi K) 0 0 (fun _ => False) := by
  refine Met.ofW (cc := cX9_isThrough) (maxL := 7) (ret := (some .boolean)) (by decide) rfl ?_
  intro p e s m args below meth c s₁ B hml hv
  obtain ⟨rfl, hP, hK⟩ := hv
  have hx := B.exec
  have hb := B.bytes
  have hr := B.returns
  have hts := atoms_spec (ws := wsX9_isThrough) B.pre
  have hown : s.vm.findClass RX9 = some m.cls := findClass_of_methodNamed B.named
  have hlocks := B.notSynchronized
  have hl := lv_entry ([.ref a, .int x1, .int x2, .int x3, .int x4] : List Value) (n := 7) (Nat.le_of_ble_eq_true rfl)
  rw [lg_entry_eq]
  generalize (lg_sl ([.ref a, .int x1, .int x2, .int x3, .int x4] : List Value) ++ List.replicate (7 - (lg_sl ([.ref a, .int x1, .int x2, .int x3, .int x4] : List Value)).length) Slot.unset).toArray = ls at hl ⊢
  have hl : lv_has ls 7 [(0, .ref a), (1, .int x1), (2, .int x2), (3, .int x3), (4, .int x4)] := hl
  unfold m_X9_isThrough at h
  refine lv_iconst (v := 0) hx hb dX9_isThrough_0 (by decide) ?_
  refine lv_istore (lv' := [(5, .int 0), (0, .ref a), (1, .int x1), (2, .int x2), (3, .int x3), (4, .int x4)]) hx hb dX9_isThrough_1 hl (by decide) rfl (fun ls hl => ?_)
  refine lv_iconst (v := 0) hx hb dX9_isThrough_3 (by decide) ?_
  refine lv_istore (lv' := [(6, .int 0), (5, .int 0), (0, .ref a), (1, .int x1), (2, .int x2), (3, .int x3), (4, .int x4)]) hx hb dX9_isThrough_4 hl (by decide) rfl (fun ls hl => ?_)
  have hL6 : ∀ (K6 : Int32 → Prop)
      (hE6 : ∀ (z6 : Int32) (ls : Array Slot), K6 z6 → lv_has ls 7 [(5, .int z6)] → W p l e (headSpec wsX9_isThrough ({ frames := 2, cells := 0, slots := 0, locals := 44 } : Room)).room s m ([.ref a, .int x1, .int x2, .int x3, .int x4] : List Value).toArray below meth c s.heap [] 0 0 (MQ below (qSi K) ([.ref a, .int x1, .int x2, .int x3, .int x4] : List Value).toArray s 0 0 (fun _ => False)) (F0 m 56 ls []))
      (n : Nat) (x5_6 : Int32) (x6_6 : Int32) (ls : Array Slot), sat (lp (fun q : (Int32 × Int32) => m_X9_isThrough_s6 v_now x1 x2 x3 x4 q.1 q.2) n (x5_6, x6_6)) K6 → lv_has ls 7 [(0, .ref a), (1, .int x1), (2, .int x2), (3, .int x3), (4, .int x4), (5, .int x5_6), (6, .int x6_6)] → W p l e (headSpec wsX9_isThrough ({ frames := 2, cells := 0, slots := 0, locals := 44 } : Room)).room s m ([.ref a, .int x1, .int x2, .int x3, .int x4] : List Value).toArray below meth c s.heap [] 0 0 (MQ below (qSi K) ([.ref a, .int x1, .int x2, .int x3, .int x4] : List Value).toArray s 0 0 (fun _ => False)) (F0 m 6 ls []) := by
    intro K6 hE6 n
    induction n with
    | zero => intro x5_6 x6_6 ls h; exact (sat_lp0 h).elim
    | succ n ih =>
      intro x5_6 x6_6 ls h hl
      have h := sat_lp h
      have h : sat (m_X9_isThrough_s6 v_now x1 x2 x3 x4 x5_6 x6_6) (lk (fun s' => sat (lp (fun q : (Int32 × Int32) => m_X9_isThrough_s6 v_now x1 x2 x3 x4 q.1 q.2) n s') K6) K6) := h
      unfold m_X9_isThrough_s6 at h
      refine lv_iload hx hb dX9_isThrough_6 (lv_at hl 6 rfl) ?_
      refine lv_aload_n hx hb dX9_isThrough_8 rfl (lv_at hl 0 rfl) ?_
      refine cr_i (rv (As := []) (rest := [.int x6_6]) ⟨hx, hb, hml, hown, hts⟩ (c_X9_size l D y a a_now a_undos a_seen a_isKept a_kept a_text a_read a_congruences a_terms v_undoMany v_undoAt v_seenMany v_letterMany v_readAt v_tokenAt v_token v_faultAt v_readItems v_congruenceMany v_termMany v_rounds v_now _ (sat_bind h)) (cwV 0 hts gX9_isThrough_X9_size rfl rfl rfl (by decide +kernel) ⟨Nat.le_of_ble_eq_true rfl, Nat.le_of_ble_eq_true rfl⟩) hK hP [0, 1] rfl 0 6 rfl rfl rfl rfl hl.1 rfl (Nat.le_of_ble_eq_true rfl) dX9_isThrough_9 ⟨Nat.zero_le _, Nat.zero_le _⟩) (fun r2 h => ?_)
      refine lv_icmp_ge (tgt := 56) hx hb dX9_isThrough_12 (by decide) (fun c12 => ?_) (fun c12 => ?_)
      · have h := sat_t c12 h
        have h := lk_r (sat_some h)
        exact hE6 x5_6 ls h (lv_sub hl [5] rfl)
      · have h := sat_f c12 h
        refine lv_iload hx hb dX9_isThrough_15 (lv_at hl 5 rfl) ?_
        refine lv_if_ne (tgt := 43) hx hb dX9_isThrough_17 (by decide) (fun c17 => ?_) (fun c17 => ?_)
        · have h := sat_f c17 h
          refine lv_iconst (v := 1) hx hb dX9_isThrough_43 (by decide) ?_
          refine lv_goto (tgt := 48) hx hb dX9_isThrough_44 (by decide) ?_
          refine lv_istore (lv' := [(5, .int 1), (0, .ref a), (1, .int x1), (2, .int x2), (3, .int x3), (4, .int x4), (6, .int x6_6)]) hx hb dX9_isThrough_48 hl (by decide) rfl (fun ls hl => ?_)
          refine lv_iinc (v := x6_6 + 1) (lv' := [(6, .int (x6_6 + 1)), (5, .int 1), (0, .ref a), (1, .int x1), (2, .int x2), (3, .int x3), (4, .int x4)]) hx hb dX9_isThrough_50 hl (k := 6) rfl rfl (by decide) rfl (fun ls hl => ?_)
          refine lv_goto (tgt := 6) hx hb dX9_isThrough_53 (by decide) ?_
          have h := lk_l (sat_some h)
          exact ih 1 (x6_6 + 1) ls h (lv_sub hl [2, 3, 4, 5, 6, 1, 0] rfl)
        · have h := sat_t c17 h
          refine lv_aload_n hx hb dX9_isThrough_20 rfl (lv_at hl 0 rfl) ?_
          refine lv_iload_n hx hb dX9_isThrough_21 rfl (lv_at hl 1 rfl) ?_
          refine lv_iload_n hx hb dX9_isThrough_22 rfl (lv_at hl 3 rfl) ?_
          refine lv_iload hx hb dX9_isThrough_23 (lv_at hl 6 rfl) ?_
          refine cr_i (rv (As := [.int x1, .int x3, .int x6_6]) (rest := []) ⟨hx, hb, hml, hown, hts⟩ (c_X9_isWith l D y a x1 x3 x6_6 _ (sat_bind h)) (cwV 3 hts gX9_isThrough_X9_isWith rfl rfl rfl (by decide +kernel) ⟨Nat.le_of_ble_eq_true rfl, Nat.le_of_ble_eq_true rfl⟩) hK hP [] rfl 0 6 rfl rfl rfl rfl hl.1 rfl (Nat.le_of_ble_eq_true rfl) dX9_isThrough_25 ⟨Nat.zero_le _, Nat.zero_le _⟩) (fun r3 h => ?_)
          refine lv_if_eq (tgt := 47) hx hb dX9_isThrough_28 (by decide) (fun c28 => ?_) (fun c28 => ?_)
          · have h := sat_t c28 h
            refine lv_iconst (v := 0) hx hb dX9_isThrough_47 (by decide) ?_
            refine lv_istore (lv' := [(5, .int 0), (0, .ref a), (1, .int x1), (2, .int x2), (3, .int x3), (4, .int x4), (6, .int x6_6)]) hx hb dX9_isThrough_48 hl (by decide) rfl (fun ls hl => ?_)
            refine lv_iinc (v := x6_6 + 1) (lv' := [(6, .int (x6_6 + 1)), (5, .int 0), (0, .ref a), (1, .int x1), (2, .int x2), (3, .int x3), (4, .int x4)]) hx hb dX9_isThrough_50 hl (k := 6) rfl rfl (by decide) rfl (fun ls hl => ?_)
            refine lv_goto (tgt := 6) hx hb dX9_isThrough_53 (by decide) ?_
            have h := lk_l (sat_some h)
            exact ih 0 (x6_6 + 1) ls h (lv_sub hl [2, 3, 4, 5, 6, 1, 0] rfl)
          · have h := sat_f c28 h
            refine lv_aload_n hx hb dX9_isThrough_31 rfl (lv_at hl 0 rfl) ?_
            refine lv_iload_n hx hb dX9_isThrough_32 rfl (lv_at hl 2 rfl) ?_
            refine lv_iload hx hb dX9_isThrough_33 (lv_at hl 6 rfl) ?_
            refine lv_iload hx hb dX9_isThrough_35 (lv_at hl 4 rfl) ?_
            refine cr_i (rv (As := [.int x2, .int x6_6, .int x4]) (rest := []) ⟨hx, hb, hml, hown, hts⟩ (c_X9_isWith l D y a x2 x6_6 x4 _ (sat_bind h)) (cwV 3 hts gX9_isThrough_X9_isWith rfl rfl rfl (by decide +kernel) ⟨Nat.le_of_ble_eq_true rfl, Nat.le_of_ble_eq_true rfl⟩) hK hP [] rfl 0 6 rfl rfl rfl rfl hl.1 rfl (Nat.le_of_ble_eq_true rfl) dX9_isThrough_37 ⟨Nat.zero_le _, Nat.zero_le _⟩) (fun r4 h => ?_)
            refine lv_if_eq (tgt := 47) hx hb dX9_isThrough_40 (by decide) (fun c40 => ?_) (fun c40 => ?_)
            · have h := sat_t c40 h
              refine lv_iconst (v := 0) hx hb dX9_isThrough_47 (by decide) ?_
              refine lv_istore (lv' := [(5, .int 0), (0, .ref a), (1, .int x1), (2, .int x2), (3, .int x3), (4, .int x4), (6, .int x6_6)]) hx hb dX9_isThrough_48 hl (by decide) rfl (fun ls hl => ?_)
              refine lv_iinc (v := x6_6 + 1) (lv' := [(6, .int (x6_6 + 1)), (5, .int 0), (0, .ref a), (1, .int x1), (2, .int x2), (3, .int x3), (4, .int x4)]) hx hb dX9_isThrough_50 hl (k := 6) rfl rfl (by decide) rfl (fun ls hl => ?_)
              refine lv_goto (tgt := 6) hx hb dX9_isThrough_53 (by decide) ?_
              have h := lk_l (sat_some h)
              exact ih 0 (x6_6 + 1) ls h (lv_sub hl [2, 3, 4, 5, 6, 1, 0] rfl)
            · have h := sat_f c40 h
              refine lv_iconst (v := 1) hx hb dX9_isThrough_43 (by decide) ?_
              refine lv_goto (tgt := 48) hx hb dX9_isThrough_44 (by decide) ?_
              refine lv_istore (lv' := [(5, .int 1), (0, .ref a), (1, .int x1), (2, .int x2), (3, .int x3), (4, .int x4), (6, .int x6_6)]) hx hb dX9_isThrough_48 hl (by decide) rfl (fun ls hl => ?_)
              refine lv_iinc (v := x6_6 + 1) (lv' := [(6, .int (x6_6 + 1)), (5, .int 1), (0, .ref a), (1, .int x1), (2, .int x2), (3, .int x3), (4, .int x4)]) hx hb dX9_isThrough_50 hl (k := 6) rfl rfl (by decide) rfl (fun ls hl => ?_)
              refine lv_goto (tgt := 6) hx hb dX9_isThrough_53 (by decide) ?_
              have h := lk_l (sat_some h)
              exact ih 1 (x6_6 + 1) ls h (lv_sub hl [2, 3, 4, 5, 6, 1, 0] rfl)
  have h := sat_bind h
  refine hL6 _ (fun z6 ls h hl => ?_) 1000 0 0 ls h (lv_sub hl [2, 3, 4, 5, 6, 1, 0] rfl)
  refine lv_iload hx hb dX9_isThrough_56 (lv_at hl 0 rfl) ?_
  obtain ⟨hz, h⟩ := sat_gd h
  have h := sat_some h
  exact W.zret (v := z6) hx hb hr (zn hz) (fun t ht _ => ⟨z6, rfl, h, ht⟩) (fun _ hq => by cases hq) dX9_isThrough_58

/-! X9_permute -/
set_option maxHeartbeats 4000000 in
set_option maxRecDepth 100000 in
theorem c_X9_permute (l : Launch) (D : va_G) (y : ClassId × ClassId × ClassId × ClassId) (a a_now a_undos a_seen a_isKept a_kept a_text a_read a_congruences a_terms : Nat) (v_undoMany : Int32) (v_undoAt : Int32) (v_seenMany : Int32) (v_letterMany : Int32) (v_readAt : Int32) (v_tokenAt : Int32) (v_token : Int32) (v_faultAt : Int32) (v_readItems : Int32) (v_congruenceMany : Int32) (v_termMany : Int32) (v_rounds : Int32) (v_now : Nat → Int32) (x1 : Int32) (x2 : Int32) (K : Int32 → Prop) (h : sat (m_X9_permute v_now x1 x2) K) : Met l yX9_permute wsX9_permute ({ frames := 3, cells := 0, slots := 0, locals := 70 } : Room) (pR D y ([.ref a, .int x1, .int x2] : List Value) [(a, .inr (6, [.ref a_now, .int v_undoMany, .int v_undoAt, .ref a_undos, .int v_seenMany, .ref a_seen, .ref a_isKept, .ref a_kept, .int v_letterMany, .ref a_text, .int v_readAt, .int v_tokenAt, .int v_token, .int v_faultAt, .int v_readItems, .ref a_read, .int v_congruenceMany, .ref a_congruences, .int v_termMany, .int v_rounds, .ref a_terms])), (a_now, .inl (y.1, 21, .inl v_now))]) (qSi K) 0 0 (fun _ => False) := by
  refine Met.ofW (cc := cX9_permute) (maxL := 6) (ret := (some .boolean)) (by decide) rfl ?_
  intro p e s m args below meth c s₁ B hml hv
  obtain ⟨rfl, hP, hK⟩ := hv
  have hx := B.exec
  have hb := B.bytes
  have hr := B.returns
  have hts := atoms_spec (ws := wsX9_permute) B.pre
  have hown : s.vm.findClass RX9 = some m.cls := findClass_of_methodNamed B.named
  have hlocks := B.notSynchronized
  have hl := lv_entry ([.ref a, .int x1, .int x2] : List Value) (n := 6) (Nat.le_of_ble_eq_true rfl)
  rw [lg_entry_eq]
  generalize (lg_sl ([.ref a, .int x1, .int x2] : List Value) ++ List.replicate (6 - (lg_sl ([.ref a, .int x1, .int x2] : List Value)).length) Slot.unset).toArray = ls at hl ⊢
  have hl : lv_has ls 6 [(0, .ref a), (1, .int x1), (2, .int x2)] := hl
  unfold m_X9_permute at h
  refine lv_iconst (v := 1) hx hb dX9_permute_0 (by decide) ?_
  refine lv_istore_n (lv' := [(3, .int 1), (0, .ref a), (1, .int x1), (2, .int x2)]) hx hb dX9_permute_1 rfl hl (by decide) rfl (fun ls hl => ?_)
  refine lv_iconst (v := 0) hx hb dX9_permute_2 (by decide) ?_
  refine lv_istore (lv' := [(4, .int 0), (3, .int 1), (0, .ref a), (1, .int x1), (2, .int x2)]) hx hb dX9_permute_3 hl (by decide) rfl (fun ls hl => ?_)
  have hL5 : ∀ (K5 : Int32 → Prop)
      (hE5 : ∀ (z5 : Int32) (ls : Array Slot), K5 z5 → lv_has ls 6 [(3, .int z5)] → W p l e (headSpec wsX9_permute ({ frames := 3, cells := 0, slots := 0, locals := 70 } : Room)).room s m ([.ref a, .int x1, .int x2] : List Value).toArray below meth c s.heap [] 0 0 (MQ below (qSi K) ([.ref a, .int x1, .int x2] : List Value).toArray s 0 0 (fun _ => False)) (F0 m 74 ls []))
      (n : Nat) (x3_5 : Int32) (x4_5 : Int32) (ls : Array Slot), sat (lp (fun q : (Int32 × Int32) => m_X9_permute_s5 v_now x1 x2 q.1 q.2) n (x3_5, x4_5)) K5 → lv_has ls 6 [(0, .ref a), (1, .int x1), (2, .int x2), (3, .int x3_5), (4, .int x4_5)] → W p l e (headSpec wsX9_permute ({ frames := 3, cells := 0, slots := 0, locals := 70 } : Room)).room s m ([.ref a, .int x1, .int x2] : List Value).toArray below meth c s.heap [] 0 0 (MQ below (qSi K) ([.ref a, .int x1, .int x2] : List Value).toArray s 0 0 (fun _ => False)) (F0 m 5 ls []) := by
    intro K5 hE5 n
    induction n with
    | zero => intro x3_5 x4_5 ls h; exact (sat_lp0 h).elim
    | succ n ih =>
      intro x3_5 x4_5 ls h hl
      have h := sat_lp h
      have h : sat (m_X9_permute_s5 v_now x1 x2 x3_5 x4_5) (lk (fun s' => sat (lp (fun q : (Int32 × Int32) => m_X9_permute_s5 v_now x1 x2 q.1 q.2) n s') K5) K5) := h
      unfold m_X9_permute_s5 at h
      refine lv_iload hx hb dX9_permute_5 (lv_at hl 4 rfl) ?_
      refine lv_aload_n hx hb dX9_permute_7 rfl (lv_at hl 0 rfl) ?_
      refine cr_i (rv (As := []) (rest := [.int x4_5]) ⟨hx, hb, hml, hown, hts⟩ (c_X9_size l D y a a_now a_undos a_seen a_isKept a_kept a_text a_read a_congruences a_terms v_undoMany v_undoAt v_seenMany v_letterMany v_readAt v_tokenAt v_token v_faultAt v_readItems v_congruenceMany v_termMany v_rounds v_now _ (sat_bind h)) (cwV 0 hts gX9_permute_X9_size rfl rfl rfl (by decide +kernel) ⟨Nat.le_of_ble_eq_true rfl, Nat.le_of_ble_eq_true rfl⟩) hK hP [0, 1] rfl 0 6 rfl rfl rfl rfl hl.1 rfl (Nat.le_of_ble_eq_true rfl) dX9_permute_8 ⟨Nat.zero_le _, Nat.zero_le _⟩) (fun r2 h => ?_)
      refine lv_icmp_ge (tgt := 74) hx hb dX9_permute_11 (by decide) (fun c11 => ?_) (fun c11 => ?_)
      · have h := sat_t c11 h
        have h := lk_r (sat_some h)
        exact hE5 x3_5 ls h (lv_sub hl [3] rfl)
      · have h := sat_f c11 h
        refine lv_iconst (v := 0) hx hb dX9_permute_14 (by decide) ?_
        refine lv_istore (lv' := [(5, .int 0), (0, .ref a), (1, .int x1), (2, .int x2), (3, .int x3_5), (4, .int x4_5)]) hx hb dX9_permute_15 hl (by decide) rfl (fun ls hl => ?_)
        have hL17 : ∀ (K17 : Int32 → Prop)
            (hE17 : ∀ (z17 : Int32) (ls : Array Slot), K17 z17 → lv_has ls 6 [(0, .ref a), (1, .int x1), (2, .int x2), (3, .int z17), (4, .int x4_5)] → W p l e (headSpec wsX9_permute ({ frames := 3, cells := 0, slots := 0, locals := 70 } : Room)).room s m ([.ref a, .int x1, .int x2] : List Value).toArray below meth c s.heap [] 0 0 (MQ below (qSi K) ([.ref a, .int x1, .int x2] : List Value).toArray s 0 0 (fun _ => False)) (F0 m 68 ls []))
            (n : Nat) (x3_17 : Int32) (x5_17 : Int32) (ls : Array Slot), sat (lp (fun q : (Int32 × Int32) => m_X9_permute_s17 v_now x1 x2 x4_5 q.1 q.2) n (x3_17, x5_17)) K17 → lv_has ls 6 [(0, .ref a), (1, .int x1), (2, .int x2), (3, .int x3_17), (4, .int x4_5), (5, .int x5_17)] → W p l e (headSpec wsX9_permute ({ frames := 3, cells := 0, slots := 0, locals := 70 } : Room)).room s m ([.ref a, .int x1, .int x2] : List Value).toArray below meth c s.heap [] 0 0 (MQ below (qSi K) ([.ref a, .int x1, .int x2] : List Value).toArray s 0 0 (fun _ => False)) (F0 m 17 ls []) := by
          intro K17 hE17 n
          induction n with
          | zero => intro x3_17 x5_17 ls h; exact (sat_lp0 h).elim
          | succ n ih =>
            intro x3_17 x5_17 ls h hl
            have h := sat_lp h
            have h : sat (m_X9_permute_s17 v_now x1 x2 x4_5 x3_17 x5_17) (lk (fun s' => sat (lp (fun q : (Int32 × Int32) => m_X9_permute_s17 v_now x1 x2 x4_5 q.1 q.2) n s') K17) K17) := h
            unfold m_X9_permute_s17 at h
            refine lv_iload hx hb dX9_permute_17 (lv_at hl 5 rfl) ?_
            refine lv_aload_n hx hb dX9_permute_19 rfl (lv_at hl 0 rfl) ?_
            refine cr_i (rv (As := []) (rest := [.int x5_17]) ⟨hx, hb, hml, hown, hts⟩ (c_X9_size l D y a a_now a_undos a_seen a_isKept a_kept a_text a_read a_congruences a_terms v_undoMany v_undoAt v_seenMany v_letterMany v_readAt v_tokenAt v_token v_faultAt v_readItems v_congruenceMany v_termMany v_rounds v_now _ (sat_bind h)) (cwV 0 hts gX9_permute_X9_size rfl rfl rfl (by decide +kernel) ⟨Nat.le_of_ble_eq_true rfl, Nat.le_of_ble_eq_true rfl⟩) hK hP [0, 1] rfl 0 6 rfl rfl rfl rfl hl.1 rfl (Nat.le_of_ble_eq_true rfl) dX9_permute_20 ⟨Nat.zero_le _, Nat.zero_le _⟩) (fun r4 h => ?_)
            refine lv_icmp_ge (tgt := 68) hx hb dX9_permute_23 (by decide) (fun c23 => ?_) (fun c23 => ?_)
            · have h := sat_t c23 h
              have h := lk_r (sat_some h)
              exact hE17 x3_17 ls h (lv_sub hl [0, 1, 2, 3, 4] rfl)
            · have h := sat_f c23 h
              refine lv_iload_n hx hb dX9_permute_26 rfl (lv_at hl 3 rfl) ?_
              refine lv_if_eq (tgt := 60) hx hb dX9_permute_27 (by decide) (fun c27 => ?_) (fun c27 => ?_)
              · have h := sat_t c27 h
                refine lv_iconst (v := 0) hx hb dX9_permute_60 (by decide) ?_
                refine lv_istore_n (lv' := [(3, .int 0), (0, .ref a), (1, .int x1), (2, .int x2), (4, .int x4_5), (5, .int x5_17)]) hx hb dX9_permute_61 rfl hl (by decide) rfl (fun ls hl => ?_)
                refine lv_iinc (v := x5_17 + 1) (lv' := [(5, .int (x5_17 + 1)), (3, .int 0), (0, .ref a), (1, .int x1), (2, .int x2), (4, .int x4_5)]) hx hb dX9_permute_62 hl (k := 5) rfl rfl (by decide) rfl (fun ls hl => ?_)
                refine lv_goto (tgt := 17) hx hb dX9_permute_65 (by decide) ?_
                have h := lk_l (sat_some h)
                exact ih 0 (x5_17 + 1) ls h (lv_sub hl [2, 3, 4, 1, 5, 0] rfl)
              · have h := sat_f c27 h
                refine lv_aload_n hx hb dX9_permute_30 rfl (lv_at hl 0 rfl) ?_
                refine lv_iload_n hx hb dX9_permute_31 rfl (lv_at hl 1 rfl) ?_
                refine lv_iload_n hx hb dX9_permute_32 rfl (lv_at hl 2 rfl) ?_
                refine lv_iload hx hb dX9_permute_33 (lv_at hl 4 rfl) ?_
                refine lv_iload hx hb dX9_permute_35 (lv_at hl 5 rfl) ?_
                refine cr_i (rv (As := [.int x1, .int x2, .int x4_5, .int x5_17]) (rest := []) ⟨hx, hb, hml, hown, hts⟩ (c_X9_isThrough l D y a a_now a_undos a_seen a_isKept a_kept a_text a_read a_congruences a_terms v_undoMany v_undoAt v_seenMany v_letterMany v_readAt v_tokenAt v_token v_faultAt v_readItems v_congruenceMany v_termMany v_rounds v_now x1 x2 x4_5 x5_17 _ (sat_bind h)) (cwV 4 hts gX9_permute_X9_isThrough rfl rfl rfl (by decide +kernel) ⟨Nat.le_of_ble_eq_true rfl, Nat.le_of_ble_eq_true rfl⟩) hK hP [0, 1] rfl 0 6 rfl rfl rfl rfl hl.1 rfl (Nat.le_of_ble_eq_true rfl) dX9_permute_37 ⟨Nat.zero_le _, Nat.zero_le _⟩) (fun r5 h => ?_)
                refine lv_if_eq (tgt := 56) hx hb dX9_permute_40 (by decide) (fun c40 => ?_) (fun c40 => ?_)
                · have h := sat_t c40 h
                  refine lv_iconst (v := 1) hx hb dX9_permute_56 (by decide) ?_
                  refine lv_goto (tgt := 61) hx hb dX9_permute_57 (by decide) ?_
                  refine lv_istore_n (lv' := [(3, .int 1), (0, .ref a), (1, .int x1), (2, .int x2), (4, .int x4_5), (5, .int x5_17)]) hx hb dX9_permute_61 rfl hl (by decide) rfl (fun ls hl => ?_)
                  refine lv_iinc (v := x5_17 + 1) (lv' := [(5, .int (x5_17 + 1)), (3, .int 1), (0, .ref a), (1, .int x1), (2, .int x2), (4, .int x4_5)]) hx hb dX9_permute_62 hl (k := 5) rfl rfl (by decide) rfl (fun ls hl => ?_)
                  refine lv_goto (tgt := 17) hx hb dX9_permute_65 (by decide) ?_
                  have h := lk_l (sat_some h)
                  exact ih 1 (x5_17 + 1) ls h (lv_sub hl [2, 3, 4, 1, 5, 0] rfl)
                · have h := sat_f c40 h
                  refine lv_aload_n hx hb dX9_permute_43 rfl (lv_at hl 0 rfl) ?_
                  refine lv_iload_n hx hb dX9_permute_44 rfl (lv_at hl 2 rfl) ?_
                  refine lv_iload_n hx hb dX9_permute_45 rfl (lv_at hl 1 rfl) ?_
                  refine lv_iload hx hb dX9_permute_46 (lv_at hl 4 rfl) ?_
                  refine lv_iload hx hb dX9_permute_48 (lv_at hl 5 rfl) ?_
                  refine cr_i (rv (As := [.int x2, .int x1, .int x4_5, .int x5_17]) (rest := []) ⟨hx, hb, hml, hown, hts⟩ (c_X9_isThrough l D y a a_now a_undos a_seen a_isKept a_kept a_text a_read a_congruences a_terms v_undoMany v_undoAt v_seenMany v_letterMany v_readAt v_tokenAt v_token v_faultAt v_readItems v_congruenceMany v_termMany v_rounds v_now x2 x1 x4_5 x5_17 _ (sat_bind h)) (cwV 4 hts gX9_permute_X9_isThrough rfl rfl rfl (by decide +kernel) ⟨Nat.le_of_ble_eq_true rfl, Nat.le_of_ble_eq_true rfl⟩) hK hP [0, 1] rfl 0 6 rfl rfl rfl rfl hl.1 rfl (Nat.le_of_ble_eq_true rfl) dX9_permute_50 ⟨Nat.zero_le _, Nat.zero_le _⟩) (fun r6 h => ?_)
                  refine lv_if_eq (tgt := 60) hx hb dX9_permute_53 (by decide) (fun c53 => ?_) (fun c53 => ?_)
                  · have h := sat_t c53 h
                    refine lv_iconst (v := 0) hx hb dX9_permute_60 (by decide) ?_
                    refine lv_istore_n (lv' := [(3, .int 0), (0, .ref a), (1, .int x1), (2, .int x2), (4, .int x4_5), (5, .int x5_17)]) hx hb dX9_permute_61 rfl hl (by decide) rfl (fun ls hl => ?_)
                    refine lv_iinc (v := x5_17 + 1) (lv' := [(5, .int (x5_17 + 1)), (3, .int 0), (0, .ref a), (1, .int x1), (2, .int x2), (4, .int x4_5)]) hx hb dX9_permute_62 hl (k := 5) rfl rfl (by decide) rfl (fun ls hl => ?_)
                    refine lv_goto (tgt := 17) hx hb dX9_permute_65 (by decide) ?_
                    have h := lk_l (sat_some h)
                    exact ih 0 (x5_17 + 1) ls h (lv_sub hl [2, 3, 4, 1, 5, 0] rfl)
                  · have h := sat_f c53 h
                    refine lv_iconst (v := 1) hx hb dX9_permute_56 (by decide) ?_
                    refine lv_goto (tgt := 61) hx hb dX9_permute_57 (by decide) ?_
                    refine lv_istore_n (lv' := [(3, .int 1), (0, .ref a), (1, .int x1), (2, .int x2), (4, .int x4_5), (5, .int x5_17)]) hx hb dX9_permute_61 rfl hl (by decide) rfl (fun ls hl => ?_)
                    refine lv_iinc (v := x5_17 + 1) (lv' := [(5, .int (x5_17 + 1)), (3, .int 1), (0, .ref a), (1, .int x1), (2, .int x2), (4, .int x4_5)]) hx hb dX9_permute_62 hl (k := 5) rfl rfl (by decide) rfl (fun ls hl => ?_)
                    refine lv_goto (tgt := 17) hx hb dX9_permute_65 (by decide) ?_
                    have h := lk_l (sat_some h)
                    exact ih 1 (x5_17 + 1) ls h (lv_sub hl [2, 3, 4, 1, 5, 0] rfl)
        have h := sat_bind h
        refine hL17 _ (fun z17 ls h hl => ?_) 1000 x3_5 0 ls h (lv_sub hl [1, 2, 3, 4, 5, 0] rfl)
        refine lv_iinc (v := x4_5 + 1) (lv' := [(4, .int (x4_5 + 1)), (0, .ref a), (1, .int x1), (2, .int x2), (3, .int z17)]) hx hb dX9_permute_68 hl (k := 4) rfl rfl (by decide) rfl (fun ls hl => ?_)
        refine lv_goto (tgt := 5) hx hb dX9_permute_71 (by decide) ?_
        have h := lk_l (sat_some h)
        exact ih z17 (x4_5 + 1) ls h (lv_sub hl [1, 2, 3, 4, 0] rfl)
  have h := sat_bind h
  refine hL5 _ (fun z5 ls h hl => ?_) 1000 1 0 ls h (lv_sub hl [2, 3, 4, 1, 0] rfl)
  refine lv_iload_n hx hb dX9_permute_74 rfl (lv_at hl 0 rfl) ?_
  obtain ⟨hz, h⟩ := sat_gd h
  have h := sat_some h
  exact W.zret (v := z5) hx hb hr (zn hz) (fun t ht _ => ⟨z5, rfl, h, ht⟩) (fun _ hq => by cases hq) dX9_permute_75
