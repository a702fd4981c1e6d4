/-! X9_unseen -/
set_option maxHeartbeats 4000000 in
set_option maxRecDepth 100000 in
theorem c_X9_unseen (l : Launch) (D : va_G) (y : ClassId × ClassId × ClassId × ClassId) (a a_now a_seen a_undos a_isKept a_kept a_text a_read a_congruences a_terms : Nat) (v_undoMany : Int32) (v_undoAt : Int32) (v_seenMany : Int32) (v_letterMany : Int32) (v_readAt : Int32) (v_tokenAt : Int32) (v_token : Int32) (v_faultAt : Int32) (v_readItems : Int32) (v_congruenceMany : Int32) (v_termMany : Int32) (v_rounds : Int32) (v_now : Nat → Int32) (v_seen : Nat → Int32) (sz : Nat) (A : Nat → Prop) (hAe : va_A [(a, .inr (6, [.ref a_now, .int v_undoMany, .int v_undoAt, .ref a_undos, .int v_seenMany, .ref a_seen, .ref a_isKept, .ref a_kept, .int v_letterMany, .ref a_text, .int v_readAt, .int v_tokenAt, .int v_token, .int v_faultAt, .int v_readItems, .ref a_read, .int v_congruenceMany, .ref a_congruences, .int v_termMany, .int v_rounds, .ref a_terms])), (a_now, .inl (y.1, 21, .inl v_now)), (a_seen, .inl (y.1, 6, .inl v_seen))] sz = A) (K : Int32 → ((Nat → Int32)) → Prop) (h : sat (m_X9_unseen v_seenMany v_now v_seen) (pK K)) : Met l yX9_unseen wsX9_unseen ({ frames := 3, cells := 0, slots := 0, locals := 69 } : Room) (pW D y ([.ref a] : List Value) [(a, .inr (6, [.ref a_now, .int v_undoMany, .int v_undoAt, .ref a_undos, .int v_seenMany, .ref a_seen, .ref a_isKept, .ref a_kept, .int v_letterMany, .ref a_text, .int v_readAt, .int v_tokenAt, .int v_token, .int v_faultAt, .int v_readItems, .ref a_read, .int v_congruenceMany, .ref a_congruences, .int v_termMany, .int v_rounds, .ref a_terms])), (a_now, .inl (y.1, 21, .inl v_now)), (a_seen, .inl (y.1, 6, .inl v_seen))] sz) (va_Qi K (bW D y A (fun u : ((Nat → Int32)) => [(a, .inr (6, [.ref a_now, .int v_undoMany, .int v_undoAt, .ref a_undos, .int v_seenMany, .ref a_seen, .ref a_isKept, .ref a_kept, .int v_letterMany, .ref a_text, .int v_readAt, .int v_tokenAt, .int v_token, .int v_faultAt, .int v_readItems, .ref a_read, .int v_congruenceMany, .ref a_congruences, .int v_termMany, .int v_rounds, .ref a_terms])), (a_now, .inl (y.1, 21, .inl u)), (a_seen, .inl (y.1, 6, .inl v_seen))])) A) 0 0 A := by
  refine Met.ofW (cc := cX9_unseen) (maxL := 7) (ret := (some .int)) (by decide) rfl ?_
  intro p e s m args below meth c s₁ B hml hv
  obtain ⟨rfl, hsz, hP, hK, hD0⟩ := hv
  have hx := B.exec
  have hb := B.bytes
  have hr := B.returns
  have hts := atoms_spec (ws := wsX9_unseen) B.pre
  have hown : s.vm.findClass RX9 = some m.cls := findClass_of_methodNamed B.named
  have hlocks := B.notSynchronized
  subst hsz
  have hD : va_D A [(a, .inr (6, [.ref a_now, .int v_undoMany, .int v_undoAt, .ref a_undos, .int v_seenMany, .ref a_seen, .ref a_isKept, .ref a_kept, .int v_letterMany, .ref a_text, .int v_readAt, .int v_tokenAt, .int v_token, .int v_faultAt, .int v_readItems, .ref a_read, .int v_congruenceMany, .ref a_congruences, .int v_termMany, .int v_rounds, .ref a_terms])), (a_now, .inl (y.1, 21, .inl v_now)), (a_seen, .inl (y.1, 6, .inl v_seen))] := hAe ▸ hD0.self
  have hA : ∀ q : Nat, s.heap.size ≤ q → A q := fun q h => hAe ▸ Or.inr h
  have hS : va_S A s.heap s.heap [] := va_S.rf
  have iX9 : ∀ w ∈ wsX90, w ∈ wsX9_unseen := by decide +kernel
  have fl7 := hts (.fieldLink RX9 7 "AlgebraLawsModel" "now" "[I") (by decide +kernel)
  have hl := lv_entry ([.ref a] : List Value) (n := 7) (Nat.le_of_ble_eq_true rfl)
  rw [lg_entry_eq]
  generalize (lg_sl ([.ref a] : List Value) ++ List.replicate (7 - (lg_sl ([.ref a] : List Value)).length) Slot.unset).toArray = ls at hl ⊢
  have hl : lv_has ls 7 [(0, .ref a)] := hl
  unfold m_X9_unseen at h
  refine lv_iconst (v := 0) hx hb dX9_unseen_0 (by decide) ?_
  refine lv_istore_n (lv' := [(1, .int 0), (0, .ref a)]) hx hb dX9_unseen_1 rfl hl (by decide) rfl (fun ls hl => ?_)
  refine lv_aload_n hx hb dX9_unseen_2 rfl (lv_at hl 1 rfl) ?_
  refine cr_i (rv (As := []) (rest := []) ⟨hx, hb, hml, hown, hts⟩ (c_X9_size l D y a a_now a_undos a_seen a_isKept a_kept a_text a_read a_congruences a_terms v_undoMany v_undoAt v_seenMany v_letterMany v_readAt v_tokenAt v_token v_faultAt v_readItems v_congruenceMany v_termMany v_rounds v_now _ (sat_bind h)) (cwV 0 hts gX9_unseen_X9_size rfl rfl rfl (by decide +kernel) ⟨Nat.le_of_ble_eq_true rfl, Nat.le_of_ble_eq_true rfl⟩) hK hP [0, 1] rfl 0 6 rfl rfl rfl rfl hl.1 rfl (Nat.le_of_ble_eq_true rfl) dX9_unseen_3 ⟨Nat.zero_le _, Nat.zero_le _⟩) (fun r1 h => ?_)
  refine lv_istore_n (lv' := [(2, .int r1), (1, .int 0), (0, .ref a)]) hx hb dX9_unseen_6 rfl hl (by decide) rfl (fun ls hl => ?_)
  refine lv_iconst (v := 0) hx hb dX9_unseen_7 (by decide) ?_
  refine lv_istore_n (lv' := [(3, .int 0), (2, .int r1), (1, .int 0), (0, .ref a)]) hx hb dX9_unseen_8 rfl hl (by decide) rfl (fun ls hl => ?_)
  have hL9 : ∀ (K9 : (Int32 × (Nat → Int32)) → Prop)
      (hE9 : ∀ (z9 : (Int32 × (Nat → Int32))) (ls : Array Slot) (H : Heap) (locs : List Loc), K9 z9 → lv_has ls 7 [(1, .int z9.1)] → va_P D vwCl [(a, .inr (6, [.ref a_now, .int v_undoMany, .int v_undoAt, .ref a_undos, .int v_seenMany, .ref a_seen, .ref a_isKept, .ref a_kept, .int v_letterMany, .ref a_text, .int v_readAt, .int v_tokenAt, .int v_token, .int v_faultAt, .int v_readItems, .ref a_read, .int v_congruenceMany, .ref a_congruences, .int v_termMany, .int v_rounds, .ref a_terms])), (a_now, .inl (y.1, 21, .inl z9.2)), (a_seen, .inl (y.1, 6, .inl v_seen))] H → va_D A [(a, .inr (6, [.ref a_now, .int v_undoMany, .int v_undoAt, .ref a_undos, .int v_seenMany, .ref a_seen, .ref a_isKept, .ref a_kept, .int v_letterMany, .ref a_text, .int v_readAt, .int v_tokenAt, .int v_token, .int v_faultAt, .int v_readItems, .ref a_read, .int v_congruenceMany, .ref a_congruences, .int v_termMany, .int v_rounds, .ref a_terms])), (a_now, .inl (y.1, 21, .inl z9.2)), (a_seen, .inl (y.1, 6, .inl v_seen))] → va_S A s.heap H locs → W p l e (headSpec wsX9_unseen ({ frames := 3, cells := 0, slots := 0, locals := 69 } : Room)).room s m ([.ref a] : List Value).toArray below meth c H locs 0 0 (MQ below (va_Qi K (bW D y A (fun u : ((Nat → Int32)) => [(a, .inr (6, [.ref a_now, .int v_undoMany, .int v_undoAt, .ref a_undos, .int v_seenMany, .ref a_seen, .ref a_isKept, .ref a_kept, .int v_letterMany, .ref a_text, .int v_readAt, .int v_tokenAt, .int v_token, .int v_faultAt, .int v_readItems, .ref a_read, .int v_congruenceMany, .ref a_congruences, .int v_termMany, .int v_rounds, .ref a_terms])), (a_now, .inl (y.1, 21, .inl u)), (a_seen, .inl (y.1, 6, .inl v_seen))])) A) ([.ref a] : List Value).toArray s 0 0 A) (F0 m 104 ls []))
      (n : Nat) (x1_9 : Int32) (x3_9 : Int32) (v_now_9 : Nat → Int32) (ls : Array Slot) (H : Heap) (locs : List Loc), sat (lp (fun q : (Int32 × Int32 × (Nat → Int32)) => m_X9_unseen_s9 v_seenMany v_seen r1 q.1 q.2.1 q.2.2) n (x1_9, x3_9, v_now_9)) K9 → lv_has ls 7 [(0, .ref a), (1, .int x1_9), (2, .int r1), (3, .int x3_9)] → va_P D vwCl [(a, .inr (6, [.ref a_now, .int v_undoMany, .int v_undoAt, .ref a_undos, .int v_seenMany, .ref a_seen, .ref a_isKept, .ref a_kept, .int v_letterMany, .ref a_text, .int v_readAt, .int v_tokenAt, .int v_token, .int v_faultAt, .int v_readItems, .ref a_read, .int v_congruenceMany, .ref a_congruences, .int v_termMany, .int v_rounds, .ref a_terms])), (a_now, .inl (y.1, 21, .inl v_now_9)), (a_seen, .inl (y.1, 6, .inl v_seen))] H → va_D A [(a, .inr (6, [.ref a_now, .int v_undoMany, .int v_undoAt, .ref a_undos, .int v_seenMany, .ref a_seen, .ref a_isKept, .ref a_kept, .int v_letterMany, .ref a_text, .int v_readAt, .int v_tokenAt, .int v_token, .int v_faultAt, .int v_readItems, .ref a_read, .int v_congruenceMany, .ref a_congruences, .int v_termMany, .int v_rounds, .ref a_terms])), (a_now, .inl (y.1, 21, .inl v_now_9)), (a_seen, .inl (y.1, 6, .inl v_seen))] → va_S A s.heap H locs → W p l e (headSpec wsX9_unseen ({ frames := 3, cells := 0, slots := 0, locals := 69 } : Room)).room s m ([.ref a] : List Value).toArray below meth c H locs 0 0 (MQ below (va_Qi K (bW D y A (fun u : ((Nat → Int32)) => [(a, .inr (6, [.ref a_now, .int v_undoMany, .int v_undoAt, .ref a_undos, .int v_seenMany, .ref a_seen, .ref a_isKept, .ref a_kept, .int v_letterMany, .ref a_text, .int v_readAt, .int v_tokenAt, .int v_token, .int v_faultAt, .int v_readItems, .ref a_read, .int v_congruenceMany, .ref a_congruences, .int v_termMany, .int v_rounds, .ref a_terms])), (a_now, .inl (y.1, 21, .inl u)), (a_seen, .inl (y.1, 6, .inl v_seen))])) A) ([.ref a] : List Value).toArray s 0 0 A) (F0 m 9 ls []) := by
    intro K9 hE9 n
    induction n with
    | zero => intro x1_9 x3_9 v_now_9 ls H locs h; exact (sat_lp0 h).elim
    | succ n ih =>
      intro x1_9 x3_9 v_now_9 ls H locs h hl hP hD hS
      have h := sat_lp h
      have h : sat (m_X9_unseen_s9 v_seenMany v_seen r1 x1_9 x3_9 v_now_9) (lk (fun s' => sat (lp (fun q : (Int32 × Int32 × (Nat → Int32)) => m_X9_unseen_s9 v_seenMany v_seen r1 q.1 q.2.1 q.2.2) n s') K9) K9) := h
      unfold m_X9_unseen_s9 at h
      refine lv_iload_n hx hb dX9_unseen_9 rfl (lv_at hl 3 rfl) ?_
      refine lv_iload_n hx hb dX9_unseen_10 rfl (lv_at hl 2 rfl) ?_
      refine lv_iload_n hx hb dX9_unseen_11 rfl (lv_at hl 2 rfl) ?_
      refine lv_imul hx hb dX9_unseen_12 ?_
      refine lv_icmp_ge (tgt := 104) hx hb dX9_unseen_13 (by decide) (fun c13 => ?_) (fun c13 => ?_)
      · have h := sat_t c13 h
        have h := lk_r (sat_some h)
        exact hE9 (x1_9, v_now_9) ls H locs h (lv_sub hl [1] rfl) hP hD hS
      · have h := sat_f c13 h
        refine lv_iconst (v := 4) hx hb dX9_unseen_16 (by decide) ?_
        refine lv_iload_n hx hb dX9_unseen_17 rfl (lv_at hl 3 rfl) ?_
        refine lv_iload_n hx hb dX9_unseen_18 rfl (lv_at hl 2 rfl) ?_
        obtain ⟨hne, h⟩ := sat_gd h
        refine lv_idiv hx hb dX9_unseen_19 hne ?_
        refine lv_imul hx hb dX9_unseen_20 ?_
        refine lv_iload_n hx hb dX9_unseen_21 rfl (lv_at hl 3 rfl) ?_
        refine lv_iload_n hx hb dX9_unseen_22 rfl (lv_at hl 2 rfl) ?_
        obtain ⟨hne, h⟩ := sat_gd h
        refine lv_irem hx hb dX9_unseen_23 hne ?_
        refine lv_iadd hx hb dX9_unseen_24 ?_
        refine lv_istore (lv' := [(4, .int ((4 * (x3_9 / r1)) + (x3_9 - x3_9 / r1 * r1))), (0, .ref a), (1, .int x1_9), (2, .int r1), (3, .int x3_9)]) hx hb dX9_unseen_25 hl (by decide) rfl (fun ls hl => ?_)
        refine lv_aload_n hx hb dX9_unseen_27 rfl (lv_at hl 1 rfl) ?_
        refine va_get (D := D) (ci := 6) (v := .ref a_now) (C := RX9) (T := TX9) (N := 21) hx hb hts iX9 hown hK hP 0 rfl rfl 0 (by decide) fl7 (fun _ h9 => h9) rfl dX9_unseen_28 ?_
        refine lv_iload hx hb dX9_unseen_31 (lv_at hl 0 rfl) ?_
        obtain ⟨r3, er3, hin, h⟩ := sat_rd h
        refine xi hx hb hK hP 1 0 rfl rfl er3 hin dX9_unseen_33 ?_
        refine lv_istore (lv' := [(5, .int r3), (4, .int ((4 * (x3_9 / r1)) + (x3_9 - x3_9 / r1 * r1))), (0, .ref a), (1, .int x1_9), (2, .int r1), (3, .int x3_9)]) hx hb dX9_unseen_34 hl (by decide) rfl (fun ls hl => ?_)
        refine lv_iconst (v := 0) hx hb dX9_unseen_36 (by decide) ?_
        refine lv_istore (lv' := [(6, .int 0), (5, .int r3), (4, .int ((4 * (x3_9 / r1)) + (x3_9 - x3_9 / r1 * r1))), (0, .ref a), (1, .int x1_9), (2, .int r1), (3, .int x3_9)]) hx hb dX9_unseen_37 hl (by decide) rfl (fun ls hl => ?_)
        have hL39 : ∀ (K39 : (Int32 × (Nat → Int32)) → Prop)
            (hE39 : ∀ (z39 : (Int32 × (Nat → Int32))) (ls : Array Slot) (H : Heap) (locs : List Loc), K39 z39 → lv_has ls 7 [(0, .ref a), (1, .int z39.1), (2, .int r1), (3, .int x3_9), (4, .int ((4 * (x3_9 / r1)) + (x3_9 - x3_9 / r1 * r1))), (5, .int r3)] → va_P D vwCl [(a, .inr (6, [.ref a_now, .int v_undoMany, .int v_undoAt, .ref a_undos, .int v_seenMany, .ref a_seen, .ref a_isKept, .ref a_kept, .int v_letterMany, .ref a_text, .int v_readAt, .int v_tokenAt, .int v_token, .int v_faultAt, .int v_readItems, .ref a_read, .int v_congruenceMany, .ref a_congruences, .int v_termMany, .int v_rounds, .ref a_terms])), (a_now, .inl (y.1, 21, .inl z39.2)), (a_seen, .inl (y.1, 6, .inl v_seen))] H → va_D A [(a, .inr (6, [.ref a_now, .int v_undoMany, .int v_undoAt, .ref a_undos, .int v_seenMany, .ref a_seen, .ref a_isKept, .ref a_kept, .int v_letterMany, .ref a_text, .int v_readAt, .int v_tokenAt, .int v_token, .int v_faultAt, .int v_readItems, .ref a_read, .int v_congruenceMany, .ref a_congruences, .int v_termMany, .int v_rounds, .ref a_terms])), (a_now, .inl (y.1, 21, .inl z39.2)), (a_seen, .inl (y.1, 6, .inl v_seen))] → va_S A s.heap H locs → W p l e (headSpec wsX9_unseen ({ frames := 3, cells := 0, slots := 0, locals := 69 } : Room)).room s m ([.ref a] : List Value).toArray below meth c H locs 0 0 (MQ below (va_Qi K (bW D y A (fun u : ((Nat → Int32)) => [(a, .inr (6, [.ref a_now, .int v_undoMany, .int v_undoAt, .ref a_undos, .int v_seenMany, .ref a_seen, .ref a_isKept, .ref a_kept, .int v_letterMany, .ref a_text, .int v_readAt, .int v_tokenAt, .int v_token, .int v_faultAt, .int v_readItems, .ref a_read, .int v_congruenceMany, .ref a_congruences, .int v_termMany, .int v_rounds, .ref a_terms])), (a_now, .inl (y.1, 21, .inl u)), (a_seen, .inl (y.1, 6, .inl v_seen))])) A) ([.ref a] : List Value).toArray s 0 0 A) (F0 m 89 ls []))
            (n : Nat) (x1_39 : Int32) (x6_39 : Int32) (v_now_39 : Nat → Int32) (ls : Array Slot) (H : Heap) (locs : List Loc), sat (lp (fun q : (Int32 × Int32 × (Nat → Int32)) => m_X9_unseen_s39 v_seenMany v_seen r1 x3_9 r3 q.1 q.2.1 q.2.2) n (x1_39, x6_39, v_now_39)) K39 → lv_has ls 7 [(0, .ref a), (1, .int x1_39), (2, .int r1), (3, .int x3_9), (4, .int ((4 * (x3_9 / r1)) + (x3_9 - x3_9 / r1 * r1))), (5, .int r3), (6, .int x6_39)] → va_P D vwCl [(a, .inr (6, [.ref a_now, .int v_undoMany, .int v_undoAt, .ref a_undos, .int v_seenMany, .ref a_seen, .ref a_isKept, .ref a_kept, .int v_letterMany, .ref a_text, .int v_readAt, .int v_tokenAt, .int v_token, .int v_faultAt, .int v_readItems, .ref a_read, .int v_congruenceMany, .ref a_congruences, .int v_termMany, .int v_rounds, .ref a_terms])), (a_now, .inl (y.1, 21, .inl v_now_39)), (a_seen, .inl (y.1, 6, .inl v_seen))] H → va_D A [(a, .inr (6, [.ref a_now, .int v_undoMany, .int v_undoAt, .ref a_undos, .int v_seenMany, .ref a_seen, .ref a_isKept, .ref a_kept, .int v_letterMany, .ref a_text, .int v_readAt, .int v_tokenAt, .int v_token, .int v_faultAt, .int v_readItems, .ref a_read, .int v_congruenceMany, .ref a_congruences, .int v_termMany, .int v_rounds, .ref a_terms])), (a_now, .inl (y.1, 21, .inl v_now_39)), (a_seen, .inl (y.1, 6, .inl v_seen))] → va_S A s.heap H locs → W p l e (headSpec wsX9_unseen ({ frames := 3, cells := 0, slots := 0, locals := 69 } : Room)).room s m ([.ref a] : List Value).toArray below meth c H locs 0 0 (MQ below (va_Qi K (bW D y A (fun u : ((Nat → Int32)) => [(a, .inr (6, [.ref a_now, .int v_undoMany, .int v_undoAt, .ref a_undos, .int v_seenMany, .ref a_seen, .ref a_isKept, .ref a_kept, .int v_letterMany, .ref a_text, .int v_readAt, .int v_tokenAt, .int v_token, .int v_faultAt, .int v_readItems, .ref a_read, .int v_congruenceMany, .ref a_congruences, .int v_termMany, .int v_rounds, .ref a_terms])), (a_now, .inl (y.1, 21, .inl u)), (a_seen, .inl (y.1, 6, .inl v_seen))])) A) ([.ref a] : List Value).toArray s 0 0 A) (F0 m 39 ls []) := by
          intro K39 hE39 n
          induction n with
          | zero => intro x1_39 x6_39 v_now_39 ls H locs h; exact (sat_lp0 h).elim
          | succ n ih =>
            intro x1_39 x6_39 v_now_39 ls H locs h hl hP hD hS
            have h := sat_lp h
            have h : sat (m_X9_unseen_s39 v_seenMany v_seen r1 x3_9 r3 x1_39 x6_39 v_now_39) (lk (fun s' => sat (lp (fun q : (Int32 × Int32 × (Nat → Int32)) => m_X9_unseen_s39 v_seenMany v_seen r1 x3_9 r3 q.1 q.2.1 q.2.2) n s') K39) K39) := h
            unfold m_X9_unseen_s39 at h
            refine lv_iload hx hb dX9_unseen_39 (lv_at hl 6 rfl) ?_
            refine lv_iload_n hx hb dX9_unseen_41 rfl (lv_at hl 2 rfl) ?_
            refine lv_icmp_ge (tgt := 89) hx hb dX9_unseen_42 (by decide) (fun c42 => ?_) (fun c42 => ?_)
            · have h := sat_t c42 h
              have h := lk_r (sat_some h)
              exact hE39 (x1_39, v_now_39) ls H locs h (lv_sub hl [0, 1, 2, 3, 4, 5] rfl) hP hD hS
            · have h := sat_f c42 h
              refine lv_aload_n hx hb dX9_unseen_45 rfl (lv_at hl 0 rfl) ?_
              refine va_get (D := D) (ci := 6) (v := .ref a_now) (C := RX9) (T := TX9) (N := 21) hx hb hts iX9 hown hK hP 0 rfl rfl 0 (by decide) fl7 (fun _ h9 => h9) rfl dX9_unseen_46 ?_
              refine lv_iload hx hb dX9_unseen_49 (lv_at hl 4 rfl) ?_
              refine lv_iload hx hb dX9_unseen_51 (lv_at hl 6 rfl) ?_
              obtain ⟨f5, ef5, hin, h⟩ := sat_wrI h
              refine yi (wn := [(a, .inr (6, [.ref a_now, .int v_undoMany, .int v_undoAt, .ref a_undos, .int v_seenMany, .ref a_seen, .ref a_isKept, .ref a_kept, .int v_letterMany, .ref a_text, .int v_readAt, .int v_tokenAt, .int v_token, .int v_faultAt, .int v_readItems, .ref a_read, .int v_congruenceMany, .ref a_congruences, .int v_termMany, .int v_rounds, .ref a_terms])), (a_now, .inl (y.1, 21, .inl f5)), (a_seen, .inl (y.1, 6, .inl v_seen))]) hx hb hK hP hD hS 1 0 rfl rfl ef5 hin dX9_unseen_53 rfl (fun H locs hP hD hS => ?_)
              refine lv_iload_n hx hb dX9_unseen_54 rfl (lv_at hl 1 rfl) ?_
              refine lv_iload hx hb dX9_unseen_55 (lv_at hl 6 rfl) ?_
              refine lv_iload hx hb dX9_unseen_57 (lv_at hl 5 rfl) ?_
              refine lv_icmp_eq (tgt := 80) hx hb dX9_unseen_59 (by decide) (fun c59 => ?_) (fun c59 => ?_)
              · have h := sat_t c59 h
                refine lv_iconst (v := 0) hx hb dX9_unseen_80 (by decide) ?_
                refine lv_ior hx hb dX9_unseen_81 ?_
                refine lv_istore_n (lv' := [(1, .int (x1_39 ||| 0)), (0, .ref a), (2, .int r1), (3, .int x3_9), (4, .int ((4 * (x3_9 / r1)) + (x3_9 - x3_9 / r1 * r1))), (5, .int r3), (6, .int x6_39)]) hx hb dX9_unseen_82 rfl hl (by decide) rfl (fun ls hl => ?_)
                refine lv_iinc (v := x6_39 + 1) (lv' := [(6, .int (x6_39 + 1)), (1, .int (x1_39 ||| 0)), (0, .ref a), (2, .int r1), (3, .int x3_9), (4, .int ((4 * (x3_9 / r1)) + (x3_9 - x3_9 / r1 * r1))), (5, .int r3)]) hx hb dX9_unseen_83 hl (k := 6) rfl rfl (by decide) rfl (fun ls hl => ?_)
                refine lv_goto (tgt := 39) hx hb dX9_unseen_86 (by decide) ?_
                have h := lk_l (sat_some h)
                exact ih (x1_39 ||| 0) (x6_39 + 1) f5 ls H locs h (lv_sub hl [2, 1, 3, 4, 5, 6, 0] rfl) hP hD hS
              · have h := sat_f c59 h
                refine lv_aload_n hx hb dX9_unseen_62 rfl (lv_at hl 0 rfl) ?_
                refine lv_aload_n hx hb dX9_unseen_63 rfl (lv_at hl 0 rfl) ?_
                refine lv_iconst (v := (-1)) hx hb dX9_unseen_64 (by decide) ?_
                refine cr_i (rv (As := [.int (-1)]) (rest := [.ref a, .int x1_39]) ⟨hx, hb, hml, hown, hts⟩ (c_X9_closedOf l D y a a_now a_undos a_seen a_isKept a_kept a_text a_read a_congruences a_terms v_undoMany v_undoAt v_seenMany v_letterMany v_readAt v_tokenAt v_token v_faultAt v_readItems v_congruenceMany v_termMany v_rounds f5 (-1) _ (sat_bind h)) (cwV 1 hts gX9_unseen_X9_closedOf rfl rfl rfl (by decide +kernel) ⟨Nat.le_of_ble_eq_true rfl, Nat.le_of_ble_eq_true rfl⟩) hK hP [0, 1] rfl 0 6 rfl rfl rfl rfl hl.1 rfl (Nat.le_of_ble_eq_true rfl) dX9_unseen_65 ⟨Nat.zero_le _, Nat.zero_le _⟩) (fun r6 h => ?_)
                refine cr_i (rv (As := [.int r6]) (rest := [.int x1_39]) ⟨hx, hb, hml, hown, hts⟩ (c_X9_isSeen l D y a a_seen a_now a_undos a_isKept a_kept a_text a_read a_congruences a_terms v_undoMany v_undoAt v_seenMany v_letterMany v_readAt v_tokenAt v_token v_faultAt v_readItems v_congruenceMany v_termMany v_rounds v_seen r6 _ (sat_bind h)) (cwV 1 hts gX9_unseen_X9_isSeen rfl rfl rfl (by decide +kernel) ⟨Nat.le_of_ble_eq_true rfl, Nat.le_of_ble_eq_true rfl⟩) hK hP [0, 2] rfl 0 6 rfl rfl rfl rfl hl.1 rfl (Nat.le_of_ble_eq_true rfl) dX9_unseen_68 ⟨Nat.zero_le _, Nat.zero_le _⟩) (fun r7 h => ?_)
                refine lv_if_eq (tgt := 80) hx hb dX9_unseen_71 (by decide) (fun c71 => ?_) (fun c71 => ?_)
                · have h := sat_t c71 h
                  refine lv_iconst (v := 0) hx hb dX9_unseen_80 (by decide) ?_
                  refine lv_ior hx hb dX9_unseen_81 ?_
                  refine lv_istore_n (lv' := [(1, .int (x1_39 ||| 0)), (0, .ref a), (2, .int r1), (3, .int x3_9), (4, .int ((4 * (x3_9 / r1)) + (x3_9 - x3_9 / r1 * r1))), (5, .int r3), (6, .int x6_39)]) hx hb dX9_unseen_82 rfl hl (by decide) rfl (fun ls hl => ?_)
                  refine lv_iinc (v := x6_39 + 1) (lv' := [(6, .int (x6_39 + 1)), (1, .int (x1_39 ||| 0)), (0, .ref a), (2, .int r1), (3, .int x3_9), (4, .int ((4 * (x3_9 / r1)) + (x3_9 - x3_9 / r1 * r1))), (5, .int r3)]) hx hb dX9_unseen_83 hl (k := 6) rfl rfl (by decide) rfl (fun ls hl => ?_)
                  refine lv_goto (tgt := 39) hx hb dX9_unseen_86 (by decide) ?_
                  have h := lk_l (sat_some h)
                  exact ih (x1_39 ||| 0) (x6_39 + 1) f5 ls H locs h (lv_sub hl [2, 1, 3, 4, 5, 6, 0] rfl) hP hD hS
                · have h := sat_f c71 h
                  refine lv_iconst (v := 1) hx hb dX9_unseen_74 (by decide) ?_
                  refine lv_iload_n hx hb dX9_unseen_75 rfl (lv_at hl 3 rfl) ?_
                  refine lv_ishl hx hb dX9_unseen_76 ?_
                  refine lv_goto (tgt := 81) hx hb dX9_unseen_77 (by decide) ?_
                  refine lv_ior hx hb dX9_unseen_81 ?_
                  refine lv_istore_n (lv' := [(1, .int (x1_39 ||| (1 <<< (x3_9 &&& 31)))), (0, .ref a), (2, .int r1), (3, .int x3_9), (4, .int ((4 * (x3_9 / r1)) + (x3_9 - x3_9 / r1 * r1))), (5, .int r3), (6, .int x6_39)]) hx hb dX9_unseen_82 rfl hl (by decide) rfl (fun ls hl => ?_)
                  refine lv_iinc (v := x6_39 + 1) (lv' := [(6, .int (x6_39 + 1)), (1, .int (x1_39 ||| (1 <<< (x3_9 &&& 31)))), (0, .ref a), (2, .int r1), (3, .int x3_9), (4, .int ((4 * (x3_9 / r1)) + (x3_9 - x3_9 / r1 * r1))), (5, .int r3)]) hx hb dX9_unseen_83 hl (k := 6) rfl rfl (by decide) rfl (fun ls hl => ?_)
                  refine lv_goto (tgt := 39) hx hb dX9_unseen_86 (by decide) ?_
                  have h := lk_l (sat_some h)
                  exact ih (x1_39 ||| (1 <<< (x3_9 &&& 31))) (x6_39 + 1) f5 ls H locs h (lv_sub hl [2, 1, 3, 4, 5, 6, 0] rfl) hP hD hS
        have h := sat_bind h
        refine hL39 _ (fun z39 ls H locs h hl hP hD hS => ?_) 1000 x1_9 0 v_now_9 ls H locs h (lv_sub hl [3, 4, 5, 6, 2, 1, 0] rfl) hP hD hS
        refine lv_aload_n hx hb dX9_unseen_89 rfl (lv_at hl 0 rfl) ?_
        refine va_get (D := D) (ci := 6) (v := .ref a_now) (C := RX9) (T := TX9) (N := 21) hx hb hts iX9 hown hK hP 0 rfl rfl 0 (by decide) fl7 (fun _ h9 => h9) rfl dX9_unseen_90 ?_
        refine lv_iload hx hb dX9_unseen_93 (lv_at hl 4 rfl) ?_
        refine lv_iload hx hb dX9_unseen_95 (lv_at hl 5 rfl) ?_
        obtain ⟨f8, ef8, hin, h⟩ := sat_wrI h
        refine yi (wn := [(a, .inr (6, [.ref a_now, .int v_undoMany, .int v_undoAt, .ref a_undos, .int v_seenMany, .ref a_seen, .ref a_isKept, .ref a_kept, .int v_letterMany, .ref a_text, .int v_readAt, .int v_tokenAt, .int v_token, .int v_faultAt, .int v_readItems, .ref a_read, .int v_congruenceMany, .ref a_congruences, .int v_termMany, .int v_rounds, .ref a_terms])), (a_now, .inl (y.1, 21, .inl f8)), (a_seen, .inl (y.1, 6, .inl v_seen))]) hx hb hK hP hD hS 1 0 rfl rfl ef8 hin dX9_unseen_97 rfl (fun H locs hP hD hS => ?_)
        refine lv_iinc (v := x3_9 + 1) (lv' := [(3, .int (x3_9 + 1)), (0, .ref a), (1, .int z39.1), (2, .int r1), (4, .int ((4 * (x3_9 / r1)) + (x3_9 - x3_9 / r1 * r1))), (5, .int r3)]) hx hb dX9_unseen_98 hl (k := 3) rfl rfl (by decide) rfl (fun ls hl => ?_)
        refine lv_goto (tgt := 9) hx hb dX9_unseen_101 (by decide) ?_
        have h := lk_l (sat_some h)
        exact ih z39.1 (x3_9 + 1) f8 ls H locs h (lv_sub hl [1, 2, 3, 0] rfl) hP hD hS
  have h := sat_bind h
  refine hL9 _ (fun z9 ls H locs h hl hP hD hS => ?_) 1000 0 0 v_now ls s.heap [] h (lv_sub hl [3, 2, 1, 0] rfl) hP hD hS
  refine lv_iload_n hx hb dX9_unseen_104 rfl (lv_at hl 0 rfl) ?_
  have h := sat_some h
  exact W.iret (v := z9.1) hx hb hr (fun t ht hW => ⟨⟨z9.1, z9.2, rfl, h, by rw [ht]; exact hP, va_K.moved hW.alike hK, hD⟩, hS.F ht⟩) hS.2.2 dX9_unseen_105

/-! X9_keep -/
set_option maxHeartbeats 4000000 in
set_option maxRecDepth 100000 in
theorem c_X9_keep (l : Launch) (D : va_G) (y : ClassId × ClassId × ClassId × ClassId) (a a_isKept a_kept a_now a_undos a_seen a_text a_read a_congruences a_terms : Nat) (v_undoMany : Int32) (v_undoAt : Int32) (v_seenMany : Int32) (v_letterMany : Int32) (v_readAt : Int32) (v_tokenAt : Int32) (v_token : Int32) (v_faultAt : Int32) (v_readItems : Int32) (v_congruenceMany : Int32) (v_termMany : Int32) (v_rounds : Int32) (v_isKept : Nat → Int32) (v_kept : Nat → Int32) (v_now : Nat → Int32) (x1 : Int32) (sz : Nat) (A : Nat → Prop) (hAe : va_A [(a, .inr (6, [.ref a_now, .int v_undoMany, .int v_undoAt, .ref a_undos, .int v_seenMany, .ref a_seen, .ref a_isKept, .ref a_kept, .int v_letterMany, .ref a_text, .int v_readAt, .int v_tokenAt, .int v_token, .int v_faultAt, .int v_readItems, .ref a_read, .int v_congruenceMany, .ref a_congruences, .int v_termMany, .int v_rounds, .ref a_terms])), (a_isKept, .inl (y.2.2.1, 2, .inl v_isKept)), (a_kept, .inl (y.1, 42, .inl v_kept)), (a_now, .inl (y.1, 21, .inl v_now))] sz = A) (K : Int32 → ((Nat → Int32) × (Nat → Int32)) → Prop) (h : sat (m_X9_keep v_isKept v_kept v_now x1) (pK K)) : Met l yX9_keep wsX9_keep ({ frames := 1, cells := 0, slots := 0, locals := 22 } : Room) (pW D y ([.ref a, .int x1] : List Value) [(a, .inr (6, [.ref a_now, .int v_undoMany, .int v_undoAt, .ref a_undos, .int v_seenMany, .ref a_seen, .ref a_isKept, .ref a_kept, .int v_letterMany, .ref a_text, .int v_readAt, .int v_tokenAt, .int v_token, .int v_faultAt, .int v_readItems, .ref a_read, .int v_congruenceMany, .ref a_congruences, .int v_termMany, .int v_rounds, .ref a_terms])), (a_isKept, .inl (y.2.2.1, 2, .inl v_isKept)), (a_kept, .inl (y.1, 42, .inl v_kept)), (a_now, .inl (y.1, 21, .inl v_now))] sz) (va_Qi K (bW D y A (fun u : ((Nat → Int32) × (Nat → Int32)) => [(a, .inr (6, [.ref a_now, .int v_undoMany, .int v_undoAt, .ref a_undos, .int v_seenMany, .ref a_seen, .ref a_isKept, .ref a_kept, .int v_letterMany, .ref a_text, .int v_readAt, .int v_tokenAt, .int v_token, .int v_faultAt, .int v_readItems, .ref a_read, .int v_congruenceMany, .ref a_congruences, .int v_termMany, .int v_rounds, .ref a_terms])), (a_isKept, .inl (y.2.2.1, 2, .inl u.1)), (a_kept, .inl (y.1, 42, .inl u.2)), (a_now, .inl (y.1, 21, .inl v_now))])) A) 0 0 A := by
  refine Met.ofW (cc := cX9_keep) (maxL := 3) (ret := (some .int)) (by decide) rfl ?_
  intro p e s m args below meth c s₁ B hml hv
  obtain ⟨rfl, hsz, hP, hK, hD0⟩ := hv
  have hx := B.exec
  have hb := B.bytes
  have hr := B.returns
  have hts := atoms_spec (ws := wsX9_keep) B.pre
  have hown : s.vm.findClass RX9 = some m.cls := findClass_of_methodNamed B.named
  have hlocks := B.notSynchronized
  subst hsz
  have hD : va_D A [(a, .inr (6, [.ref a_now, .int v_undoMany, .int v_undoAt, .ref a_undos, .int v_seenMany, .ref a_seen, .ref a_isKept, .ref a_kept, .int v_letterMany, .ref a_text, .int v_readAt, .int v_tokenAt, .int v_token, .int v_faultAt, .int v_readItems, .ref a_read, .int v_congruenceMany, .ref a_congruences, .int v_termMany, .int v_rounds, .ref a_terms])), (a_isKept, .inl (y.2.2.1, 2, .inl v_isKept)), (a_kept, .inl (y.1, 42, .inl v_kept)), (a_now, .inl (y.1, 21, .inl v_now))] := hAe ▸ hD0.self
  have hA : ∀ q : Nat, s.heap.size ≤ q → A q := fun q h => hAe ▸ Or.inr h
  have hS : va_S A s.heap s.heap [] := va_S.rf
  have iX9 : ∀ w ∈ wsX90, w ∈ wsX9_keep := by decide +kernel
  have fl19 := hts (.fieldLink RX9 19 "AlgebraLawsModel" "isKept" "[Z") (by decide +kernel)
  have fl23 := hts (.fieldLink RX9 23 "AlgebraLawsModel" "kept" "[I") (by decide +kernel)
  have fl7 := hts (.fieldLink RX9 7 "AlgebraLawsModel" "now" "[I") (by decide +kernel)
  have hl := lv_entry ([.ref a, .int x1] : List Value) (n := 3) (Nat.le_of_ble_eq_true rfl)
  rw [lg_entry_eq]
  generalize (lg_sl ([.ref a, .int x1] : List Value) ++ List.replicate (3 - (lg_sl ([.ref a, .int x1] : List Value)).length) Slot.unset).toArray = ls at hl ⊢
  have hl : lv_has ls 3 [(0, .ref a), (1, .int x1)] := hl
  unfold m_X9_keep at h
  refine lv_iload_n hx hb dX9_keep_0 rfl (lv_at hl 1 rfl) ?_
  refine lv_iconst (v := 0) hx hb dX9_keep_1 (by decide) ?_
  refine lv_iconst (v := 1) hx hb dX9_keep_2 (by decide) ?_
  refine cr_i (rs (As := [.int x1, .int 0, .int 1]) (rest := []) ⟨hx, hb, hml, hown, hts⟩ (c_X9_in l D y x1 0 1 _ (sat_bind h)) (va_cwS 3 hts gX9_keep_X9_in rfl rfl rfl (by decide +kernel) ⟨Nat.le_of_ble_eq_true rfl, Nat.le_of_ble_eq_true rfl⟩) hK hP [] rfl rfl hl.1 rfl (Nat.le_of_ble_eq_true rfl) dX9_keep_3 ⟨Nat.zero_le _, Nat.zero_le _⟩) (fun r1 h => ?_)
  refine lv_if_ne (tgt := 12) hx hb dX9_keep_6 (by decide) (fun c6 => ?_) (fun c6 => ?_)
  · have h := sat_f c6 h
    refine lv_aload_n hx hb dX9_keep_12 rfl (lv_at hl 0 rfl) ?_
    refine va_get (D := D) (ci := 6) (v := .ref a_isKept) (C := RX9) (T := TX9) (N := 21) hx hb hts iX9 hown hK hP 0 rfl rfl 6 (by decide) fl19 (fun _ h9 => h9) rfl dX9_keep_13 ?_
    refine lv_iload_n hx hb dX9_keep_16 rfl (lv_at hl 1 rfl) ?_
    refine lv_iconst (v := 1) hx hb dX9_keep_17 (by decide) ?_
    obtain ⟨f2, ef2, hin, h⟩ := sat_wrI h
    refine yz (wn := [(a, .inr (6, [.ref a_now, .int v_undoMany, .int v_undoAt, .ref a_undos, .int v_seenMany, .ref a_seen, .ref a_isKept, .ref a_kept, .int v_letterMany, .ref a_text, .int v_readAt, .int v_tokenAt, .int v_token, .int v_faultAt, .int v_readItems, .ref a_read, .int v_congruenceMany, .ref a_congruences, .int v_termMany, .int v_rounds, .ref a_terms])), (a_isKept, .inl (y.2.2.1, 2, .inl f2)), (a_kept, .inl (y.1, 42, .inl v_kept)), (a_now, .inl (y.1, 21, .inl v_now))]) hx hb hK hP hD hS 1 2 rfl rfl ef2 (by decide) hin dX9_keep_18 rfl (fun H locs hP hD hS => ?_)
    refine lv_iconst (v := 0) hx hb dX9_keep_19 (by decide) ?_
    refine lv_istore_n (lv' := [(2, .int 0), (0, .ref a), (1, .int x1)]) hx hb dX9_keep_20 rfl hl (by decide) rfl (fun ls hl => ?_)
    have hL21 : ∀ (K21 : ((Nat → Int32)) → Prop)
        (hE21 : ∀ (z21 : ((Nat → Int32))) (ls : Array Slot) (H : Heap) (locs : List Loc), K21 z21 → lv_has ls 3 [(0, .ref a)] → va_P D vwCl [(a, .inr (6, [.ref a_now, .int v_undoMany, .int v_undoAt, .ref a_undos, .int v_seenMany, .ref a_seen, .ref a_isKept, .ref a_kept, .int v_letterMany, .ref a_text, .int v_readAt, .int v_tokenAt, .int v_token, .int v_faultAt, .int v_readItems, .ref a_read, .int v_congruenceMany, .ref a_congruences, .int v_termMany, .int v_rounds, .ref a_terms])), (a_isKept, .inl (y.2.2.1, 2, .inl f2)), (a_kept, .inl (y.1, 42, .inl z21)), (a_now, .inl (y.1, 21, .inl v_now))] H → va_D A [(a, .inr (6, [.ref a_now, .int v_undoMany, .int v_undoAt, .ref a_undos, .int v_seenMany, .ref a_seen, .ref a_isKept, .ref a_kept, .int v_letterMany, .ref a_text, .int v_readAt, .int v_tokenAt, .int v_token, .int v_faultAt, .int v_readItems, .ref a_read, .int v_congruenceMany, .ref a_congruences, .int v_termMany, .int v_rounds, .ref a_terms])), (a_isKept, .inl (y.2.2.1, 2, .inl f2)), (a_kept, .inl (y.1, 42, .inl z21)), (a_now, .inl (y.1, 21, .inl v_now))] → va_S A s.heap H locs → W p l e (headSpec wsX9_keep ({ frames := 1, cells := 0, slots := 0, locals := 22 } : Room)).room s m ([.ref a, .int x1] : List Value).toArray below meth c H locs 0 0 (MQ below (va_Qi K (bW D y A (fun u : ((Nat → Int32) × (Nat → Int32)) => [(a, .inr (6, [.ref a_now, .int v_undoMany, .int v_undoAt, .ref a_undos, .int v_seenMany, .ref a_seen, .ref a_isKept, .ref a_kept, .int v_letterMany, .ref a_text, .int v_readAt, .int v_tokenAt, .int v_token, .int v_faultAt, .int v_readItems, .ref a_read, .int v_congruenceMany, .ref a_congruences, .int v_termMany, .int v_rounds, .ref a_terms])), (a_isKept, .inl (y.2.2.1, 2, .inl u.1)), (a_kept, .inl (y.1, 42, .inl u.2)), (a_now, .inl (y.1, 21, .inl v_now))])) A) ([.ref a, .int x1] : List Value).toArray s 0 0 A) (F0 m 50 ls []))
        (n : Nat) (x2_21 : Int32) (v_kept_21 : Nat → Int32) (ls : Array Slot) (H : Heap) (locs : List Loc), sat (lp (fun q : (Int32 × (Nat → Int32)) => m_X9_keep_s21 v_now x1 q.1 q.2) n (x2_21, v_kept_21)) K21 → lv_has ls 3 [(0, .ref a), (1, .int x1), (2, .int x2_21)] → va_P D vwCl [(a, .inr (6, [.ref a_now, .int v_undoMany, .int v_undoAt, .ref a_undos, .int v_seenMany, .ref a_seen, .ref a_isKept, .ref a_kept, .int v_letterMany, .ref a_text, .int v_readAt, .int v_tokenAt, .int v_token, .int v_faultAt, .int v_readItems, .ref a_read, .int v_congruenceMany, .ref a_congruences, .int v_termMany, .int v_rounds, .ref a_terms])), (a_isKept, .inl (y.2.2.1, 2, .inl f2)), (a_kept, .inl (y.1, 42, .inl v_kept_21)), (a_now, .inl (y.1, 21, .inl v_now))] H → va_D A [(a, .inr (6, [.ref a_now, .int v_undoMany, .int v_undoAt, .ref a_undos, .int v_seenMany, .ref a_seen, .ref a_isKept, .ref a_kept, .int v_letterMany, .ref a_text, .int v_readAt, .int v_tokenAt, .int v_token, .int v_faultAt, .int v_readItems, .ref a_read, .int v_congruenceMany, .ref a_congruences, .int v_termMany, .int v_rounds, .ref a_terms])), (a_isKept, .inl (y.2.2.1, 2, .inl f2)), (a_kept, .inl (y.1, 42, .inl v_kept_21)), (a_now, .inl (y.1, 21, .inl v_now))] → va_S A s.heap H locs → W p l e (headSpec wsX9_keep ({ frames := 1, cells := 0, slots := 0, locals := 22 } : Room)).room s m ([.ref a, .int x1] : List Value).toArray below meth c H locs 0 0 (MQ below (va_Qi K (bW D y A (fun u : ((Nat → Int32) × (Nat → Int32)) => [(a, .inr (6, [.ref a_now, .int v_undoMany, .int v_undoAt, .ref a_undos, .int v_seenMany, .ref a_seen, .ref a_isKept, .ref a_kept, .int v_letterMany, .ref a_text, .int v_readAt, .int v_tokenAt, .int v_token, .int v_faultAt, .int v_readItems, .ref a_read, .int v_congruenceMany, .ref a_congruences, .int v_termMany, .int v_rounds, .ref a_terms])), (a_isKept, .inl (y.2.2.1, 2, .inl u.1)), (a_kept, .inl (y.1, 42, .inl u.2)), (a_now, .inl (y.1, 21, .inl v_now))])) A) ([.ref a, .int x1] : List Value).toArray s 0 0 A) (F0 m 21 ls []) := by
      intro K21 hE21 n
      induction n with
      | zero => intro x2_21 v_kept_21 ls H locs h; exact (sat_lp0 h).elim
      | succ n ih =>
        intro x2_21 v_kept_21 ls H locs h hl hP hD hS
        have h := sat_lp h
        have h : sat (m_X9_keep_s21 v_now x1 x2_21 v_kept_21) (lk (fun s' => sat (lp (fun q : (Int32 × (Nat → Int32)) => m_X9_keep_s21 v_now x1 q.1 q.2) n s') K21) K21) := h
        unfold m_X9_keep_s21 at h
        refine lv_iload_n hx hb dX9_keep_21 rfl (lv_at hl 2 rfl) ?_
        refine lv_bipush (v := 21) hx hb dX9_keep_22 (by decide) ?_
        refine lv_icmp_ge (tgt := 50) hx hb dX9_keep_24 (by decide) (fun c24 => ?_) (fun c24 => ?_)
        · have h := sat_t c24 h
          have h := lk_r (sat_some h)
          exact hE21 v_kept_21 ls H locs h (lv_sub hl [0] rfl) hP hD hS
        · have h := sat_f c24 h
          refine lv_aload_n hx hb dX9_keep_27 rfl (lv_at hl 0 rfl) ?_
          refine va_get (D := D) (ci := 6) (v := .ref a_kept) (C := RX9) (T := TX9) (N := 21) hx hb hts iX9 hown hK hP 0 rfl rfl 7 (by decide) fl23 (fun _ h9 => h9) rfl dX9_keep_28 ?_
          refine lv_bipush (v := 21) hx hb dX9_keep_31 (by decide) ?_
          refine lv_iload_n hx hb dX9_keep_33 rfl (lv_at hl 1 rfl) ?_
          refine lv_imul hx hb dX9_keep_34 ?_
          refine lv_iload_n hx hb dX9_keep_35 rfl (lv_at hl 2 rfl) ?_
          refine lv_iadd hx hb dX9_keep_36 ?_
          refine lv_aload_n hx hb dX9_keep_37 rfl (lv_at hl 0 rfl) ?_
          refine va_get (D := D) (ci := 6) (v := .ref a_now) (C := RX9) (T := TX9) (N := 21) hx hb hts iX9 hown hK hP 0 rfl rfl 0 (by decide) fl7 (fun _ h9 => h9) rfl dX9_keep_38 ?_
          refine lv_iload_n hx hb dX9_keep_41 rfl (lv_at hl 2 rfl) ?_
          obtain ⟨r4, er4, hin, h⟩ := sat_rd h
          refine xi hx hb hK hP 3 0 rfl rfl er4 hin dX9_keep_42 ?_
          obtain ⟨f5, ef5, hin, h⟩ := sat_wrI h
          refine yi (wn := [(a, .inr (6, [.ref a_now, .int v_undoMany, .int v_undoAt, .ref a_undos, .int v_seenMany, .ref a_seen, .ref a_isKept, .ref a_kept, .int v_letterMany, .ref a_text, .int v_readAt, .int v_tokenAt, .int v_token, .int v_faultAt, .int v_readItems, .ref a_read, .int v_congruenceMany, .ref a_congruences, .int v_termMany, .int v_rounds, .ref a_terms])), (a_isKept, .inl (y.2.2.1, 2, .inl f2)), (a_kept, .inl (y.1, 42, .inl f5)), (a_now, .inl (y.1, 21, .inl v_now))]) hx hb hK hP hD hS 2 0 rfl rfl ef5 hin dX9_keep_43 rfl (fun H locs hP hD hS => ?_)
          refine lv_iinc (v := x2_21 + 1) (lv' := [(2, .int (x2_21 + 1)), (0, .ref a), (1, .int x1)]) hx hb dX9_keep_44 hl (k := 2) rfl rfl (by decide) rfl (fun ls hl => ?_)
          refine lv_goto (tgt := 21) hx hb dX9_keep_47 (by decide) ?_
          have h := lk_l (sat_some h)
          exact ih (x2_21 + 1) f5 ls H locs h (lv_sub hl [1, 2, 0] rfl) hP hD hS
    have h := sat_bind h
    refine hL21 _ (fun z21 ls H locs h hl hP hD hS => ?_) 1000 0 v_kept ls H locs h (lv_sub hl [1, 2, 0] rfl) hP hD hS
    refine lv_aload_n hx hb dX9_keep_50 rfl (lv_at hl 0 rfl) ?_
    refine cr_i (rv (As := []) (rest := []) ⟨hx, hb, hml, hown, hts⟩ (c_X9_size l D y a a_now a_undos a_seen a_isKept a_kept a_text a_read a_congruences a_terms v_undoMany v_undoAt v_seenMany v_letterMany v_readAt v_tokenAt v_token v_faultAt v_readItems v_congruenceMany v_termMany v_rounds v_now _ (sat_bind h)) (cwV 0 hts gX9_keep_X9_size rfl rfl rfl (by decide +kernel) ⟨Nat.le_of_ble_eq_true rfl, Nat.le_of_ble_eq_true rfl⟩) hK hP [0, 3] rfl 0 6 rfl rfl rfl rfl hl.1 rfl (Nat.le_of_ble_eq_true rfl) dX9_keep_51 ⟨Nat.zero_le _, Nat.zero_le _⟩) (fun r6 h => ?_)
    have h := sat_some h
    exact W.iret (v := r6) hx hb hr (fun t ht hW => ⟨⟨r6, (f2, z21), rfl, h, by rw [ht]; exact hP, va_K.moved hW.alike hK, hD⟩, hS.F ht⟩) hS.2.2 dX9_keep_54
  · have h := sat_t c6 h
    refine lv_bipush (v := (-2)) hx hb dX9_keep_9 (by decide) ?_
    have h := sat_some h
    exact W.iret (v := (-2)) hx hb hr (fun t ht hW => ⟨⟨(-2), (v_isKept, v_kept), rfl, h, by rw [ht]; exact hP, va_K.moved hW.alike hK, hD⟩, hS.F ht⟩) hS.2.2 dX9_keep_11

/-! X9_back -/
set_option maxHeartbeats 4000000 in
set_option maxRecDepth 100000 in
theorem c_X9_back (l : Launch) (D : va_G) (y : ClassId × ClassId × ClassId × ClassId) (a a_isKept a_kept a_now a_undos a_seen a_text a_read a_congruences a_terms : Nat) (v_undoMany : Int32) (v_undoAt : Int32) (v_seenMany : Int32) (v_letterMany : Int32) (v_readAt : Int32) (v_tokenAt : Int32) (v_token : Int32) (v_faultAt : Int32) (v_readItems : Int32) (v_congruenceMany : Int32) (v_termMany : Int32) (v_rounds : Int32) (v_isKept : Nat → Int32) (v_kept : Nat → Int32) (v_now : Nat → Int32) (x1 : Int32) (sz : Nat) (A : Nat → Prop) (hAe : va_A [(a, .inr (6, [.ref a_now, .int v_undoMany, .int v_undoAt, .ref a_undos, .int v_seenMany, .ref a_seen, .ref a_isKept, .ref a_kept, .int v_letterMany, .ref a_text, .int v_readAt, .int v_tokenAt, .int v_token, .int v_faultAt, .int v_readItems, .ref a_read, .int v_congruenceMany, .ref a_congruences, .int v_termMany, .int v_rounds, .ref a_terms])), (a_isKept, .inl (y.2.2.1, 2, .inl v_isKept)), (a_kept, .inl (y.1, 42, .inl v_kept)), (a_now, .inl (y.1, 21, .inl v_now))] sz = A) (K : Int32 → (Int32 × (Nat → Int32)) → Prop) (h : sat (m_X9_back v_undoMany v_isKept v_kept v_now x1) (pK K)) : Met l yX9_back wsX9_back ({ frames := 1, cells := 0, slots := 0, locals := 22 } : Room) (pW D y ([.ref a, .int x1] : List Value) [(a, .inr (6, [.ref a_now, .int v_undoMany, .int v_undoAt, .ref a_undos, .int v_seenMany, .ref a_seen, .ref a_isKept, .ref a_kept, .int v_letterMany, .ref a_text, .int v_readAt, .int v_tokenAt, .int v_token, .int v_faultAt, .int v_readItems, .ref a_read, .int v_congruenceMany, .ref a_congruences, .int v_termMany, .int v_rounds, .ref a_terms])), (a_isKept, .inl (y.2.2.1, 2, .inl v_isKept)), (a_kept, .inl (y.1, 42, .inl v_kept)), (a_now, .inl (y.1, 21, .inl v_now))] sz) (va_Qi K (bW D y A (fun u : (Int32 × (Nat → Int32)) => [(a, .inr (6, [.ref a_now, .int u.1, .int v_undoAt, .ref a_undos, .int v_seenMany, .ref a_seen, .ref a_isKept, .ref a_kept, .int v_letterMany, .ref a_text, .int v_readAt, .int v_tokenAt, .int v_token, .int v_faultAt, .int v_readItems, .ref a_read, .int v_congruenceMany, .ref a_congruences, .int v_termMany, .int v_rounds, .ref a_terms])), (a_isKept, .inl (y.2.2.1, 2, .inl v_isKept)), (a_kept, .inl (y.1, 42, .inl v_kept)), (a_now, .inl (y.1, 21, .inl u.2))])) A) 0 0 A := by
  refine Met.ofW (cc := cX9_back) (maxL := 3) (ret := (some .int)) (by decide) rfl ?_
  intro p e s m args below meth c s₁ B hml hv
  obtain ⟨rfl, hsz, hP, hK, hD0⟩ := hv
  have hx := B.exec
  have hb := B.bytes
  have hr := B.returns
  have hts := atoms_spec (ws := wsX9_back) B.pre
  have hown : s.vm.findClass RX9 = some m.cls := findClass_of_methodNamed B.named
  have hlocks := B.notSynchronized
  subst hsz
  have hD : va_D A [(a, .inr (6, [.ref a_now, .int v_undoMany, .int v_undoAt, .ref a_undos, .int v_seenMany, .ref a_seen, .ref a_isKept, .ref a_kept, .int v_letterMany, .ref a_text, .int v_readAt, .int v_tokenAt, .int v_token, .int v_faultAt, .int v_readItems, .ref a_read, .int v_congruenceMany, .ref a_congruences, .int v_termMany, .int v_rounds, .ref a_terms])), (a_isKept, .inl (y.2.2.1, 2, .inl v_isKept)), (a_kept, .inl (y.1, 42, .inl v_kept)), (a_now, .inl (y.1, 21, .inl v_now))] := hAe ▸ hD0.self
  have hA : ∀ q : Nat, s.heap.size ≤ q → A q := fun q h => hAe ▸ Or.inr h
  have hS : va_S A s.heap s.heap [] := va_S.rf
  have iX9 : ∀ w ∈ wsX90, w ∈ wsX9_back := by decide +kernel
  have fl19 := hts (.fieldLink RX9 19 "AlgebraLawsModel" "isKept" "[Z") (by decide +kernel)
  have fl7 := hts (.fieldLink RX9 7 "AlgebraLawsModel" "now" "[I") (by decide +kernel)
  have fl23 := hts (.fieldLink RX9 23 "AlgebraLawsModel" "kept" "[I") (by decide +kernel)
  have fl96 := hts (.fieldLink RX9 96 "AlgebraLawsModel" "undoMany" "I") (by decide +kernel)
  have hl := lv_entry ([.ref a, .int x1] : List Value) (n := 3) (Nat.le_of_ble_eq_true rfl)
  rw [lg_entry_eq]
  generalize (lg_sl ([.ref a, .int x1] : List Value) ++ List.replicate (3 - (lg_sl ([.ref a, .int x1] : List Value)).length) Slot.unset).toArray = ls at hl ⊢
  have hl : lv_has ls 3 [(0, .ref a), (1, .int x1)] := hl
  unfold m_X9_back at h
  refine lv_iload_n hx hb dX9_back_0 rfl (lv_at hl 1 rfl) ?_
  refine lv_iconst (v := 0) hx hb dX9_back_1 (by decide) ?_
  refine lv_iconst (v := 1) hx hb dX9_back_2 (by decide) ?_
  refine cr_i (rs (As := [.int x1, .int 0, .int 1]) (rest := []) ⟨hx, hb, hml, hown, hts⟩ (c_X9_in l D y x1 0 1 _ (sat_bind h)) (va_cwS 3 hts gX9_back_X9_in rfl rfl rfl (by decide +kernel) ⟨Nat.le_of_ble_eq_true rfl, Nat.le_of_ble_eq_true rfl⟩) hK hP [] rfl rfl hl.1 rfl (Nat.le_of_ble_eq_true rfl) dX9_back_3 ⟨Nat.zero_le _, Nat.zero_le _⟩) (fun r1 h => ?_)
  refine lv_if_ne (tgt := 12) hx hb dX9_back_6 (by decide) (fun c6 => ?_) (fun c6 => ?_)
  · have h := sat_f c6 h
    refine lv_aload_n hx hb dX9_back_12 rfl (lv_at hl 0 rfl) ?_
    refine va_get (D := D) (ci := 6) (v := .ref a_isKept) (C := RX9) (T := TX9) (N := 21) hx hb hts iX9 hown hK hP 0 rfl rfl 6 (by decide) fl19 (fun _ h9 => h9) rfl dX9_back_13 ?_
    refine lv_iload_n hx hb dX9_back_16 rfl (lv_at hl 1 rfl) ?_
    obtain ⟨r2, er2, hin, h⟩ := sat_rd h
    refine xz hx hb hK hP 1 2 rfl rfl er2 hin dX9_back_17 ?_
    refine lv_if_ne (tgt := 24) hx hb dX9_back_18 (by decide) (fun c18 => ?_) (fun c18 => ?_)
    · have h := sat_f c18 h
      refine lv_iconst (v := 0) hx hb dX9_back_24 (by decide) ?_
      refine lv_istore_n (lv' := [(2, .int 0), (0, .ref a), (1, .int x1)]) hx hb dX9_back_25 rfl hl (by decide) rfl (fun ls hl => ?_)
      have hL26 : ∀ (K26 : ((Nat → Int32)) → Prop)
          (hE26 : ∀ (z26 : ((Nat → Int32))) (ls : Array Slot) (H : Heap) (locs : List Loc), K26 z26 → lv_has ls 3 [(0, .ref a)] → va_P D vwCl [(a, .inr (6, [.ref a_now, .int v_undoMany, .int v_undoAt, .ref a_undos, .int v_seenMany, .ref a_seen, .ref a_isKept, .ref a_kept, .int v_letterMany, .ref a_text, .int v_readAt, .int v_tokenAt, .int v_token, .int v_faultAt, .int v_readItems, .ref a_read, .int v_congruenceMany, .ref a_congruences, .int v_termMany, .int v_rounds, .ref a_terms])), (a_isKept, .inl (y.2.2.1, 2, .inl v_isKept)), (a_kept, .inl (y.1, 42, .inl v_kept)), (a_now, .inl (y.1, 21, .inl z26))] H → va_D A [(a, .inr (6, [.ref a_now, .int v_undoMany, .int v_undoAt, .ref a_undos, .int v_seenMany, .ref a_seen, .ref a_isKept, .ref a_kept, .int v_letterMany, .ref a_text, .int v_readAt, .int v_tokenAt, .int v_token, .int v_faultAt, .int v_readItems, .ref a_read, .int v_congruenceMany, .ref a_congruences, .int v_termMany, .int v_rounds, .ref a_terms])), (a_isKept, .inl (y.2.2.1, 2, .inl v_isKept)), (a_kept, .inl (y.1, 42, .inl v_kept)), (a_now, .inl (y.1, 21, .inl z26))] → va_S A s.heap H locs → W p l e (headSpec wsX9_back ({ frames := 1, cells := 0, slots := 0, locals := 22 } : Room)).room s m ([.ref a, .int x1] : List Value).toArray below meth c H locs 0 0 (MQ below (va_Qi K (bW D y A (fun u : (Int32 × (Nat → Int32)) => [(a, .inr (6, [.ref a_now, .int u.1, .int v_undoAt, .ref a_undos, .int v_seenMany, .ref a_seen, .ref a_isKept, .ref a_kept, .int v_letterMany, .ref a_text, .int v_readAt, .int v_tokenAt, .int v_token, .int v_faultAt, .int v_readItems, .ref a_read, .int v_congruenceMany, .ref a_congruences, .int v_termMany, .int v_rounds, .ref a_terms])), (a_isKept, .inl (y.2.2.1, 2, .inl v_isKept)), (a_kept, .inl (y.1, 42, .inl v_kept)), (a_now, .inl (y.1, 21, .inl u.2))])) A) ([.ref a, .int x1] : List Value).toArray s 0 0 A) (F0 m 55 ls []))
          (n : Nat) (x2_26 : Int32) (v_now_26 : Nat → Int32) (ls : Array Slot) (H : Heap) (locs : List Loc), sat (lp (fun q : (Int32 × (Nat → Int32)) => m_X9_back_s26 v_kept x1 q.1 q.2) n (x2_26, v_now_26)) K26 → lv_has ls 3 [(0, .ref a), (1, .int x1), (2, .int x2_26)] → va_P D vwCl [(a, .inr (6, [.ref a_now, .int v_undoMany, .int v_undoAt, .ref a_undos, .int v_seenMany, .ref a_seen, .ref a_isKept, .ref a_kept, .int v_letterMany, .ref a_text, .int v_readAt, .int v_tokenAt, .int v_token, .int v_faultAt, .int v_readItems, .ref a_read, .int v_congruenceMany, .ref a_congruences, .int v_termMany, .int v_rounds, .ref a_terms])), (a_isKept, .inl (y.2.2.1, 2, .inl v_isKept)), (a_kept, .inl (y.1, 42, .inl v_kept)), (a_now, .inl (y.1, 21, .inl v_now_26))] H → va_D A [(a, .inr (6, [.ref a_now, .int v_undoMany, .int v_undoAt, .ref a_undos, .int v_seenMany, .ref a_seen, .ref a_isKept, .ref a_kept, .int v_letterMany, .ref a_text, .int v_readAt, .int v_tokenAt, .int v_token, .int v_faultAt, .int v_readItems, .ref a_read, .int v_congruenceMany, .ref a_congruences, .int v_termMany, .int v_rounds, .ref a_terms])), (a_isKept, .inl (y.2.2.1, 2, .inl v_isKept)), (a_kept, .inl (y.1, 42, .inl v_kept)), (a_now, .inl (y.1, 21, .inl v_now_26))] → va_S A s.heap H locs → W p l e (headSpec wsX9_back ({ frames := 1, cells := 0, slots := 0, locals := 22 } : Room)).room s m ([.ref a, .int x1] : List Value).toArray below meth c H locs 0 0 (MQ below (va_Qi K (bW D y A (fun u : (Int32 × (Nat → Int32)) => [(a, .inr (6, [.ref a_now, .int u.1, .int v_undoAt, .ref a_undos, .int v_seenMany, .ref a_seen, .ref a_isKept, .ref a_kept, .int v_letterMany, .ref a_text, .int v_readAt, .int v_tokenAt, .int v_token, .int v_faultAt, .int v_readItems, .ref a_read, .int v_congruenceMany, .ref a_congruences, .int v_termMany, .int v_rounds, .ref a_terms])), (a_isKept, .inl (y.2.2.1, 2, .inl v_isKept)), (a_kept, .inl (y.1, 42, .inl v_kept)), (a_now, .inl (y.1, 21, .inl u.2))])) A) ([.ref a, .int x1] : List Value).toArray s 0 0 A) (F0 m 26 ls []) := by
        intro K26 hE26 n
        induction n with
        | zero => intro x2_26 v_now_26 ls H locs h; exact (sat_lp0 h).elim
        | succ n ih =>
          intro x2_26 v_now_26 ls H locs h hl hP hD hS
          have h := sat_lp h
          have h : sat (m_X9_back_s26 v_kept x1 x2_26 v_now_26) (lk (fun s' => sat (lp (fun q : (Int32 × (Nat → Int32)) => m_X9_back_s26 v_kept x1 q.1 q.2) n s') K26) K26) := h
          unfold m_X9_back_s26 at h
          refine lv_iload_n hx hb dX9_back_26 rfl (lv_at hl 2 rfl) ?_
          refine lv_bipush (v := 21) hx hb dX9_back_27 (by decide) ?_
          refine lv_icmp_ge (tgt := 55) hx hb dX9_back_29 (by decide) (fun c29 => ?_) (fun c29 => ?_)
          · have h := sat_t c29 h
            have h := lk_r (sat_some h)
            exact hE26 v_now_26 ls H locs h (lv_sub hl [0] rfl) hP hD hS
          · have h := sat_f c29 h
            refine lv_aload_n hx hb dX9_back_32 rfl (lv_at hl 0 rfl) ?_
            refine va_get (D := D) (ci := 6) (v := .ref a_now) (C := RX9) (T := TX9) (N := 21) hx hb hts iX9 hown hK hP 0 rfl rfl 0 (by decide) fl7 (fun _ h9 => h9) rfl dX9_back_33 ?_
            refine lv_iload_n hx hb dX9_back_36 rfl (lv_at hl 2 rfl) ?_
            refine lv_aload_n hx hb dX9_back_37 rfl (lv_at hl 0 rfl) ?_
            refine va_get (D := D) (ci := 6) (v := .ref a_kept) (C := RX9) (T := TX9) (N := 21) hx hb hts iX9 hown hK hP 0 rfl rfl 7 (by decide) fl23 (fun _ h9 => h9) rfl dX9_back_38 ?_
            refine lv_bipush (v := 21) hx hb dX9_back_41 (by decide) ?_
            refine lv_iload_n hx hb dX9_back_43 rfl (lv_at hl 1 rfl) ?_
            refine lv_imul hx hb dX9_back_44 ?_
            refine lv_iload_n hx hb dX9_back_45 rfl (lv_at hl 2 rfl) ?_
            refine lv_iadd hx hb dX9_back_46 ?_
            obtain ⟨r4, er4, hin, h⟩ := sat_rd h
            refine xi hx hb hK hP 2 0 rfl rfl er4 hin dX9_back_47 ?_
            obtain ⟨f5, ef5, hin, h⟩ := sat_wrI h
            refine yi (wn := [(a, .inr (6, [.ref a_now, .int v_undoMany, .int v_undoAt, .ref a_undos, .int v_seenMany, .ref a_seen, .ref a_isKept, .ref a_kept, .int v_letterMany, .ref a_text, .int v_readAt, .int v_tokenAt, .int v_token, .int v_faultAt, .int v_readItems, .ref a_read, .int v_congruenceMany, .ref a_congruences, .int v_termMany, .int v_rounds, .ref a_terms])), (a_isKept, .inl (y.2.2.1, 2, .inl v_isKept)), (a_kept, .inl (y.1, 42, .inl v_kept)), (a_now, .inl (y.1, 21, .inl f5))]) hx hb hK hP hD hS 3 0 rfl rfl ef5 hin dX9_back_48 rfl (fun H locs hP hD hS => ?_)
            refine lv_iinc (v := x2_26 + 1) (lv' := [(2, .int (x2_26 + 1)), (0, .ref a), (1, .int x1)]) hx hb dX9_back_49 hl (k := 2) rfl rfl (by decide) rfl (fun ls hl => ?_)
            refine lv_goto (tgt := 26) hx hb dX9_back_52 (by decide) ?_
            have h := lk_l (sat_some h)
            exact ih (x2_26 + 1) f5 ls H locs h (lv_sub hl [1, 2, 0] rfl) hP hD hS
      have h := sat_bind h
      refine hL26 _ (fun z26 ls H locs h hl hP hD hS => ?_) 1000 0 v_now ls s.heap [] h (lv_sub hl [1, 2, 0] rfl) hP hD hS
      refine lv_aload_n hx hb dX9_back_55 rfl (lv_at hl 0 rfl) ?_
      refine lv_iconst (v := 0) hx hb dX9_back_56 (by decide) ?_
      refine pf (D := D) (ci := 6) (v := .int 0) (ty := .int) (C := RX9) (T := TX9) (N := 21) (wn := [(a, .inr (6, [.ref a_now, .int 0, .int v_undoAt, .ref a_undos, .int v_seenMany, .ref a_seen, .ref a_isKept, .ref a_kept, .int v_letterMany, .ref a_text, .int v_readAt, .int v_tokenAt, .int v_token, .int v_faultAt, .int v_readItems, .ref a_read, .int v_congruenceMany, .ref a_congruences, .int v_termMany, .int v_rounds, .ref a_terms])), (a_isKept, .inl (y.2.2.1, 2, .inl v_isKept)), (a_kept, .inl (y.1, 42, .inl v_kept)), (a_now, .inl (y.1, 21, .inl z26))]) hx hb hts iX9 tyX9 tyX9_ok nmX9 hown hK hP hD hS 0 rfl rfl 1 (by decide) fl96 (fun _ h9 => h9) rfl (by decide +kernel) rfl rfl (Nat.le_of_ble_eq_true rfl) dX9_back_57 rfl (fun H locs hP hD hS => ?_)
      refine lv_aload_n hx hb dX9_back_60 rfl (lv_at hl 0 rfl) ?_
      refine cr_i (rv (As := []) (rest := []) ⟨hx, hb, hml, hown, hts⟩ (c_X9_size l D y a a_now a_undos a_seen a_isKept a_kept a_text a_read a_congruences a_terms 0 v_undoAt v_seenMany v_letterMany v_readAt v_tokenAt v_token v_faultAt v_readItems v_congruenceMany v_termMany v_rounds z26 _ (sat_bind h)) (cwV 0 hts gX9_back_X9_size rfl rfl rfl (by decide +kernel) ⟨Nat.le_of_ble_eq_true rfl, Nat.le_of_ble_eq_true rfl⟩) hK hP [0, 3] rfl 0 6 rfl rfl rfl rfl hl.1 rfl (Nat.le_of_ble_eq_true rfl) dX9_back_61 ⟨Nat.zero_le _, Nat.zero_le _⟩) (fun r6 h => ?_)
      have h := sat_some h
      exact W.iret (v := r6) hx hb hr (fun t ht hW => ⟨⟨r6, (0, z26), rfl, h, by rw [ht]; exact hP, va_K.moved hW.alike hK, hD⟩, hS.F ht⟩) hS.2.2 dX9_back_64
    · have h := sat_t c18 h
      refine lv_bipush (v := (-3)) hx hb dX9_back_21 (by decide) ?_
      have h := sat_some h
      exact W.iret (v := (-3)) hx hb hr (fun t ht hW => ⟨⟨(-3), (v_undoMany, v_now), rfl, h, by rw [ht]; exact hP, va_K.moved hW.alike hK, hD⟩, hS.F ht⟩) hS.2.2 dX9_back_23
  · have h := sat_t c6 h
    refine lv_bipush (v := (-2)) hx hb dX9_back_9 (by decide) ?_
    have h := sat_some h
    exact W.iret (v := (-2)) hx hb hr (fun t ht hW => ⟨⟨(-2), (v_undoMany, v_now), rfl, h, by rw [ht]; exact hP, va_K.moved hW.alike hK, hD⟩, hS.F ht⟩) hS.2.2 dX9_back_11

/-! X9_holding -/
set_option maxHeartbeats 4000000 in
set_option maxRecDepth 100000 in
theorem c_X9_holding (l : Launch) (D : va_G) (y : ClassId × ClassId × ClassId × ClassId) (a a_now a_undos a_seen a_isKept a_kept a_text a_read a_congruences a_terms : Nat) (v_undoMany : Int32) (v_undoAt : Int32) (v_seenMany : Int32) (v_letterMany : Int32) (v_readAt : Int32) (v_tokenAt : Int32) (v_token : Int32) (v_faultAt : Int32) (v_readItems : Int32) (v_congruenceMany : Int32) (v_termMany : Int32) (v_rounds : Int32) (v_now : Nat → Int32) (K : Int32 → Prop) (h : sat (m_X9_holding v_now) K) : Met l yX9_holding wsX9_holding ({ frames := 3, cells := 0, slots := 0, locals := 71 } : Room) (pR D y ([.ref a] : List Value) [(a, .inr (6, [.ref a_now, .int v_undoMany, .int v_undoAt, .ref a_undos, .int v_seenMany, .ref a_seen, .ref a_isKept, .ref a_kept, .int v_letterMany, .ref a_text, .int v_readAt, .int v_tokenAt, .int v_token, .int v_faultAt, .int v_readItems, .ref a_read, .int v_congruenceMany, .ref a_congruences, .int v_termMany, .int v_rounds, .ref a_terms])), (a_now, .inl (y.1, 21, .inl v_now))]) (qSi K) 0 0 (fun _ => False) := by
  refine Met.ofW (cc := cX9_holding) (maxL := 3) (ret := (some .int)) (by decide) rfl ?_
  intro p e s m args below meth c s₁ B hml hv
  obtain ⟨rfl, hP, hK⟩ := hv
  have hx := B.exec
  have hb := B.bytes
  have hr := B.returns
  have hts := atoms_spec (ws := wsX9_holding) B.pre
  have hown : s.vm.findClass RX9 = some m.cls := findClass_of_methodNamed B.named
  have hlocks := B.notSynchronized
  have hl := lv_entry ([.ref a] : List Value) (n := 3) (Nat.le_of_ble_eq_true rfl)
  rw [lg_entry_eq]
  generalize (lg_sl ([.ref a] : List Value) ++ List.replicate (3 - (lg_sl ([.ref a] : List Value)).length) Slot.unset).toArray = ls at hl ⊢
  have hl : lv_has ls 3 [(0, .ref a)] := hl
  unfold m_X9_holding at h
  refine lv_iconst (v := 0) hx hb dX9_holding_0 (by decide) ?_
  refine lv_istore_n (lv' := [(1, .int 0), (0, .ref a)]) hx hb dX9_holding_1 rfl hl (by decide) rfl (fun ls hl => ?_)
  refine lv_iconst (v := 0) hx hb dX9_holding_2 (by decide) ?_
  refine lv_istore_n (lv' := [(2, .int 0), (1, .int 0), (0, .ref a)]) hx hb dX9_holding_3 rfl hl (by decide) rfl (fun ls hl => ?_)
  have hL4 : ∀ (K4 : Int32 → Prop)
      (hE4 : ∀ (z4 : Int32) (ls : Array Slot), K4 z4 → lv_has ls 3 [(1, .int z4)] → W p l e (headSpec wsX9_holding ({ frames := 3, cells := 0, slots := 0, locals := 71 } : Room)).room s m ([.ref a] : List Value).toArray below meth c s.heap [] 0 0 (MQ below (qSi K) ([.ref a] : List Value).toArray s 0 0 (fun _ => False)) (F0 m 36 ls []))
      (n : Nat) (x1_4 : Int32) (x2_4 : Int32) (ls : Array Slot), sat (lp (fun q : (Int32 × Int32) => m_X9_holding_s4 v_now q.1 q.2) n (x1_4, x2_4)) K4 → lv_has ls 3 [(0, .ref a), (1, .int x1_4), (2, .int x2_4)] → W p l e (headSpec wsX9_holding ({ frames := 3, cells := 0, slots := 0, locals := 71 } : Room)).room s m ([.ref a] : List Value).toArray below meth c s.heap [] 0 0 (MQ below (qSi K) ([.ref a] : List Value).toArray s 0 0 (fun _ => False)) (F0 m 4 ls []) := by
    intro K4 hE4 n
    induction n with
    | zero => intro x1_4 x2_4 ls h; exact (sat_lp0 h).elim
    | succ n ih =>
      intro x1_4 x2_4 ls h hl
      have h := sat_lp h
      have h : sat (m_X9_holding_s4 v_now x1_4 x2_4) (lk (fun s' => sat (lp (fun q : (Int32 × Int32) => m_X9_holding_s4 v_now q.1 q.2) n s') K4) K4) := h
      unfold m_X9_holding_s4 at h
      refine lv_iload_n hx hb dX9_holding_4 rfl (lv_at hl 2 rfl) ?_
      refine lv_bipush (v := 7) hx hb dX9_holding_5 (by decide) ?_
      refine lv_icmp_ge (tgt := 36) hx hb dX9_holding_7 (by decide) (fun c7 => ?_) (fun c7 => ?_)
      · have h := sat_t c7 h
        have h := lk_r (sat_some h)
        exact hE4 x1_4 ls h (lv_sub hl [1] rfl)
      · have h := sat_f c7 h
        refine lv_iload_n hx hb dX9_holding_10 rfl (lv_at hl 1 rfl) ?_
        refine lv_aload_n hx hb dX9_holding_11 rfl (lv_at hl 0 rfl) ?_
        refine lv_iload_n hx hb dX9_holding_12 rfl (lv_at hl 2 rfl) ?_
        refine cr_i (rv (As := [.int x2_4]) (rest := [.int x1_4]) ⟨hx, hb, hml, hown, hts⟩ (c_X9_firstOf l D y a a_now a_undos a_seen a_isKept a_kept a_text a_read a_congruences a_terms v_undoMany v_undoAt v_seenMany v_letterMany v_readAt v_tokenAt v_token v_faultAt v_readItems v_congruenceMany v_termMany v_rounds v_now x2_4 _ (sat_bind h)) (cwV 1 hts gX9_holding_X9_firstOf rfl rfl rfl (by decide +kernel) ⟨Nat.le_of_ble_eq_true rfl, Nat.le_of_ble_eq_true rfl⟩) hK hP [0, 1] rfl 0 6 rfl rfl rfl rfl hl.1 rfl (Nat.le_of_ble_eq_true rfl) dX9_holding_13 ⟨Nat.zero_le _, Nat.zero_le _⟩) (fun r2 h => ?_)
        refine lv_bipush (v := (-9)) hx hb dX9_holding_16 (by decide) ?_
        refine lv_icmp_ne (tgt := 27) hx hb dX9_holding_18 (by decide) (fun c18 => ?_) (fun c18 => ?_)
        · have h := sat_f c18 h
          refine lv_iconst (v := 0) hx hb dX9_holding_27 (by decide) ?_
          refine lv_ior hx hb dX9_holding_28 ?_
          refine lv_istore_n (lv' := [(1, .int (x1_4 ||| 0)), (0, .ref a), (2, .int x2_4)]) hx hb dX9_holding_29 rfl hl (by decide) rfl (fun ls hl => ?_)
          refine lv_iinc (v := x2_4 + 1) (lv' := [(2, .int (x2_4 + 1)), (1, .int (x1_4 ||| 0)), (0, .ref a)]) hx hb dX9_holding_30 hl (k := 2) rfl rfl (by decide) rfl (fun ls hl => ?_)
          refine lv_goto (tgt := 4) hx hb dX9_holding_33 (by decide) ?_
          have h := lk_l (sat_some h)
          exact ih (x1_4 ||| 0) (x2_4 + 1) ls h (lv_sub hl [2, 1, 0] rfl)
        · have h := sat_t c18 h
          refine lv_iconst (v := 1) hx hb dX9_holding_21 (by decide) ?_
          refine lv_iload_n hx hb dX9_holding_22 rfl (lv_at hl 2 rfl) ?_
          refine lv_ishl hx hb dX9_holding_23 ?_
          refine lv_goto (tgt := 28) hx hb dX9_holding_24 (by decide) ?_
          refine lv_ior hx hb dX9_holding_28 ?_
          refine lv_istore_n (lv' := [(1, .int (x1_4 ||| (1 <<< (x2_4 &&& 31)))), (0, .ref a), (2, .int x2_4)]) hx hb dX9_holding_29 rfl hl (by decide) rfl (fun ls hl => ?_)
          refine lv_iinc (v := x2_4 + 1) (lv' := [(2, .int (x2_4 + 1)), (1, .int (x1_4 ||| (1 <<< (x2_4 &&& 31)))), (0, .ref a)]) hx hb dX9_holding_30 hl (k := 2) rfl rfl (by decide) rfl (fun ls hl => ?_)
          refine lv_goto (tgt := 4) hx hb dX9_holding_33 (by decide) ?_
          have h := lk_l (sat_some h)
          exact ih (x1_4 ||| (1 <<< (x2_4 &&& 31))) (x2_4 + 1) ls h (lv_sub hl [2, 1, 0] rfl)
  have h := sat_bind h
  refine hL4 _ (fun z4 ls h hl => ?_) 1000 0 0 ls h (lv_sub hl [2, 1, 0] rfl)
  refine lv_iload_n hx hb dX9_holding_36 rfl (lv_at hl 0 rfl) ?_
  have h := sat_some h
  exact W.iret (v := z4) hx hb hr (fun t ht _ => ⟨z4, rfl, h, ht⟩) (fun _ hq => by cases hq) dX9_holding_37

/-! X9_count -/
set_option maxHeartbeats 4000000 in
set_option maxRecDepth 100000 in
theorem c_X9_count (l : Launch) (D : va_G) (y : ClassId × ClassId × ClassId × ClassId) (a a_congruences a_now a_undos a_seen a_isKept a_kept a_text a_read a_terms : Nat) (v_undoMany : Int32) (v_undoAt : Int32) (v_seenMany : Int32) (v_letterMany : Int32) (v_readAt : Int32) (v_tokenAt : Int32) (v_token : Int32) (v_faultAt : Int32) (v_readItems : Int32) (v_congruenceMany : Int32) (v_termMany : Int32) (v_rounds : Int32) (v_congruences : Nat → Int32) (v_now : Nat → Int32) (x1 : Int32) (sz : Nat) (A : Nat → Prop) (hAe : va_A [(a, .inr (6, [.ref a_now, .int v_undoMany, .int v_undoAt, .ref a_undos, .int v_seenMany, .ref a_seen, .ref a_isKept, .ref a_kept, .int v_letterMany, .ref a_text, .int v_readAt, .int v_tokenAt, .int v_token, .int v_faultAt, .int v_readItems, .ref a_read, .int v_congruenceMany, .ref a_congruences, .int v_termMany, .int v_rounds, .ref a_terms])), (a_congruences, .inl (y.1, 16, .inl v_congruences)), (a_now, .inl (y.1, 21, .inl v_now))] sz = A) (K : Int32 → (Int32 × (Nat → Int32)) → Prop) (h : sat (m_X9_count v_undoMany v_seenMany v_letterMany v_congruenceMany v_congruences v_now x1) (pK K)) : Met l yX9_count wsX9_count ({ frames := 4, cells := 0, slots := 0, locals := 93 } : Room) (pW D y ([.ref a, .int x1] : List Value) [(a, .inr (6, [.ref a_now, .int v_undoMany, .int v_undoAt, .ref a_undos, .int v_seenMany, .ref a_seen, .ref a_isKept, .ref a_kept, .int v_letterMany, .ref a_text, .int v_readAt, .int v_tokenAt, .int v_token, .int v_faultAt, .int v_readItems, .ref a_read, .int v_congruenceMany, .ref a_congruences, .int v_termMany, .int v_rounds, .ref a_terms])), (a_congruences, .inl (y.1, 16, .inl v_congruences)), (a_now, .inl (y.1, 21, .inl v_now))] sz) (va_Qi K (bW D y A (fun u : (Int32 × (Nat → Int32)) => [(a, .inr (6, [.ref a_now, .int v_undoMany, .int v_undoAt, .ref a_undos, .int v_seenMany, .ref a_seen, .ref a_isKept, .ref a_kept, .int v_letterMany, .ref a_text, .int v_readAt, .int v_tokenAt, .int v_token, .int v_faultAt, .int v_readItems, .ref a_read, .int u.1, .ref a_congruences, .int v_termMany, .int v_rounds, .ref a_terms])), (a_congruences, .inl (y.1, 16, .inl u.2)), (a_now, .inl (y.1, 21, .inl v_now))])) A) 0 0 A := by
  refine Met.ofW (cc := cX9_count) (maxL := 2) (ret := (some .int)) (by decide) rfl ?_
  intro p e s m args below meth c s₁ B hml hv
  obtain ⟨rfl, hsz, hP, hK, hD0⟩ := hv
  have hx := B.exec
  have hb := B.bytes
  have hr := B.returns
  have hts := atoms_spec (ws := wsX9_count) B.pre
  have hown : s.vm.findClass RX9 = some m.cls := findClass_of_methodNamed B.named
  have hlocks := B.notSynchronized
  subst hsz
  have hD : va_D A [(a, .inr (6, [.ref a_now, .int v_undoMany, .int v_undoAt, .ref a_undos, .int v_seenMany, .ref a_seen, .ref a_isKept, .ref a_kept, .int v_letterMany, .ref a_text, .int v_readAt, .int v_tokenAt, .int v_token, .int v_faultAt, .int v_readItems, .ref a_read, .int v_congruenceMany, .ref a_congruences, .int v_termMany, .int v_rounds, .ref a_terms])), (a_congruences, .inl (y.1, 16, .inl v_congruences)), (a_now, .inl (y.1, 21, .inl v_now))] := hAe ▸ hD0.self
  have hA : ∀ q : Nat, s.heap.size ≤ q → A q := fun q h => hAe ▸ Or.inr h
  have hS : va_S A s.heap s.heap [] := va_S.rf
  have iX9 : ∀ w ∈ wsX90, w ∈ wsX9_count := by decide +kernel
  have fl145 := hts (.fieldLink RX9 145 "AlgebraLawsModel" "congruenceMany" "I") (by decide +kernel)
  have fl99 := hts (.fieldLink RX9 99 "AlgebraLawsModel" "seenMany" "I") (by decide +kernel)
  have fl51 := hts (.fieldLink RX9 51 "AlgebraLawsModel" "letterMany" "I") (by decide +kernel)
  have fl96 := hts (.fieldLink RX9 96 "AlgebraLawsModel" "undoMany" "I") (by decide +kernel)
  have hl := lv_entry ([.ref a, .int x1] : List Value) (n := 2) (Nat.le_of_ble_eq_true rfl)
  rw [lg_entry_eq]
  generalize (lg_sl ([.ref a, .int x1] : List Value) ++ List.replicate (2 - (lg_sl ([.ref a, .int x1] : List Value)).length) Slot.unset).toArray = ls at hl ⊢
  have hl : lv_has ls 2 [(0, .ref a), (1, .int x1)] := hl
  unfold m_X9_count at h
  refine lv_iload_n hx hb dX9_count_0 rfl (lv_at hl 1 rfl) ?_
  by_cases c1_0 : x1 = 0
  · have h := sat_t c1_0 h
    refine lv_tableIn (tgt := 52) (off := 51) hx hb dX9_count_1 (by rw [c1_0]; decide) (by rw [c1_0]; decide) (by rw [c1_0]; rfl) (by decide) ?_
    refine lv_aload_n hx hb dX9_count_52 rfl (lv_at hl 0 rfl) ?_
    refine cr_i (rv (As := []) (rest := []) ⟨hx, hb, hml, hown, hts⟩ (c_X9_size l D y a a_now a_undos a_seen a_isKept a_kept a_text a_read a_congruences a_terms v_undoMany v_undoAt v_seenMany v_letterMany v_readAt v_tokenAt v_token v_faultAt v_readItems v_congruenceMany v_termMany v_rounds v_now _ (sat_bind h)) (cwV 0 hts gX9_count_X9_size rfl rfl rfl (by decide +kernel) ⟨Nat.le_of_ble_eq_true rfl, Nat.le_of_ble_eq_true rfl⟩) hK hP [0, 2] rfl 0 6 rfl rfl rfl rfl hl.1 rfl (Nat.le_of_ble_eq_true rfl) dX9_count_53 ⟨Nat.zero_le _, Nat.zero_le _⟩) (fun r1 h => ?_)
    have h := sat_some h
    exact W.iret (v := r1) hx hb hr (fun t ht hW => ⟨⟨r1, (v_congruenceMany, v_congruences), rfl, h, by rw [ht]; exact hP, va_K.moved hW.alike hK, hD⟩, hS.F ht⟩) hS.2.2 dX9_count_56
  have h := sat_f c1_0 h
  by_cases c1_1 : x1 = 1
  · have h := sat_t c1_1 h
    refine lv_tableIn (tgt := 57) (off := 56) hx hb dX9_count_1 (by rw [c1_1]; decide) (by rw [c1_1]; decide) (by rw [c1_1]; rfl) (by decide) ?_
    refine lv_aload_n hx hb dX9_count_57 rfl (lv_at hl 0 rfl) ?_
    refine lv_iconst (v := (-1)) hx hb dX9_count_58 (by decide) ?_
    refine cr_i (rv (As := [.int (-1)]) (rest := []) ⟨hx, hb, hml, hown, hts⟩ (c_X9_closedOf l D y a a_now a_undos a_seen a_isKept a_kept a_text a_read a_congruences a_terms v_undoMany v_undoAt v_seenMany v_letterMany v_readAt v_tokenAt v_token v_faultAt v_readItems v_congruenceMany v_termMany v_rounds v_now (-1) _ (sat_bind h)) (cwV 1 hts gX9_count_X9_closedOf rfl rfl rfl (by decide +kernel) ⟨Nat.le_of_ble_eq_true rfl, Nat.le_of_ble_eq_true rfl⟩) hK hP [0, 2] rfl 0 6 rfl rfl rfl rfl hl.1 rfl (Nat.le_of_ble_eq_true rfl) dX9_count_59 ⟨Nat.zero_le _, Nat.zero_le _⟩) (fun r2 h => ?_)
    have h := sat_some h
    exact W.iret (v := r2) hx hb hr (fun t ht hW => ⟨⟨r2, (v_congruenceMany, v_congruences), rfl, h, by rw [ht]; exact hP, va_K.moved hW.alike hK, hD⟩, hS.F ht⟩) hS.2.2 dX9_count_62
  have h := sat_f c1_1 h
  by_cases c1_2 : x1 = 2
  · have h := sat_t c1_2 h
    refine lv_tableIn (tgt := 63) (off := 62) hx hb dX9_count_1 (by rw [c1_2]; decide) (by rw [c1_2]; decide) (by rw [c1_2]; rfl) (by decide) ?_
    refine lv_aload_n hx hb dX9_count_63 rfl (lv_at hl 0 rfl) ?_
    refine cw_v (wn := fun u3 => [(a, .inr (6, [.ref a_now, .int v_undoMany, .int v_undoAt, .ref a_undos, .int v_seenMany, .ref a_seen, .ref a_isKept, .ref a_kept, .int v_letterMany, .ref a_text, .int v_readAt, .int v_tokenAt, .int v_token, .int v_faultAt, .int v_readItems, .ref a_read, .int u3.1, .ref a_congruences, .int v_termMany, .int v_rounds, .ref a_terms])), (a_congruences, .inl (y.1, 16, .inl u3.2)), (a_now, .inl (y.1, 21, .inl v_now))]) (wr := []) (wv (As := []) (rest := []) ⟨hx, hb, hml, hown, hts⟩ (c_X9_layCongruences l D y a a_congruences a_now a_undos a_seen a_isKept a_kept a_text a_read a_terms v_undoMany v_undoAt v_seenMany v_letterMany v_readAt v_tokenAt v_token v_faultAt v_readItems v_congruenceMany v_termMany v_rounds v_congruences v_now _ _ rfl _ (sat_bind h)) (cwV 0 hts gX9_count_X9_layCongruences rfl rfl rfl (by decide +kernel) ⟨Nat.le_of_ble_eq_true rfl, Nat.le_of_ble_eq_true rfl⟩) hK hP hD [0, 1, 2] rfl rfl rfl 0 6 rfl rfl rfl rfl hl.1 rfl (Nat.le_of_ble_eq_true rfl) dX9_count_64 ⟨Nat.zero_le _, Nat.zero_le _⟩) hS hP hD hA [0, 1, 2] [] [0, 1, 2] rfl rfl rfl (by decide) (fun _ => rfl) rfl (fun _ => rfl) (fun u3 H locs h hP hD hS => ?_)
    refine lv_aload_n hx hb dX9_count_67 rfl (lv_at hl 0 rfl) ?_
    refine va_get (D := D) (ci := 6) (v := .int u3.1) (C := RX9) (T := TX9) (N := 21) hx hb hts iX9 hown hK hP 0 rfl rfl 16 (by decide) fl145 (fun _ h9 => h9) rfl dX9_count_68 ?_
    have h := sat_some h
    exact W.iret (v := u3.1) hx hb hr (fun t ht hW => ⟨⟨u3.1, (u3.1, u3.2), rfl, h, by rw [ht]; exact hP, va_K.moved hW.alike hK, hD⟩, hS.F ht⟩) hS.2.2 dX9_count_71
  have h := sat_f c1_2 h
  by_cases c1_3 : x1 = 3
  · have h := sat_t c1_3 h
    refine lv_tableIn (tgt := 72) (off := 71) hx hb dX9_count_1 (by rw [c1_3]; decide) (by rw [c1_3]; decide) (by rw [c1_3]; rfl) (by decide) ?_
    refine lv_aload_n hx hb dX9_count_72 rfl (lv_at hl 0 rfl) ?_
    refine cr_i (rv (As := []) (rest := []) ⟨hx, hb, hml, hown, hts⟩ (c_X9_holding l D y a a_now a_undos a_seen a_isKept a_kept a_text a_read a_congruences a_terms v_undoMany v_undoAt v_seenMany v_letterMany v_readAt v_tokenAt v_token v_faultAt v_readItems v_congruenceMany v_termMany v_rounds v_now _ (sat_bind h)) (cwV 0 hts gX9_count_X9_holding rfl rfl rfl (by decide +kernel) ⟨Nat.le_of_ble_eq_true rfl, Nat.le_of_ble_eq_true rfl⟩) hK hP [0, 2] rfl 0 6 rfl rfl rfl rfl hl.1 rfl (Nat.le_of_ble_eq_true rfl) dX9_count_73 ⟨Nat.zero_le _, Nat.zero_le _⟩) (fun r4 h => ?_)
    have h := sat_some h
    exact W.iret (v := r4) hx hb hr (fun t ht hW => ⟨⟨r4, (v_congruenceMany, v_congruences), rfl, h, by rw [ht]; exact hP, va_K.moved hW.alike hK, hD⟩, hS.F ht⟩) hS.2.2 dX9_count_76
  have h := sat_f c1_3 h
  by_cases c1_4 : x1 = 4
  · have h := sat_t c1_4 h
    refine lv_tableIn (tgt := 77) (off := 76) hx hb dX9_count_1 (by rw [c1_4]; decide) (by rw [c1_4]; decide) (by rw [c1_4]; rfl) (by decide) ?_
    refine lv_aload_n hx hb dX9_count_77 rfl (lv_at hl 0 rfl) ?_
    refine lv_iconst (v := 0) hx hb dX9_count_78 (by decide) ?_
    refine cr_i (rv (As := [.int 0]) (rest := []) ⟨hx, hb, hml, hown, hts⟩ (c_X9_maps l D y a a_now a_undos a_seen a_isKept a_kept a_text a_read a_congruences a_terms v_undoMany v_undoAt v_seenMany v_letterMany v_readAt v_tokenAt v_token v_faultAt v_readItems v_congruenceMany v_termMany v_rounds v_now 0 _ (sat_bind h)) (cwV 1 hts gX9_count_X9_maps rfl rfl rfl (by decide +kernel) ⟨Nat.le_of_ble_eq_true rfl, Nat.le_of_ble_eq_true rfl⟩) hK hP [0, 2] rfl 0 6 rfl rfl rfl rfl hl.1 rfl (Nat.le_of_ble_eq_true rfl) dX9_count_79 ⟨Nat.zero_le _, Nat.zero_le _⟩) (fun r5 h => ?_)
    have h := sat_some h
    exact W.iret (v := r5) hx hb hr (fun t ht hW => ⟨⟨r5, (v_congruenceMany, v_congruences), rfl, h, by rw [ht]; exact hP, va_K.moved hW.alike hK, hD⟩, hS.F ht⟩) hS.2.2 dX9_count_82
  have h := sat_f c1_4 h
  by_cases c1_5 : x1 = 5
  · have h := sat_t c1_5 h
    refine lv_tableIn (tgt := 83) (off := 82) hx hb dX9_count_1 (by rw [c1_5]; decide) (by rw [c1_5]; decide) (by rw [c1_5]; rfl) (by decide) ?_
    refine lv_aload_n hx hb dX9_count_83 rfl (lv_at hl 0 rfl) ?_
    refine lv_iconst (v := 1) hx hb dX9_count_84 (by decide) ?_
    refine cr_i (rv (As := [.int 1]) (rest := []) ⟨hx, hb, hml, hown, hts⟩ (c_X9_maps l D y a a_now a_undos a_seen a_isKept a_kept a_text a_read a_congruences a_terms v_undoMany v_undoAt v_seenMany v_letterMany v_readAt v_tokenAt v_token v_faultAt v_readItems v_congruenceMany v_termMany v_rounds v_now 1 _ (sat_bind h)) (cwV 1 hts gX9_count_X9_maps rfl rfl rfl (by decide +kernel) ⟨Nat.le_of_ble_eq_true rfl, Nat.le_of_ble_eq_true rfl⟩) hK hP [0, 2] rfl 0 6 rfl rfl rfl rfl hl.1 rfl (Nat.le_of_ble_eq_true rfl) dX9_count_85 ⟨Nat.zero_le _, Nat.zero_le _⟩) (fun r6 h => ?_)
    have h := sat_some h
    exact W.iret (v := r6) hx hb hr (fun t ht hW => ⟨⟨r6, (v_congruenceMany, v_congruences), rfl, h, by rw [ht]; exact hP, va_K.moved hW.alike hK, hD⟩, hS.F ht⟩) hS.2.2 dX9_count_88
  have h := sat_f c1_5 h
  by_cases c1_6 : x1 = 6
  · have h := sat_t c1_6 h
    refine lv_tableIn (tgt := 89) (off := 88) hx hb dX9_count_1 (by rw [c1_6]; decide) (by rw [c1_6]; decide) (by rw [c1_6]; rfl) (by decide) ?_
    refine lv_aload_n hx hb dX9_count_89 rfl (lv_at hl 0 rfl) ?_
    refine va_get (D := D) (ci := 6) (v := .int v_seenMany) (C := RX9) (T := TX9) (N := 21) hx hb hts iX9 hown hK hP 0 rfl rfl 4 (by decide) fl99 (fun _ h9 => h9) rfl dX9_count_90 ?_
    have h := sat_some h
    exact W.iret (v := v_seenMany) hx hb hr (fun t ht hW => ⟨⟨v_seenMany, (v_congruenceMany, v_congruences), rfl, h, by rw [ht]; exact hP, va_K.moved hW.alike hK, hD⟩, hS.F ht⟩) hS.2.2 dX9_count_93
  have h := sat_f c1_6 h
  by_cases c1_7 : x1 = 7
  · have h := sat_t c1_7 h
    refine lv_tableIn (tgt := 94) (off := 93) hx hb dX9_count_1 (by rw [c1_7]; decide) (by rw [c1_7]; decide) (by rw [c1_7]; rfl) (by decide) ?_
    refine lv_aload_n hx hb dX9_count_94 rfl (lv_at hl 0 rfl) ?_
    refine va_get (D := D) (ci := 6) (v := .int v_letterMany) (C := RX9) (T := TX9) (N := 21) hx hb hts iX9 hown hK hP 0 rfl rfl 8 (by decide) fl51 (fun _ h9 => h9) rfl dX9_count_95 ?_
    have h := sat_some h
    exact W.iret (v := v_letterMany) hx hb hr (fun t ht hW => ⟨⟨v_letterMany, (v_congruenceMany, v_congruences), rfl, h, by rw [ht]; exact hP, va_K.moved hW.alike hK, hD⟩, hS.F ht⟩) hS.2.2 dX9_count_98
  have h := sat_f c1_7 h
  by_cases c1_8 : x1 = 8
  · have h := sat_t c1_8 h
    refine lv_tableIn (tgt := 99) (off := 98) hx hb dX9_count_1 (by rw [c1_8]; decide) (by rw [c1_8]; decide) (by rw [c1_8]; rfl) (by decide) ?_
    refine lv_aload_n hx hb dX9_count_99 rfl (lv_at hl 0 rfl) ?_
    refine va_get (D := D) (ci := 6) (v := .int v_undoMany) (C := RX9) (T := TX9) (N := 21) hx hb hts iX9 hown hK hP 0 rfl rfl 1 (by decide) fl96 (fun _ h9 => h9) rfl dX9_count_100 ?_
    have h := sat_some h
    exact W.iret (v := v_undoMany) hx hb hr (fun t ht hW => ⟨⟨v_undoMany, (v_congruenceMany, v_congruences), rfl, h, by rw [ht]; exact hP, va_K.moved hW.alike hK, hD⟩, hS.F ht⟩) hS.2.2 dX9_count_103
  have h := sat_f c1_8 h
  have e1_0 : (x1).toInt ≠ 0 := fun q => c1_0 (Int32.toInt_inj.mp (q.trans rfl))
  have e1_1 : (x1).toInt ≠ 1 := fun q => c1_1 (Int32.toInt_inj.mp (q.trans rfl))
  have e1_2 : (x1).toInt ≠ 2 := fun q => c1_2 (Int32.toInt_inj.mp (q.trans rfl))
  have e1_3 : (x1).toInt ≠ 3 := fun q => c1_3 (Int32.toInt_inj.mp (q.trans rfl))
  have e1_4 : (x1).toInt ≠ 4 := fun q => c1_4 (Int32.toInt_inj.mp (q.trans rfl))
  have e1_5 : (x1).toInt ≠ 5 := fun q => c1_5 (Int32.toInt_inj.mp (q.trans rfl))
  have e1_6 : (x1).toInt ≠ 6 := fun q => c1_6 (Int32.toInt_inj.mp (q.trans rfl))
  have e1_7 : (x1).toInt ≠ 7 := fun q => c1_7 (Int32.toInt_inj.mp (q.trans rfl))
  have e1_8 : (x1).toInt ≠ 8 := fun q => c1_8 (Int32.toInt_inj.mp (q.trans rfl))
  refine lv_tableOut (tgt := 104) hx hb dX9_count_1 (by omega) (by decide) ?_
  refine lv_bipush (v := (-2)) hx hb dX9_count_104 (by decide) ?_
  have h := sat_some h
  exact W.iret (v := (-2)) hx hb hr (fun t ht hW => ⟨⟨(-2), (v_congruenceMany, v_congruences), rfl, h, by rw [ht]; exact hP, va_K.moved hW.alike hK, hD⟩, hS.F ht⟩) hS.2.2 dX9_count_106

/-! X8_type -/
set_option maxHeartbeats 4000000 in
set_option maxRecDepth 100000 in
theorem c_X8_type (l : Launch) (D : va_G) (y : ClassId × ClassId × ClassId × ClassId) (a a_text a_now a_trial a_reader a_history a_congruences a_terms a_seen a_images : Nat) (v_letters : Int32) (v_seenSoFar : Int32) (v_keptImages : Int32) (v_text : Nat → Int32) (x1 : Int32) (sz : Nat) (A : Nat → Prop) (hAe : va_A [(a, .inr (5, [.ref a_now, .ref a_trial, .ref a_reader, .ref a_history, .ref a_congruences, .ref a_terms, .ref a_text, .int v_letters, .ref a_seen, .int v_seenSoFar, .ref a_images, .int v_keptImages])), (a_text, .inl (y.1, 60, .inl v_text))] sz = A) (K : Int32 → (Int32 × (Nat → Int32)) → Prop) (h : sat (m_X8_type v_letters v_text x1) (pK K)) : Met l yX8_type wsX8_type ({ frames := 0, cells := 0, slots := 0, locals := 0 } : Room) (pW D y ([.ref a, .int x1] : List Value) [(a, .inr (5, [.ref a_now, .ref a_trial, .ref a_reader, .ref a_history, .ref a_congruences, .ref a_terms, .ref a_text, .int v_letters, .ref a_seen, .int v_seenSoFar, .ref a_images, .int v_keptImages])), (a_text, .inl (y.1, 60, .inl v_text))] sz) (va_Qi K (bW D y A (fun u : (Int32 × (Nat → Int32)) => [(a, .inr (5, [.ref a_now, .ref a_trial, .ref a_reader, .ref a_history, .ref a_congruences, .ref a_terms, .ref a_text, .int u.1, .ref a_seen, .int v_seenSoFar, .ref a_images, .int v_keptImages])), (a_text, .inl (y.1, 60, .inl u.2))])) A) 0 0 A := by
  refine Met.ofW (cc := cX8_type) (maxL := 2) (ret := (some .int)) (by decide) rfl ?_
  intro p e s m args below meth c s₁ B hml hv
  obtain ⟨rfl, hsz, hP, hK, hD0⟩ := hv
  have hx := B.exec
  have hb := B.bytes
  have hr := B.returns
  have hts := atoms_spec (ws := wsX8_type) B.pre
  have hown : s.vm.findClass RX8 = some m.cls := findClass_of_methodNamed B.named
  have hlocks := B.notSynchronized
  subst hsz
  have hD : va_D A [(a, .inr (5, [.ref a_now, .ref a_trial, .ref a_reader, .ref a_history, .ref a_congruences, .ref a_terms, .ref a_text, .int v_letters, .ref a_seen, .int v_seenSoFar, .ref a_images, .int v_keptImages])), (a_text, .inl (y.1, 60, .inl v_text))] := hAe ▸ hD0.self
  have hA : ∀ q : Nat, s.heap.size ≤ q → A q := fun q h => hAe ▸ Or.inr h
  have hS : va_S A s.heap s.heap [] := va_S.rf
  have iX8 : ∀ w ∈ wsX80, w ∈ wsX8_type := by decide +kernel
  have fl62 := hts (.fieldLink RX8 62 "AlgebraLaws" "letters" "I") (by decide +kernel)
  have fl47 := hts (.fieldLink RX8 47 "AlgebraLaws" "text" "[I") (by decide +kernel)
  have hl := lv_entry ([.ref a, .int x1] : List Value) (n := 2) (Nat.le_of_ble_eq_true rfl)
  rw [lg_entry_eq]
  generalize (lg_sl ([.ref a, .int x1] : List Value) ++ List.replicate (2 - (lg_sl ([.ref a, .int x1] : List Value)).length) Slot.unset).toArray = ls at hl ⊢
  have hl : lv_has ls 2 [(0, .ref a), (1, .int x1)] := hl
  unfold m_X8_type at h
  refine lv_iload_n hx hb dX8_type_0 rfl (lv_at hl 1 rfl) ?_
  refine lv_if_lt (tgt := 11) hx hb dX8_type_1 (by decide) (fun c1 => ?_) (fun c1 => ?_)
  · have h := sat_t c1 h
    refine lv_bipush (v := (-2)) hx hb dX8_type_11 (by decide) ?_
    have h := sat_some h
    exact W.iret (v := (-2)) hx hb hr (fun t ht hW => ⟨⟨(-2), (v_letters, v_text), rfl, h, by rw [ht]; exact hP, va_K.moved hW.alike hK, hD⟩, hS.F ht⟩) hS.2.2 dX8_type_13
  · have h := sat_f c1 h
    refine lv_iload_n hx hb dX8_type_4 rfl (lv_at hl 1 rfl) ?_
    refine lv_sipush (v := 255) hx hb dX8_type_5 (by decide) ?_
    refine lv_icmp_le (tgt := 14) hx hb dX8_type_8 (by decide) (fun c8 => ?_) (fun c8 => ?_)
    · have h := sat_t c8 h
      refine lv_aload_n hx hb dX8_type_14 rfl (lv_at hl 0 rfl) ?_
      refine va_get (D := D) (ci := 5) (v := .int v_letters) (C := RX8) (T := TX8) (N := 12) hx hb hts iX8 hown hK hP 0 rfl rfl 7 (by decide) fl62 (fun _ h9 => h9) rfl dX8_type_15 ?_
      refine lv_aload_n hx hb dX8_type_18 rfl (lv_at hl 0 rfl) ?_
      refine va_get (D := D) (ci := 5) (v := .ref a_text) (C := RX8) (T := TX8) (N := 12) hx hb hts iX8 hown hK hP 0 rfl rfl 6 (by decide) fl47 (fun _ h9 => h9) rfl dX8_type_19 ?_
      refine va_alen (v := 60) hx hb hK hP 1 0 rfl rfl rfl dX8_type_22 ?_
      refine lv_icmp_lt (tgt := 29) hx hb dX8_type_23 (by decide) (fun c23 => ?_) (fun c23 => ?_)
      · have h := sat_t c23 h
        refine lv_aload_n hx hb dX8_type_29 rfl (lv_at hl 0 rfl) ?_
        refine va_get (D := D) (ci := 5) (v := .ref a_text) (C := RX8) (T := TX8) (N := 12) hx hb hts iX8 hown hK hP 0 rfl rfl 6 (by decide) fl47 (fun _ h9 => h9) rfl dX8_type_30 ?_
        refine lv_aload_n hx hb dX8_type_33 rfl (lv_at hl 0 rfl) ?_
        refine va_get (D := D) (ci := 5) (v := .int v_letters) (C := RX8) (T := TX8) (N := 12) hx hb hts iX8 hown hK hP 0 rfl rfl 7 (by decide) fl62 (fun _ h9 => h9) rfl dX8_type_34 ?_
        refine lv_iload_n hx hb dX8_type_37 rfl (lv_at hl 1 rfl) ?_
        obtain ⟨f1, ef1, hin, h⟩ := sat_wrI h
        refine yi (wn := [(a, .inr (5, [.ref a_now, .ref a_trial, .ref a_reader, .ref a_history, .ref a_congruences, .ref a_terms, .ref a_text, .int v_letters, .ref a_seen, .int v_seenSoFar, .ref a_images, .int v_keptImages])), (a_text, .inl (y.1, 60, .inl f1))]) hx hb hK hP hD hS 1 0 rfl rfl ef1 hin dX8_type_38 rfl (fun H locs hP hD hS => ?_)
        refine lv_aload_n hx hb dX8_type_39 rfl (lv_at hl 0 rfl) ?_
        refine lv_dup hx hb dX8_type_40 rfl ?_
        refine va_get (D := D) (ci := 5) (v := .int v_letters) (C := RX8) (T := TX8) (N := 12) hx hb hts iX8 hown hK hP 0 rfl rfl 7 (by decide) fl62 (fun _ h9 => h9) rfl dX8_type_41 ?_
        refine lv_iconst (v := 1) hx hb dX8_type_44 (by decide) ?_
        refine lv_iadd hx hb dX8_type_45 ?_
        refine pf (D := D) (ci := 5) (v := .int (v_letters + 1)) (ty := .int) (C := RX8) (T := TX8) (N := 12) (wn := [(a, .inr (5, [.ref a_now, .ref a_trial, .ref a_reader, .ref a_history, .ref a_congruences, .ref a_terms, .ref a_text, .int (v_letters + 1), .ref a_seen, .int v_seenSoFar, .ref a_images, .int v_keptImages])), (a_text, .inl (y.1, 60, .inl f1))]) hx hb hts iX8 tyX8 tyX8_ok nmX8 hown hK hP hD hS 0 rfl rfl 7 (by decide) fl62 (fun _ h9 => h9) rfl (by decide +kernel) rfl rfl (Nat.le_of_ble_eq_true rfl) dX8_type_46 rfl (fun H locs hP hD hS => ?_)
        refine lv_aload_n hx hb dX8_type_49 rfl (lv_at hl 0 rfl) ?_
        refine va_get (D := D) (ci := 5) (v := .int (v_letters + 1)) (C := RX8) (T := TX8) (N := 12) hx hb hts iX8 hown hK hP 0 rfl rfl 7 (by decide) fl62 (fun _ h9 => h9) rfl dX8_type_50 ?_
        have h := sat_some h
        exact W.iret (v := v_letters + 1) hx hb hr (fun t ht hW => ⟨⟨v_letters + 1, (v_letters + 1, f1), rfl, h, by rw [ht]; exact hP, va_K.moved hW.alike hK, hD⟩, hS.F ht⟩) hS.2.2 dX8_type_53
      · have h := sat_f c23 h
        refine lv_bipush (v := (-4)) hx hb dX8_type_26 (by decide) ?_
        have h := sat_some h
        exact W.iret (v := (-4)) hx hb hr (fun t ht hW => ⟨⟨(-4), (v_letters, v_text), rfl, h, by rw [ht]; exact hP, va_K.moved hW.alike hK, hD⟩, hS.F ht⟩) hS.2.2 dX8_type_28
    · have h := sat_f c8 h
      refine lv_bipush (v := (-2)) hx hb dX8_type_11 (by decide) ?_
      have h := sat_some h
      exact W.iret (v := (-2)) hx hb hr (fun t ht hW => ⟨⟨(-2), (v_letters, v_text), rfl, h, by rw [ht]; exact hP, va_K.moved hW.alike hK, hD⟩, hS.F ht⟩) hS.2.2 dX8_type_13

/-! X8_clear -/
set_option maxHeartbeats 4000000 in
set_option maxRecDepth 100000 in
theorem c_X8_clear (l : Launch) (D : va_G) (y : ClassId × ClassId × ClassId × ClassId) (a a_now a_trial a_reader a_history a_congruences a_terms a_text a_seen a_images : Nat) (v_letters : Int32) (v_seenSoFar : Int32) (v_keptImages : Int32) (sz : Nat) (A : Nat → Prop) (hAe : va_A [(a, .inr (5, [.ref a_now, .ref a_trial, .ref a_reader, .ref a_history, .ref a_congruences, .ref a_terms, .ref a_text, .int v_letters, .ref a_seen, .int v_seenSoFar, .ref a_images, .int v_keptImages]))] sz = A) (K : Int32 → Int32 → Prop) (h : sat (m_X8_clear v_letters) (pK K)) : Met l yX8_clear wsX8_clear ({ frames := 0, cells := 0, slots := 0, locals := 0 } : Room) (pW D y ([.ref a] : List Value) [(a, .inr (5, [.ref a_now, .ref a_trial, .ref a_reader, .ref a_history, .ref a_congruences, .ref a_terms, .ref a_text, .int v_letters, .ref a_seen, .int v_seenSoFar, .ref a_images, .int v_keptImages]))] sz) (va_Qi K (bW D y A (fun u : Int32 => [(a, .inr (5, [.ref a_now, .ref a_trial, .ref a_reader, .ref a_history, .ref a_congruences, .ref a_terms, .ref a_text, .int u, .ref a_seen, .int v_seenSoFar, .ref a_images, .int v_keptImages]))])) A) 0 0 A := by
  refine Met.ofW (cc := cX8_clear) (maxL := 2) (ret := (some .int)) (by decide) rfl ?_
  intro p e s m args below meth c s₁ B hml hv
  obtain ⟨rfl, hsz, hP, hK, hD0⟩ := hv
  have hx := B.exec
  have hb := B.bytes
  have hr := B.returns
  have hts := atoms_spec (ws := wsX8_clear) B.pre
  have hown : s.vm.findClass RX8 = some m.cls := findClass_of_methodNamed B.named
  have hlocks := B.notSynchronized
  subst hsz
  have hD : va_D A [(a, .inr (5, [.ref a_now, .ref a_trial, .ref a_reader, .ref a_history, .ref a_congruences, .ref a_terms, .ref a_text, .int v_letters, .ref a_seen, .int v_seenSoFar, .ref a_images, .int v_keptImages]))] := hAe ▸ hD0.self
  have hA : ∀ q : Nat, s.heap.size ≤ q → A q := fun q h => hAe ▸ Or.inr h
  have hS : va_S A s.heap s.heap [] := va_S.rf
  have iX8 : ∀ w ∈ wsX80, w ∈ wsX8_clear := by decide +kernel
  have fl62 := hts (.fieldLink RX8 62 "AlgebraLaws" "letters" "I") (by decide +kernel)
  have hl := lv_entry ([.ref a] : List Value) (n := 2) (Nat.le_of_ble_eq_true rfl)
  rw [lg_entry_eq]
  generalize (lg_sl ([.ref a] : List Value) ++ List.replicate (2 - (lg_sl ([.ref a] : List Value)).length) Slot.unset).toArray = ls at hl ⊢
  have hl : lv_has ls 2 [(0, .ref a)] := hl
  unfold m_X8_clear at h
  refine lv_aload_n hx hb dX8_clear_0 rfl (lv_at hl 0 rfl) ?_
  refine va_get (D := D) (ci := 5) (v := .int v_letters) (C := RX8) (T := TX8) (N := 12) hx hb hts iX8 hown hK hP 0 rfl rfl 7 (by decide) fl62 (fun _ h9 => h9) rfl dX8_clear_1 ?_
  refine lv_istore_n (lv' := [(1, .int v_letters), (0, .ref a)]) hx hb dX8_clear_4 rfl hl (by decide) rfl (fun ls hl => ?_)
  refine lv_aload_n hx hb dX8_clear_5 rfl (lv_at hl 1 rfl) ?_
  refine lv_iconst (v := 0) hx hb dX8_clear_6 (by decide) ?_
  refine pf (D := D) (ci := 5) (v := .int 0) (ty := .int) (C := RX8) (T := TX8) (N := 12) (wn := [(a, .inr (5, [.ref a_now, .ref a_trial, .ref a_reader, .ref a_history, .ref a_congruences, .ref a_terms, .ref a_text, .int 0, .ref a_seen, .int v_seenSoFar, .ref a_images, .int v_keptImages]))]) hx hb hts iX8 tyX8 tyX8_ok nmX8 hown hK hP hD hS 0 rfl rfl 7 (by decide) fl62 (fun _ h9 => h9) rfl (by decide +kernel) rfl rfl (Nat.le_of_ble_eq_true rfl) dX8_clear_7 rfl (fun H locs hP hD hS => ?_)
  refine lv_iload_n hx hb dX8_clear_10 rfl (lv_at hl 0 rfl) ?_
  have h := sat_some h
  exact W.iret (v := v_letters) hx hb hr (fun t ht hW => ⟨⟨v_letters, 0, rfl, h, by rw [ht]; exact hP, va_K.moved hW.alike hK, hD⟩, hS.F ht⟩) hS.2.2 dX8_clear_11

/-! X8_tables -/
set_option maxHeartbeats 4000000 in
set_option maxRecDepth 100000 in
theorem c_X8_tables (l : Launch) (D : va_G) (y : ClassId × ClassId × ClassId × ClassId) (a a_history a_now a_reader a_text a_now_values a_reader_told a_reader_told_values a_trial a_congruences a_terms a_seen a_images a_history_places a_history_values : Nat) (v_letters : Int32) (v_seenSoFar : Int32) (v_keptImages : Int32) (v_history_known : Int32) (v_now_size : Int32) (v_reader_items : Int32) (v_reader_item : Int32) (v_reader_figures : Int32) (v_text : Nat → Int32) (v_now_values : Nat → Int32) (v_reader_told_size : Int32) (v_reader_told_values : Nat → Int32) (sz : Nat) (A : Nat → Prop) (hAe : va_A [(a, .inr (5, [.ref a_now, .ref a_trial, .ref a_reader, .ref a_history, .ref a_congruences, .ref a_terms, .ref a_text, .int v_letters, .ref a_seen, .int v_seenSoFar, .ref a_images, .int v_keptImages])), (a_history, .inr (1, [.int v_history_known, .ref a_history_places, .ref a_history_values])), (a_now, .inr (3, [.int v_now_size, .ref a_now_values])), (a_reader, .inr (2, [.ref a_reader_told, .int v_reader_items, .int v_reader_item, .int v_reader_figures])), (a_text, .inl (y.1, 60, .inl v_text)), (a_now_values, .inl (y.1, 20, .inl v_now_values)), (a_reader_told, .inr (3, [.int v_reader_told_size, .ref a_reader_told_values])), (a_reader_told_values, .inl (y.1, 20, .inl v_reader_told_values))] sz = A) (K : Int32 → (Int32 × Int32 × Int32 × Int32 × Int32 × Int32 × Int32 × Int32 × (Nat → Int32) × Int32 × (Nat → Int32)) → Prop) (h : sat (m_X8_tables v_letters v_seenSoFar v_keptImages v_history_known v_now_size v_reader_items v_reader_item v_reader_figures v_text v_now_values v_reader_told_size v_reader_told_values) (pK K)) : Met l yX8_tables wsX8_tables ({ frames := 6, cells := 0, slots := 0, locals := 131 } : Room) (pW D y ([.ref a] : List Value) [(a, .inr (5, [.ref a_now, .ref a_trial, .ref a_reader, .ref a_history, .ref a_congruences, .ref a_terms, .ref a_text, .int v_letters, .ref a_seen, .int v_seenSoFar, .ref a_images, .int v_keptImages])), (a_history, .inr (1, [.int v_history_known, .ref a_history_places, .ref a_history_values])), (a_now, .inr (3, [.int v_now_size, .ref a_now_values])), (a_reader, .inr (2, [.ref a_reader_told, .int v_reader_items, .int v_reader_item, .int v_reader_figures])), (a_text, .inl (y.1, 60, .inl v_text)), (a_now_values, .inl (y.1, 20, .inl v_now_values)), (a_reader_told, .inr (3, [.int v_reader_told_size, .ref a_reader_told_values])), (a_reader_told_values, .inl (y.1, 20, .inl v_reader_told_values))] sz) (va_Qi K (bW D y A (fun u : (Int32 × Int32 × Int32 × Int32 × Int32 × Int32 × Int32 × Int32 × (Nat → Int32) × Int32 × (Nat → Int32)) => [(a, .inr (5, [.ref a_now, .ref a_trial, .ref a_reader, .ref a_history, .ref a_congruences, .ref a_terms, .ref a_text, .int u.1, .ref a_seen, .int u.2.1, .ref a_images, .int u.2.2.1])), (a_history, .inr (1, [.int u.2.2.2.1, .ref a_history_places, .ref a_history_values])), (a_now, .inr (3, [.int u.2.2.2.2.1, .ref a_now_values])), (a_reader, .inr (2, [.ref a_reader_told, .int u.2.2.2.2.2.1, .int u.2.2.2.2.2.2.1, .int u.2.2.2.2.2.2.2.1])), (a_text, .inl (y.1, 60, .inl v_text)), (a_now_values, .inl (y.1, 20, .inl u.2.2.2.2.2.2.2.2.1)), (a_reader_told, .inr (3, [.int u.2.2.2.2.2.2.2.2.2.1, .ref a_reader_told_values])), (a_reader_told_values, .inl (y.1, 20, .inl u.2.2.2.2.2.2.2.2.2.2))])) A) 0 0 A := by
  refine Met.ofW (cc := cX8_tables) (maxL := 2) (ret := (some .int)) (by decide) rfl ?_
  intro p e s m args below meth c s₁ B hml hv
  obtain ⟨rfl, hsz, hP, hK, hD0⟩ := hv
  have hx := B.exec
  have hb := B.bytes
  have hr := B.returns
  have hts := atoms_spec (ws := wsX8_tables) B.pre
  have hown : s.vm.findClass RX8 = some m.cls := findClass_of_methodNamed B.named
  have hlocks := B.notSynchronized
  subst hsz
  have hD : va_D A [(a, .inr (5, [.ref a_now, .ref a_trial, .ref a_reader, .ref a_history, .ref a_congruences, .ref a_terms, .ref a_text, .int v_letters, .ref a_seen, .int v_seenSoFar, .ref a_images, .int v_keptImages])), (a_history, .inr (1, [.int v_history_known, .ref a_history_places, .ref a_history_values])), (a_now, .inr (3, [.int v_now_size, .ref a_now_values])), (a_reader, .inr (2, [.ref a_reader_told, .int v_reader_items, .int v_reader_item, .int v_reader_figures])), (a_text, .inl (y.1, 60, .inl v_text)), (a_now_values, .inl (y.1, 20, .inl v_now_values)), (a_reader_told, .inr (3, [.int v_reader_told_size, .ref a_reader_told_values])), (a_reader_told_values, .inl (y.1, 20, .inl v_reader_told_values))] := hAe ▸ hD0.self
  have hA : ∀ q : Nat, s.heap.size ≤ q → A q := fun q h => hAe ▸ Or.inr h
  have hS : va_S A s.heap s.heap [] := va_S.rf
  have iX5 : ∀ w ∈ wsX50, w ∈ wsX8_tables := by decide +kernel
  have iX8 : ∀ w ∈ wsX80, w ∈ wsX8_tables := by decide +kernel
  have fl22 := hts (.fieldLink RX8 22 "AlgebraLaws" "reader" "LAlgebraLaws$Reader;") (by decide +kernel)
  have fl47 := hts (.fieldLink RX8 47 "AlgebraLaws" "text" "[I") (by decide +kernel)
  have fl62 := hts (.fieldLink RX8 62 "AlgebraLaws" "letters" "I") (by decide +kernel)
  have fl10 := hts (.fieldLink RX8 10 "AlgebraLaws" "now" "LAlgebraLaws$Tables;") (by decide +kernel)
  have fl70 := hts (.fieldLink RX8 70 "AlgebraLaws$Reader" "told" "LAlgebraLaws$Tables;") (by decide +kernel)
  have fl29 := hts (.fieldLink RX8 29 "AlgebraLaws" "history" "LAlgebraLaws$History;") (by decide +kernel)
  have fl80 := hts (.fieldLink RX8 80 "AlgebraLaws" "seenSoFar" "I") (by decide +kernel)
  have fl83 := hts (.fieldLink RX8 83 "AlgebraLaws" "keptImages" "I") (by decide +kernel)
  have fl86 := hts (.fieldLink RX8 86 "AlgebraLaws$Reader" "items" "I") (by decide +kernel)
  have hl := lv_entry ([.ref a] : List Value) (n := 2) (Nat.le_of_ble_eq_true rfl)
  rw [lg_entry_eq]
  generalize (lg_sl ([.ref a] : List Value) ++ List.replicate (2 - (lg_sl ([.ref a] : List Value)).length) Slot.unset).toArray = ls at hl ⊢
  have hl : lv_has ls 2 [(0, .ref a)] := hl
  unfold m_X8_tables at h
  refine lv_aload_n hx hb dX8_tables_0 rfl (lv_at hl 0 rfl) ?_
  refine va_get (D := D) (ci := 5) (v := .ref a_reader) (C := RX8) (T := TX8) (N := 12) hx hb hts iX8 hown hK hP 0 rfl rfl 2 (by decide) fl22 (fun _ h9 => h9) rfl dX8_tables_1 ?_
  refine lv_aload_n hx hb dX8_tables_4 rfl (lv_at hl 0 rfl) ?_
  refine va_get (D := D) (ci := 5) (v := .ref a_text) (C := RX8) (T := TX8) (N := 12) hx hb hts iX8 hown hK hP 0 rfl rfl 6 (by decide) fl47 (fun _ h9 => h9) rfl dX8_tables_5 ?_
  refine lv_aload_n hx hb dX8_tables_8 rfl (lv_at hl 0 rfl) ?_
  refine va_get (D := D) (ci := 5) (v := .int v_letters) (C := RX8) (T := TX8) (N := 12) hx hb hts iX8 hown hK hP 0 rfl rfl 7 (by decide) fl62 (fun _ h9 => h9) rfl dX8_tables_9 ?_
  refine cw_i (wn := fun u1 => [(a, .inr (5, [.ref a_now, .ref a_trial, .ref a_reader, .ref a_history, .ref a_congruences, .ref a_terms, .ref a_text, .int v_letters, .ref a_seen, .int v_seenSoFar, .ref a_images, .int v_keptImages])), (a_history, .inr (1, [.int v_history_known, .ref a_history_places, .ref a_history_values])), (a_now, .inr (3, [.int v_now_size, .ref a_now_values])), (a_reader, .inr (2, [.ref a_reader_told, .int u1.1, .int u1.2.1, .int u1.2.2.1])), (a_text, .inl (y.1, 60, .inl v_text)), (a_now_values, .inl (y.1, 20, .inl v_now_values)), (a_reader_told, .inr (3, [.int u1.2.2.2.1, .ref a_reader_told_values])), (a_reader_told_values, .inl (y.1, 20, .inl u1.2.2.2.2))]) (wr := [(a, .inr (5, [.ref a_now, .ref a_trial, .ref a_reader, .ref a_history, .ref a_congruences, .ref a_terms, .ref a_text, .int v_letters, .ref a_seen, .int v_seenSoFar, .ref a_images, .int v_keptImages])), (a_history, .inr (1, [.int v_history_known, .ref a_history_places, .ref a_history_values])), (a_now, .inr (3, [.int v_now_size, .ref a_now_values])), (a_now_values, .inl (y.1, 20, .inl v_now_values))]) (wv (As := [.ref a_text, .int v_letters]) (rest := []) ⟨hx, hb, hml, hown, hts⟩ (c_X5_faultOf l D y a_reader a_reader_told a_reader_told_values a_text v_reader_items v_reader_item v_reader_figures v_reader_told_size v_reader_told_values v_text v_letters _ _ rfl _ (sat_bd2 h)) (cwV 2 hts gX8_tables_X5_faultOf rfl rfl rfl (by decide +kernel) ⟨Nat.le_of_ble_eq_true rfl, Nat.le_of_ble_eq_true rfl⟩) hK hP hD [3, 6, 7, 4] rfl rfl rfl 3 2 rfl rfl rfl rfl hl.1 rfl (Nat.le_of_ble_eq_true rfl) dX8_tables_12 ⟨Nat.zero_le _, Nat.zero_le _⟩) hS hP hD hA [3, 6, 7, 4] [0, 1, 2, 5] [0, 1, 2, 4, 7, 3, 5, 6] rfl rfl rfl (by decide) (fun _ => rfl) rfl (fun _ => rfl) (fun r2 u1 H locs h hP hD hS => ?_)
  refine lv_istore_n (lv' := [(1, .int r2), (0, .ref a)]) hx hb dX8_tables_15 rfl hl (by decide) rfl (fun ls hl => ?_)
  refine lv_iload_n hx hb dX8_tables_16 rfl (lv_at hl 0 rfl) ?_
  refine lv_iconst (v := (-1)) hx hb dX8_tables_17 (by decide) ?_
  refine lv_icmp_eq (tgt := 26) hx hb dX8_tables_18 (by decide) (fun c18 => ?_) (fun c18 => ?_)
  · have h := sat_t c18 h
    refine lv_aload_n hx hb dX8_tables_26 rfl (lv_at hl 1 rfl) ?_
    refine va_get (D := D) (ci := 5) (v := .ref a_now) (C := RX8) (T := TX8) (N := 12) hx hb hts iX8 hown hK hP 0 rfl rfl 0 (by decide) fl10 (fun _ h9 => h9) rfl dX8_tables_27 ?_
    refine lv_aload_n hx hb dX8_tables_30 rfl (lv_at hl 1 rfl) ?_
    refine va_get (D := D) (ci := 5) (v := .ref a_reader) (C := RX8) (T := TX8) (N := 12) hx hb hts iX8 hown hK hP 0 rfl rfl 2 (by decide) fl22 (fun _ h9 => h9) rfl dX8_tables_31 ?_
    refine va_get (D := D) (ci := 2) (v := .ref a_reader_told) (C := RX5) (T := TX5) (N := 4) hx hb hts iX5 hown hK hP 3 rfl rfl 0 (by decide) fl70 (fun _ h9 => h9) rfl dX8_tables_34 ?_
    refine cw_v (wn := fun u3 => [(a, .inr (5, [.ref a_now, .ref a_trial, .ref a_reader, .ref a_history, .ref a_congruences, .ref a_terms, .ref a_text, .int v_letters, .ref a_seen, .int v_seenSoFar, .ref a_images, .int v_keptImages])), (a_history, .inr (1, [.int v_history_known, .ref a_history_places, .ref a_history_values])), (a_now, .inr (3, [.int u3.1, .ref a_now_values])), (a_reader, .inr (2, [.ref a_reader_told, .int u1.1, .int u1.2.1, .int u1.2.2.1])), (a_text, .inl (y.1, 60, .inl v_text)), (a_now_values, .inl (y.1, 20, .inl u3.2)), (a_reader_told, .inr (3, [.int u1.2.2.2.1, .ref a_reader_told_values])), (a_reader_told_values, .inl (y.1, 20, .inl u1.2.2.2.2))]) (wr := [(a, .inr (5, [.ref a_now, .ref a_trial, .ref a_reader, .ref a_history, .ref a_congruences, .ref a_terms, .ref a_text, .int v_letters, .ref a_seen, .int v_seenSoFar, .ref a_images, .int v_keptImages])), (a_history, .inr (1, [.int v_history_known, .ref a_history_places, .ref a_history_values])), (a_reader, .inr (2, [.ref a_reader_told, .int u1.1, .int u1.2.1, .int u1.2.2.1])), (a_text, .inl (y.1, 60, .inl v_text))]) (wv (As := [.ref a_reader_told]) (rest := []) ⟨hx, hb, hml, hown, hts⟩ (c_X6_copyFrom l D y a_now a_now_values a_reader_told a_reader_told_values v_now_size v_now_values u1.2.2.2.1 u1.2.2.2.2 _ _ rfl _ (sat_bind h)) (cwV 1 hts gX8_tables_X6_copyFrom rfl rfl rfl (by decide +kernel) ⟨Nat.le_of_ble_eq_true rfl, Nat.le_of_ble_eq_true rfl⟩) hK hP hD [2, 5, 6, 7] rfl rfl rfl 2 3 rfl rfl rfl rfl hl.1 rfl (Nat.le_of_ble_eq_true rfl) dX8_tables_37 ⟨Nat.zero_le _, Nat.zero_le _⟩) hS hP hD hA [2, 5, 6, 7] [0, 1, 3, 4] [0, 1, 4, 2, 3, 5, 6, 7] rfl rfl rfl (by decide) (fun _ => rfl) rfl (fun _ => rfl) (fun u3 H locs h hP hD hS => ?_)
    refine lv_aload_n hx hb dX8_tables_40 rfl (lv_at hl 1 rfl) ?_
    refine lv_iconst (v := 0) hx hb dX8_tables_41 (by decide) ?_
    refine pf (D := D) (ci := 5) (v := .int 0) (ty := .int) (C := RX8) (T := TX8) (N := 12) (wn := [(a, .inr (5, [.ref a_now, .ref a_trial, .ref a_reader, .ref a_history, .ref a_congruences, .ref a_terms, .ref a_text, .int 0, .ref a_seen, .int v_seenSoFar, .ref a_images, .int v_keptImages])), (a_history, .inr (1, [.int v_history_known, .ref a_history_places, .ref a_history_values])), (a_now, .inr (3, [.int u3.1, .ref a_now_values])), (a_reader, .inr (2, [.ref a_reader_told, .int u1.1, .int u1.2.1, .int u1.2.2.1])), (a_text, .inl (y.1, 60, .inl v_text)), (a_now_values, .inl (y.1, 20, .inl u3.2)), (a_reader_told, .inr (3, [.int u1.2.2.2.1, .ref a_reader_told_values])), (a_reader_told_values, .inl (y.1, 20, .inl u1.2.2.2.2))]) hx hb hts iX8 tyX8 tyX8_ok nmX8 hown hK hP hD hS 0 rfl rfl 7 (by decide) fl62 (fun _ h9 => h9) rfl (by decide +kernel) rfl rfl (Nat.le_of_ble_eq_true rfl) dX8_tables_42 rfl (fun H locs hP hD hS => ?_)
    refine lv_aload_n hx hb dX8_tables_45 rfl (lv_at hl 1 rfl) ?_
    refine va_get (D := D) (ci := 5) (v := .ref a_history) (C := RX8) (T := TX8) (N := 12) hx hb hts iX8 hown hK hP 0 rfl rfl 3 (by decide) fl29 (fun _ h9 => h9) rfl dX8_tables_46 ?_
    refine cw_v (wn := fun u4 => [(a, .inr (5, [.ref a_now, .ref a_trial, .ref a_reader, .ref a_history, .ref a_congruences, .ref a_terms, .ref a_text, .int 0, .ref a_seen, .int v_seenSoFar, .ref a_images, .int v_keptImages])), (a_history, .inr (1, [.int u4, .ref a_history_places, .ref a_history_values])), (a_now, .inr (3, [.int u3.1, .ref a_now_values])), (a_reader, .inr (2, [.ref a_reader_told, .int u1.1, .int u1.2.1, .int u1.2.2.1])), (a_text, .inl (y.1, 60, .inl v_text)), (a_now_values, .inl (y.1, 20, .inl u3.2)), (a_reader_told, .inr (3, [.int u1.2.2.2.1, .ref a_reader_told_values])), (a_reader_told_values, .inl (y.1, 20, .inl u1.2.2.2.2))]) (wr := [(a, .inr (5, [.ref a_now, .ref a_trial, .ref a_reader, .ref a_history, .ref a_congruences, .ref a_terms, .ref a_text, .int 0, .ref a_seen, .int v_seenSoFar, .ref a_images, .int v_keptImages])), (a_now, .inr (3, [.int u3.1, .ref a_now_values])), (a_reader, .inr (2, [.ref a_reader_told, .int u1.1, .int u1.2.1, .int u1.2.2.1])), (a_text, .inl (y.1, 60, .inl v_text)), (a_now_values, .inl (y.1, 20, .inl u3.2)), (a_reader_told, .inr (3, [.int u1.2.2.2.1, .ref a_reader_told_values])), (a_reader_told_values, .inl (y.1, 20, .inl u1.2.2.2.2))]) (wv (As := []) (rest := []) ⟨hx, hb, hml, hown, hts⟩ (c_X2_loseAll l D y a_history a_history_places a_history_values v_history_known _ _ rfl _ (sat_bind h)) (cwV 0 hts gX8_tables_X2_loseAll rfl rfl rfl (by decide +kernel) ⟨Nat.le_of_ble_eq_true rfl, Nat.le_of_ble_eq_true rfl⟩) hK hP hD [1] rfl rfl rfl 1 1 rfl rfl rfl rfl hl.1 rfl (Nat.le_of_ble_eq_true rfl) dX8_tables_49 ⟨Nat.zero_le _, Nat.zero_le _⟩) hS hP hD hA [1] [0, 2, 3, 4, 5, 6, 7] [0, 7, 1, 2, 3, 4, 5, 6] rfl rfl rfl (by decide) (fun _ => rfl) rfl (fun _ => rfl) (fun u4 H locs h hP hD hS => ?_)
    refine lv_aload_n hx hb dX8_tables_52 rfl (lv_at hl 1 rfl) ?_
    refine lv_iconst (v := 0) hx hb dX8_tables_53 (by decide) ?_
    refine pf (D := D) (ci := 5) (v := .int 0) (ty := .int) (C := RX8) (T := TX8) (N := 12) (wn := [(a, .inr (5, [.ref a_now, .ref a_trial, .ref a_reader, .ref a_history, .ref a_congruences, .ref a_terms, .ref a_text, .int 0, .ref a_seen, .int 0, .ref a_images, .int v_keptImages])), (a_history, .inr (1, [.int u4, .ref a_history_places, .ref a_history_values])), (a_now, .inr (3, [.int u3.1, .ref a_now_values])), (a_reader, .inr (2, [.ref a_reader_told, .int u1.1, .int u1.2.1, .int u1.2.2.1])), (a_text, .inl (y.1, 60, .inl v_text)), (a_now_values, .inl (y.1, 20, .inl u3.2)), (a_reader_told, .inr (3, [.int u1.2.2.2.1, .ref a_reader_told_values])), (a_reader_told_values, .inl (y.1, 20, .inl u1.2.2.2.2))]) hx hb hts iX8 tyX8 tyX8_ok nmX8 hown hK hP hD hS 0 rfl rfl 9 (by decide) fl80 (fun _ h9 => h9) rfl (by decide +kernel) rfl rfl (Nat.le_of_ble_eq_true rfl) dX8_tables_54 rfl (fun H locs hP hD hS => ?_)
    refine lv_aload_n hx hb dX8_tables_57 rfl (lv_at hl 1 rfl) ?_
    refine lv_iconst (v := 0) hx hb dX8_tables_58 (by decide) ?_
    refine pf (D := D) (ci := 5) (v := .int 0) (ty := .int) (C := RX8) (T := TX8) (N := 12) (wn := [(a, .inr (5, [.ref a_now, .ref a_trial, .ref a_reader, .ref a_history, .ref a_congruences, .ref a_terms, .ref a_text, .int 0, .ref a_seen, .int 0, .ref a_images, .int 0])), (a_history, .inr (1, [.int u4, .ref a_history_places, .ref a_history_values])), (a_now, .inr (3, [.int u3.1, .ref a_now_values])), (a_reader, .inr (2, [.ref a_reader_told, .int u1.1, .int u1.2.1, .int u1.2.2.1])), (a_text, .inl (y.1, 60, .inl v_text)), (a_now_values, .inl (y.1, 20, .inl u3.2)), (a_reader_told, .inr (3, [.int u1.2.2.2.1, .ref a_reader_told_values])), (a_reader_told_values, .inl (y.1, 20, .inl u1.2.2.2.2))]) hx hb hts iX8 tyX8 tyX8_ok nmX8 hown hK hP hD hS 0 rfl rfl 11 (by decide) fl83 (fun _ h9 => h9) rfl (by decide +kernel) rfl rfl (Nat.le_of_ble_eq_true rfl) dX8_tables_59 rfl (fun H locs hP hD hS => ?_)
    refine lv_aload_n hx hb dX8_tables_62 rfl (lv_at hl 1 rfl) ?_
    refine va_get (D := D) (ci := 5) (v := .ref a_reader) (C := RX8) (T := TX8) (N := 12) hx hb hts iX8 hown hK hP 0 rfl rfl 2 (by decide) fl22 (fun _ h9 => h9) rfl dX8_tables_63 ?_
    refine va_get (D := D) (ci := 2) (v := .int u1.1) (C := RX5) (T := TX5) (N := 4) hx hb hts iX5 hown hK hP 3 rfl rfl 1 (by decide) fl86 (fun _ h9 => h9) rfl dX8_tables_66 ?_
    have h := sat_some h
    exact W.iret (v := u1.1) hx hb hr (fun t ht hW => ⟨⟨u1.1, (0, 0, 0, u4, u3.1, u1.1, u1.2.1, u1.2.2.1, u3.2, u1.2.2.2.1, u1.2.2.2.2), rfl, h, by rw [ht]; exact hP, va_K.moved hW.alike hK, hD⟩, hS.F ht⟩) hS.2.2 dX8_tables_69
  · have h := sat_f c18 h
    refine lv_bipush (v := (-10)) hx hb dX8_tables_21 (by decide) ?_
    refine lv_iload_n hx hb dX8_tables_23 rfl (lv_at hl 0 rfl) ?_
    refine lv_isub hx hb dX8_tables_24 ?_
    have h := sat_some h
    exact W.iret (v := (-10) - r2) hx hb hr (fun t ht hW => ⟨⟨(-10) - r2, (v_letters, v_seenSoFar, v_keptImages, v_history_known, v_now_size, u1.1, u1.2.1, u1.2.2.1, v_now_values, u1.2.2.2.1, u1.2.2.2.2), rfl, h, by rw [ht]; exact hP, va_K.moved hW.alike hK, hD⟩, hS.F ht⟩) hS.2.2 dX8_tables_25

/-! X8_f -/
set_option maxHeartbeats 4000000 in
set_option maxRecDepth 100000 in
theorem c_X8_f (l : Launch) (D : va_G) (y : ClassId × ClassId × ClassId × ClassId) (a a_now a_now_values a_trial a_reader a_history a_congruences a_terms a_text a_seen a_images : Nat) (v_letters : Int32) (v_seenSoFar : Int32) (v_keptImages : Int32) (v_now_size : Int32) (v_now_values : Nat → Int32) (x1 : Int32) (x2 : Int32) (K : Int32 → Prop) (h : sat (m_X8_f v_now_size v_now_values x1 x2) K) : Met l yX8_f wsX8_f ({ frames := 2, cells := 0, slots := 0, locals := 43 } : Room) (pR D y ([.ref a, .int x1, .int x2] : List Value) [(a, .inr (5, [.ref a_now, .ref a_trial, .ref a_reader, .ref a_history, .ref a_congruences, .ref a_terms, .ref a_text, .int v_letters, .ref a_seen, .int v_seenSoFar, .ref a_images, .int v_keptImages])), (a_now, .inr (3, [.int v_now_size, .ref a_now_values])), (a_now_values, .inl (y.1, 20, .inl v_now_values))]) (qSi K) 0 0 (fun _ => False) := by
  refine Met.ofW (cc := cX8_f) (maxL := 3) (ret := (some .int)) (by decide) rfl ?_
  intro p e s m args below meth c s₁ B hml hv
  obtain ⟨rfl, hP, hK⟩ := hv
  have hx := B.exec
  have hb := B.bytes
  have hr := B.returns
  have hts := atoms_spec (ws := wsX8_f) B.pre
  have hown : s.vm.findClass RX8 = some m.cls := findClass_of_methodNamed B.named
  have hlocks := B.notSynchronized
  have iX8 : ∀ w ∈ wsX80, w ∈ wsX8_f := by decide +kernel
  have fl10 := hts (.fieldLink RX8 10 "AlgebraLaws" "now" "LAlgebraLaws$Tables;") (by decide +kernel)
  have hl := lv_entry ([.ref a, .int x1, .int x2] : List Value) (n := 3) (Nat.le_of_ble_eq_true rfl)
  rw [lg_entry_eq]
  generalize (lg_sl ([.ref a, .int x1, .int x2] : List Value) ++ List.replicate (3 - (lg_sl ([.ref a, .int x1, .int x2] : List Value)).length) Slot.unset).toArray = ls at hl ⊢
  have hl : lv_has ls 3 [(0, .ref a), (1, .int x1), (2, .int x2)] := hl
  unfold m_X8_f at h
  refine lv_aload_n hx hb dX8_f_0 rfl (lv_at hl 0 rfl) ?_
  refine va_get (D := D) (ci := 5) (v := .ref a_now) (C := RX8) (T := TX8) (N := 12) hx hb hts iX8 hown hK hP 0 rfl rfl 0 (by decide) fl10 (fun _ h9 => h9) rfl dX8_f_1 ?_
  refine lv_iload_n hx hb dX8_f_4 rfl (lv_at hl 1 rfl) ?_
  refine cr_i (rv (As := [.int x1]) (rest := []) ⟨hx, hb, hml, hown, hts⟩ (c_X6_has l D y a_now a_now_values v_now_size x1 _ (sat_bind h)) (cwV 1 hts gX8_f_X6_has rfl rfl rfl (by decide +kernel) ⟨Nat.le_of_ble_eq_true rfl, Nat.le_of_ble_eq_true rfl⟩) hK hP [1] rfl 1 3 rfl rfl rfl rfl hl.1 rfl (Nat.le_of_ble_eq_true rfl) dX8_f_5 ⟨Nat.zero_le _, Nat.zero_le _⟩) (fun r1 h => ?_)
  refine lv_if_eq (tgt := 34) hx hb dX8_f_8 (by decide) (fun c8 => ?_) (fun c8 => ?_)
  · have h := sat_t c8 h
    refine lv_bipush (v := (-2)) hx hb dX8_f_34 (by decide) ?_
    have h := sat_some h
    exact W.iret (v := (-2)) hx hb hr (fun t ht _ => ⟨(-2), rfl, h, ht⟩) (fun _ hq => by cases hq) dX8_f_36
  · have h := sat_f c8 h
    refine lv_aload_n hx hb dX8_f_11 rfl (lv_at hl 0 rfl) ?_
    refine va_get (D := D) (ci := 5) (v := .ref a_now) (C := RX8) (T := TX8) (N := 12) hx hb hts iX8 hown hK hP 0 rfl rfl 0 (by decide) fl10 (fun _ h9 => h9) rfl dX8_f_12 ?_
    refine lv_iload_n hx hb dX8_f_15 rfl (lv_at hl 2 rfl) ?_
    refine cr_i (rv (As := [.int x2]) (rest := []) ⟨hx, hb, hml, hown, hts⟩ (c_X6_has l D y a_now a_now_values v_now_size x2 _ (sat_bind h)) (cwV 1 hts gX8_f_X6_has rfl rfl rfl (by decide +kernel) ⟨Nat.le_of_ble_eq_true rfl, Nat.le_of_ble_eq_true rfl⟩) hK hP [1] rfl 1 3 rfl rfl rfl rfl hl.1 rfl (Nat.le_of_ble_eq_true rfl) dX8_f_16 ⟨Nat.zero_le _, Nat.zero_le _⟩) (fun r2 h => ?_)
    refine lv_if_eq (tgt := 34) hx hb dX8_f_19 (by decide) (fun c19 => ?_) (fun c19 => ?_)
    · have h := sat_t c19 h
      refine lv_bipush (v := (-2)) hx hb dX8_f_34 (by decide) ?_
      have h := sat_some h
      exact W.iret (v := (-2)) hx hb hr (fun t ht _ => ⟨(-2), rfl, h, ht⟩) (fun _ hq => by cases hq) dX8_f_36
    · have h := sat_f c19 h
      refine lv_aload_n hx hb dX8_f_22 rfl (lv_at hl 0 rfl) ?_
      refine va_get (D := D) (ci := 5) (v := .ref a_now) (C := RX8) (T := TX8) (N := 12) hx hb hts iX8 hown hK hP 0 rfl rfl 0 (by decide) fl10 (fun _ h9 => h9) rfl dX8_f_23 ?_
      refine lv_iload_n hx hb dX8_f_26 rfl (lv_at hl 1 rfl) ?_
      refine lv_iload_n hx hb dX8_f_27 rfl (lv_at hl 2 rfl) ?_
      refine cr_i (rv (As := [.int x1, .int x2]) (rest := []) ⟨hx, hb, hml, hown, hts⟩ (c_X6_two l D y a_now a_now_values v_now_size v_now_values x1 x2 _ (sat_bind h)) (cwV 2 hts gX8_f_X6_two rfl rfl rfl (by decide +kernel) ⟨Nat.le_of_ble_eq_true rfl, Nat.le_of_ble_eq_true rfl⟩) hK hP [1, 2] rfl 1 3 rfl rfl rfl rfl hl.1 rfl (Nat.le_of_ble_eq_true rfl) dX8_f_28 ⟨Nat.zero_le _, Nat.zero_le _⟩) (fun r3 h => ?_)
      refine lv_goto (tgt := 36) hx hb dX8_f_31 (by decide) ?_
      have h := sat_some h
      exact W.iret (v := r3) hx hb hr (fun t ht _ => ⟨r3, rfl, h, ht⟩) (fun _ hq => by cases hq) dX8_f_36

/-! X8_g -/
set_option maxHeartbeats 4000000 in
set_option maxRecDepth 100000 in
theorem c_X8_g (l : Launch) (D : va_G) (y : ClassId × ClassId × ClassId × ClassId) (a a_now a_now_values a_trial a_reader a_history a_congruences a_terms a_text a_seen a_images : Nat) (v_letters : Int32) (v_seenSoFar : Int32) (v_keptImages : Int32) (v_now_size : Int32) (v_now_values : Nat → Int32) (x1 : Int32) (K : Int32 → Prop) (h : sat (m_X8_g v_now_size v_now_values x1) K) : Met l yX8_g wsX8_g ({ frames := 2, cells := 0, slots := 0, locals := 41 } : Room) (pR D y ([.ref a, .int x1] : List Value) [(a, .inr (5, [.ref a_now, .ref a_trial, .ref a_reader, .ref a_history, .ref a_congruences, .ref a_terms, .ref a_text, .int v_letters, .ref a_seen, .int v_seenSoFar, .ref a_images, .int v_keptImages])), (a_now, .inr (3, [.int v_now_size, .ref a_now_values])), (a_now_values, .inl (y.1, 20, .inl v_now_values))]) (qSi K) 0 0 (fun _ => False) := by
  refine Met.ofW (cc := cX8_g) (maxL := 2) (ret := (some .int)) (by decide) rfl ?_
  intro p e s m args below meth c s₁ B hml hv
  obtain ⟨rfl, hP, hK⟩ := hv
  have hx := B.exec
  have hb := B.bytes
  have hr := B.returns
  have hts := atoms_spec (ws := wsX8_g) B.pre
  have hown : s.vm.findClass RX8 = some m.cls := findClass_of_methodNamed B.named
  have hlocks := B.notSynchronized
  have iX8 : ∀ w ∈ wsX80, w ∈ wsX8_g := by decide +kernel
  have fl10 := hts (.fieldLink RX8 10 "AlgebraLaws" "now" "LAlgebraLaws$Tables;") (by decide +kernel)
  have hl := lv_entry ([.ref a, .int x1] : List Value) (n := 2) (Nat.le_of_ble_eq_true rfl)
  rw [lg_entry_eq]
  generalize (lg_sl ([.ref a, .int x1] : List Value) ++ List.replicate (2 - (lg_sl ([.ref a, .int x1] : List Value)).length) Slot.unset).toArray = ls at hl ⊢
  have hl : lv_has ls 2 [(0, .ref a), (1, .int x1)] := hl
  unfold m_X8_g at h
  refine lv_aload_n hx hb dX8_g_0 rfl (lv_at hl 0 rfl) ?_
  refine va_get (D := D) (ci := 5) (v := .ref a_now) (C := RX8) (T := TX8) (N := 12) hx hb hts iX8 hown hK hP 0 rfl rfl 0 (by decide) fl10 (fun _ h9 => h9) rfl dX8_g_1 ?_
  refine lv_iload_n hx hb dX8_g_4 rfl (lv_at hl 1 rfl) ?_
  refine cr_i (rv (As := [.int x1]) (rest := []) ⟨hx, hb, hml, hown, hts⟩ (c_X6_has l D y a_now a_now_values v_now_size x1 _ (sat_bind h)) (cwV 1 hts gX8_g_X6_has rfl rfl rfl (by decide +kernel) ⟨Nat.le_of_ble_eq_true rfl, Nat.le_of_ble_eq_true rfl⟩) hK hP [1] rfl 1 3 rfl rfl rfl rfl hl.1 rfl (Nat.le_of_ble_eq_true rfl) dX8_g_5 ⟨Nat.zero_le _, Nat.zero_le _⟩) (fun r1 h => ?_)
  refine lv_if_eq (tgt := 22) hx hb dX8_g_8 (by decide) (fun c8 => ?_) (fun c8 => ?_)
  · have h := sat_t c8 h
    refine lv_bipush (v := (-2)) hx hb dX8_g_22 (by decide) ?_
    have h := sat_some h
    exact W.iret (v := (-2)) hx hb hr (fun t ht _ => ⟨(-2), rfl, h, ht⟩) (fun _ hq => by cases hq) dX8_g_24
  · have h := sat_f c8 h
    refine lv_aload_n hx hb dX8_g_11 rfl (lv_at hl 0 rfl) ?_
    refine va_get (D := D) (ci := 5) (v := .ref a_now) (C := RX8) (T := TX8) (N := 12) hx hb hts iX8 hown hK hP 0 rfl rfl 0 (by decide) fl10 (fun _ h9 => h9) rfl dX8_g_12 ?_
    refine lv_iload_n hx hb dX8_g_15 rfl (lv_at hl 1 rfl) ?_
    refine cr_i (rv (As := [.int x1]) (rest := []) ⟨hx, hb, hml, hown, hts⟩ (c_X6_one l D y a_now a_now_values v_now_size v_now_values x1 _ (sat_bind h)) (cwV 1 hts gX8_g_X6_one rfl rfl rfl (by decide +kernel) ⟨Nat.le_of_ble_eq_true rfl, Nat.le_of_ble_eq_true rfl⟩) hK hP [1, 2] rfl 1 3 rfl rfl rfl rfl hl.1 rfl (Nat.le_of_ble_eq_true rfl) dX8_g_16 ⟨Nat.zero_le _, Nat.zero_le _⟩) (fun r2 h => ?_)
    refine lv_goto (tgt := 24) hx hb dX8_g_19 (by decide) ?_
    have h := sat_some h
    exact W.iret (v := r2) hx hb hr (fun t ht _ => ⟨r2, rfl, h, ht⟩) (fun _ hq => by cases hq) dX8_g_24
