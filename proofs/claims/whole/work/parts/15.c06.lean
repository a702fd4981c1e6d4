/-! X9_begins -/
set_option maxHeartbeats 4000000 in
set_option maxRecDepth 100000 in
theorem c_X9_begins (l : Launch) (D : va_G) (y : ClassId × ClassId × ClassId × ClassId) (a : Nat) (v : Nat → Int32) (x1 : Int32) (sz : Nat) (A : Nat → Prop) (hAe : va_A [(a, .inl (y.1, 21, .inl v))] sz = A) (K : ((Nat → Int32)) → Prop) (h : sat (m_X9_begins v x1) K) : Met l yX9_begins wsX9_begins ({ frames := 0, cells := 0, slots := 0, locals := 0 } : Room) (pW D y ([.ref a, .int x1] : List Value) [(a, .inl (y.1, 21, .inl v))] sz) (va_Qv K (bW D y A (fun u : ((Nat → Int32)) => [(a, .inl (y.1, 21, .inl u))])) A) 0 0 A := by
  refine Met.ofW (cc := cX9_begins) (maxL := 4) (ret := none) (by decide) rfl ?_
  intro p e s m args below meth c s₁ B hml hv
  obtain ⟨rfl, hsz, hP, hK, hD0⟩ := hv
  have hx := B.exec
  have hb := B.bytes
  have hr := B.returns
  have hts := atoms_spec (ws := wsX9_begins) B.pre
  have hown : s.vm.findClass RX9 = some m.cls := findClass_of_methodNamed B.named
  have hlocks := B.notSynchronized
  subst hsz
  have hD : va_D A [(a, .inl (y.1, 21, .inl v))] := hAe ▸ hD0.self
  have hA : ∀ q : Nat, s.heap.size ≤ q → A q := fun q h => hAe ▸ Or.inr h
  have hS : va_S A s.heap s.heap [] := va_S.rf
  have hl := lv_entry ([.ref a, .int x1] : List Value) (n := 4) (Nat.le_of_ble_eq_true rfl)
  rw [lg_entry_eq]
  generalize (lg_sl ([.ref a, .int x1] : List Value) ++ List.replicate (4 - (lg_sl ([.ref a, .int x1] : List Value)).length) Slot.unset).toArray = ls at hl ⊢
  have hl : lv_has ls 4 [(0, .ref a), (1, .int x1)] := hl
  unfold m_X9_begins at h
  refine lv_iconst (v := 0) hx hb dX9_begins_0 (by decide) ?_
  refine lv_istore_n (lv' := [(2, .int 0), (0, .ref a), (1, .int x1)]) hx hb dX9_begins_1 rfl hl (by decide) rfl (fun ls hl => ?_)
  have hL2 : ∀ (K2 : ((Nat → Int32)) → Prop)
      (hE2 : ∀ (z2 : ((Nat → Int32))) (ls : Array Slot) (H : Heap) (locs : List Loc), K2 z2 → lv_has ls 4 [(0, .ref a), (1, .int x1)] → va_P D vwCl [(a, .inl (y.1, 21, .inl z2))] H → va_D A [(a, .inl (y.1, 21, .inl z2))] → va_S A s.heap H locs → W p l e (headSpec wsX9_begins ({ frames := 0, cells := 0, slots := 0, locals := 0 } : Room)).room s m ([.ref a, .int x1] : List Value).toArray below meth c H locs 0 0 (MQ below (va_Qv K (bW D y A (fun u : ((Nat → Int32)) => [(a, .inl (y.1, 21, .inl u))])) A) ([.ref a, .int x1] : List Value).toArray s 0 0 A) (F0 m 41 ls []))
      (n : Nat) (x2_2 : Int32) (v_2 : Nat → Int32) (ls : Array Slot) (H : Heap) (locs : List Loc), sat (lp (fun q : (Int32 × (Nat → Int32)) => m_X9_begins_s2  q.1 q.2) n (x2_2, v_2)) K2 → lv_has ls 4 [(0, .ref a), (1, .int x1), (2, .int x2_2)] → va_P D vwCl [(a, .inl (y.1, 21, .inl v_2))] H → va_D A [(a, .inl (y.1, 21, .inl v_2))] → va_S A s.heap H locs → W p l e (headSpec wsX9_begins ({ frames := 0, cells := 0, slots := 0, locals := 0 } : Room)).room s m ([.ref a, .int x1] : List Value).toArray below meth c H locs 0 0 (MQ below (va_Qv K (bW D y A (fun u : ((Nat → Int32)) => [(a, .inl (y.1, 21, .inl u))])) A) ([.ref a, .int x1] : List Value).toArray s 0 0 A) (F0 m 2 ls []) := by
    intro K2 hE2 n
    induction n with
    | zero => intro x2_2 v_2 ls H locs h; exact (sat_lp0 h).elim
    | succ n ih =>
      intro x2_2 v_2 ls H locs h hl hP hD hS
      have h := sat_lp h
      have h : sat (m_X9_begins_s2  x2_2 v_2) (lk (fun s' => sat (lp (fun q : (Int32 × (Nat → Int32)) => m_X9_begins_s2  q.1 q.2) n s') K2) K2) := h
      unfold m_X9_begins_s2 at h
      refine lv_iload_n hx hb dX9_begins_2 rfl (lv_at hl 2 rfl) ?_
      refine lv_iconst (v := 4) hx hb dX9_begins_3 (by decide) ?_
      refine lv_icmp_ge (tgt := 41) hx hb dX9_begins_4 (by decide) (fun c4 => ?_) (fun c4 => ?_)
      · have h := sat_t c4 h
        have h := lk_r (sat_some h)
        exact hE2 v_2 ls H locs h (lv_sub hl [0, 1] rfl) hP hD hS
      · have h := sat_f c4 h
        refine lv_iconst (v := 0) hx hb dX9_begins_7 (by decide) ?_
        refine lv_istore_n (lv' := [(3, .int 0), (0, .ref a), (1, .int x1), (2, .int x2_2)]) hx hb dX9_begins_8 rfl hl (by decide) rfl (fun ls hl => ?_)
        have hL9 : ∀ (K9 : ((Nat → Int32)) → Prop)
            (hE9 : ∀ (z9 : ((Nat → Int32))) (ls : Array Slot) (H : Heap) (locs : List Loc), K9 z9 → lv_has ls 4 [(0, .ref a), (1, .int x1), (2, .int x2_2)] → va_P D vwCl [(a, .inl (y.1, 21, .inl z9))] H → va_D A [(a, .inl (y.1, 21, .inl z9))] → va_S A s.heap H locs → W p l e (headSpec wsX9_begins ({ frames := 0, cells := 0, slots := 0, locals := 0 } : Room)).room s m ([.ref a, .int x1] : List Value).toArray below meth c H locs 0 0 (MQ below (va_Qv K (bW D y A (fun u : ((Nat → Int32)) => [(a, .inl (y.1, 21, .inl u))])) A) ([.ref a, .int x1] : List Value).toArray s 0 0 A) (F0 m 28 ls []))
            (n : Nat) (x3_9 : Int32) (v_9 : Nat → Int32) (ls : Array Slot) (H : Heap) (locs : List Loc), sat (lp (fun q : (Int32 × (Nat → Int32)) => m_X9_begins_s9 x2_2 q.1 q.2) n (x3_9, v_9)) K9 → lv_has ls 4 [(0, .ref a), (1, .int x1), (2, .int x2_2), (3, .int x3_9)] → va_P D vwCl [(a, .inl (y.1, 21, .inl v_9))] H → va_D A [(a, .inl (y.1, 21, .inl v_9))] → va_S A s.heap H locs → W p l e (headSpec wsX9_begins ({ frames := 0, cells := 0, slots := 0, locals := 0 } : Room)).room s m ([.ref a, .int x1] : List Value).toArray below meth c H locs 0 0 (MQ below (va_Qv K (bW D y A (fun u : ((Nat → Int32)) => [(a, .inl (y.1, 21, .inl u))])) A) ([.ref a, .int x1] : List Value).toArray s 0 0 A) (F0 m 9 ls []) := by
          intro K9 hE9 n
          induction n with
          | zero => intro x3_9 v_9 ls H locs h; exact (sat_lp0 h).elim
          | succ n ih =>
            intro x3_9 v_9 ls H locs h hl hP hD hS
            have h := sat_lp h
            have h : sat (m_X9_begins_s9 x2_2 x3_9 v_9) (lk (fun s' => sat (lp (fun q : (Int32 × (Nat → Int32)) => m_X9_begins_s9 x2_2 q.1 q.2) n s') K9) K9) := h
            unfold m_X9_begins_s9 at h
            refine lv_iload_n hx hb dX9_begins_9 rfl (lv_at hl 3 rfl) ?_
            refine lv_iconst (v := 4) hx hb dX9_begins_10 (by decide) ?_
            refine lv_icmp_ge (tgt := 28) hx hb dX9_begins_11 (by decide) (fun c11 => ?_) (fun c11 => ?_)
            · have h := sat_t c11 h
              have h := lk_r (sat_some h)
              exact hE9 v_9 ls H locs h (lv_sub hl [0, 1, 2] rfl) hP hD hS
            · have h := sat_f c11 h
              refine lv_aload_n hx hb dX9_begins_14 rfl (lv_at hl 0 rfl) ?_
              refine lv_iconst (v := 4) hx hb dX9_begins_15 (by decide) ?_
              refine lv_iload_n hx hb dX9_begins_16 rfl (lv_at hl 2 rfl) ?_
              refine lv_imul hx hb dX9_begins_17 ?_
              refine lv_iload_n hx hb dX9_begins_18 rfl (lv_at hl 3 rfl) ?_
              refine lv_iadd hx hb dX9_begins_19 ?_
              refine lv_iload_n hx hb dX9_begins_20 rfl (lv_at hl 2 rfl) ?_
              obtain ⟨f3, ef3, hin, h⟩ := sat_wrI h
              refine yi (wn := [(a, .inl (y.1, 21, .inl f3))]) hx hb hK hP hD hS 0 0 rfl rfl ef3 hin dX9_begins_21 rfl (fun H locs hP hD hS => ?_)
              refine lv_iinc (v := x3_9 + 1) (lv' := [(3, .int (x3_9 + 1)), (0, .ref a), (1, .int x1), (2, .int x2_2)]) hx hb dX9_begins_22 hl (k := 3) rfl rfl (by decide) rfl (fun ls hl => ?_)
              refine lv_goto (tgt := 9) hx hb dX9_begins_25 (by decide) ?_
              have h := lk_l (sat_some h)
              exact ih (x3_9 + 1) f3 ls H locs h (lv_sub hl [1, 2, 3, 0] rfl) hP hD hS
        have h := sat_bind h
        refine hL9 _ (fun z9 ls H locs h hl hP hD hS => ?_) 1000 0 v_2 ls H locs h (lv_sub hl [1, 2, 3, 0] rfl) hP hD hS
        refine lv_aload_n hx hb dX9_begins_28 rfl (lv_at hl 0 rfl) ?_
        refine lv_bipush (v := 16) hx hb dX9_begins_29 (by decide) ?_
        refine lv_iload_n hx hb dX9_begins_31 rfl (lv_at hl 2 rfl) ?_
        refine lv_iadd hx hb dX9_begins_32 ?_
        refine lv_iload_n hx hb dX9_begins_33 rfl (lv_at hl 2 rfl) ?_
        obtain ⟨f4, ef4, hin, h⟩ := sat_wrI h
        refine yi (wn := [(a, .inl (y.1, 21, .inl f4))]) hx hb hK hP hD hS 0 0 rfl rfl ef4 hin dX9_begins_34 rfl (fun H locs hP hD hS => ?_)
        refine lv_iinc (v := x2_2 + 1) (lv' := [(2, .int (x2_2 + 1)), (0, .ref a), (1, .int x1)]) hx hb dX9_begins_35 hl (k := 2) rfl rfl (by decide) rfl (fun ls hl => ?_)
        refine lv_goto (tgt := 2) hx hb dX9_begins_38 (by decide) ?_
        have h := lk_l (sat_some h)
        exact ih (x2_2 + 1) f4 ls H locs h (lv_sub hl [1, 2, 0] rfl) hP hD hS
  have h := sat_bind h
  refine hL2 _ (fun z2 ls H locs h hl hP hD hS => ?_) 1000 0 v ls s.heap [] h (lv_sub hl [1, 2, 0] rfl) hP hD hS
  refine lv_aload_n hx hb dX9_begins_41 rfl (lv_at hl 0 rfl) ?_
  refine lv_bipush (v := 20) hx hb dX9_begins_42 (by decide) ?_
  refine lv_iload_n hx hb dX9_begins_44 rfl (lv_at hl 1 rfl) ?_
  obtain ⟨f5, ef5, hin, h⟩ := sat_wrI h
  refine yi (wn := [(a, .inl (y.1, 21, .inl f5))]) hx hb hK hP hD hS 0 0 rfl rfl ef5 hin dX9_begins_45 rfl (fun H locs hP hD hS => ?_)
  have h := sat_some h
  exact W.vret hx hb hr (fun t ht hW => ⟨⟨f5, rfl, h, by rw [ht]; exact hP, va_K.moved hW.alike hK, hD⟩, hS.F ht⟩) hS.2.2 dX9_begins_46

/-! X9_size -/
set_option maxHeartbeats 4000000 in
set_option maxRecDepth 100000 in
theorem c_X9_size (l : Launch) (D : va_G) (y : ClassId × ClassId × ClassId × ClassId) (a a_now a_undos a_seen a_isKept a_kept a_text a_read a_congruences a_terms : Nat) (v_undoMany : Int32) (v_undoAt : Int32) (v_seenMany : Int32) (v_letterMany : Int32) (v_readAt : Int32) (v_tokenAt : Int32) (v_token : Int32) (v_faultAt : Int32) (v_readItems : Int32) (v_congruenceMany : Int32) (v_termMany : Int32) (v_rounds : Int32) (v_now : Nat → Int32) (K : Int32 → Prop) (h : sat (m_X9_size v_now) K) : Met l yX9_size wsX9_size ({ frames := 0, cells := 0, slots := 0, locals := 0 } : Room) (pR D y ([.ref a] : List Value) [(a, .inr (6, [.ref a_now, .int v_undoMany, .int v_undoAt, .ref a_undos, .int v_seenMany, .ref a_seen, .ref a_isKept, .ref a_kept, .int v_letterMany, .ref a_text, .int v_readAt, .int v_tokenAt, .int v_token, .int v_faultAt, .int v_readItems, .ref a_read, .int v_congruenceMany, .ref a_congruences, .int v_termMany, .int v_rounds, .ref a_terms])), (a_now, .inl (y.1, 21, .inl v_now))]) (qSi K) 0 0 (fun _ => False) := by
  refine Met.ofW (cc := cX9_size) (maxL := 1) (ret := (some .int)) (by decide) rfl ?_
  intro p e s m args below meth c s₁ B hml hv
  obtain ⟨rfl, hP, hK⟩ := hv
  have hx := B.exec
  have hb := B.bytes
  have hr := B.returns
  have hts := atoms_spec (ws := wsX9_size) B.pre
  have hown : s.vm.findClass RX9 = some m.cls := findClass_of_methodNamed B.named
  have hlocks := B.notSynchronized
  have iX9 : ∀ w ∈ wsX90, w ∈ wsX9_size := by decide +kernel
  have fl7 := hts (.fieldLink RX9 7 "AlgebraLawsModel" "now" "[I") (by decide +kernel)
  have hl := lv_entry ([.ref a] : List Value) (n := 1) (Nat.le_of_ble_eq_true rfl)
  rw [lg_entry_eq]
  generalize (lg_sl ([.ref a] : List Value) ++ List.replicate (1 - (lg_sl ([.ref a] : List Value)).length) Slot.unset).toArray = ls at hl ⊢
  have hl : lv_has ls 1 [(0, .ref a)] := hl
  unfold m_X9_size at h
  refine lv_aload_n hx hb dX9_size_0 rfl (lv_at hl 0 rfl) ?_
  refine va_get (D := D) (ci := 6) (v := .ref a_now) (C := RX9) (T := TX9) (N := 21) hx hb hts iX9 hown hK hP 0 rfl rfl 0 (by decide) fl7 (fun _ h9 => h9) rfl dX9_size_1 ?_
  refine lv_bipush (v := 20) hx hb dX9_size_4 (by decide) ?_
  obtain ⟨r1, er1, hin, h⟩ := sat_rd h
  refine xi hx hb hK hP 1 0 rfl rfl er1 hin dX9_size_6 ?_
  have h := sat_some h
  exact W.iret (v := r1) hx hb hr (fun t ht _ => ⟨r1, rfl, h, ht⟩) (fun _ hq => by cases hq) dX9_size_7

/-! X9_ff -/
set_option maxHeartbeats 4000000 in
set_option maxRecDepth 100000 in
theorem c_X9_ff (l : Launch) (D : va_G) (y : ClassId × ClassId × ClassId × ClassId) (a a_now a_undos a_seen a_isKept a_kept a_text a_read a_congruences a_terms : Nat) (v_undoMany : Int32) (v_undoAt : Int32) (v_seenMany : Int32) (v_letterMany : Int32) (v_readAt : Int32) (v_tokenAt : Int32) (v_token : Int32) (v_faultAt : Int32) (v_readItems : Int32) (v_congruenceMany : Int32) (v_termMany : Int32) (v_rounds : Int32) (v_now : Nat → Int32) (x1 : Int32) (x2 : Int32) (K : Int32 → Prop) (h : sat (m_X9_ff v_now x1 x2) K) : Met l yX9_ff wsX9_ff ({ frames := 0, cells := 0, slots := 0, locals := 0 } : Room) (pR D y ([.ref a, .int x1, .int x2] : List Value) [(a, .inr (6, [.ref a_now, .int v_undoMany, .int v_undoAt, .ref a_undos, .int v_seenMany, .ref a_seen, .ref a_isKept, .ref a_kept, .int v_letterMany, .ref a_text, .int v_readAt, .int v_tokenAt, .int v_token, .int v_faultAt, .int v_readItems, .ref a_read, .int v_congruenceMany, .ref a_congruences, .int v_termMany, .int v_rounds, .ref a_terms])), (a_now, .inl (y.1, 21, .inl v_now))]) (qSi K) 0 0 (fun _ => False) := by
  refine Met.ofW (cc := cX9_ff) (maxL := 3) (ret := (some .int)) (by decide) rfl ?_
  intro p e s m args below meth c s₁ B hml hv
  obtain ⟨rfl, hP, hK⟩ := hv
  have hx := B.exec
  have hb := B.bytes
  have hr := B.returns
  have hts := atoms_spec (ws := wsX9_ff) B.pre
  have hown : s.vm.findClass RX9 = some m.cls := findClass_of_methodNamed B.named
  have hlocks := B.notSynchronized
  have iX9 : ∀ w ∈ wsX90, w ∈ wsX9_ff := by decide +kernel
  have fl7 := hts (.fieldLink RX9 7 "AlgebraLawsModel" "now" "[I") (by decide +kernel)
  have hl := lv_entry ([.ref a, .int x1, .int x2] : List Value) (n := 3) (Nat.le_of_ble_eq_true rfl)
  rw [lg_entry_eq]
  generalize (lg_sl ([.ref a, .int x1, .int x2] : List Value) ++ List.replicate (3 - (lg_sl ([.ref a, .int x1, .int x2] : List Value)).length) Slot.unset).toArray = ls at hl ⊢
  have hl : lv_has ls 3 [(0, .ref a), (1, .int x1), (2, .int x2)] := hl
  unfold m_X9_ff at h
  refine lv_aload_n hx hb dX9_ff_0 rfl (lv_at hl 0 rfl) ?_
  refine va_get (D := D) (ci := 6) (v := .ref a_now) (C := RX9) (T := TX9) (N := 21) hx hb hts iX9 hown hK hP 0 rfl rfl 0 (by decide) fl7 (fun _ h9 => h9) rfl dX9_ff_1 ?_
  refine lv_iconst (v := 4) hx hb dX9_ff_4 (by decide) ?_
  refine lv_iload_n hx hb dX9_ff_5 rfl (lv_at hl 1 rfl) ?_
  refine lv_imul hx hb dX9_ff_6 ?_
  refine lv_iload_n hx hb dX9_ff_7 rfl (lv_at hl 2 rfl) ?_
  refine lv_iadd hx hb dX9_ff_8 ?_
  obtain ⟨r1, er1, hin, h⟩ := sat_rd h
  refine xi hx hb hK hP 1 0 rfl rfl er1 hin dX9_ff_9 ?_
  have h := sat_some h
  exact W.iret (v := r1) hx hb hr (fun t ht _ => ⟨r1, rfl, h, ht⟩) (fun _ hq => by cases hq) dX9_ff_10

/-! X9_gg -/
set_option maxHeartbeats 4000000 in
set_option maxRecDepth 100000 in
theorem c_X9_gg (l : Launch) (D : va_G) (y : ClassId × ClassId × ClassId × ClassId) (a a_now a_undos a_seen a_isKept a_kept a_text a_read a_congruences a_terms : Nat) (v_undoMany : Int32) (v_undoAt : Int32) (v_seenMany : Int32) (v_letterMany : Int32) (v_readAt : Int32) (v_tokenAt : Int32) (v_token : Int32) (v_faultAt : Int32) (v_readItems : Int32) (v_congruenceMany : Int32) (v_termMany : Int32) (v_rounds : Int32) (v_now : Nat → Int32) (x1 : Int32) (K : Int32 → Prop) (h : sat (m_X9_gg v_now x1) K) : Met l yX9_gg wsX9_gg ({ frames := 0, cells := 0, slots := 0, locals := 0 } : Room) (pR D y ([.ref a, .int x1] : List Value) [(a, .inr (6, [.ref a_now, .int v_undoMany, .int v_undoAt, .ref a_undos, .int v_seenMany, .ref a_seen, .ref a_isKept, .ref a_kept, .int v_letterMany, .ref a_text, .int v_readAt, .int v_tokenAt, .int v_token, .int v_faultAt, .int v_readItems, .ref a_read, .int v_congruenceMany, .ref a_congruences, .int v_termMany, .int v_rounds, .ref a_terms])), (a_now, .inl (y.1, 21, .inl v_now))]) (qSi K) 0 0 (fun _ => False) := by
  refine Met.ofW (cc := cX9_gg) (maxL := 2) (ret := (some .int)) (by decide) rfl ?_
  intro p e s m args below meth c s₁ B hml hv
  obtain ⟨rfl, hP, hK⟩ := hv
  have hx := B.exec
  have hb := B.bytes
  have hr := B.returns
  have hts := atoms_spec (ws := wsX9_gg) B.pre
  have hown : s.vm.findClass RX9 = some m.cls := findClass_of_methodNamed B.named
  have hlocks := B.notSynchronized
  have iX9 : ∀ w ∈ wsX90, w ∈ wsX9_gg := by decide +kernel
  have fl7 := hts (.fieldLink RX9 7 "AlgebraLawsModel" "now" "[I") (by decide +kernel)
  have hl := lv_entry ([.ref a, .int x1] : List Value) (n := 2) (Nat.le_of_ble_eq_true rfl)
  rw [lg_entry_eq]
  generalize (lg_sl ([.ref a, .int x1] : List Value) ++ List.replicate (2 - (lg_sl ([.ref a, .int x1] : List Value)).length) Slot.unset).toArray = ls at hl ⊢
  have hl : lv_has ls 2 [(0, .ref a), (1, .int x1)] := hl
  unfold m_X9_gg at h
  refine lv_aload_n hx hb dX9_gg_0 rfl (lv_at hl 0 rfl) ?_
  refine va_get (D := D) (ci := 6) (v := .ref a_now) (C := RX9) (T := TX9) (N := 21) hx hb hts iX9 hown hK hP 0 rfl rfl 0 (by decide) fl7 (fun _ h9 => h9) rfl dX9_gg_1 ?_
  refine lv_bipush (v := 16) hx hb dX9_gg_4 (by decide) ?_
  refine lv_iload_n hx hb dX9_gg_6 rfl (lv_at hl 1 rfl) ?_
  refine lv_iadd hx hb dX9_gg_7 ?_
  obtain ⟨r1, er1, hin, h⟩ := sat_rd h
  refine xi hx hb hK hP 1 0 rfl rfl er1 hin dX9_gg_8 ?_
  have h := sat_some h
  exact W.iret (v := r1) hx hb hr (fun t ht _ => ⟨r1, rfl, h, ht⟩) (fun _ hq => by cases hq) dX9_gg_9

/-! X9_is -/
set_option maxHeartbeats 4000000 in
set_option maxRecDepth 100000 in
theorem c_X9_is (l : Launch) (D : va_G) (y : ClassId × ClassId × ClassId × ClassId) (a a_now a_undos a_seen a_isKept a_kept a_text a_read a_congruences a_terms : Nat) (v_undoMany : Int32) (v_undoAt : Int32) (v_seenMany : Int32) (v_letterMany : Int32) (v_readAt : Int32) (v_tokenAt : Int32) (v_token : Int32) (v_faultAt : Int32) (v_readItems : Int32) (v_congruenceMany : Int32) (v_termMany : Int32) (v_rounds : Int32) (v_now : Nat → Int32) (x1 : Int32) (K : Int32 → Prop) (h : sat (m_X9_is v_now x1) K) : Met l yX9_is wsX9_is ({ frames := 1, cells := 0, slots := 0, locals := 22 } : Room) (pR D y ([.ref a, .int x1] : List Value) [(a, .inr (6, [.ref a_now, .int v_undoMany, .int v_undoAt, .ref a_undos, .int v_seenMany, .ref a_seen, .ref a_isKept, .ref a_kept, .int v_letterMany, .ref a_text, .int v_readAt, .int v_tokenAt, .int v_token, .int v_faultAt, .int v_readItems, .ref a_read, .int v_congruenceMany, .ref a_congruences, .int v_termMany, .int v_rounds, .ref a_terms])), (a_now, .inl (y.1, 21, .inl v_now))]) (qSi K) 0 0 (fun _ => False) := by
  refine Met.ofW (cc := cX9_is) (maxL := 2) (ret := (some .boolean)) (by decide) rfl ?_
  intro p e s m args below meth c s₁ B hml hv
  obtain ⟨rfl, hP, hK⟩ := hv
  have hx := B.exec
  have hb := B.bytes
  have hr := B.returns
  have hts := atoms_spec (ws := wsX9_is) B.pre
  have hown : s.vm.findClass RX9 = some m.cls := findClass_of_methodNamed B.named
  have hlocks := B.notSynchronized
  have hl := lv_entry ([.ref a, .int x1] : List Value) (n := 2) (Nat.le_of_ble_eq_true rfl)
  rw [lg_entry_eq]
  generalize (lg_sl ([.ref a, .int x1] : List Value) ++ List.replicate (2 - (lg_sl ([.ref a, .int x1] : List Value)).length) Slot.unset).toArray = ls at hl ⊢
  have hl : lv_has ls 2 [(0, .ref a), (1, .int x1)] := hl
  unfold m_X9_is at h
  refine lv_iload_n hx hb dX9_is_0 rfl (lv_at hl 1 rfl) ?_
  refine lv_iconst (v := 0) hx hb dX9_is_1 (by decide) ?_
  refine lv_aload_n hx hb dX9_is_2 rfl (lv_at hl 0 rfl) ?_
  refine cr_i (rv (As := []) (rest := [.int 0, .int x1]) ⟨hx, hb, hml, hown, hts⟩ (c_X9_size l D y a a_now a_undos a_seen a_isKept a_kept a_text a_read a_congruences a_terms v_undoMany v_undoAt v_seenMany v_letterMany v_readAt v_tokenAt v_token v_faultAt v_readItems v_congruenceMany v_termMany v_rounds v_now _ (sat_bind h)) (cwV 0 hts gX9_is_X9_size rfl rfl rfl (by decide +kernel) ⟨Nat.le_of_ble_eq_true rfl, Nat.le_of_ble_eq_true rfl⟩) hK hP [0, 1] rfl 0 6 rfl rfl rfl rfl hl.1 rfl (Nat.le_of_ble_eq_true rfl) dX9_is_3 ⟨Nat.zero_le _, Nat.zero_le _⟩) (fun r1 h => ?_)
  refine lv_iconst (v := 1) hx hb dX9_is_6 (by decide) ?_
  refine lv_isub hx hb dX9_is_7 ?_
  refine cr_i (rs (As := [.int x1, .int 0, .int (r1 - 1)]) (rest := []) ⟨hx, hb, hml, hown, hts⟩ (c_X9_in l D y x1 0 (r1 - 1) _ (sat_bind h)) (va_cwS 3 hts gX9_is_X9_in rfl rfl rfl (by decide +kernel) ⟨Nat.le_of_ble_eq_true rfl, Nat.le_of_ble_eq_true rfl⟩) hK hP [] rfl rfl hl.1 rfl (Nat.le_of_ble_eq_true rfl) dX9_is_8 ⟨Nat.zero_le _, Nat.zero_le _⟩) (fun r2 h => ?_)
  obtain ⟨hz, h⟩ := sat_gd h
  have h := sat_some h
  exact W.zret (v := r2) hx hb hr (zn hz) (fun t ht _ => ⟨r2, rfl, h, ht⟩) (fun _ hq => by cases hq) dX9_is_11

/-! X9_type -/
set_option maxHeartbeats 4000000 in
set_option maxRecDepth 100000 in
theorem c_X9_type (l : Launch) (D : va_G) (y : ClassId × ClassId × ClassId × ClassId) (a a_text a_now a_undos a_seen a_isKept a_kept a_read a_congruences a_terms : Nat) (v_undoMany : Int32) (v_undoAt : Int32) (v_seenMany : Int32) (v_letterMany : Int32) (v_readAt : Int32) (v_tokenAt : Int32) (v_token : Int32) (v_faultAt : Int32) (v_readItems : Int32) (v_congruenceMany : Int32) (v_termMany : Int32) (v_rounds : Int32) (v_text : Nat → Int32) (x1 : Int32) (sz : Nat) (A : Nat → Prop) (hAe : va_A [(a, .inr (6, [.ref a_now, .int v_undoMany, .int v_undoAt, .ref a_undos, .int v_seenMany, .ref a_seen, .ref a_isKept, .ref a_kept, .int v_letterMany, .ref a_text, .int v_readAt, .int v_tokenAt, .int v_token, .int v_faultAt, .int v_readItems, .ref a_read, .int v_congruenceMany, .ref a_congruences, .int v_termMany, .int v_rounds, .ref a_terms])), (a_text, .inl (y.1, 60, .inl v_text))] sz = A) (K : Int32 → (Int32 × (Nat → Int32)) → Prop) (h : sat (m_X9_type v_letterMany v_text x1) (pK K)) : Met l yX9_type wsX9_type ({ frames := 1, cells := 0, slots := 0, locals := 22 } : Room) (pW D y ([.ref a, .int x1] : List Value) [(a, .inr (6, [.ref a_now, .int v_undoMany, .int v_undoAt, .ref a_undos, .int v_seenMany, .ref a_seen, .ref a_isKept, .ref a_kept, .int v_letterMany, .ref a_text, .int v_readAt, .int v_tokenAt, .int v_token, .int v_faultAt, .int v_readItems, .ref a_read, .int v_congruenceMany, .ref a_congruences, .int v_termMany, .int v_rounds, .ref a_terms])), (a_text, .inl (y.1, 60, .inl v_text))] sz) (va_Qi K (bW D y A (fun u : (Int32 × (Nat → Int32)) => [(a, .inr (6, [.ref a_now, .int v_undoMany, .int v_undoAt, .ref a_undos, .int v_seenMany, .ref a_seen, .ref a_isKept, .ref a_kept, .int u.1, .ref a_text, .int v_readAt, .int v_tokenAt, .int v_token, .int v_faultAt, .int v_readItems, .ref a_read, .int v_congruenceMany, .ref a_congruences, .int v_termMany, .int v_rounds, .ref a_terms])), (a_text, .inl (y.1, 60, .inl u.2))])) A) 0 0 A := by
  refine Met.ofW (cc := cX9_type) (maxL := 2) (ret := (some .int)) (by decide) rfl ?_
  intro p e s m args below meth c s₁ B hml hv
  obtain ⟨rfl, hsz, hP, hK, hD0⟩ := hv
  have hx := B.exec
  have hb := B.bytes
  have hr := B.returns
  have hts := atoms_spec (ws := wsX9_type) B.pre
  have hown : s.vm.findClass RX9 = some m.cls := findClass_of_methodNamed B.named
  have hlocks := B.notSynchronized
  subst hsz
  have hD : va_D A [(a, .inr (6, [.ref a_now, .int v_undoMany, .int v_undoAt, .ref a_undos, .int v_seenMany, .ref a_seen, .ref a_isKept, .ref a_kept, .int v_letterMany, .ref a_text, .int v_readAt, .int v_tokenAt, .int v_token, .int v_faultAt, .int v_readItems, .ref a_read, .int v_congruenceMany, .ref a_congruences, .int v_termMany, .int v_rounds, .ref a_terms])), (a_text, .inl (y.1, 60, .inl v_text))] := hAe ▸ hD0.self
  have hA : ∀ q : Nat, s.heap.size ≤ q → A q := fun q h => hAe ▸ Or.inr h
  have hS : va_S A s.heap s.heap [] := va_S.rf
  have iX9 : ∀ w ∈ wsX90, w ∈ wsX9_type := by decide +kernel
  have fl51 := hts (.fieldLink RX9 51 "AlgebraLawsModel" "letterMany" "I") (by decide +kernel)
  have fl26 := hts (.fieldLink RX9 26 "AlgebraLawsModel" "text" "[I") (by decide +kernel)
  have hl := lv_entry ([.ref a, .int x1] : List Value) (n := 2) (Nat.le_of_ble_eq_true rfl)
  rw [lg_entry_eq]
  generalize (lg_sl ([.ref a, .int x1] : List Value) ++ List.replicate (2 - (lg_sl ([.ref a, .int x1] : List Value)).length) Slot.unset).toArray = ls at hl ⊢
  have hl : lv_has ls 2 [(0, .ref a), (1, .int x1)] := hl
  unfold m_X9_type at h
  refine lv_iload_n hx hb dX9_type_0 rfl (lv_at hl 1 rfl) ?_
  refine lv_iconst (v := 0) hx hb dX9_type_1 (by decide) ?_
  refine lv_sipush (v := 255) hx hb dX9_type_2 (by decide) ?_
  refine cr_i (rs (As := [.int x1, .int 0, .int 255]) (rest := []) ⟨hx, hb, hml, hown, hts⟩ (c_X9_in l D y x1 0 255 _ (sat_bind h)) (va_cwS 3 hts gX9_type_X9_in rfl rfl rfl (by decide +kernel) ⟨Nat.le_of_ble_eq_true rfl, Nat.le_of_ble_eq_true rfl⟩) hK hP [] rfl rfl hl.1 rfl (Nat.le_of_ble_eq_true rfl) dX9_type_5 ⟨Nat.zero_le _, Nat.zero_le _⟩) (fun r1 h => ?_)
  refine lv_if_ne (tgt := 14) hx hb dX9_type_8 (by decide) (fun c8 => ?_) (fun c8 => ?_)
  · have h := sat_f c8 h
    refine lv_aload_n hx hb dX9_type_14 rfl (lv_at hl 0 rfl) ?_
    refine va_get (D := D) (ci := 6) (v := .int v_letterMany) (C := RX9) (T := TX9) (N := 21) hx hb hts iX9 hown hK hP 0 rfl rfl 8 (by decide) fl51 (fun _ h9 => h9) rfl dX9_type_15 ?_
    refine lv_bipush (v := 60) hx hb dX9_type_18 (by decide) ?_
    refine lv_icmp_ne (tgt := 26) hx hb dX9_type_20 (by decide) (fun c20 => ?_) (fun c20 => ?_)
    · have h := sat_f c20 h
      refine lv_aload_n hx hb dX9_type_26 rfl (lv_at hl 0 rfl) ?_
      refine va_get (D := D) (ci := 6) (v := .ref a_text) (C := RX9) (T := TX9) (N := 21) hx hb hts iX9 hown hK hP 0 rfl rfl 9 (by decide) fl26 (fun _ h9 => h9) rfl dX9_type_27 ?_
      refine lv_aload_n hx hb dX9_type_30 rfl (lv_at hl 0 rfl) ?_
      refine va_get (D := D) (ci := 6) (v := .int v_letterMany) (C := RX9) (T := TX9) (N := 21) hx hb hts iX9 hown hK hP 0 rfl rfl 8 (by decide) fl51 (fun _ h9 => h9) rfl dX9_type_31 ?_
      refine lv_iload_n hx hb dX9_type_34 rfl (lv_at hl 1 rfl) ?_
      obtain ⟨f2, ef2, hin, h⟩ := sat_wrI h
      refine yi (wn := [(a, .inr (6, [.ref a_now, .int v_undoMany, .int v_undoAt, .ref a_undos, .int v_seenMany, .ref a_seen, .ref a_isKept, .ref a_kept, .int v_letterMany, .ref a_text, .int v_readAt, .int v_tokenAt, .int v_token, .int v_faultAt, .int v_readItems, .ref a_read, .int v_congruenceMany, .ref a_congruences, .int v_termMany, .int v_rounds, .ref a_terms])), (a_text, .inl (y.1, 60, .inl f2))]) hx hb hK hP hD hS 1 0 rfl rfl ef2 hin dX9_type_35 rfl (fun H locs hP hD hS => ?_)
      refine lv_aload_n hx hb dX9_type_36 rfl (lv_at hl 0 rfl) ?_
      refine lv_dup hx hb dX9_type_37 rfl ?_
      refine va_get (D := D) (ci := 6) (v := .int v_letterMany) (C := RX9) (T := TX9) (N := 21) hx hb hts iX9 hown hK hP 0 rfl rfl 8 (by decide) fl51 (fun _ h9 => h9) rfl dX9_type_38 ?_
      refine lv_iconst (v := 1) hx hb dX9_type_41 (by decide) ?_
      refine lv_iadd hx hb dX9_type_42 ?_
      refine pf (D := D) (ci := 6) (v := .int (v_letterMany + 1)) (ty := .int) (C := RX9) (T := TX9) (N := 21) (wn := [(a, .inr (6, [.ref a_now, .int v_undoMany, .int v_undoAt, .ref a_undos, .int v_seenMany, .ref a_seen, .ref a_isKept, .ref a_kept, .int (v_letterMany + 1), .ref a_text, .int v_readAt, .int v_tokenAt, .int v_token, .int v_faultAt, .int v_readItems, .ref a_read, .int v_congruenceMany, .ref a_congruences, .int v_termMany, .int v_rounds, .ref a_terms])), (a_text, .inl (y.1, 60, .inl f2))]) hx hb hts iX9 tyX9 tyX9_ok nmX9 hown hK hP hD hS 0 rfl rfl 8 (by decide) fl51 (fun _ h9 => h9) rfl (by decide +kernel) rfl rfl (Nat.le_of_ble_eq_true rfl) dX9_type_43 rfl (fun H locs hP hD hS => ?_)
      refine lv_aload_n hx hb dX9_type_46 rfl (lv_at hl 0 rfl) ?_
      refine va_get (D := D) (ci := 6) (v := .int (v_letterMany + 1)) (C := RX9) (T := TX9) (N := 21) hx hb hts iX9 hown hK hP 0 rfl rfl 8 (by decide) fl51 (fun _ h9 => h9) rfl dX9_type_47 ?_
      have h := sat_some h
      exact W.iret (v := v_letterMany + 1) hx hb hr (fun t ht hW => ⟨⟨v_letterMany + 1, (v_letterMany + 1, f2), rfl, h, by rw [ht]; exact hP, va_K.moved hW.alike hK, hD⟩, hS.F ht⟩) hS.2.2 dX9_type_50
    · have h := sat_t c20 h
      refine lv_bipush (v := (-4)) hx hb dX9_type_23 (by decide) ?_
      have h := sat_some h
      exact W.iret (v := (-4)) hx hb hr (fun t ht hW => ⟨⟨(-4), (v_letterMany, v_text), rfl, h, by rw [ht]; exact hP, va_K.moved hW.alike hK, hD⟩, hS.F ht⟩) hS.2.2 dX9_type_25
  · have h := sat_t c8 h
    refine lv_bipush (v := (-2)) hx hb dX9_type_11 (by decide) ?_
    have h := sat_some h
    exact W.iret (v := (-2)) hx hb hr (fun t ht hW => ⟨⟨(-2), (v_letterMany, v_text), rfl, h, by rw [ht]; exact hP, va_K.moved hW.alike hK, hD⟩, hS.F ht⟩) hS.2.2 dX9_type_13

/-! X9_clear -/
set_option maxHeartbeats 4000000 in
set_option maxRecDepth 100000 in
theorem c_X9_clear (l : Launch) (D : va_G) (y : ClassId × ClassId × ClassId × ClassId) (a a_now a_undos a_seen a_isKept a_kept a_text a_read a_congruences a_terms : Nat) (v_undoMany : Int32) (v_undoAt : Int32) (v_seenMany : Int32) (v_letterMany : Int32) (v_readAt : Int32) (v_tokenAt : Int32) (v_token : Int32) (v_faultAt : Int32) (v_readItems : Int32) (v_congruenceMany : Int32) (v_termMany : Int32) (v_rounds : Int32) (sz : Nat) (A : Nat → Prop) (hAe : va_A [(a, .inr (6, [.ref a_now, .int v_undoMany, .int v_undoAt, .ref a_undos, .int v_seenMany, .ref a_seen, .ref a_isKept, .ref a_kept, .int v_letterMany, .ref a_text, .int v_readAt, .int v_tokenAt, .int v_token, .int v_faultAt, .int v_readItems, .ref a_read, .int v_congruenceMany, .ref a_congruences, .int v_termMany, .int v_rounds, .ref a_terms]))] sz = A) (K : Int32 → Int32 → Prop) (h : sat (m_X9_clear v_letterMany) (pK K)) : Met l yX9_clear wsX9_clear ({ frames := 0, cells := 0, slots := 0, locals := 0 } : Room) (pW D y ([.ref a] : List Value) [(a, .inr (6, [.ref a_now, .int v_undoMany, .int v_undoAt, .ref a_undos, .int v_seenMany, .ref a_seen, .ref a_isKept, .ref a_kept, .int v_letterMany, .ref a_text, .int v_readAt, .int v_tokenAt, .int v_token, .int v_faultAt, .int v_readItems, .ref a_read, .int v_congruenceMany, .ref a_congruences, .int v_termMany, .int v_rounds, .ref a_terms]))] sz) (va_Qi K (bW D y A (fun u : Int32 => [(a, .inr (6, [.ref a_now, .int v_undoMany, .int v_undoAt, .ref a_undos, .int v_seenMany, .ref a_seen, .ref a_isKept, .ref a_kept, .int u, .ref a_text, .int v_readAt, .int v_tokenAt, .int v_token, .int v_faultAt, .int v_readItems, .ref a_read, .int v_congruenceMany, .ref a_congruences, .int v_termMany, .int v_rounds, .ref a_terms]))])) A) 0 0 A := by
  refine Met.ofW (cc := cX9_clear) (maxL := 2) (ret := (some .int)) (by decide) rfl ?_
  intro p e s m args below meth c s₁ B hml hv
  obtain ⟨rfl, hsz, hP, hK, hD0⟩ := hv
  have hx := B.exec
  have hb := B.bytes
  have hr := B.returns
  have hts := atoms_spec (ws := wsX9_clear) B.pre
  have hown : s.vm.findClass RX9 = some m.cls := findClass_of_methodNamed B.named
  have hlocks := B.notSynchronized
  subst hsz
  have hD : va_D A [(a, .inr (6, [.ref a_now, .int v_undoMany, .int v_undoAt, .ref a_undos, .int v_seenMany, .ref a_seen, .ref a_isKept, .ref a_kept, .int v_letterMany, .ref a_text, .int v_readAt, .int v_tokenAt, .int v_token, .int v_faultAt, .int v_readItems, .ref a_read, .int v_congruenceMany, .ref a_congruences, .int v_termMany, .int v_rounds, .ref a_terms]))] := hAe ▸ hD0.self
  have hA : ∀ q : Nat, s.heap.size ≤ q → A q := fun q h => hAe ▸ Or.inr h
  have hS : va_S A s.heap s.heap [] := va_S.rf
  have iX9 : ∀ w ∈ wsX90, w ∈ wsX9_clear := by decide +kernel
  have fl51 := hts (.fieldLink RX9 51 "AlgebraLawsModel" "letterMany" "I") (by decide +kernel)
  have hl := lv_entry ([.ref a] : List Value) (n := 2) (Nat.le_of_ble_eq_true rfl)
  rw [lg_entry_eq]
  generalize (lg_sl ([.ref a] : List Value) ++ List.replicate (2 - (lg_sl ([.ref a] : List Value)).length) Slot.unset).toArray = ls at hl ⊢
  have hl : lv_has ls 2 [(0, .ref a)] := hl
  unfold m_X9_clear at h
  refine lv_aload_n hx hb dX9_clear_0 rfl (lv_at hl 0 rfl) ?_
  refine va_get (D := D) (ci := 6) (v := .int v_letterMany) (C := RX9) (T := TX9) (N := 21) hx hb hts iX9 hown hK hP 0 rfl rfl 8 (by decide) fl51 (fun _ h9 => h9) rfl dX9_clear_1 ?_
  refine lv_istore_n (lv' := [(1, .int v_letterMany), (0, .ref a)]) hx hb dX9_clear_4 rfl hl (by decide) rfl (fun ls hl => ?_)
  refine lv_aload_n hx hb dX9_clear_5 rfl (lv_at hl 1 rfl) ?_
  refine lv_iconst (v := 0) hx hb dX9_clear_6 (by decide) ?_
  refine pf (D := D) (ci := 6) (v := .int 0) (ty := .int) (C := RX9) (T := TX9) (N := 21) (wn := [(a, .inr (6, [.ref a_now, .int v_undoMany, .int v_undoAt, .ref a_undos, .int v_seenMany, .ref a_seen, .ref a_isKept, .ref a_kept, .int 0, .ref a_text, .int v_readAt, .int v_tokenAt, .int v_token, .int v_faultAt, .int v_readItems, .ref a_read, .int v_congruenceMany, .ref a_congruences, .int v_termMany, .int v_rounds, .ref a_terms]))]) hx hb hts iX9 tyX9 tyX9_ok nmX9 hown hK hP hD hS 0 rfl rfl 8 (by decide) fl51 (fun _ h9 => h9) rfl (by decide +kernel) rfl rfl (Nat.le_of_ble_eq_true rfl) dX9_clear_7 rfl (fun H locs hP hD hS => ?_)
  refine lv_iload_n hx hb dX9_clear_10 rfl (lv_at hl 0 rfl) ?_
  have h := sat_some h
  exact W.iret (v := v_letterMany) hx hb hr (fun t ht hW => ⟨⟨v_letterMany, 0, rfl, h, by rw [ht]; exact hP, va_K.moved hW.alike hK, hD⟩, hS.F ht⟩) hS.2.2 dX9_clear_11

/-! X9_blanks -/
set_option maxHeartbeats 4000000 in
set_option maxRecDepth 100000 in
theorem c_X9_blanks (l : Launch) (D : va_G) (y : ClassId × ClassId × ClassId × ClassId) (a a_text a_now a_undos a_seen a_isKept a_kept a_read a_congruences a_terms : Nat) (v_undoMany : Int32) (v_undoAt : Int32) (v_seenMany : Int32) (v_letterMany : Int32) (v_readAt : Int32) (v_tokenAt : Int32) (v_token : Int32) (v_faultAt : Int32) (v_readItems : Int32) (v_congruenceMany : Int32) (v_termMany : Int32) (v_rounds : Int32) (v_text : Nat → Int32) (sz : Nat) (A : Nat → Prop) (hAe : va_A [(a, .inr (6, [.ref a_now, .int v_undoMany, .int v_undoAt, .ref a_undos, .int v_seenMany, .ref a_seen, .ref a_isKept, .ref a_kept, .int v_letterMany, .ref a_text, .int v_readAt, .int v_tokenAt, .int v_token, .int v_faultAt, .int v_readItems, .ref a_read, .int v_congruenceMany, .ref a_congruences, .int v_termMany, .int v_rounds, .ref a_terms])), (a_text, .inl (y.1, 60, .inl v_text))] sz = A) (K : Int32 → Prop) (h : sat (m_X9_blanks v_letterMany v_readAt v_text) K) : Met l yX9_blanks wsX9_blanks ({ frames := 0, cells := 0, slots := 0, locals := 0 } : Room) (pW D y ([.ref a] : List Value) [(a, .inr (6, [.ref a_now, .int v_undoMany, .int v_undoAt, .ref a_undos, .int v_seenMany, .ref a_seen, .ref a_isKept, .ref a_kept, .int v_letterMany, .ref a_text, .int v_readAt, .int v_tokenAt, .int v_token, .int v_faultAt, .int v_readItems, .ref a_read, .int v_congruenceMany, .ref a_congruences, .int v_termMany, .int v_rounds, .ref a_terms])), (a_text, .inl (y.1, 60, .inl v_text))] sz) (va_Qv K (bW D y A (fun u : Int32 => [(a, .inr (6, [.ref a_now, .int v_undoMany, .int v_undoAt, .ref a_undos, .int v_seenMany, .ref a_seen, .ref a_isKept, .ref a_kept, .int v_letterMany, .ref a_text, .int u, .int v_tokenAt, .int v_token, .int v_faultAt, .int v_readItems, .ref a_read, .int v_congruenceMany, .ref a_congruences, .int v_termMany, .int v_rounds, .ref a_terms])), (a_text, .inl (y.1, 60, .inl v_text))])) A) 0 0 A := by
  refine Met.ofW (cc := cX9_blanks) (maxL := 1) (ret := none) (by decide) rfl ?_
  intro p e s m args below meth c s₁ B hml hv
  obtain ⟨rfl, hsz, hP, hK, hD0⟩ := hv
  have hx := B.exec
  have hb := B.bytes
  have hr := B.returns
  have hts := atoms_spec (ws := wsX9_blanks) B.pre
  have hown : s.vm.findClass RX9 = some m.cls := findClass_of_methodNamed B.named
  have hlocks := B.notSynchronized
  subst hsz
  have hD : va_D A [(a, .inr (6, [.ref a_now, .int v_undoMany, .int v_undoAt, .ref a_undos, .int v_seenMany, .ref a_seen, .ref a_isKept, .ref a_kept, .int v_letterMany, .ref a_text, .int v_readAt, .int v_tokenAt, .int v_token, .int v_faultAt, .int v_readItems, .ref a_read, .int v_congruenceMany, .ref a_congruences, .int v_termMany, .int v_rounds, .ref a_terms])), (a_text, .inl (y.1, 60, .inl v_text))] := hAe ▸ hD0.self
  have hA : ∀ q : Nat, s.heap.size ≤ q → A q := fun q h => hAe ▸ Or.inr h
  have hS : va_S A s.heap s.heap [] := va_S.rf
  have iX9 : ∀ w ∈ wsX90, w ∈ wsX9_blanks := by decide +kernel
  have fl55 := hts (.fieldLink RX9 55 "AlgebraLawsModel" "readAt" "I") (by decide +kernel)
  have fl51 := hts (.fieldLink RX9 51 "AlgebraLawsModel" "letterMany" "I") (by decide +kernel)
  have fl26 := hts (.fieldLink RX9 26 "AlgebraLawsModel" "text" "[I") (by decide +kernel)
  have hl := lv_entry ([.ref a] : List Value) (n := 1) (Nat.le_of_ble_eq_true rfl)
  rw [lg_entry_eq]
  generalize (lg_sl ([.ref a] : List Value) ++ List.replicate (1 - (lg_sl ([.ref a] : List Value)).length) Slot.unset).toArray = ls at hl ⊢
  have hl : lv_has ls 1 [(0, .ref a)] := hl
  unfold m_X9_blanks at h
  have hL0 : ∀ (K0 : Int32 → Prop)
      (hE0 : ∀ (z0 : Int32) (ls : Array Slot) (H : Heap) (locs : List Loc), K0 z0 → lv_has ls 1 [] → va_P D vwCl [(a, .inr (6, [.ref a_now, .int v_undoMany, .int v_undoAt, .ref a_undos, .int v_seenMany, .ref a_seen, .ref a_isKept, .ref a_kept, .int v_letterMany, .ref a_text, .int z0, .int v_tokenAt, .int v_token, .int v_faultAt, .int v_readItems, .ref a_read, .int v_congruenceMany, .ref a_congruences, .int v_termMany, .int v_rounds, .ref a_terms])), (a_text, .inl (y.1, 60, .inl v_text))] H → va_D A [(a, .inr (6, [.ref a_now, .int v_undoMany, .int v_undoAt, .ref a_undos, .int v_seenMany, .ref a_seen, .ref a_isKept, .ref a_kept, .int v_letterMany, .ref a_text, .int z0, .int v_tokenAt, .int v_token, .int v_faultAt, .int v_readItems, .ref a_read, .int v_congruenceMany, .ref a_congruences, .int v_termMany, .int v_rounds, .ref a_terms])), (a_text, .inl (y.1, 60, .inl v_text))] → va_S A s.heap H locs → W p l e (headSpec wsX9_blanks ({ frames := 0, cells := 0, slots := 0, locals := 0 } : Room)).room s m ([.ref a] : List Value).toArray below meth c H locs 0 0 (MQ below (va_Qv K (bW D y A (fun u : Int32 => [(a, .inr (6, [.ref a_now, .int v_undoMany, .int v_undoAt, .ref a_undos, .int v_seenMany, .ref a_seen, .ref a_isKept, .ref a_kept, .int v_letterMany, .ref a_text, .int u, .int v_tokenAt, .int v_token, .int v_faultAt, .int v_readItems, .ref a_read, .int v_congruenceMany, .ref a_congruences, .int v_termMany, .int v_rounds, .ref a_terms])), (a_text, .inl (y.1, 60, .inl v_text))])) A) ([.ref a] : List Value).toArray s 0 0 A) (F0 m 38 ls []))
      (n : Nat) (v_readAt_0 : Int32) (ls : Array Slot) (H : Heap) (locs : List Loc), sat (lp (fun q : Int32 => m_X9_blanks_s0 v_letterMany v_text q) n v_readAt_0) K0 → lv_has ls 1 [(0, .ref a)] → va_P D vwCl [(a, .inr (6, [.ref a_now, .int v_undoMany, .int v_undoAt, .ref a_undos, .int v_seenMany, .ref a_seen, .ref a_isKept, .ref a_kept, .int v_letterMany, .ref a_text, .int v_readAt_0, .int v_tokenAt, .int v_token, .int v_faultAt, .int v_readItems, .ref a_read, .int v_congruenceMany, .ref a_congruences, .int v_termMany, .int v_rounds, .ref a_terms])), (a_text, .inl (y.1, 60, .inl v_text))] H → va_D A [(a, .inr (6, [.ref a_now, .int v_undoMany, .int v_undoAt, .ref a_undos, .int v_seenMany, .ref a_seen, .ref a_isKept, .ref a_kept, .int v_letterMany, .ref a_text, .int v_readAt_0, .int v_tokenAt, .int v_token, .int v_faultAt, .int v_readItems, .ref a_read, .int v_congruenceMany, .ref a_congruences, .int v_termMany, .int v_rounds, .ref a_terms])), (a_text, .inl (y.1, 60, .inl v_text))] → va_S A s.heap H locs → W p l e (headSpec wsX9_blanks ({ frames := 0, cells := 0, slots := 0, locals := 0 } : Room)).room s m ([.ref a] : List Value).toArray below meth c H locs 0 0 (MQ below (va_Qv K (bW D y A (fun u : Int32 => [(a, .inr (6, [.ref a_now, .int v_undoMany, .int v_undoAt, .ref a_undos, .int v_seenMany, .ref a_seen, .ref a_isKept, .ref a_kept, .int v_letterMany, .ref a_text, .int u, .int v_tokenAt, .int v_token, .int v_faultAt, .int v_readItems, .ref a_read, .int v_congruenceMany, .ref a_congruences, .int v_termMany, .int v_rounds, .ref a_terms])), (a_text, .inl (y.1, 60, .inl v_text))])) A) ([.ref a] : List Value).toArray s 0 0 A) (F0 m 0 ls []) := by
    intro K0 hE0 n
    induction n with
    | zero => intro v_readAt_0 ls H locs h; exact (sat_lp0 h).elim
    | succ n ih =>
      intro v_readAt_0 ls H locs h hl hP hD hS
      have h := sat_lp h
      have h : sat (m_X9_blanks_s0 v_letterMany v_text v_readAt_0) (lk (fun s' => sat (lp (fun q : Int32 => m_X9_blanks_s0 v_letterMany v_text q) n s') K0) K0) := h
      unfold m_X9_blanks_s0 at h
      refine lv_aload_n hx hb dX9_blanks_0 rfl (lv_at hl 0 rfl) ?_
      refine va_get (D := D) (ci := 6) (v := .int v_readAt_0) (C := RX9) (T := TX9) (N := 21) hx hb hts iX9 hown hK hP 0 rfl rfl 10 (by decide) fl55 (fun _ h9 => h9) rfl dX9_blanks_1 ?_
      refine lv_aload_n hx hb dX9_blanks_4 rfl (lv_at hl 0 rfl) ?_
      refine va_get (D := D) (ci := 6) (v := .int v_letterMany) (C := RX9) (T := TX9) (N := 21) hx hb hts iX9 hown hK hP 0 rfl rfl 8 (by decide) fl51 (fun _ h9 => h9) rfl dX9_blanks_5 ?_
      refine lv_icmp_ge (tgt := 38) hx hb dX9_blanks_8 (by decide) (fun c8 => ?_) (fun c8 => ?_)
      · have h := sat_t c8 h
        have h := lk_r (sat_some h)
        exact hE0 v_readAt_0 ls H locs h (lv_sub hl [] rfl) hP hD hS
      · have h := sat_f c8 h
        refine lv_aload_n hx hb dX9_blanks_11 rfl (lv_at hl 0 rfl) ?_
        refine va_get (D := D) (ci := 6) (v := .ref a_text) (C := RX9) (T := TX9) (N := 21) hx hb hts iX9 hown hK hP 0 rfl rfl 9 (by decide) fl26 (fun _ h9 => h9) rfl dX9_blanks_12 ?_
        refine lv_aload_n hx hb dX9_blanks_15 rfl (lv_at hl 0 rfl) ?_
        refine va_get (D := D) (ci := 6) (v := .int v_readAt_0) (C := RX9) (T := TX9) (N := 21) hx hb hts iX9 hown hK hP 0 rfl rfl 10 (by decide) fl55 (fun _ h9 => h9) rfl dX9_blanks_16 ?_
        obtain ⟨r2, er2, hin, h⟩ := sat_rd h
        refine xi hx hb hK hP 1 0 rfl rfl er2 hin dX9_blanks_19 ?_
        refine lv_bipush (v := 32) hx hb dX9_blanks_20 (by decide) ?_
        refine lv_icmp_ne (tgt := 38) hx hb dX9_blanks_22 (by decide) (fun c22 => ?_) (fun c22 => ?_)
        · have h := sat_f c22 h
          have h := lk_r (sat_some h)
          exact hE0 v_readAt_0 ls H locs h (lv_sub hl [] rfl) hP hD hS
        · have h := sat_t c22 h
          refine lv_aload_n hx hb dX9_blanks_25 rfl (lv_at hl 0 rfl) ?_
          refine lv_dup hx hb dX9_blanks_26 rfl ?_
          refine va_get (D := D) (ci := 6) (v := .int v_readAt_0) (C := RX9) (T := TX9) (N := 21) hx hb hts iX9 hown hK hP 0 rfl rfl 10 (by decide) fl55 (fun _ h9 => h9) rfl dX9_blanks_27 ?_
          refine lv_iconst (v := 1) hx hb dX9_blanks_30 (by decide) ?_
          refine lv_iadd hx hb dX9_blanks_31 ?_
          refine pf (D := D) (ci := 6) (v := .int (v_readAt_0 + 1)) (ty := .int) (C := RX9) (T := TX9) (N := 21) (wn := [(a, .inr (6, [.ref a_now, .int v_undoMany, .int v_undoAt, .ref a_undos, .int v_seenMany, .ref a_seen, .ref a_isKept, .ref a_kept, .int v_letterMany, .ref a_text, .int (v_readAt_0 + 1), .int v_tokenAt, .int v_token, .int v_faultAt, .int v_readItems, .ref a_read, .int v_congruenceMany, .ref a_congruences, .int v_termMany, .int v_rounds, .ref a_terms])), (a_text, .inl (y.1, 60, .inl v_text))]) hx hb hts iX9 tyX9 tyX9_ok nmX9 hown hK hP hD hS 0 rfl rfl 10 (by decide) fl55 (fun _ h9 => h9) rfl (by decide +kernel) rfl rfl (Nat.le_of_ble_eq_true rfl) dX9_blanks_32 rfl (fun H locs hP hD hS => ?_)
          refine lv_goto (tgt := 0) hx hb dX9_blanks_35 (by decide) ?_
          have h := lk_l (sat_some h)
          exact ih (v_readAt_0 + 1) ls H locs h hl hP hD hS
  have h := sat_bind h
  refine hL0 _ (fun z0 ls H locs h hl hP hD hS => ?_) 1000 v_readAt ls s.heap [] h hl hP hD hS
  have h := sat_some h
  exact W.vret hx hb hr (fun t ht hW => ⟨⟨z0, rfl, h, by rw [ht]; exact hP, va_K.moved hW.alike hK, hD⟩, hS.F ht⟩) hS.2.2 dX9_blanks_38

/-! X9_next -/
set_option maxHeartbeats 4000000 in
set_option maxRecDepth 100000 in
theorem c_X9_next (l : Launch) (D : va_G) (y : ClassId × ClassId × ClassId × ClassId) (a a_text a_now a_undos a_seen a_isKept a_kept a_read a_congruences a_terms : Nat) (v_undoMany : Int32) (v_undoAt : Int32) (v_seenMany : Int32) (v_letterMany : Int32) (v_readAt : Int32) (v_tokenAt : Int32) (v_token : Int32) (v_faultAt : Int32) (v_readItems : Int32) (v_congruenceMany : Int32) (v_termMany : Int32) (v_rounds : Int32) (v_text : Nat → Int32) (sz : Nat) (A : Nat → Prop) (hAe : va_A [(a, .inr (6, [.ref a_now, .int v_undoMany, .int v_undoAt, .ref a_undos, .int v_seenMany, .ref a_seen, .ref a_isKept, .ref a_kept, .int v_letterMany, .ref a_text, .int v_readAt, .int v_tokenAt, .int v_token, .int v_faultAt, .int v_readItems, .ref a_read, .int v_congruenceMany, .ref a_congruences, .int v_termMany, .int v_rounds, .ref a_terms])), (a_text, .inl (y.1, 60, .inl v_text))] sz = A) (K : (Int32 × Int32 × Int32) → Prop) (h : sat (m_X9_next v_letterMany v_readAt v_tokenAt v_token v_text) K) : Met l yX9_next wsX9_next ({ frames := 1, cells := 0, slots := 0, locals := 20 } : Room) (pW D y ([.ref a] : List Value) [(a, .inr (6, [.ref a_now, .int v_undoMany, .int v_undoAt, .ref a_undos, .int v_seenMany, .ref a_seen, .ref a_isKept, .ref a_kept, .int v_letterMany, .ref a_text, .int v_readAt, .int v_tokenAt, .int v_token, .int v_faultAt, .int v_readItems, .ref a_read, .int v_congruenceMany, .ref a_congruences, .int v_termMany, .int v_rounds, .ref a_terms])), (a_text, .inl (y.1, 60, .inl v_text))] sz) (va_Qv K (bW D y A (fun u : (Int32 × Int32 × Int32) => [(a, .inr (6, [.ref a_now, .int v_undoMany, .int v_undoAt, .ref a_undos, .int v_seenMany, .ref a_seen, .ref a_isKept, .ref a_kept, .int v_letterMany, .ref a_text, .int u.1, .int u.2.1, .int u.2.2, .int v_faultAt, .int v_readItems, .ref a_read, .int v_congruenceMany, .ref a_congruences, .int v_termMany, .int v_rounds, .ref a_terms])), (a_text, .inl (y.1, 60, .inl v_text))])) A) 0 0 A := by
  refine Met.ofW (cc := cX9_next) (maxL := 1) (ret := none) (by decide) rfl ?_
  intro p e s m args below meth c s₁ B hml hv
  obtain ⟨rfl, hsz, hP, hK, hD0⟩ := hv
  have hx := B.exec
  have hb := B.bytes
  have hr := B.returns
  have hts := atoms_spec (ws := wsX9_next) B.pre
  have hown : s.vm.findClass RX9 = some m.cls := findClass_of_methodNamed B.named
  have hlocks := B.notSynchronized
  subst hsz
  have hD : va_D A [(a, .inr (6, [.ref a_now, .int v_undoMany, .int v_undoAt, .ref a_undos, .int v_seenMany, .ref a_seen, .ref a_isKept, .ref a_kept, .int v_letterMany, .ref a_text, .int v_readAt, .int v_tokenAt, .int v_token, .int v_faultAt, .int v_readItems, .ref a_read, .int v_congruenceMany, .ref a_congruences, .int v_termMany, .int v_rounds, .ref a_terms])), (a_text, .inl (y.1, 60, .inl v_text))] := hAe ▸ hD0.self
  have hA : ∀ q : Nat, s.heap.size ≤ q → A q := fun q h => hAe ▸ Or.inr h
  have hS : va_S A s.heap s.heap [] := va_S.rf
  have iX9 : ∀ w ∈ wsX90, w ∈ wsX9_next := by decide +kernel
  have fl64 := hts (.fieldLink RX9 64 "AlgebraLawsModel" "token" "I") (by decide +kernel)
  have fl55 := hts (.fieldLink RX9 55 "AlgebraLawsModel" "readAt" "I") (by decide +kernel)
  have fl51 := hts (.fieldLink RX9 51 "AlgebraLawsModel" "letterMany" "I") (by decide +kernel)
  have fl61 := hts (.fieldLink RX9 61 "AlgebraLawsModel" "tokenAt" "I") (by decide +kernel)
  have fl26 := hts (.fieldLink RX9 26 "AlgebraLawsModel" "text" "[I") (by decide +kernel)
  have hl := lv_entry ([.ref a] : List Value) (n := 1) (Nat.le_of_ble_eq_true rfl)
  rw [lg_entry_eq]
  generalize (lg_sl ([.ref a] : List Value) ++ List.replicate (1 - (lg_sl ([.ref a] : List Value)).length) Slot.unset).toArray = ls at hl ⊢
  have hl : lv_has ls 1 [(0, .ref a)] := hl
  have hJ37 : ∀ (t1_37 : Int32) (v_readAt_37 : Int32) (v_tokenAt_37 : Int32) (v_token_37 : Int32) (ls : Array Slot) (H : Heap) (locs : List Loc), sat (m_X9_next_j37 v_letterMany t1_37 v_readAt_37 v_tokenAt_37 v_token_37) K → lv_has ls 1 [(0, .ref a)] → va_P D vwCl [(a, .inr (6, [.ref a_now, .int v_undoMany, .int v_undoAt, .ref a_undos, .int v_seenMany, .ref a_seen, .ref a_isKept, .ref a_kept, .int v_letterMany, .ref a_text, .int v_readAt_37, .int v_tokenAt_37, .int v_token_37, .int v_faultAt, .int v_readItems, .ref a_read, .int v_congruenceMany, .ref a_congruences, .int v_termMany, .int v_rounds, .ref a_terms])), (a_text, .inl (y.1, 60, .inl v_text))] H → va_D A [(a, .inr (6, [.ref a_now, .int v_undoMany, .int v_undoAt, .ref a_undos, .int v_seenMany, .ref a_seen, .ref a_isKept, .ref a_kept, .int v_letterMany, .ref a_text, .int v_readAt_37, .int v_tokenAt_37, .int v_token_37, .int v_faultAt, .int v_readItems, .ref a_read, .int v_congruenceMany, .ref a_congruences, .int v_termMany, .int v_rounds, .ref a_terms])), (a_text, .inl (y.1, 60, .inl v_text))] → va_S A s.heap H locs → W p l e (headSpec wsX9_next ({ frames := 1, cells := 0, slots := 0, locals := 20 } : Room)).room s m ([.ref a] : List Value).toArray below meth c H locs 0 0 (MQ below (va_Qv K (bW D y A (fun u : (Int32 × Int32 × Int32) => [(a, .inr (6, [.ref a_now, .int v_undoMany, .int v_undoAt, .ref a_undos, .int v_seenMany, .ref a_seen, .ref a_isKept, .ref a_kept, .int v_letterMany, .ref a_text, .int u.1, .int u.2.1, .int u.2.2, .int v_faultAt, .int v_readItems, .ref a_read, .int v_congruenceMany, .ref a_congruences, .int v_termMany, .int v_rounds, .ref a_terms])), (a_text, .inl (y.1, 60, .inl v_text))])) A) ([.ref a] : List Value).toArray s 0 0 A) (F0 m 37 ls [.int t1_37, .ref a]) := by
    intro t1_37 v_readAt_37 v_tokenAt_37 v_token_37 ls H locs h hl hP hD hS
    unfold m_X9_next_j37 at h
    refine pf (D := D) (ci := 6) (v := .int t1_37) (ty := .int) (C := RX9) (T := TX9) (N := 21) (wn := [(a, .inr (6, [.ref a_now, .int v_undoMany, .int v_undoAt, .ref a_undos, .int v_seenMany, .ref a_seen, .ref a_isKept, .ref a_kept, .int v_letterMany, .ref a_text, .int v_readAt_37, .int v_tokenAt_37, .int t1_37, .int v_faultAt, .int v_readItems, .ref a_read, .int v_congruenceMany, .ref a_congruences, .int v_termMany, .int v_rounds, .ref a_terms])), (a_text, .inl (y.1, 60, .inl v_text))]) hx hb hts iX9 tyX9 tyX9_ok nmX9 hown hK hP hD hS 0 rfl rfl 12 (by decide) fl64 (fun _ h9 => h9) rfl (by decide +kernel) rfl rfl (Nat.le_of_ble_eq_true rfl) dX9_next_37 rfl (fun H locs hP hD hS => ?_)
    refine lv_aload_n hx hb dX9_next_40 rfl (lv_at hl 0 rfl) ?_
    refine lv_dup hx hb dX9_next_41 rfl ?_
    refine va_get (D := D) (ci := 6) (v := .int v_readAt_37) (C := RX9) (T := TX9) (N := 21) hx hb hts iX9 hown hK hP 0 rfl rfl 10 (by decide) fl55 (fun _ h9 => h9) rfl dX9_next_42 ?_
    refine lv_aload_n hx hb dX9_next_45 rfl (lv_at hl 0 rfl) ?_
    refine va_get (D := D) (ci := 6) (v := .int v_readAt_37) (C := RX9) (T := TX9) (N := 21) hx hb hts iX9 hown hK hP 0 rfl rfl 10 (by decide) fl55 (fun _ h9 => h9) rfl dX9_next_46 ?_
    refine lv_aload_n hx hb dX9_next_49 rfl (lv_at hl 0 rfl) ?_
    refine va_get (D := D) (ci := 6) (v := .int v_letterMany) (C := RX9) (T := TX9) (N := 21) hx hb hts iX9 hown hK hP 0 rfl rfl 8 (by decide) fl51 (fun _ h9 => h9) rfl dX9_next_50 ?_
    refine lv_icmp_ne (tgt := 60) hx hb dX9_next_53 (by decide) (fun c53 => ?_) (fun c53 => ?_)
    · have h := sat_f c53 h
      refine lv_iconst (v := 1) hx hb dX9_next_60 (by decide) ?_
      refine lv_iadd hx hb dX9_next_61 ?_
      refine pf (D := D) (ci := 6) (v := .int (v_readAt_37 + 1)) (ty := .int) (C := RX9) (T := TX9) (N := 21) (wn := [(a, .inr (6, [.ref a_now, .int v_undoMany, .int v_undoAt, .ref a_undos, .int v_seenMany, .ref a_seen, .ref a_isKept, .ref a_kept, .int v_letterMany, .ref a_text, .int (v_readAt_37 + 1), .int v_tokenAt_37, .int t1_37, .int v_faultAt, .int v_readItems, .ref a_read, .int v_congruenceMany, .ref a_congruences, .int v_termMany, .int v_rounds, .ref a_terms])), (a_text, .inl (y.1, 60, .inl v_text))]) hx hb hts iX9 tyX9 tyX9_ok nmX9 hown hK hP hD hS 0 rfl rfl 10 (by decide) fl55 (fun _ h9 => h9) rfl (by decide +kernel) rfl rfl (Nat.le_of_ble_eq_true rfl) dX9_next_62 rfl (fun H locs hP hD hS => ?_)
      have h := sat_some h
      exact W.vret hx hb hr (fun t ht hW => ⟨⟨(v_readAt_37 + 1, v_tokenAt_37, t1_37), rfl, h, by rw [ht]; exact hP, va_K.moved hW.alike hK, hD⟩, hS.F ht⟩) hS.2.2 dX9_next_65
    · have h := sat_t c53 h
      refine lv_iconst (v := 0) hx hb dX9_next_56 (by decide) ?_
      refine lv_goto (tgt := 61) hx hb dX9_next_57 (by decide) ?_
      refine lv_iadd hx hb dX9_next_61 ?_
      refine pf (D := D) (ci := 6) (v := .int (v_readAt_37 + 0)) (ty := .int) (C := RX9) (T := TX9) (N := 21) (wn := [(a, .inr (6, [.ref a_now, .int v_undoMany, .int v_undoAt, .ref a_undos, .int v_seenMany, .ref a_seen, .ref a_isKept, .ref a_kept, .int v_letterMany, .ref a_text, .int (v_readAt_37 + 0), .int v_tokenAt_37, .int t1_37, .int v_faultAt, .int v_readItems, .ref a_read, .int v_congruenceMany, .ref a_congruences, .int v_termMany, .int v_rounds, .ref a_terms])), (a_text, .inl (y.1, 60, .inl v_text))]) hx hb hts iX9 tyX9 tyX9_ok nmX9 hown hK hP hD hS 0 rfl rfl 10 (by decide) fl55 (fun _ h9 => h9) rfl (by decide +kernel) rfl rfl (Nat.le_of_ble_eq_true rfl) dX9_next_62 rfl (fun H locs hP hD hS => ?_)
      have h := sat_some h
      exact W.vret hx hb hr (fun t ht hW => ⟨⟨(v_readAt_37 + 0, v_tokenAt_37, t1_37), rfl, h, by rw [ht]; exact hP, va_K.moved hW.alike hK, hD⟩, hS.F ht⟩) hS.2.2 dX9_next_65
  unfold m_X9_next at h
  refine lv_aload_n hx hb dX9_next_0 rfl (lv_at hl 0 rfl) ?_
  refine cw_v (wn := fun u1 => [(a, .inr (6, [.ref a_now, .int v_undoMany, .int v_undoAt, .ref a_undos, .int v_seenMany, .ref a_seen, .ref a_isKept, .ref a_kept, .int v_letterMany, .ref a_text, .int u1, .int v_tokenAt, .int v_token, .int v_faultAt, .int v_readItems, .ref a_read, .int v_congruenceMany, .ref a_congruences, .int v_termMany, .int v_rounds, .ref a_terms])), (a_text, .inl (y.1, 60, .inl v_text))]) (wr := []) (wv (As := []) (rest := []) ⟨hx, hb, hml, hown, hts⟩ (c_X9_blanks l D y a a_text a_now a_undos a_seen a_isKept a_kept a_read a_congruences a_terms v_undoMany v_undoAt v_seenMany v_letterMany v_readAt v_tokenAt v_token v_faultAt v_readItems v_congruenceMany v_termMany v_rounds v_text _ _ rfl _ (sat_bind h)) (cwV 0 hts gX9_next_X9_blanks rfl rfl rfl (by decide +kernel) ⟨Nat.le_of_ble_eq_true rfl, Nat.le_of_ble_eq_true rfl⟩) hK hP hD [0, 1] rfl rfl rfl 0 6 rfl rfl rfl rfl hl.1 rfl (Nat.le_of_ble_eq_true rfl) dX9_next_1 ⟨Nat.zero_le _, Nat.zero_le _⟩) hS hP hD hA [0, 1] [] [0, 1] rfl rfl rfl (by decide) (fun _ => rfl) rfl (fun _ => rfl) (fun u1 H locs h hP hD hS => ?_)
  refine lv_aload_n hx hb dX9_next_4 rfl (lv_at hl 0 rfl) ?_
  refine lv_aload_n hx hb dX9_next_5 rfl (lv_at hl 0 rfl) ?_
  refine va_get (D := D) (ci := 6) (v := .int u1) (C := RX9) (T := TX9) (N := 21) hx hb hts iX9 hown hK hP 0 rfl rfl 10 (by decide) fl55 (fun _ h9 => h9) rfl dX9_next_6 ?_
  refine pf (D := D) (ci := 6) (v := .int u1) (ty := .int) (C := RX9) (T := TX9) (N := 21) (wn := [(a, .inr (6, [.ref a_now, .int v_undoMany, .int v_undoAt, .ref a_undos, .int v_seenMany, .ref a_seen, .ref a_isKept, .ref a_kept, .int v_letterMany, .ref a_text, .int u1, .int u1, .int v_token, .int v_faultAt, .int v_readItems, .ref a_read, .int v_congruenceMany, .ref a_congruences, .int v_termMany, .int v_rounds, .ref a_terms])), (a_text, .inl (y.1, 60, .inl v_text))]) hx hb hts iX9 tyX9 tyX9_ok nmX9 hown hK hP hD hS 0 rfl rfl 11 (by decide) fl61 (fun _ h9 => h9) rfl (by decide +kernel) rfl rfl (Nat.le_of_ble_eq_true rfl) dX9_next_9 rfl (fun H locs hP hD hS => ?_)
  refine lv_aload_n hx hb dX9_next_12 rfl (lv_at hl 0 rfl) ?_
  refine lv_aload_n hx hb dX9_next_13 rfl (lv_at hl 0 rfl) ?_
  refine va_get (D := D) (ci := 6) (v := .int u1) (C := RX9) (T := TX9) (N := 21) hx hb hts iX9 hown hK hP 0 rfl rfl 10 (by decide) fl55 (fun _ h9 => h9) rfl dX9_next_14 ?_
  refine lv_aload_n hx hb dX9_next_17 rfl (lv_at hl 0 rfl) ?_
  refine va_get (D := D) (ci := 6) (v := .int v_letterMany) (C := RX9) (T := TX9) (N := 21) hx hb hts iX9 hown hK hP 0 rfl rfl 8 (by decide) fl51 (fun _ h9 => h9) rfl dX9_next_18 ?_
  refine lv_icmp_ne (tgt := 28) hx hb dX9_next_21 (by decide) (fun c21 => ?_) (fun c21 => ?_)
  · have h := sat_f c21 h
    refine lv_aload_n hx hb dX9_next_28 rfl (lv_at hl 0 rfl) ?_
    refine va_get (D := D) (ci := 6) (v := .ref a_text) (C := RX9) (T := TX9) (N := 21) hx hb hts iX9 hown hK hP 0 rfl rfl 9 (by decide) fl26 (fun _ h9 => h9) rfl dX9_next_29 ?_
    refine lv_aload_n hx hb dX9_next_32 rfl (lv_at hl 0 rfl) ?_
    refine va_get (D := D) (ci := 6) (v := .int u1) (C := RX9) (T := TX9) (N := 21) hx hb hts iX9 hown hK hP 0 rfl rfl 10 (by decide) fl55 (fun _ h9 => h9) rfl dX9_next_33 ?_
    obtain ⟨r2, er2, hin, h⟩ := sat_rd h
    refine xi hx hb hK hP 1 0 rfl rfl er2 hin dX9_next_36 ?_
    exact hJ37 r2 u1 u1 v_token ls H locs h hl hP hD hS
  · have h := sat_t c21 h
    refine lv_iconst (v := (-1)) hx hb dX9_next_24 (by decide) ?_
    refine lv_goto (tgt := 37) hx hb dX9_next_25 (by decide) ?_
    exact hJ37 (-1) u1 u1 v_token ls H locs h hl hP hD hS

/-! X9_figure -/
set_option maxHeartbeats 4000000 in
set_option maxRecDepth 100000 in
theorem c_X9_figure (l : Launch) (D : va_G) (y : ClassId × ClassId × ClassId × ClassId) (a a_text a_now a_undos a_seen a_isKept a_kept a_read a_congruences a_terms : Nat) (v_undoMany : Int32) (v_undoAt : Int32) (v_seenMany : Int32) (v_letterMany : Int32) (v_readAt : Int32) (v_tokenAt : Int32) (v_token : Int32) (v_faultAt : Int32) (v_readItems : Int32) (v_congruenceMany : Int32) (v_termMany : Int32) (v_rounds : Int32) (v_text : Nat → Int32) (x1 : Int32) (x2 : Int32) (sz : Nat) (A : Nat → Prop) (hAe : va_A [(a, .inr (6, [.ref a_now, .int v_undoMany, .int v_undoAt, .ref a_undos, .int v_seenMany, .ref a_seen, .ref a_isKept, .ref a_kept, .int v_letterMany, .ref a_text, .int v_readAt, .int v_tokenAt, .int v_token, .int v_faultAt, .int v_readItems, .ref a_read, .int v_congruenceMany, .ref a_congruences, .int v_termMany, .int v_rounds, .ref a_terms])), (a_text, .inl (y.1, 60, .inl v_text))] sz = A) (K : Int32 → (Int32 × Int32 × Int32) → Prop) (h : sat (m_X9_figure v_letterMany v_readAt v_tokenAt v_token v_text x1 x2) (pK K)) : Met l yX9_figure wsX9_figure ({ frames := 2, cells := 0, slots := 0, locals := 40 } : Room) (pW D y ([.ref a, .int x1, .int x2] : List Value) [(a, .inr (6, [.ref a_now, .int v_undoMany, .int v_undoAt, .ref a_undos, .int v_seenMany, .ref a_seen, .ref a_isKept, .ref a_kept, .int v_letterMany, .ref a_text, .int v_readAt, .int v_tokenAt, .int v_token, .int v_faultAt, .int v_readItems, .ref a_read, .int v_congruenceMany, .ref a_congruences, .int v_termMany, .int v_rounds, .ref a_terms])), (a_text, .inl (y.1, 60, .inl v_text))] sz) (va_Qi K (bW D y A (fun u : (Int32 × Int32 × Int32) => [(a, .inr (6, [.ref a_now, .int v_undoMany, .int v_undoAt, .ref a_undos, .int v_seenMany, .ref a_seen, .ref a_isKept, .ref a_kept, .int v_letterMany, .ref a_text, .int u.1, .int u.2.1, .int u.2.2, .int v_faultAt, .int v_readItems, .ref a_read, .int v_congruenceMany, .ref a_congruences, .int v_termMany, .int v_rounds, .ref a_terms])), (a_text, .inl (y.1, 60, .inl v_text))])) A) 0 0 A := by
  refine Met.ofW (cc := cX9_figure) (maxL := 3) (ret := (some .boolean)) (by decide) rfl ?_
  intro p e s m args below meth c s₁ B hml hv
  obtain ⟨rfl, hsz, hP, hK, hD0⟩ := hv
  have hx := B.exec
  have hb := B.bytes
  have hr := B.returns
  have hts := atoms_spec (ws := wsX9_figure) B.pre
  have hown : s.vm.findClass RX9 = some m.cls := findClass_of_methodNamed B.named
  have hlocks := B.notSynchronized
  subst hsz
  have hD : va_D A [(a, .inr (6, [.ref a_now, .int v_undoMany, .int v_undoAt, .ref a_undos, .int v_seenMany, .ref a_seen, .ref a_isKept, .ref a_kept, .int v_letterMany, .ref a_text, .int v_readAt, .int v_tokenAt, .int v_token, .int v_faultAt, .int v_readItems, .ref a_read, .int v_congruenceMany, .ref a_congruences, .int v_termMany, .int v_rounds, .ref a_terms])), (a_text, .inl (y.1, 60, .inl v_text))] := hAe ▸ hD0.self
  have hA : ∀ q : Nat, s.heap.size ≤ q → A q := fun q h => hAe ▸ Or.inr h
  have hS : va_S A s.heap s.heap [] := va_S.rf
  have iX9 : ∀ w ∈ wsX90, w ∈ wsX9_figure := by decide +kernel
  have fl64 := hts (.fieldLink RX9 64 "AlgebraLawsModel" "token" "I") (by decide +kernel)
  have hl := lv_entry ([.ref a, .int x1, .int x2] : List Value) (n := 3) (Nat.le_of_ble_eq_true rfl)
  rw [lg_entry_eq]
  generalize (lg_sl ([.ref a, .int x1, .int x2] : List Value) ++ List.replicate (3 - (lg_sl ([.ref a, .int x1, .int x2] : List Value)).length) Slot.unset).toArray = ls at hl ⊢
  have hl : lv_has ls 3 [(0, .ref a), (1, .int x1), (2, .int x2)] := hl
  unfold m_X9_figure at h
  refine lv_aload_n hx hb dX9_figure_0 rfl (lv_at hl 0 rfl) ?_
  refine cw_v (wn := fun u1 => [(a, .inr (6, [.ref a_now, .int v_undoMany, .int v_undoAt, .ref a_undos, .int v_seenMany, .ref a_seen, .ref a_isKept, .ref a_kept, .int v_letterMany, .ref a_text, .int u1.1, .int u1.2.1, .int u1.2.2, .int v_faultAt, .int v_readItems, .ref a_read, .int v_congruenceMany, .ref a_congruences, .int v_termMany, .int v_rounds, .ref a_terms])), (a_text, .inl (y.1, 60, .inl v_text))]) (wr := []) (wv (As := []) (rest := []) ⟨hx, hb, hml, hown, hts⟩ (c_X9_next l D y a a_text a_now a_undos a_seen a_isKept a_kept a_read a_congruences a_terms v_undoMany v_undoAt v_seenMany v_letterMany v_readAt v_tokenAt v_token v_faultAt v_readItems v_congruenceMany v_termMany v_rounds v_text _ _ rfl _ (sat_bind h)) (cwV 0 hts gX9_figure_X9_next rfl rfl rfl (by decide +kernel) ⟨Nat.le_of_ble_eq_true rfl, Nat.le_of_ble_eq_true rfl⟩) hK hP hD [0, 1] rfl rfl rfl 0 6 rfl rfl rfl rfl hl.1 rfl (Nat.le_of_ble_eq_true rfl) dX9_figure_1 ⟨Nat.zero_le _, Nat.zero_le _⟩) hS hP hD hA [0, 1] [] [0, 1] rfl rfl rfl (by decide) (fun _ => rfl) rfl (fun _ => rfl) (fun u1 H locs h hP hD hS => ?_)
  refine lv_aload_n hx hb dX9_figure_4 rfl (lv_at hl 0 rfl) ?_
  refine va_get (D := D) (ci := 6) (v := .int u1.2.2) (C := RX9) (T := TX9) (N := 21) hx hb hts iX9 hown hK hP 0 rfl rfl 12 (by decide) fl64 (fun _ h9 => h9) rfl dX9_figure_5 ?_
  refine lv_bipush (v := 48) hx hb dX9_figure_8 (by decide) ?_
  refine lv_iload_n hx hb dX9_figure_10 rfl (lv_at hl 1 rfl) ?_
  refine lv_iadd hx hb dX9_figure_11 ?_
  refine lv_bipush (v := 48) hx hb dX9_figure_12 (by decide) ?_
  refine lv_iload_n hx hb dX9_figure_14 rfl (lv_at hl 2 rfl) ?_
  refine lv_iadd hx hb dX9_figure_15 ?_
  refine cr_i (rs (As := [.int u1.2.2, .int (48 + x1), .int (48 + x2)]) (rest := []) ⟨hx, hb, hml, hown, hts⟩ (c_X9_in l D y u1.2.2 (48 + x1) (48 + x2) _ (sat_bind h)) (va_cwS 3 hts gX9_figure_X9_in rfl rfl rfl (by decide +kernel) ⟨Nat.le_of_ble_eq_true rfl, Nat.le_of_ble_eq_true rfl⟩) hK hP [] rfl rfl hl.1 rfl (Nat.le_of_ble_eq_true rfl) dX9_figure_16 ⟨Nat.zero_le _, Nat.zero_le _⟩) (fun r2 h => ?_)
  obtain ⟨hz, h⟩ := sat_gd h
  have h := sat_some h
  exact W.zret (v := r2) hx hb hr (zn hz) (fun t ht hW => ⟨⟨r2, (u1.1, u1.2.1, u1.2.2), rfl, h, by rw [ht]; exact hP, va_K.moved hW.alike hK, hD⟩, hS.F ht⟩) hS.2.2 dX9_figure_19

/-! X9_ends -/
set_option maxHeartbeats 4000000 in
set_option maxRecDepth 100000 in
theorem c_X9_ends (l : Launch) (D : va_G) (y : ClassId × ClassId × ClassId × ClassId) (a a_text a_now a_undos a_seen a_isKept a_kept a_read a_congruences a_terms : Nat) (v_undoMany : Int32) (v_undoAt : Int32) (v_seenMany : Int32) (v_letterMany : Int32) (v_readAt : Int32) (v_tokenAt : Int32) (v_token : Int32) (v_faultAt : Int32) (v_readItems : Int32) (v_congruenceMany : Int32) (v_termMany : Int32) (v_rounds : Int32) (v_text : Nat → Int32) (sz : Nat) (A : Nat → Prop) (hAe : va_A [(a, .inr (6, [.ref a_now, .int v_undoMany, .int v_undoAt, .ref a_undos, .int v_seenMany, .ref a_seen, .ref a_isKept, .ref a_kept, .int v_letterMany, .ref a_text, .int v_readAt, .int v_tokenAt, .int v_token, .int v_faultAt, .int v_readItems, .ref a_read, .int v_congruenceMany, .ref a_congruences, .int v_termMany, .int v_rounds, .ref a_terms])), (a_text, .inl (y.1, 60, .inl v_text))] sz = A) (K : Int32 → (Int32 × Int32 × Int32) → Prop) (h : sat (m_X9_ends v_letterMany v_readAt v_tokenAt v_token v_text) (pK K)) : Met l yX9_ends wsX9_ends ({ frames := 2, cells := 0, slots := 0, locals := 40 } : Room) (pW D y ([.ref a] : List Value) [(a, .inr (6, [.ref a_now, .int v_undoMany, .int v_undoAt, .ref a_undos, .int v_seenMany, .ref a_seen, .ref a_isKept, .ref a_kept, .int v_letterMany, .ref a_text, .int v_readAt, .int v_tokenAt, .int v_token, .int v_faultAt, .int v_readItems, .ref a_read, .int v_congruenceMany, .ref a_congruences, .int v_termMany, .int v_rounds, .ref a_terms])), (a_text, .inl (y.1, 60, .inl v_text))] sz) (va_Qi K (bW D y A (fun u : (Int32 × Int32 × Int32) => [(a, .inr (6, [.ref a_now, .int v_undoMany, .int v_undoAt, .ref a_undos, .int v_seenMany, .ref a_seen, .ref a_isKept, .ref a_kept, .int v_letterMany, .ref a_text, .int u.1, .int u.2.1, .int u.2.2, .int v_faultAt, .int v_readItems, .ref a_read, .int v_congruenceMany, .ref a_congruences, .int v_termMany, .int v_rounds, .ref a_terms])), (a_text, .inl (y.1, 60, .inl v_text))])) A) 0 0 A := by
  refine Met.ofW (cc := cX9_ends) (maxL := 1) (ret := (some .boolean)) (by decide) rfl ?_
  intro p e s m args below meth c s₁ B hml hv
  obtain ⟨rfl, hsz, hP, hK, hD0⟩ := hv
  have hx := B.exec
  have hb := B.bytes
  have hr := B.returns
  have hts := atoms_spec (ws := wsX9_ends) B.pre
  have hown : s.vm.findClass RX9 = some m.cls := findClass_of_methodNamed B.named
  have hlocks := B.notSynchronized
  subst hsz
  have hD : va_D A [(a, .inr (6, [.ref a_now, .int v_undoMany, .int v_undoAt, .ref a_undos, .int v_seenMany, .ref a_seen, .ref a_isKept, .ref a_kept, .int v_letterMany, .ref a_text, .int v_readAt, .int v_tokenAt, .int v_token, .int v_faultAt, .int v_readItems, .ref a_read, .int v_congruenceMany, .ref a_congruences, .int v_termMany, .int v_rounds, .ref a_terms])), (a_text, .inl (y.1, 60, .inl v_text))] := hAe ▸ hD0.self
  have hA : ∀ q : Nat, s.heap.size ≤ q → A q := fun q h => hAe ▸ Or.inr h
  have hS : va_S A s.heap s.heap [] := va_S.rf
  have iX9 : ∀ w ∈ wsX90, w ∈ wsX9_ends := by decide +kernel
  have fl64 := hts (.fieldLink RX9 64 "AlgebraLawsModel" "token" "I") (by decide +kernel)
  have hl := lv_entry ([.ref a] : List Value) (n := 1) (Nat.le_of_ble_eq_true rfl)
  rw [lg_entry_eq]
  generalize (lg_sl ([.ref a] : List Value) ++ List.replicate (1 - (lg_sl ([.ref a] : List Value)).length) Slot.unset).toArray = ls at hl ⊢
  have hl : lv_has ls 1 [(0, .ref a)] := hl
  unfold m_X9_ends at h
  refine lv_aload_n hx hb dX9_ends_0 rfl (lv_at hl 0 rfl) ?_
  refine cw_v (wn := fun u1 => [(a, .inr (6, [.ref a_now, .int v_undoMany, .int v_undoAt, .ref a_undos, .int v_seenMany, .ref a_seen, .ref a_isKept, .ref a_kept, .int v_letterMany, .ref a_text, .int u1.1, .int u1.2.1, .int u1.2.2, .int v_faultAt, .int v_readItems, .ref a_read, .int v_congruenceMany, .ref a_congruences, .int v_termMany, .int v_rounds, .ref a_terms])), (a_text, .inl (y.1, 60, .inl v_text))]) (wr := []) (wv (As := []) (rest := []) ⟨hx, hb, hml, hown, hts⟩ (c_X9_next l D y a a_text a_now a_undos a_seen a_isKept a_kept a_read a_congruences a_terms v_undoMany v_undoAt v_seenMany v_letterMany v_readAt v_tokenAt v_token v_faultAt v_readItems v_congruenceMany v_termMany v_rounds v_text _ _ rfl _ (sat_bind h)) (cwV 0 hts gX9_ends_X9_next rfl rfl rfl (by decide +kernel) ⟨Nat.le_of_ble_eq_true rfl, Nat.le_of_ble_eq_true rfl⟩) hK hP hD [0, 1] rfl rfl rfl 0 6 rfl rfl rfl rfl hl.1 rfl (Nat.le_of_ble_eq_true rfl) dX9_ends_1 ⟨Nat.zero_le _, Nat.zero_le _⟩) hS hP hD hA [0, 1] [] [0, 1] rfl rfl rfl (by decide) (fun _ => rfl) rfl (fun _ => rfl) (fun u1 H locs h hP hD hS => ?_)
  refine lv_aload_n hx hb dX9_ends_4 rfl (lv_at hl 0 rfl) ?_
  refine va_get (D := D) (ci := 6) (v := .int u1.2.2) (C := RX9) (T := TX9) (N := 21) hx hb hts iX9 hown hK hP 0 rfl rfl 12 (by decide) fl64 (fun _ h9 => h9) rfl dX9_ends_5 ?_
  refine lv_bipush (v := 59) hx hb dX9_ends_8 (by decide) ?_
  refine lv_icmp_ne (tgt := 17) hx hb dX9_ends_10 (by decide) (fun c10 => ?_) (fun c10 => ?_)
  · have h := sat_f c10 h
    refine lv_iconst (v := 0) hx hb dX9_ends_17 (by decide) ?_
    have h := sat_some h
    exact W.zret (v := 0) hx hb hr rfl (fun t ht hW => ⟨⟨0, (u1.1, u1.2.1, u1.2.2), rfl, h, by rw [ht]; exact hP, va_K.moved hW.alike hK, hD⟩, hS.F ht⟩) hS.2.2 dX9_ends_18
  · have h := sat_t c10 h
    refine lv_iconst (v := 1) hx hb dX9_ends_13 (by decide) ?_
    refine lv_goto (tgt := 18) hx hb dX9_ends_14 (by decide) ?_
    have h := sat_some h
    exact W.zret (v := 1) hx hb hr rfl (fun t ht hW => ⟨⟨1, (u1.1, u1.2.1, u1.2.2), rfl, h, by rw [ht]; exact hP, va_K.moved hW.alike hK, hD⟩, hS.F ht⟩) hS.2.2 dX9_ends_18

/-! X9_readsSize -/
set_option maxHeartbeats 4000000 in
set_option maxRecDepth 100000 in
theorem c_X9_readsSize (l : Launch) (D : va_G) (y : ClassId × ClassId × ClassId × ClassId) (a a_read a_text a_now a_undos a_seen a_isKept a_kept a_congruences a_terms : Nat) (v_undoMany : Int32) (v_undoAt : Int32) (v_seenMany : Int32) (v_letterMany : Int32) (v_readAt : Int32) (v_tokenAt : Int32) (v_token : Int32) (v_faultAt : Int32) (v_readItems : Int32) (v_congruenceMany : Int32) (v_termMany : Int32) (v_rounds : Int32) (v_read : Nat → Int32) (v_text : Nat → Int32) (sz : Nat) (A : Nat → Prop) (hAe : va_A [(a, .inr (6, [.ref a_now, .int v_undoMany, .int v_undoAt, .ref a_undos, .int v_seenMany, .ref a_seen, .ref a_isKept, .ref a_kept, .int v_letterMany, .ref a_text, .int v_readAt, .int v_tokenAt, .int v_token, .int v_faultAt, .int v_readItems, .ref a_read, .int v_congruenceMany, .ref a_congruences, .int v_termMany, .int v_rounds, .ref a_terms])), (a_read, .inl (y.1, 21, .inl v_read)), (a_text, .inl (y.1, 60, .inl v_text))] sz = A) (K : Int32 → (Int32 × Int32 × Int32 × (Nat → Int32)) → Prop) (h : sat (m_X9_readsSize v_letterMany v_readAt v_tokenAt v_token v_readItems v_read v_text) (pK K)) : Met l yX9_readsSize wsX9_readsSize ({ frames := 3, cells := 0, slots := 0, locals := 62 } : Room) (pW D y ([.ref a] : List Value) [(a, .inr (6, [.ref a_now, .int v_undoMany, .int v_undoAt, .ref a_undos, .int v_seenMany, .ref a_seen, .ref a_isKept, .ref a_kept, .int v_letterMany, .ref a_text, .int v_readAt, .int v_tokenAt, .int v_token, .int v_faultAt, .int v_readItems, .ref a_read, .int v_congruenceMany, .ref a_congruences, .int v_termMany, .int v_rounds, .ref a_terms])), (a_read, .inl (y.1, 21, .inl v_read)), (a_text, .inl (y.1, 60, .inl v_text))] sz) (va_Qi K (bW D y A (fun u : (Int32 × Int32 × Int32 × (Nat → Int32)) => [(a, .inr (6, [.ref a_now, .int v_undoMany, .int v_undoAt, .ref a_undos, .int v_seenMany, .ref a_seen, .ref a_isKept, .ref a_kept, .int v_letterMany, .ref a_text, .int u.1, .int u.2.1, .int u.2.2.1, .int v_faultAt, .int v_readItems, .ref a_read, .int v_congruenceMany, .ref a_congruences, .int v_termMany, .int v_rounds, .ref a_terms])), (a_read, .inl (y.1, 21, .inl u.2.2.2)), (a_text, .inl (y.1, 60, .inl v_text))])) A) 0 0 A := by
  refine Met.ofW (cc := cX9_readsSize) (maxL := 1) (ret := (some .boolean)) (by decide) rfl ?_
  intro p e s m args below meth c s₁ B hml hv
  obtain ⟨rfl, hsz, hP, hK, hD0⟩ := hv
  have hx := B.exec
  have hb := B.bytes
  have hr := B.returns
  have hts := atoms_spec (ws := wsX9_readsSize) B.pre
  have hown : s.vm.findClass RX9 = some m.cls := findClass_of_methodNamed B.named
  have hlocks := B.notSynchronized
  subst hsz
  have hD : va_D A [(a, .inr (6, [.ref a_now, .int v_undoMany, .int v_undoAt, .ref a_undos, .int v_seenMany, .ref a_seen, .ref a_isKept, .ref a_kept, .int v_letterMany, .ref a_text, .int v_readAt, .int v_tokenAt, .int v_token, .int v_faultAt, .int v_readItems, .ref a_read, .int v_congruenceMany, .ref a_congruences, .int v_termMany, .int v_rounds, .ref a_terms])), (a_read, .inl (y.1, 21, .inl v_read)), (a_text, .inl (y.1, 60, .inl v_text))] := hAe ▸ hD0.self
  have hA : ∀ q : Nat, s.heap.size ≤ q → A q := fun q h => hAe ▸ Or.inr h
  have hS : va_S A s.heap s.heap [] := va_S.rf
  have iX9 : ∀ w ∈ wsX90, w ∈ wsX9_readsSize := by decide +kernel
  have fl70 := hts (.fieldLink RX9 70 "AlgebraLawsModel" "readItems" "I") (by decide +kernel)
  have fl29 := hts (.fieldLink RX9 29 "AlgebraLawsModel" "read" "[I") (by decide +kernel)
  have fl64 := hts (.fieldLink RX9 64 "AlgebraLawsModel" "token" "I") (by decide +kernel)
  have hl := lv_entry ([.ref a] : List Value) (n := 1) (Nat.le_of_ble_eq_true rfl)
  rw [lg_entry_eq]
  generalize (lg_sl ([.ref a] : List Value) ++ List.replicate (1 - (lg_sl ([.ref a] : List Value)).length) Slot.unset).toArray = ls at hl ⊢
  have hl : lv_has ls 1 [(0, .ref a)] := hl
  unfold m_X9_readsSize at h
  refine lv_aload_n hx hb dX9_readsSize_0 rfl (lv_at hl 0 rfl) ?_
  refine va_get (D := D) (ci := 6) (v := .int v_readItems) (C := RX9) (T := TX9) (N := 21) hx hb hts iX9 hown hK hP 0 rfl rfl 14 (by decide) fl70 (fun _ h9 => h9) rfl dX9_readsSize_1 ?_
  refine lv_if_gt (tgt := 16) hx hb dX9_readsSize_4 (by decide) (fun c4 => ?_) (fun c4 => ?_)
  · have h := sat_t c4 h
    refine lv_iconst (v := 0) hx hb dX9_readsSize_16 (by decide) ?_
    have h := sat_some h
    exact W.zret (v := 0) hx hb hr rfl (fun t ht hW => ⟨⟨0, (v_readAt, v_tokenAt, v_token, v_read), rfl, h, by rw [ht]; exact hP, va_K.moved hW.alike hK, hD⟩, hS.F ht⟩) hS.2.2 dX9_readsSize_17
  · have h := sat_f c4 h
    refine lv_aload_n hx hb dX9_readsSize_7 rfl (lv_at hl 0 rfl) ?_
    refine lv_iconst (v := 1) hx hb dX9_readsSize_8 (by decide) ?_
    refine lv_iconst (v := 4) hx hb dX9_readsSize_9 (by decide) ?_
    refine cw_i (wn := fun u1 => [(a, .inr (6, [.ref a_now, .int v_undoMany, .int v_undoAt, .ref a_undos, .int v_seenMany, .ref a_seen, .ref a_isKept, .ref a_kept, .int v_letterMany, .ref a_text, .int u1.1, .int u1.2.1, .int u1.2.2, .int v_faultAt, .int v_readItems, .ref a_read, .int v_congruenceMany, .ref a_congruences, .int v_termMany, .int v_rounds, .ref a_terms])), (a_read, .inl (y.1, 21, .inl v_read)), (a_text, .inl (y.1, 60, .inl v_text))]) (wr := [(a_read, .inl (y.1, 21, .inl v_read))]) (wv (As := [.int 1, .int 4]) (rest := []) ⟨hx, hb, hml, hown, hts⟩ (c_X9_figure l D y a a_text a_now a_undos a_seen a_isKept a_kept a_read a_congruences a_terms v_undoMany v_undoAt v_seenMany v_letterMany v_readAt v_tokenAt v_token v_faultAt v_readItems v_congruenceMany v_termMany v_rounds v_text 1 4 _ _ rfl _ (sat_bd2 h)) (cwV 2 hts gX9_readsSize_X9_figure rfl rfl rfl (by decide +kernel) ⟨Nat.le_of_ble_eq_true rfl, Nat.le_of_ble_eq_true rfl⟩) hK hP hD [0, 2] rfl rfl rfl 0 6 rfl rfl rfl rfl hl.1 rfl (Nat.le_of_ble_eq_true rfl) dX9_readsSize_10 ⟨Nat.zero_le _, Nat.zero_le _⟩) hS hP hD hA [0, 2] [1] [1, 0, 2] rfl rfl rfl (by decide) (fun _ => rfl) rfl (fun _ => rfl) (fun r2 u1 H locs h hP hD hS => ?_)
    refine lv_if_ne (tgt := 18) hx hb dX9_readsSize_13 (by decide) (fun c13 => ?_) (fun c13 => ?_)
    · have h := sat_f c13 h
      refine lv_aload_n hx hb dX9_readsSize_18 rfl (lv_at hl 0 rfl) ?_
      refine va_get (D := D) (ci := 6) (v := .ref a_read) (C := RX9) (T := TX9) (N := 21) hx hb hts iX9 hown hK hP 0 rfl rfl 15 (by decide) fl29 (fun _ h9 => h9) rfl dX9_readsSize_19 ?_
      refine lv_bipush (v := 20) hx hb dX9_readsSize_22 (by decide) ?_
      refine lv_aload_n hx hb dX9_readsSize_24 rfl (lv_at hl 0 rfl) ?_
      refine va_get (D := D) (ci := 6) (v := .int u1.2.2) (C := RX9) (T := TX9) (N := 21) hx hb hts iX9 hown hK hP 0 rfl rfl 12 (by decide) fl64 (fun _ h9 => h9) rfl dX9_readsSize_25 ?_
      refine lv_bipush (v := 48) hx hb dX9_readsSize_28 (by decide) ?_
      refine lv_isub hx hb dX9_readsSize_30 ?_
      obtain ⟨f3, ef3, hin, h⟩ := sat_wrI h
      refine yi (wn := [(a, .inr (6, [.ref a_now, .int v_undoMany, .int v_undoAt, .ref a_undos, .int v_seenMany, .ref a_seen, .ref a_isKept, .ref a_kept, .int v_letterMany, .ref a_text, .int u1.1, .int u1.2.1, .int u1.2.2, .int v_faultAt, .int v_readItems, .ref a_read, .int v_congruenceMany, .ref a_congruences, .int v_termMany, .int v_rounds, .ref a_terms])), (a_read, .inl (y.1, 21, .inl f3)), (a_text, .inl (y.1, 60, .inl v_text))]) hx hb hK hP hD hS 1 0 rfl rfl ef3 hin dX9_readsSize_31 rfl (fun H locs hP hD hS => ?_)
      refine lv_aload_n hx hb dX9_readsSize_32 rfl (lv_at hl 0 rfl) ?_
      refine cw_i (wn := fun u4 => [(a, .inr (6, [.ref a_now, .int v_undoMany, .int v_undoAt, .ref a_undos, .int v_seenMany, .ref a_seen, .ref a_isKept, .ref a_kept, .int v_letterMany, .ref a_text, .int u4.1, .int u4.2.1, .int u4.2.2, .int v_faultAt, .int v_readItems, .ref a_read, .int v_congruenceMany, .ref a_congruences, .int v_termMany, .int v_rounds, .ref a_terms])), (a_read, .inl (y.1, 21, .inl f3)), (a_text, .inl (y.1, 60, .inl v_text))]) (wr := [(a_read, .inl (y.1, 21, .inl f3))]) (wv (As := []) (rest := []) ⟨hx, hb, hml, hown, hts⟩ (c_X9_ends l D y a a_text a_now a_undos a_seen a_isKept a_kept a_read a_congruences a_terms v_undoMany v_undoAt v_seenMany v_letterMany u1.1 u1.2.1 u1.2.2 v_faultAt v_readItems v_congruenceMany v_termMany v_rounds v_text _ _ rfl _ (sat_bd2 h)) (cwV 0 hts gX9_readsSize_X9_ends rfl rfl rfl (by decide +kernel) ⟨Nat.le_of_ble_eq_true rfl, Nat.le_of_ble_eq_true rfl⟩) hK hP hD [0, 2] rfl rfl rfl 0 6 rfl rfl rfl rfl hl.1 rfl (Nat.le_of_ble_eq_true rfl) dX9_readsSize_33 ⟨Nat.zero_le _, Nat.zero_le _⟩) hS hP hD hA [0, 2] [1] [1, 0, 2] rfl rfl rfl (by decide) (fun _ => rfl) rfl (fun _ => rfl) (fun r5 u4 H locs h hP hD hS => ?_)
      obtain ⟨hz, h⟩ := sat_gd h
      have h := sat_some h
      exact W.zret (v := r5) hx hb hr (zn hz) (fun t ht hW => ⟨⟨r5, (u4.1, u4.2.1, u4.2.2, f3), rfl, h, by rw [ht]; exact hP, va_K.moved hW.alike hK, hD⟩, hS.F ht⟩) hS.2.2 dX9_readsSize_36
    · have h := sat_t c13 h
      refine lv_iconst (v := 0) hx hb dX9_readsSize_16 (by decide) ?_
      have h := sat_some h
      exact W.zret (v := 0) hx hb hr rfl (fun t ht hW => ⟨⟨0, (u1.1, u1.2.1, u1.2.2, v_read), rfl, h, by rw [ht]; exact hP, va_K.moved hW.alike hK, hD⟩, hS.F ht⟩) hS.2.2 dX9_readsSize_17

/-! X9_readsF -/
set_option maxHeartbeats 4000000 in
set_option maxRecDepth 100000 in
theorem c_X9_readsF (l : Launch) (D : va_G) (y : ClassId × ClassId × ClassId × ClassId) (a a_read a_text a_now a_undos a_seen a_isKept a_kept a_congruences a_terms : Nat) (v_undoMany : Int32) (v_undoAt : Int32) (v_seenMany : Int32) (v_letterMany : Int32) (v_readAt : Int32) (v_tokenAt : Int32) (v_token : Int32) (v_faultAt : Int32) (v_readItems : Int32) (v_congruenceMany : Int32) (v_termMany : Int32) (v_rounds : Int32) (v_read : Nat → Int32) (v_text : Nat → Int32) (sz : Nat) (A : Nat → Prop) (hAe : va_A [(a, .inr (6, [.ref a_now, .int v_undoMany, .int v_undoAt, .ref a_undos, .int v_seenMany, .ref a_seen, .ref a_isKept, .ref a_kept, .int v_letterMany, .ref a_text, .int v_readAt, .int v_tokenAt, .int v_token, .int v_faultAt, .int v_readItems, .ref a_read, .int v_congruenceMany, .ref a_congruences, .int v_termMany, .int v_rounds, .ref a_terms])), (a_read, .inl (y.1, 21, .inl v_read)), (a_text, .inl (y.1, 60, .inl v_text))] sz = A) (K : Int32 → (Int32 × Int32 × Int32 × (Nat → Int32)) → Prop) (h : sat (m_X9_readsF v_letterMany v_readAt v_tokenAt v_token v_read v_text) (pK K)) : Met l yX9_readsF wsX9_readsF ({ frames := 3, cells := 0, slots := 0, locals := 62 } : Room) (pW D y ([.ref a] : List Value) [(a, .inr (6, [.ref a_now, .int v_undoMany, .int v_undoAt, .ref a_undos, .int v_seenMany, .ref a_seen, .ref a_isKept, .ref a_kept, .int v_letterMany, .ref a_text, .int v_readAt, .int v_tokenAt, .int v_token, .int v_faultAt, .int v_readItems, .ref a_read, .int v_congruenceMany, .ref a_congruences, .int v_termMany, .int v_rounds, .ref a_terms])), (a_read, .inl (y.1, 21, .inl v_read)), (a_text, .inl (y.1, 60, .inl v_text))] sz) (va_Qi K (bW D y A (fun u : (Int32 × Int32 × Int32 × (Nat → Int32)) => [(a, .inr (6, [.ref a_now, .int v_undoMany, .int v_undoAt, .ref a_undos, .int v_seenMany, .ref a_seen, .ref a_isKept, .ref a_kept, .int v_letterMany, .ref a_text, .int u.1, .int u.2.1, .int u.2.2.1, .int v_faultAt, .int v_readItems, .ref a_read, .int v_congruenceMany, .ref a_congruences, .int v_termMany, .int v_rounds, .ref a_terms])), (a_read, .inl (y.1, 21, .inl u.2.2.2)), (a_text, .inl (y.1, 60, .inl v_text))])) A) 0 0 A := by
  refine Met.ofW (cc := cX9_readsF) (maxL := 3) (ret := (some .boolean)) (by decide) rfl ?_
  intro p e s m args below meth c s₁ B hml hv
  obtain ⟨rfl, hsz, hP, hK, hD0⟩ := hv
  have hx := B.exec
  have hb := B.bytes
  have hr := B.returns
  have hts := atoms_spec (ws := wsX9_readsF) B.pre
  have hown : s.vm.findClass RX9 = some m.cls := findClass_of_methodNamed B.named
  have hlocks := B.notSynchronized
  subst hsz
  have hD : va_D A [(a, .inr (6, [.ref a_now, .int v_undoMany, .int v_undoAt, .ref a_undos, .int v_seenMany, .ref a_seen, .ref a_isKept, .ref a_kept, .int v_letterMany, .ref a_text, .int v_readAt, .int v_tokenAt, .int v_token, .int v_faultAt, .int v_readItems, .ref a_read, .int v_congruenceMany, .ref a_congruences, .int v_termMany, .int v_rounds, .ref a_terms])), (a_read, .inl (y.1, 21, .inl v_read)), (a_text, .inl (y.1, 60, .inl v_text))] := hAe ▸ hD0.self
  have hA : ∀ q : Nat, s.heap.size ≤ q → A q := fun q h => hAe ▸ Or.inr h
  have hS : va_S A s.heap s.heap [] := va_S.rf
  have iX9 : ∀ w ∈ wsX90, w ∈ wsX9_readsF := by decide +kernel
  have fl29 := hts (.fieldLink RX9 29 "AlgebraLawsModel" "read" "[I") (by decide +kernel)
  have fl64 := hts (.fieldLink RX9 64 "AlgebraLawsModel" "token" "I") (by decide +kernel)
  have hl := lv_entry ([.ref a] : List Value) (n := 3) (Nat.le_of_ble_eq_true rfl)
  rw [lg_entry_eq]
  generalize (lg_sl ([.ref a] : List Value) ++ List.replicate (3 - (lg_sl ([.ref a] : List Value)).length) Slot.unset).toArray = ls at hl ⊢
  have hl : lv_has ls 3 [(0, .ref a)] := hl
  unfold m_X9_readsF at h
  refine lv_aload_n hx hb dX9_readsF_0 rfl (lv_at hl 0 rfl) ?_
  refine va_get (D := D) (ci := 6) (v := .ref a_read) (C := RX9) (T := TX9) (N := 21) hx hb hts iX9 hown hK hP 0 rfl rfl 15 (by decide) fl29 (fun _ h9 => h9) rfl dX9_readsF_1 ?_
  refine lv_bipush (v := 20) hx hb dX9_readsF_4 (by decide) ?_
  obtain ⟨r1, er1, hin, h⟩ := sat_rd h
  refine xi hx hb hK hP 1 0 rfl rfl er1 hin dX9_readsF_6 ?_
  refine lv_istore_n (lv' := [(1, .int r1), (0, .ref a)]) hx hb dX9_readsF_7 rfl hl (by decide) rfl (fun ls hl => ?_)
  refine lv_iconst (v := 0) hx hb dX9_readsF_8 (by decide) ?_
  refine lv_istore_n (lv' := [(2, .int 0), (1, .int r1), (0, .ref a)]) hx hb dX9_readsF_9 rfl hl (by decide) rfl (fun ls hl => ?_)
  have hL10 : ∀ (K10 : ((Int32 × (Int32 × Int32 × Int32 × (Nat → Int32))) ⊕ (Int32 × Int32 × Int32 × (Nat → Int32))) → Prop)
      (hR10 : ∀ (u : (Int32 × (Int32 × Int32 × Int32 × (Nat → Int32)))), K10 (.inl u) → pK K u)
      (hE10 : ∀ (z10 : (Int32 × Int32 × Int32 × (Nat → Int32))) (ls : Array Slot) (H : Heap) (locs : List Loc), K10 (.inr z10) → lv_has ls 3 [(0, .ref a)] → va_P D vwCl [(a, .inr (6, [.ref a_now, .int v_undoMany, .int v_undoAt, .ref a_undos, .int v_seenMany, .ref a_seen, .ref a_isKept, .ref a_kept, .int v_letterMany, .ref a_text, .int z10.1, .int z10.2.1, .int z10.2.2.1, .int v_faultAt, .int v_readItems, .ref a_read, .int v_congruenceMany, .ref a_congruences, .int v_termMany, .int v_rounds, .ref a_terms])), (a_read, .inl (y.1, 21, .inl z10.2.2.2)), (a_text, .inl (y.1, 60, .inl v_text))] H → va_D A [(a, .inr (6, [.ref a_now, .int v_undoMany, .int v_undoAt, .ref a_undos, .int v_seenMany, .ref a_seen, .ref a_isKept, .ref a_kept, .int v_letterMany, .ref a_text, .int z10.1, .int z10.2.1, .int z10.2.2.1, .int v_faultAt, .int v_readItems, .ref a_read, .int v_congruenceMany, .ref a_congruences, .int v_termMany, .int v_rounds, .ref a_terms])), (a_read, .inl (y.1, 21, .inl z10.2.2.2)), (a_text, .inl (y.1, 60, .inl v_text))] → va_S A s.heap H locs → W p l e (headSpec wsX9_readsF ({ frames := 3, cells := 0, slots := 0, locals := 62 } : Room)).room s m ([.ref a] : List Value).toArray below meth c H locs 0 0 (MQ below (va_Qi K (bW D y A (fun u : (Int32 × Int32 × Int32 × (Nat → Int32)) => [(a, .inr (6, [.ref a_now, .int v_undoMany, .int v_undoAt, .ref a_undos, .int v_seenMany, .ref a_seen, .ref a_isKept, .ref a_kept, .int v_letterMany, .ref a_text, .int u.1, .int u.2.1, .int u.2.2.1, .int v_faultAt, .int v_readItems, .ref a_read, .int v_congruenceMany, .ref a_congruences, .int v_termMany, .int v_rounds, .ref a_terms])), (a_read, .inl (y.1, 21, .inl u.2.2.2)), (a_text, .inl (y.1, 60, .inl v_text))])) A) ([.ref a] : List Value).toArray s 0 0 A) (F0 m 57 ls []))
      (n : Nat) (x2_10 : Int32) (v_readAt_10 : Int32) (v_tokenAt_10 : Int32) (v_token_10 : Int32) (v_read_10 : Nat → Int32) (ls : Array Slot) (H : Heap) (locs : List Loc), sat (lp (fun q : (Int32 × Int32 × Int32 × Int32 × (Nat → Int32)) => m_X9_readsF_s10 v_letterMany v_text r1 q.1 q.2.1 q.2.2.1 q.2.2.2.1 q.2.2.2.2) n (x2_10, v_readAt_10, v_tokenAt_10, v_token_10, v_read_10)) K10 → lv_has ls 3 [(0, .ref a), (1, .int r1), (2, .int x2_10)] → va_P D vwCl [(a, .inr (6, [.ref a_now, .int v_undoMany, .int v_undoAt, .ref a_undos, .int v_seenMany, .ref a_seen, .ref a_isKept, .ref a_kept, .int v_letterMany, .ref a_text, .int v_readAt_10, .int v_tokenAt_10, .int v_token_10, .int v_faultAt, .int v_readItems, .ref a_read, .int v_congruenceMany, .ref a_congruences, .int v_termMany, .int v_rounds, .ref a_terms])), (a_read, .inl (y.1, 21, .inl v_read_10)), (a_text, .inl (y.1, 60, .inl v_text))] H → va_D A [(a, .inr (6, [.ref a_now, .int v_undoMany, .int v_undoAt, .ref a_undos, .int v_seenMany, .ref a_seen, .ref a_isKept, .ref a_kept, .int v_letterMany, .ref a_text, .int v_readAt_10, .int v_tokenAt_10, .int v_token_10, .int v_faultAt, .int v_readItems, .ref a_read, .int v_congruenceMany, .ref a_congruences, .int v_termMany, .int v_rounds, .ref a_terms])), (a_read, .inl (y.1, 21, .inl v_read_10)), (a_text, .inl (y.1, 60, .inl v_text))] → va_S A s.heap H locs → W p l e (headSpec wsX9_readsF ({ frames := 3, cells := 0, slots := 0, locals := 62 } : Room)).room s m ([.ref a] : List Value).toArray below meth c H locs 0 0 (MQ below (va_Qi K (bW D y A (fun u : (Int32 × Int32 × Int32 × (Nat → Int32)) => [(a, .inr (6, [.ref a_now, .int v_undoMany, .int v_undoAt, .ref a_undos, .int v_seenMany, .ref a_seen, .ref a_isKept, .ref a_kept, .int v_letterMany, .ref a_text, .int u.1, .int u.2.1, .int u.2.2.1, .int v_faultAt, .int v_readItems, .ref a_read, .int v_congruenceMany, .ref a_congruences, .int v_termMany, .int v_rounds, .ref a_terms])), (a_read, .inl (y.1, 21, .inl u.2.2.2)), (a_text, .inl (y.1, 60, .inl v_text))])) A) ([.ref a] : List Value).toArray s 0 0 A) (F0 m 10 ls []) := by
    intro K10 hR10 hE10 n
    induction n with
    | zero => intro x2_10 v_readAt_10 v_tokenAt_10 v_token_10 v_read_10 ls H locs h; exact (sat_lp0 h).elim
    | succ n ih =>
      intro x2_10 v_readAt_10 v_tokenAt_10 v_token_10 v_read_10 ls H locs h hl hP hD hS
      have h := sat_lp h
      have h : sat (m_X9_readsF_s10 v_letterMany v_text r1 x2_10 v_readAt_10 v_tokenAt_10 v_token_10 v_read_10) (lk (fun s' => sat (lp (fun q : (Int32 × Int32 × Int32 × Int32 × (Nat → Int32)) => m_X9_readsF_s10 v_letterMany v_text r1 q.1 q.2.1 q.2.2.1 q.2.2.2.1 q.2.2.2.2) n s') K10) K10) := h
      unfold m_X9_readsF_s10 at h
      refine lv_iload_n hx hb dX9_readsF_10 rfl (lv_at hl 2 rfl) ?_
      refine lv_iload_n hx hb dX9_readsF_11 rfl (lv_at hl 1 rfl) ?_
      refine lv_iload_n hx hb dX9_readsF_12 rfl (lv_at hl 1 rfl) ?_
      refine lv_imul hx hb dX9_readsF_13 ?_
      refine lv_icmp_ge (tgt := 57) hx hb dX9_readsF_14 (by decide) (fun c14 => ?_) (fun c14 => ?_)
      · have h := sat_t c14 h
        have h := lk_r (sat_some h)
        exact hE10 (v_readAt_10, v_tokenAt_10, v_token_10, v_read_10) ls H locs h (lv_sub hl [0] rfl) hP hD hS
      · have h := sat_f c14 h
        refine lv_aload_n hx hb dX9_readsF_17 rfl (lv_at hl 0 rfl) ?_
        refine lv_iconst (v := 0) hx hb dX9_readsF_18 (by decide) ?_
        refine lv_iload_n hx hb dX9_readsF_19 rfl (lv_at hl 1 rfl) ?_
        refine lv_iconst (v := 1) hx hb dX9_readsF_20 (by decide) ?_
        refine lv_isub hx hb dX9_readsF_21 ?_
        refine cw_i (wn := fun u3 => [(a, .inr (6, [.ref a_now, .int v_undoMany, .int v_undoAt, .ref a_undos, .int v_seenMany, .ref a_seen, .ref a_isKept, .ref a_kept, .int v_letterMany, .ref a_text, .int u3.1, .int u3.2.1, .int u3.2.2, .int v_faultAt, .int v_readItems, .ref a_read, .int v_congruenceMany, .ref a_congruences, .int v_termMany, .int v_rounds, .ref a_terms])), (a_read, .inl (y.1, 21, .inl v_read_10)), (a_text, .inl (y.1, 60, .inl v_text))]) (wr := [(a_read, .inl (y.1, 21, .inl v_read_10))]) (wv (As := [.int 0, .int (r1 - 1)]) (rest := []) ⟨hx, hb, hml, hown, hts⟩ (c_X9_figure l D y a a_text a_now a_undos a_seen a_isKept a_kept a_read a_congruences a_terms v_undoMany v_undoAt v_seenMany v_letterMany v_readAt_10 v_tokenAt_10 v_token_10 v_faultAt v_readItems v_congruenceMany v_termMany v_rounds v_text 0 (r1 - 1) _ _ rfl _ (sat_bd2 h)) (cwV 2 hts gX9_readsF_X9_figure rfl rfl rfl (by decide +kernel) ⟨Nat.le_of_ble_eq_true rfl, Nat.le_of_ble_eq_true rfl⟩) hK hP hD [0, 2] rfl rfl rfl 0 6 rfl rfl rfl rfl hl.1 rfl (Nat.le_of_ble_eq_true rfl) dX9_readsF_22 ⟨Nat.zero_le _, Nat.zero_le _⟩) hS hP hD hA [0, 2] [1] [1, 0, 2] rfl rfl rfl (by decide) (fun _ => rfl) rfl (fun _ => rfl) (fun r4 u3 H locs h hP hD hS => ?_)
        refine lv_if_ne (tgt := 30) hx hb dX9_readsF_25 (by decide) (fun c25 => ?_) (fun c25 => ?_)
        · have h := sat_f c25 h
          refine lv_aload_n hx hb dX9_readsF_30 rfl (lv_at hl 0 rfl) ?_
          refine va_get (D := D) (ci := 6) (v := .ref a_read) (C := RX9) (T := TX9) (N := 21) hx hb hts iX9 hown hK hP 0 rfl rfl 15 (by decide) fl29 (fun _ h9 => h9) rfl dX9_readsF_31 ?_
          refine lv_iconst (v := 4) hx hb dX9_readsF_34 (by decide) ?_
          refine lv_iload_n hx hb dX9_readsF_35 rfl (lv_at hl 2 rfl) ?_
          refine lv_iload_n hx hb dX9_readsF_36 rfl (lv_at hl 1 rfl) ?_
          obtain ⟨hne, h⟩ := sat_gd h
          refine lv_idiv hx hb dX9_readsF_37 hne ?_
          refine lv_imul hx hb dX9_readsF_38 ?_
          refine lv_iload_n hx hb dX9_readsF_39 rfl (lv_at hl 2 rfl) ?_
          refine lv_iload_n hx hb dX9_readsF_40 rfl (lv_at hl 1 rfl) ?_
          obtain ⟨hne, h⟩ := sat_gd h
          refine lv_irem hx hb dX9_readsF_41 hne ?_
          refine lv_iadd hx hb dX9_readsF_42 ?_
          refine lv_aload_n hx hb dX9_readsF_43 rfl (lv_at hl 0 rfl) ?_
          refine va_get (D := D) (ci := 6) (v := .int u3.2.2) (C := RX9) (T := TX9) (N := 21) hx hb hts iX9 hown hK hP 0 rfl rfl 12 (by decide) fl64 (fun _ h9 => h9) rfl dX9_readsF_44 ?_
          refine lv_bipush (v := 48) hx hb dX9_readsF_47 (by decide) ?_
          refine lv_isub hx hb dX9_readsF_49 ?_
          obtain ⟨f5, ef5, hin, h⟩ := sat_wrI h
          refine yi (wn := [(a, .inr (6, [.ref a_now, .int v_undoMany, .int v_undoAt, .ref a_undos, .int v_seenMany, .ref a_seen, .ref a_isKept, .ref a_kept, .int v_letterMany, .ref a_text, .int u3.1, .int u3.2.1, .int u3.2.2, .int v_faultAt, .int v_readItems, .ref a_read, .int v_congruenceMany, .ref a_congruences, .int v_termMany, .int v_rounds, .ref a_terms])), (a_read, .inl (y.1, 21, .inl f5)), (a_text, .inl (y.1, 60, .inl v_text))]) hx hb hK hP hD hS 1 0 rfl rfl ef5 hin dX9_readsF_50 rfl (fun H locs hP hD hS => ?_)
          refine lv_iinc (v := x2_10 + 1) (lv' := [(2, .int (x2_10 + 1)), (0, .ref a), (1, .int r1)]) hx hb dX9_readsF_51 hl (k := 2) rfl rfl (by decide) rfl (fun ls hl => ?_)
          refine lv_goto (tgt := 10) hx hb dX9_readsF_54 (by decide) ?_
          have h := lk_l (sat_some h)
          exact ih (x2_10 + 1) u3.1 u3.2.1 u3.2.2 f5 ls H locs h (lv_sub hl [1, 2, 0] rfl) hP hD hS
        · have h := sat_t c25 h
          refine lv_iconst (v := 0) hx hb dX9_readsF_28 (by decide) ?_
          have h := hR10 _ (lk_r (sat_some h))
          exact W.zret (v := 0) hx hb hr rfl (fun t ht hW => ⟨⟨0, (u3.1, u3.2.1, u3.2.2, v_read_10), rfl, h, by rw [ht]; exact hP, va_K.moved hW.alike hK, hD⟩, hS.F ht⟩) hS.2.2 dX9_readsF_29
  have h := sat_bdS h
  refine hL10 _ (fun u h => ?_) (fun z10 ls H locs h hl hP hD hS => ?_) 1000 0 v_readAt v_tokenAt v_token v_read ls s.heap [] h (lv_sub hl [2, 1, 0] rfl) hP hD hS
  · have h := lk_l h
    exact sat_some h
  · have h := lk_r h
    refine lv_aload_n hx hb dX9_readsF_57 rfl (lv_at hl 0 rfl) ?_
    refine cw_i (wn := fun u6 => [(a, .inr (6, [.ref a_now, .int v_undoMany, .int v_undoAt, .ref a_undos, .int v_seenMany, .ref a_seen, .ref a_isKept, .ref a_kept, .int v_letterMany, .ref a_text, .int u6.1, .int u6.2.1, .int u6.2.2, .int v_faultAt, .int v_readItems, .ref a_read, .int v_congruenceMany, .ref a_congruences, .int v_termMany, .int v_rounds, .ref a_terms])), (a_read, .inl (y.1, 21, .inl z10.2.2.2)), (a_text, .inl (y.1, 60, .inl v_text))]) (wr := [(a_read, .inl (y.1, 21, .inl z10.2.2.2))]) (wv (As := []) (rest := []) ⟨hx, hb, hml, hown, hts⟩ (c_X9_ends l D y a a_text a_now a_undos a_seen a_isKept a_kept a_read a_congruences a_terms v_undoMany v_undoAt v_seenMany v_letterMany z10.1 z10.2.1 z10.2.2.1 v_faultAt v_readItems v_congruenceMany v_termMany v_rounds v_text _ _ rfl _ (sat_bd2 h)) (cwV 0 hts gX9_readsF_X9_ends rfl rfl rfl (by decide +kernel) ⟨Nat.le_of_ble_eq_true rfl, Nat.le_of_ble_eq_true rfl⟩) hK hP hD [0, 2] rfl rfl rfl 0 6 rfl rfl rfl rfl hl.1 rfl (Nat.le_of_ble_eq_true rfl) dX9_readsF_58 ⟨Nat.zero_le _, Nat.zero_le _⟩) hS hP hD hA [0, 2] [1] [1, 0, 2] rfl rfl rfl (by decide) (fun _ => rfl) rfl (fun _ => rfl) (fun r7 u6 H locs h hP hD hS => ?_)
    obtain ⟨hz, h⟩ := sat_gd h
    have h := sat_some h
    exact W.zret (v := r7) hx hb hr (zn hz) (fun t ht hW => ⟨⟨r7, (u6.1, u6.2.1, u6.2.2, z10.2.2.2), rfl, h, by rw [ht]; exact hP, va_K.moved hW.alike hK, hD⟩, hS.F ht⟩) hS.2.2 dX9_readsF_61

/-! X9_readsG -/
set_option maxHeartbeats 4000000 in
set_option maxRecDepth 100000 in
theorem c_X9_readsG (l : Launch) (D : va_G) (y : ClassId × ClassId × ClassId × ClassId) (a a_read a_text a_now a_undos a_seen a_isKept a_kept a_congruences a_terms : Nat) (v_undoMany : Int32) (v_undoAt : Int32) (v_seenMany : Int32) (v_letterMany : Int32) (v_readAt : Int32) (v_tokenAt : Int32) (v_token : Int32) (v_faultAt : Int32) (v_readItems : Int32) (v_congruenceMany : Int32) (v_termMany : Int32) (v_rounds : Int32) (v_read : Nat → Int32) (v_text : Nat → Int32) (sz : Nat) (A : Nat → Prop) (hAe : va_A [(a, .inr (6, [.ref a_now, .int v_undoMany, .int v_undoAt, .ref a_undos, .int v_seenMany, .ref a_seen, .ref a_isKept, .ref a_kept, .int v_letterMany, .ref a_text, .int v_readAt, .int v_tokenAt, .int v_token, .int v_faultAt, .int v_readItems, .ref a_read, .int v_congruenceMany, .ref a_congruences, .int v_termMany, .int v_rounds, .ref a_terms])), (a_read, .inl (y.1, 21, .inl v_read)), (a_text, .inl (y.1, 60, .inl v_text))] sz = A) (K : Int32 → (Int32 × Int32 × Int32 × (Nat → Int32)) → Prop) (h : sat (m_X9_readsG v_letterMany v_readAt v_tokenAt v_token v_read v_text) (pK K)) : Met l yX9_readsG wsX9_readsG ({ frames := 3, cells := 0, slots := 0, locals := 62 } : Room) (pW D y ([.ref a] : List Value) [(a, .inr (6, [.ref a_now, .int v_undoMany, .int v_undoAt, .ref a_undos, .int v_seenMany, .ref a_seen, .ref a_isKept, .ref a_kept, .int v_letterMany, .ref a_text, .int v_readAt, .int v_tokenAt, .int v_token, .int v_faultAt, .int v_readItems, .ref a_read, .int v_congruenceMany, .ref a_congruences, .int v_termMany, .int v_rounds, .ref a_terms])), (a_read, .inl (y.1, 21, .inl v_read)), (a_text, .inl (y.1, 60, .inl v_text))] sz) (va_Qi K (bW D y A (fun u : (Int32 × Int32 × Int32 × (Nat → Int32)) => [(a, .inr (6, [.ref a_now, .int v_undoMany, .int v_undoAt, .ref a_undos, .int v_seenMany, .ref a_seen, .ref a_isKept, .ref a_kept, .int v_letterMany, .ref a_text, .int u.1, .int u.2.1, .int u.2.2.1, .int v_faultAt, .int v_readItems, .ref a_read, .int v_congruenceMany, .ref a_congruences, .int v_termMany, .int v_rounds, .ref a_terms])), (a_read, .inl (y.1, 21, .inl u.2.2.2)), (a_text, .inl (y.1, 60, .inl v_text))])) A) 0 0 A := by
  refine Met.ofW (cc := cX9_readsG) (maxL := 2) (ret := (some .boolean)) (by decide) rfl ?_
  intro p e s m args below meth c s₁ B hml hv
  obtain ⟨rfl, hsz, hP, hK, hD0⟩ := hv
  have hx := B.exec
  have hb := B.bytes
  have hr := B.returns
  have hts := atoms_spec (ws := wsX9_readsG) B.pre
  have hown : s.vm.findClass RX9 = some m.cls := findClass_of_methodNamed B.named
  have hlocks := B.notSynchronized
  subst hsz
  have hD : va_D A [(a, .inr (6, [.ref a_now, .int v_undoMany, .int v_undoAt, .ref a_undos, .int v_seenMany, .ref a_seen, .ref a_isKept, .ref a_kept, .int v_letterMany, .ref a_text, .int v_readAt, .int v_tokenAt, .int v_token, .int v_faultAt, .int v_readItems, .ref a_read, .int v_congruenceMany, .ref a_congruences, .int v_termMany, .int v_rounds, .ref a_terms])), (a_read, .inl (y.1, 21, .inl v_read)), (a_text, .inl (y.1, 60, .inl v_text))] := hAe ▸ hD0.self
  have hA : ∀ q : Nat, s.heap.size ≤ q → A q := fun q h => hAe ▸ Or.inr h
  have hS : va_S A s.heap s.heap [] := va_S.rf
  have iX9 : ∀ w ∈ wsX90, w ∈ wsX9_readsG := by decide +kernel
  have fl29 := hts (.fieldLink RX9 29 "AlgebraLawsModel" "read" "[I") (by decide +kernel)
  have fl64 := hts (.fieldLink RX9 64 "AlgebraLawsModel" "token" "I") (by decide +kernel)
  have hl := lv_entry ([.ref a] : List Value) (n := 2) (Nat.le_of_ble_eq_true rfl)
  rw [lg_entry_eq]
  generalize (lg_sl ([.ref a] : List Value) ++ List.replicate (2 - (lg_sl ([.ref a] : List Value)).length) Slot.unset).toArray = ls at hl ⊢
  have hl : lv_has ls 2 [(0, .ref a)] := hl
  unfold m_X9_readsG at h
  refine lv_iconst (v := 0) hx hb dX9_readsG_0 (by decide) ?_
  refine lv_istore_n (lv' := [(1, .int 0), (0, .ref a)]) hx hb dX9_readsG_1 rfl hl (by decide) rfl (fun ls hl => ?_)
  have hL2 : ∀ (K2 : ((Int32 × (Int32 × Int32 × Int32 × (Nat → Int32))) ⊕ (Int32 × Int32 × Int32 × (Nat → Int32))) → Prop)
      (hR2 : ∀ (u : (Int32 × (Int32 × Int32 × Int32 × (Nat → Int32)))), K2 (.inl u) → pK K u)
      (hE2 : ∀ (z2 : (Int32 × Int32 × Int32 × (Nat → Int32))) (ls : Array Slot) (H : Heap) (locs : List Loc), K2 (.inr z2) → lv_has ls 2 [(0, .ref a)] → va_P D vwCl [(a, .inr (6, [.ref a_now, .int v_undoMany, .int v_undoAt, .ref a_undos, .int v_seenMany, .ref a_seen, .ref a_isKept, .ref a_kept, .int v_letterMany, .ref a_text, .int z2.1, .int z2.2.1, .int z2.2.2.1, .int v_faultAt, .int v_readItems, .ref a_read, .int v_congruenceMany, .ref a_congruences, .int v_termMany, .int v_rounds, .ref a_terms])), (a_read, .inl (y.1, 21, .inl z2.2.2.2)), (a_text, .inl (y.1, 60, .inl v_text))] H → va_D A [(a, .inr (6, [.ref a_now, .int v_undoMany, .int v_undoAt, .ref a_undos, .int v_seenMany, .ref a_seen, .ref a_isKept, .ref a_kept, .int v_letterMany, .ref a_text, .int z2.1, .int z2.2.1, .int z2.2.2.1, .int v_faultAt, .int v_readItems, .ref a_read, .int v_congruenceMany, .ref a_congruences, .int v_termMany, .int v_rounds, .ref a_terms])), (a_read, .inl (y.1, 21, .inl z2.2.2.2)), (a_text, .inl (y.1, 60, .inl v_text))] → va_S A s.heap H locs → W p l e (headSpec wsX9_readsG ({ frames := 3, cells := 0, slots := 0, locals := 62 } : Room)).room s m ([.ref a] : List Value).toArray below meth c H locs 0 0 (MQ below (va_Qi K (bW D y A (fun u : (Int32 × Int32 × Int32 × (Nat → Int32)) => [(a, .inr (6, [.ref a_now, .int v_undoMany, .int v_undoAt, .ref a_undos, .int v_seenMany, .ref a_seen, .ref a_isKept, .ref a_kept, .int v_letterMany, .ref a_text, .int u.1, .int u.2.1, .int u.2.2.1, .int v_faultAt, .int v_readItems, .ref a_read, .int v_congruenceMany, .ref a_congruences, .int v_termMany, .int v_rounds, .ref a_terms])), (a_read, .inl (y.1, 21, .inl u.2.2.2)), (a_text, .inl (y.1, 60, .inl v_text))])) A) ([.ref a] : List Value).toArray s 0 0 A) (F0 m 54 ls []))
      (n : Nat) (x1_2 : Int32) (v_readAt_2 : Int32) (v_tokenAt_2 : Int32) (v_token_2 : Int32) (v_read_2 : Nat → Int32) (ls : Array Slot) (H : Heap) (locs : List Loc), sat (lp (fun q : (Int32 × Int32 × Int32 × Int32 × (Nat → Int32)) => m_X9_readsG_s2 v_letterMany v_text q.1 q.2.1 q.2.2.1 q.2.2.2.1 q.2.2.2.2) n (x1_2, v_readAt_2, v_tokenAt_2, v_token_2, v_read_2)) K2 → lv_has ls 2 [(0, .ref a), (1, .int x1_2)] → va_P D vwCl [(a, .inr (6, [.ref a_now, .int v_undoMany, .int v_undoAt, .ref a_undos, .int v_seenMany, .ref a_seen, .ref a_isKept, .ref a_kept, .int v_letterMany, .ref a_text, .int v_readAt_2, .int v_tokenAt_2, .int v_token_2, .int v_faultAt, .int v_readItems, .ref a_read, .int v_congruenceMany, .ref a_congruences, .int v_termMany, .int v_rounds, .ref a_terms])), (a_read, .inl (y.1, 21, .inl v_read_2)), (a_text, .inl (y.1, 60, .inl v_text))] H → va_D A [(a, .inr (6, [.ref a_now, .int v_undoMany, .int v_undoAt, .ref a_undos, .int v_seenMany, .ref a_seen, .ref a_isKept, .ref a_kept, .int v_letterMany, .ref a_text, .int v_readAt_2, .int v_tokenAt_2, .int v_token_2, .int v_faultAt, .int v_readItems, .ref a_read, .int v_congruenceMany, .ref a_congruences, .int v_termMany, .int v_rounds, .ref a_terms])), (a_read, .inl (y.1, 21, .inl v_read_2)), (a_text, .inl (y.1, 60, .inl v_text))] → va_S A s.heap H locs → W p l e (headSpec wsX9_readsG ({ frames := 3, cells := 0, slots := 0, locals := 62 } : Room)).room s m ([.ref a] : List Value).toArray below meth c H locs 0 0 (MQ below (va_Qi K (bW D y A (fun u : (Int32 × Int32 × Int32 × (Nat → Int32)) => [(a, .inr (6, [.ref a_now, .int v_undoMany, .int v_undoAt, .ref a_undos, .int v_seenMany, .ref a_seen, .ref a_isKept, .ref a_kept, .int v_letterMany, .ref a_text, .int u.1, .int u.2.1, .int u.2.2.1, .int v_faultAt, .int v_readItems, .ref a_read, .int v_congruenceMany, .ref a_congruences, .int v_termMany, .int v_rounds, .ref a_terms])), (a_read, .inl (y.1, 21, .inl u.2.2.2)), (a_text, .inl (y.1, 60, .inl v_text))])) A) ([.ref a] : List Value).toArray s 0 0 A) (F0 m 2 ls []) := by
    intro K2 hR2 hE2 n
    induction n with
    | zero => intro x1_2 v_readAt_2 v_tokenAt_2 v_token_2 v_read_2 ls H locs h; exact (sat_lp0 h).elim
    | succ n ih =>
      intro x1_2 v_readAt_2 v_tokenAt_2 v_token_2 v_read_2 ls H locs h hl hP hD hS
      have h := sat_lp h
      have h : sat (m_X9_readsG_s2 v_letterMany v_text x1_2 v_readAt_2 v_tokenAt_2 v_token_2 v_read_2) (lk (fun s' => sat (lp (fun q : (Int32 × Int32 × Int32 × Int32 × (Nat → Int32)) => m_X9_readsG_s2 v_letterMany v_text q.1 q.2.1 q.2.2.1 q.2.2.2.1 q.2.2.2.2) n s') K2) K2) := h
      unfold m_X9_readsG_s2 at h
      refine lv_iload_n hx hb dX9_readsG_2 rfl (lv_at hl 1 rfl) ?_
      refine lv_aload_n hx hb dX9_readsG_3 rfl (lv_at hl 0 rfl) ?_
      refine va_get (D := D) (ci := 6) (v := .ref a_read) (C := RX9) (T := TX9) (N := 21) hx hb hts iX9 hown hK hP 0 rfl rfl 15 (by decide) fl29 (fun _ h9 => h9) rfl dX9_readsG_4 ?_
      refine lv_bipush (v := 20) hx hb dX9_readsG_7 (by decide) ?_
      obtain ⟨r2, er2, hin, h⟩ := sat_rd h
      refine xi hx hb hK hP 1 0 rfl rfl er2 hin dX9_readsG_9 ?_
      refine lv_icmp_ge (tgt := 54) hx hb dX9_readsG_10 (by decide) (fun c10 => ?_) (fun c10 => ?_)
      · have h := sat_t c10 h
        have h := lk_r (sat_some h)
        exact hE2 (v_readAt_2, v_tokenAt_2, v_token_2, v_read_2) ls H locs h (lv_sub hl [0] rfl) hP hD hS
      · have h := sat_f c10 h
        refine lv_aload_n hx hb dX9_readsG_13 rfl (lv_at hl 0 rfl) ?_
        refine lv_iconst (v := 0) hx hb dX9_readsG_14 (by decide) ?_
        refine lv_aload_n hx hb dX9_readsG_15 rfl (lv_at hl 0 rfl) ?_
        refine va_get (D := D) (ci := 6) (v := .ref a_read) (C := RX9) (T := TX9) (N := 21) hx hb hts iX9 hown hK hP 0 rfl rfl 15 (by decide) fl29 (fun _ h9 => h9) rfl dX9_readsG_16 ?_
        refine lv_bipush (v := 20) hx hb dX9_readsG_19 (by decide) ?_
        obtain ⟨r3, er3, hin, h⟩ := sat_rd h
        refine xi hx hb hK hP 1 0 rfl rfl er3 hin dX9_readsG_21 ?_
        refine lv_iconst (v := 1) hx hb dX9_readsG_22 (by decide) ?_
        refine lv_isub hx hb dX9_readsG_23 ?_
        refine cw_i (wn := fun u4 => [(a, .inr (6, [.ref a_now, .int v_undoMany, .int v_undoAt, .ref a_undos, .int v_seenMany, .ref a_seen, .ref a_isKept, .ref a_kept, .int v_letterMany, .ref a_text, .int u4.1, .int u4.2.1, .int u4.2.2, .int v_faultAt, .int v_readItems, .ref a_read, .int v_congruenceMany, .ref a_congruences, .int v_termMany, .int v_rounds, .ref a_terms])), (a_read, .inl (y.1, 21, .inl v_read_2)), (a_text, .inl (y.1, 60, .inl v_text))]) (wr := [(a_read, .inl (y.1, 21, .inl v_read_2))]) (wv (As := [.int 0, .int (r3 - 1)]) (rest := []) ⟨hx, hb, hml, hown, hts⟩ (c_X9_figure l D y a a_text a_now a_undos a_seen a_isKept a_kept a_read a_congruences a_terms v_undoMany v_undoAt v_seenMany v_letterMany v_readAt_2 v_tokenAt_2 v_token_2 v_faultAt v_readItems v_congruenceMany v_termMany v_rounds v_text 0 (r3 - 1) _ _ rfl _ (sat_bd2 h)) (cwV 2 hts gX9_readsG_X9_figure rfl rfl rfl (by decide +kernel) ⟨Nat.le_of_ble_eq_true rfl, Nat.le_of_ble_eq_true rfl⟩) hK hP hD [0, 2] rfl rfl rfl 0 6 rfl rfl rfl rfl hl.1 rfl (Nat.le_of_ble_eq_true rfl) dX9_readsG_24 ⟨Nat.zero_le _, Nat.zero_le _⟩) hS hP hD hA [0, 2] [1] [1, 0, 2] rfl rfl rfl (by decide) (fun _ => rfl) rfl (fun _ => rfl) (fun r5 u4 H locs h hP hD hS => ?_)
        refine lv_if_ne (tgt := 32) hx hb dX9_readsG_27 (by decide) (fun c27 => ?_) (fun c27 => ?_)
        · have h := sat_f c27 h
          refine lv_aload_n hx hb dX9_readsG_32 rfl (lv_at hl 0 rfl) ?_
          refine va_get (D := D) (ci := 6) (v := .ref a_read) (C := RX9) (T := TX9) (N := 21) hx hb hts iX9 hown hK hP 0 rfl rfl 15 (by decide) fl29 (fun _ h9 => h9) rfl dX9_readsG_33 ?_
          refine lv_bipush (v := 16) hx hb dX9_readsG_36 (by decide) ?_
          refine lv_iload_n hx hb dX9_readsG_38 rfl (lv_at hl 1 rfl) ?_
          refine lv_iadd hx hb dX9_readsG_39 ?_
          refine lv_aload_n hx hb dX9_readsG_40 rfl (lv_at hl 0 rfl) ?_
          refine va_get (D := D) (ci := 6) (v := .int u4.2.2) (C := RX9) (T := TX9) (N := 21) hx hb hts iX9 hown hK hP 0 rfl rfl 12 (by decide) fl64 (fun _ h9 => h9) rfl dX9_readsG_41 ?_
          refine lv_bipush (v := 48) hx hb dX9_readsG_44 (by decide) ?_
          refine lv_isub hx hb dX9_readsG_46 ?_
          obtain ⟨f6, ef6, hin, h⟩ := sat_wrI h
          refine yi (wn := [(a, .inr (6, [.ref a_now, .int v_undoMany, .int v_undoAt, .ref a_undos, .int v_seenMany, .ref a_seen, .ref a_isKept, .ref a_kept, .int v_letterMany, .ref a_text, .int u4.1, .int u4.2.1, .int u4.2.2, .int v_faultAt, .int v_readItems, .ref a_read, .int v_congruenceMany, .ref a_congruences, .int v_termMany, .int v_rounds, .ref a_terms])), (a_read, .inl (y.1, 21, .inl f6)), (a_text, .inl (y.1, 60, .inl v_text))]) hx hb hK hP hD hS 1 0 rfl rfl ef6 hin dX9_readsG_47 rfl (fun H locs hP hD hS => ?_)
          refine lv_iinc (v := x1_2 + 1) (lv' := [(1, .int (x1_2 + 1)), (0, .ref a)]) hx hb dX9_readsG_48 hl (k := 1) rfl rfl (by decide) rfl (fun ls hl => ?_)
          refine lv_goto (tgt := 2) hx hb dX9_readsG_51 (by decide) ?_
          have h := lk_l (sat_some h)
          exact ih (x1_2 + 1) u4.1 u4.2.1 u4.2.2 f6 ls H locs h (lv_sub hl [1, 0] rfl) hP hD hS
        · have h := sat_t c27 h
          refine lv_iconst (v := 0) hx hb dX9_readsG_30 (by decide) ?_
          have h := hR2 _ (lk_r (sat_some h))
          exact W.zret (v := 0) hx hb hr rfl (fun t ht hW => ⟨⟨0, (u4.1, u4.2.1, u4.2.2, v_read_2), rfl, h, by rw [ht]; exact hP, va_K.moved hW.alike hK, hD⟩, hS.F ht⟩) hS.2.2 dX9_readsG_31
  have h := sat_bdS h
  refine hL2 _ (fun u h => ?_) (fun z2 ls H locs h hl hP hD hS => ?_) 1000 0 v_readAt v_tokenAt v_token v_read ls s.heap [] h (lv_sub hl [1, 0] rfl) hP hD hS
  · have h := lk_l h
    exact sat_some h
  · have h := lk_r h
    refine lv_aload_n hx hb dX9_readsG_54 rfl (lv_at hl 0 rfl) ?_
    refine cw_i (wn := fun u7 => [(a, .inr (6, [.ref a_now, .int v_undoMany, .int v_undoAt, .ref a_undos, .int v_seenMany, .ref a_seen, .ref a_isKept, .ref a_kept, .int v_letterMany, .ref a_text, .int u7.1, .int u7.2.1, .int u7.2.2, .int v_faultAt, .int v_readItems, .ref a_read, .int v_congruenceMany, .ref a_congruences, .int v_termMany, .int v_rounds, .ref a_terms])), (a_read, .inl (y.1, 21, .inl z2.2.2.2)), (a_text, .inl (y.1, 60, .inl v_text))]) (wr := [(a_read, .inl (y.1, 21, .inl z2.2.2.2))]) (wv (As := []) (rest := []) ⟨hx, hb, hml, hown, hts⟩ (c_X9_ends l D y a a_text a_now a_undos a_seen a_isKept a_kept a_read a_congruences a_terms v_undoMany v_undoAt v_seenMany v_letterMany z2.1 z2.2.1 z2.2.2.1 v_faultAt v_readItems v_congruenceMany v_termMany v_rounds v_text _ _ rfl _ (sat_bd2 h)) (cwV 0 hts gX9_readsG_X9_ends rfl rfl rfl (by decide +kernel) ⟨Nat.le_of_ble_eq_true rfl, Nat.le_of_ble_eq_true rfl⟩) hK hP hD [0, 2] rfl rfl rfl 0 6 rfl rfl rfl rfl hl.1 rfl (Nat.le_of_ble_eq_true rfl) dX9_readsG_55 ⟨Nat.zero_le _, Nat.zero_le _⟩) hS hP hD hA [0, 2] [1] [1, 0, 2] rfl rfl rfl (by decide) (fun _ => rfl) rfl (fun _ => rfl) (fun r8 u7 H locs h hP hD hS => ?_)
    obtain ⟨hz, h⟩ := sat_gd h
    have h := sat_some h
    exact W.zret (v := r8) hx hb hr (zn hz) (fun t ht hW => ⟨⟨r8, (u7.1, u7.2.1, u7.2.2, z2.2.2.2), rfl, h, by rw [ht]; exact hP, va_K.moved hW.alike hK, hD⟩, hS.F ht⟩) hS.2.2 dX9_readsG_58

/-! X9_readsItem -/
set_option maxHeartbeats 4000000 in
set_option maxRecDepth 100000 in
theorem c_X9_readsItem (l : Launch) (D : va_G) (y : ClassId × ClassId × ClassId × ClassId) (a a_read a_text a_now a_undos a_seen a_isKept a_kept a_congruences a_terms : Nat) (v_undoMany : Int32) (v_undoAt : Int32) (v_seenMany : Int32) (v_letterMany : Int32) (v_readAt : Int32) (v_tokenAt : Int32) (v_token : Int32) (v_faultAt : Int32) (v_readItems : Int32) (v_congruenceMany : Int32) (v_termMany : Int32) (v_rounds : Int32) (v_read : Nat → Int32) (v_text : Nat → Int32) (sz : Nat) (A : Nat → Prop) (hAe : va_A [(a, .inr (6, [.ref a_now, .int v_undoMany, .int v_undoAt, .ref a_undos, .int v_seenMany, .ref a_seen, .ref a_isKept, .ref a_kept, .int v_letterMany, .ref a_text, .int v_readAt, .int v_tokenAt, .int v_token, .int v_faultAt, .int v_readItems, .ref a_read, .int v_congruenceMany, .ref a_congruences, .int v_termMany, .int v_rounds, .ref a_terms])), (a_read, .inl (y.1, 21, .inl v_read)), (a_text, .inl (y.1, 60, .inl v_text))] sz = A) (K : Int32 → (Int32 × Int32 × Int32 × (Nat → Int32)) → Prop) (h : sat (m_X9_readsItem v_letterMany v_readAt v_tokenAt v_token v_readItems v_read v_text) (pK K)) : Met l yX9_readsItem wsX9_readsItem ({ frames := 4, cells := 0, slots := 0, locals := 84 } : Room) (pW D y ([.ref a] : List Value) [(a, .inr (6, [.ref a_now, .int v_undoMany, .int v_undoAt, .ref a_undos, .int v_seenMany, .ref a_seen, .ref a_isKept, .ref a_kept, .int v_letterMany, .ref a_text, .int v_readAt, .int v_tokenAt, .int v_token, .int v_faultAt, .int v_readItems, .ref a_read, .int v_congruenceMany, .ref a_congruences, .int v_termMany, .int v_rounds, .ref a_terms])), (a_read, .inl (y.1, 21, .inl v_read)), (a_text, .inl (y.1, 60, .inl v_text))] sz) (va_Qi K (bW D y A (fun u : (Int32 × Int32 × Int32 × (Nat → Int32)) => [(a, .inr (6, [.ref a_now, .int v_undoMany, .int v_undoAt, .ref a_undos, .int v_seenMany, .ref a_seen, .ref a_isKept, .ref a_kept, .int v_letterMany, .ref a_text, .int u.1, .int u.2.1, .int u.2.2.1, .int v_faultAt, .int v_readItems, .ref a_read, .int v_congruenceMany, .ref a_congruences, .int v_termMany, .int v_rounds, .ref a_terms])), (a_read, .inl (y.1, 21, .inl u.2.2.2)), (a_text, .inl (y.1, 60, .inl v_text))])) A) 0 0 A := by
  refine Met.ofW (cc := cX9_readsItem) (maxL := 1) (ret := (some .boolean)) (by decide) rfl ?_
  intro p e s m args below meth c s₁ B hml hv
  obtain ⟨rfl, hsz, hP, hK, hD0⟩ := hv
  have hx := B.exec
  have hb := B.bytes
  have hr := B.returns
  have hts := atoms_spec (ws := wsX9_readsItem) B.pre
  have hown : s.vm.findClass RX9 = some m.cls := findClass_of_methodNamed B.named
  have hlocks := B.notSynchronized
  subst hsz
  have hD : va_D A [(a, .inr (6, [.ref a_now, .int v_undoMany, .int v_undoAt, .ref a_undos, .int v_seenMany, .ref a_seen, .ref a_isKept, .ref a_kept, .int v_letterMany, .ref a_text, .int v_readAt, .int v_tokenAt, .int v_token, .int v_faultAt, .int v_readItems, .ref a_read, .int v_congruenceMany, .ref a_congruences, .int v_termMany, .int v_rounds, .ref a_terms])), (a_read, .inl (y.1, 21, .inl v_read)), (a_text, .inl (y.1, 60, .inl v_text))] := hAe ▸ hD0.self
  have hA : ∀ q : Nat, s.heap.size ≤ q → A q := fun q h => hAe ▸ Or.inr h
  have hS : va_S A s.heap s.heap [] := va_S.rf
  have iX9 : ∀ w ∈ wsX90, w ∈ wsX9_readsItem := by decide +kernel
  have fl64 := hts (.fieldLink RX9 64 "AlgebraLawsModel" "token" "I") (by decide +kernel)
  have hl := lv_entry ([.ref a] : List Value) (n := 1) (Nat.le_of_ble_eq_true rfl)
  rw [lg_entry_eq]
  generalize (lg_sl ([.ref a] : List Value) ++ List.replicate (1 - (lg_sl ([.ref a] : List Value)).length) Slot.unset).toArray = ls at hl ⊢
  have hl : lv_has ls 1 [(0, .ref a)] := hl
  unfold m_X9_readsItem at h
  refine lv_aload_n hx hb dX9_readsItem_0 rfl (lv_at hl 0 rfl) ?_
  refine cw_v (wn := fun u1 => [(a, .inr (6, [.ref a_now, .int v_undoMany, .int v_undoAt, .ref a_undos, .int v_seenMany, .ref a_seen, .ref a_isKept, .ref a_kept, .int v_letterMany, .ref a_text, .int u1.1, .int u1.2.1, .int u1.2.2, .int v_faultAt, .int v_readItems, .ref a_read, .int v_congruenceMany, .ref a_congruences, .int v_termMany, .int v_rounds, .ref a_terms])), (a_read, .inl (y.1, 21, .inl v_read)), (a_text, .inl (y.1, 60, .inl v_text))]) (wr := [(a_read, .inl (y.1, 21, .inl v_read))]) (wv (As := []) (rest := []) ⟨hx, hb, hml, hown, hts⟩ (c_X9_next l D y a a_text a_now a_undos a_seen a_isKept a_kept a_read a_congruences a_terms v_undoMany v_undoAt v_seenMany v_letterMany v_readAt v_tokenAt v_token v_faultAt v_readItems v_congruenceMany v_termMany v_rounds v_text _ _ rfl _ (sat_bind h)) (cwV 0 hts gX9_readsItem_X9_next rfl rfl rfl (by decide +kernel) ⟨Nat.le_of_ble_eq_true rfl, Nat.le_of_ble_eq_true rfl⟩) hK hP hD [0, 2] rfl rfl rfl 0 6 rfl rfl rfl rfl hl.1 rfl (Nat.le_of_ble_eq_true rfl) dX9_readsItem_1 ⟨Nat.zero_le _, Nat.zero_le _⟩) hS hP hD hA [0, 2] [1] [1, 0, 2] rfl rfl rfl (by decide) (fun _ => rfl) rfl (fun _ => rfl) (fun u1 H locs h hP hD hS => ?_)
  refine lv_aload_n hx hb dX9_readsItem_4 rfl (lv_at hl 0 rfl) ?_
  refine va_get (D := D) (ci := 6) (v := .int u1.2.2) (C := RX9) (T := TX9) (N := 21) hx hb hts iX9 hown hK hP 0 rfl rfl 12 (by decide) fl64 (fun _ h9 => h9) rfl dX9_readsItem_5 ?_
  by_cases c8_102 : u1.2.2 = 102
  · have h := sat_t c8_102 h
    refine lv_lookup (tgt := 49) (off := 41) hx hb dX9_readsItem_8 rfl (by rw [c8_102]; rfl) (by decide) ?_
    refine lv_aload_n hx hb dX9_readsItem_49 rfl (lv_at hl 0 rfl) ?_
    refine cw_i (wn := fun u2 => [(a, .inr (6, [.ref a_now, .int v_undoMany, .int v_undoAt, .ref a_undos, .int v_seenMany, .ref a_seen, .ref a_isKept, .ref a_kept, .int v_letterMany, .ref a_text, .int u2.1, .int u2.2.1, .int u2.2.2.1, .int v_faultAt, .int v_readItems, .ref a_read, .int v_congruenceMany, .ref a_congruences, .int v_termMany, .int v_rounds, .ref a_terms])), (a_read, .inl (y.1, 21, .inl u2.2.2.2)), (a_text, .inl (y.1, 60, .inl v_text))]) (wr := []) (wv (As := []) (rest := []) ⟨hx, hb, hml, hown, hts⟩ (c_X9_readsF l D y a a_read a_text a_now a_undos a_seen a_isKept a_kept a_congruences a_terms v_undoMany v_undoAt v_seenMany v_letterMany u1.1 u1.2.1 u1.2.2 v_faultAt v_readItems v_congruenceMany v_termMany v_rounds v_read v_text _ _ rfl _ (sat_bd2 h)) (cwV 0 hts gX9_readsItem_X9_readsF rfl rfl rfl (by decide +kernel) ⟨Nat.le_of_ble_eq_true rfl, Nat.le_of_ble_eq_true rfl⟩) hK hP hD [0, 1, 2] rfl rfl rfl 0 6 rfl rfl rfl rfl hl.1 rfl (Nat.le_of_ble_eq_true rfl) dX9_readsItem_50 ⟨Nat.zero_le _, Nat.zero_le _⟩) hS hP hD hA [0, 1, 2] [] [0, 1, 2] rfl rfl rfl (by decide) (fun _ => rfl) rfl (fun _ => rfl) (fun r3 u2 H locs h hP hD hS => ?_)
    obtain ⟨hz, h⟩ := sat_gd h
    have h := sat_some h
    exact W.zret (v := r3) hx hb hr (zn hz) (fun t ht hW => ⟨⟨r3, (u2.1, u2.2.1, u2.2.2.1, u2.2.2.2), rfl, h, by rw [ht]; exact hP, va_K.moved hW.alike hK, hD⟩, hS.F ht⟩) hS.2.2 dX9_readsItem_53
  have h := sat_f c8_102 h
  by_cases c8_103 : u1.2.2 = 103
  · have h := sat_t c8_103 h
    refine lv_lookup (tgt := 54) (off := 46) hx hb dX9_readsItem_8 rfl (by rw [c8_103]; rfl) (by decide) ?_
    refine lv_aload_n hx hb dX9_readsItem_54 rfl (lv_at hl 0 rfl) ?_
    refine cw_i (wn := fun u4 => [(a, .inr (6, [.ref a_now, .int v_undoMany, .int v_undoAt, .ref a_undos, .int v_seenMany, .ref a_seen, .ref a_isKept, .ref a_kept, .int v_letterMany, .ref a_text, .int u4.1, .int u4.2.1, .int u4.2.2.1, .int v_faultAt, .int v_readItems, .ref a_read, .int v_congruenceMany, .ref a_congruences, .int v_termMany, .int v_rounds, .ref a_terms])), (a_read, .inl (y.1, 21, .inl u4.2.2.2)), (a_text, .inl (y.1, 60, .inl v_text))]) (wr := []) (wv (As := []) (rest := []) ⟨hx, hb, hml, hown, hts⟩ (c_X9_readsG l D y a a_read a_text a_now a_undos a_seen a_isKept a_kept a_congruences a_terms v_undoMany v_undoAt v_seenMany v_letterMany u1.1 u1.2.1 u1.2.2 v_faultAt v_readItems v_congruenceMany v_termMany v_rounds v_read v_text _ _ rfl _ (sat_bd2 h)) (cwV 0 hts gX9_readsItem_X9_readsG rfl rfl rfl (by decide +kernel) ⟨Nat.le_of_ble_eq_true rfl, Nat.le_of_ble_eq_true rfl⟩) hK hP hD [0, 1, 2] rfl rfl rfl 0 6 rfl rfl rfl rfl hl.1 rfl (Nat.le_of_ble_eq_true rfl) dX9_readsItem_55 ⟨Nat.zero_le _, Nat.zero_le _⟩) hS hP hD hA [0, 1, 2] [] [0, 1, 2] rfl rfl rfl (by decide) (fun _ => rfl) rfl (fun _ => rfl) (fun r5 u4 H locs h hP hD hS => ?_)
    obtain ⟨hz, h⟩ := sat_gd h
    have h := sat_some h
    exact W.zret (v := r5) hx hb hr (zn hz) (fun t ht hW => ⟨⟨r5, (u4.1, u4.2.1, u4.2.2.1, u4.2.2.2), rfl, h, by rw [ht]; exact hP, va_K.moved hW.alike hK, hD⟩, hS.F ht⟩) hS.2.2 dX9_readsItem_58
  have h := sat_f c8_103 h
  by_cases c8_110 : u1.2.2 = 110
  · have h := sat_t c8_110 h
    refine lv_lookup (tgt := 44) (off := 36) hx hb dX9_readsItem_8 rfl (by rw [c8_110]; rfl) (by decide) ?_
    refine lv_aload_n hx hb dX9_readsItem_44 rfl (lv_at hl 0 rfl) ?_
    refine cw_i (wn := fun u6 => [(a, .inr (6, [.ref a_now, .int v_undoMany, .int v_undoAt, .ref a_undos, .int v_seenMany, .ref a_seen, .ref a_isKept, .ref a_kept, .int v_letterMany, .ref a_text, .int u6.1, .int u6.2.1, .int u6.2.2.1, .int v_faultAt, .int v_readItems, .ref a_read, .int v_congruenceMany, .ref a_congruences, .int v_termMany, .int v_rounds, .ref a_terms])), (a_read, .inl (y.1, 21, .inl u6.2.2.2)), (a_text, .inl (y.1, 60, .inl v_text))]) (wr := []) (wv (As := []) (rest := []) ⟨hx, hb, hml, hown, hts⟩ (c_X9_readsSize l D y a a_read a_text a_now a_undos a_seen a_isKept a_kept a_congruences a_terms v_undoMany v_undoAt v_seenMany v_letterMany u1.1 u1.2.1 u1.2.2 v_faultAt v_readItems v_congruenceMany v_termMany v_rounds v_read v_text _ _ rfl _ (sat_bd2 h)) (cwV 0 hts gX9_readsItem_X9_readsSize rfl rfl rfl (by decide +kernel) ⟨Nat.le_of_ble_eq_true rfl, Nat.le_of_ble_eq_true rfl⟩) hK hP hD [0, 1, 2] rfl rfl rfl 0 6 rfl rfl rfl rfl hl.1 rfl (Nat.le_of_ble_eq_true rfl) dX9_readsItem_45 ⟨Nat.zero_le _, Nat.zero_le _⟩) hS hP hD hA [0, 1, 2] [] [0, 1, 2] rfl rfl rfl (by decide) (fun _ => rfl) rfl (fun _ => rfl) (fun r7 u6 H locs h hP hD hS => ?_)
    obtain ⟨hz, h⟩ := sat_gd h
    have h := sat_some h
    exact W.zret (v := r7) hx hb hr (zn hz) (fun t ht hW => ⟨⟨r7, (u6.1, u6.2.1, u6.2.2.1, u6.2.2.2), rfl, h, by rw [ht]; exact hP, va_K.moved hW.alike hK, hD⟩, hS.F ht⟩) hS.2.2 dX9_readsItem_48
  have h := sat_f c8_110 h
  have e8_102 : (u1.2.2).toInt ≠ 102 := fun q => c8_102 (Int32.toInt_inj.mp (q.trans rfl))
  have e8_103 : (u1.2.2).toInt ≠ 103 := fun q => c8_103 (Int32.toInt_inj.mp (q.trans rfl))
  have e8_110 : (u1.2.2).toInt ≠ 110 := fun q => c8_110 (Int32.toInt_inj.mp (q.trans rfl))
  refine lv_lookup (tgt := 59) (off := 51) hx hb dX9_readsItem_8 rfl (by simp [Op.lookupswitch.offset, e8_102, Ne.symm e8_102, e8_103, Ne.symm e8_103, e8_110, Ne.symm e8_110]) (by decide) ?_
  refine lv_iconst (v := 0) hx hb dX9_readsItem_59 (by decide) ?_
  have h := sat_some h
  exact W.zret (v := 0) hx hb hr rfl (fun t ht hW => ⟨⟨0, (u1.1, u1.2.1, u1.2.2, v_read), rfl, h, by rw [ht]; exact hP, va_K.moved hW.alike hK, hD⟩, hS.F ht⟩) hS.2.2 dX9_readsItem_60
