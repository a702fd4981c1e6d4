/-! X9_tables -/
set_option maxHeartbeats 4000000 in
set_option maxRecDepth 100000 in
theorem c_X9_tables (l : Launch) (D : va_G) (y : ClassId × ClassId × ClassId × ClassId) (a a_isKept a_now a_read a_text a_undos a_seen a_kept a_congruences a_terms : Nat) (v_undoMany : Int32) (v_undoAt : Int32) (v_seenMany : Int32) (v_letterMany : Int32) (v_readAt : Int32) (v_tokenAt : Int32) (v_token : Int32) (v_faultAt : Int32) (v_readItems : Int32) (v_congruenceMany : Int32) (v_termMany : Int32) (v_rounds : Int32) (v_isKept : Nat → Int32) (v_now : Nat → Int32) (v_read : Nat → Int32) (v_text : Nat → Int32) (sz : Nat) (A : Nat → Prop) (hAe : va_A [(a, .inr (6, [.ref a_now, .int v_undoMany, .int v_undoAt, .ref a_undos, .int v_seenMany, .ref a_seen, .ref a_isKept, .ref a_kept, .int v_letterMany, .ref a_text, .int v_readAt, .int v_tokenAt, .int v_token, .int v_faultAt, .int v_readItems, .ref a_read, .int v_congruenceMany, .ref a_congruences, .int v_termMany, .int v_rounds, .ref a_terms])), (a_isKept, .inl (y.2.2.1, 2, .inl v_isKept)), (a_now, .inl (y.1, 21, .inl v_now)), (a_read, .inl (y.1, 21, .inl v_read)), (a_text, .inl (y.1, 60, .inl v_text))] sz = A) (K : Int32 → (Int32 × Int32 × Int32 × Int32 × Int32 × Int32 × Int32 × Int32 × (Nat → Int32) × (Nat → Int32) × (Nat → Int32)) → Prop) (h : sat (m_X9_tables v_undoMany v_seenMany v_letterMany v_readAt v_tokenAt v_token v_faultAt v_readItems v_isKept v_now v_read v_text) (pK K)) : Met l yX9_tables wsX9_tables ({ frames := 5, cells := 0, slots := 0, locals := 104 } : Room) (pW D y ([.ref a] : List Value) [(a, .inr (6, [.ref a_now, .int v_undoMany, .int v_undoAt, .ref a_undos, .int v_seenMany, .ref a_seen, .ref a_isKept, .ref a_kept, .int v_letterMany, .ref a_text, .int v_readAt, .int v_tokenAt, .int v_token, .int v_faultAt, .int v_readItems, .ref a_read, .int v_congruenceMany, .ref a_congruences, .int v_termMany, .int v_rounds, .ref a_terms])), (a_isKept, .inl (y.2.2.1, 2, .inl v_isKept)), (a_now, .inl (y.1, 21, .inl v_now)), (a_read, .inl (y.1, 21, .inl v_read)), (a_text, .inl (y.1, 60, .inl v_text))] sz) (va_Qi K (bW D y A (fun u : (Int32 × Int32 × Int32 × Int32 × Int32 × Int32 × Int32 × Int32 × (Nat → Int32) × (Nat → Int32) × (Nat → Int32)) => [(a, .inr (6, [.ref a_now, .int u.1, .int v_undoAt, .ref a_undos, .int u.2.1, .ref a_seen, .ref a_isKept, .ref a_kept, .int u.2.2.1, .ref a_text, .int u.2.2.2.1, .int u.2.2.2.2.1, .int u.2.2.2.2.2.1, .int u.2.2.2.2.2.2.1, .int u.2.2.2.2.2.2.2.1, .ref a_read, .int v_congruenceMany, .ref a_congruences, .int v_termMany, .int v_rounds, .ref a_terms])), (a_isKept, .inl (y.2.2.1, 2, .inl u.2.2.2.2.2.2.2.2.1)), (a_now, .inl (y.1, 21, .inl u.2.2.2.2.2.2.2.2.2.1)), (a_read, .inl (y.1, 21, .inl u.2.2.2.2.2.2.2.2.2.2)), (a_text, .inl (y.1, 60, .inl v_text))])) A) 0 0 A := by
  refine Met.ofW (cc := cX9_tables) (maxL := 2) (ret := (some .int)) (by decide) rfl ?_
  intro p e s m args below meth c s₁ B hml hv
  obtain ⟨rfl, hsz, hP, hK, hD0⟩ := hv
  have hx := B.exec
  have hb := B.bytes
  have hr := B.returns
  have hts := atoms_spec (ws := wsX9_tables) B.pre
  have hown : s.vm.findClass RX9 = some m.cls := findClass_of_methodNamed B.named
  have hlocks := B.notSynchronized
  subst hsz
  have hD : va_D A [(a, .inr (6, [.ref a_now, .int v_undoMany, .int v_undoAt, .ref a_undos, .int v_seenMany, .ref a_seen, .ref a_isKept, .ref a_kept, .int v_letterMany, .ref a_text, .int v_readAt, .int v_tokenAt, .int v_token, .int v_faultAt, .int v_readItems, .ref a_read, .int v_congruenceMany, .ref a_congruences, .int v_termMany, .int v_rounds, .ref a_terms])), (a_isKept, .inl (y.2.2.1, 2, .inl v_isKept)), (a_now, .inl (y.1, 21, .inl v_now)), (a_read, .inl (y.1, 21, .inl v_read)), (a_text, .inl (y.1, 60, .inl v_text))] := hAe ▸ hD0.self
  have hA : ∀ q : Nat, s.heap.size ≤ q → A q := fun q h => hAe ▸ Or.inr h
  have hS : va_S A s.heap s.heap [] := va_S.rf
  have iX9 : ∀ w ∈ wsX90, w ∈ wsX9_tables := by decide +kernel
  have fl29 := hts (.fieldLink RX9 29 "AlgebraLawsModel" "read" "[I") (by decide +kernel)
  have fl55 := hts (.fieldLink RX9 55 "AlgebraLawsModel" "readAt" "I") (by decide +kernel)
  have fl70 := hts (.fieldLink RX9 70 "AlgebraLawsModel" "readItems" "I") (by decide +kernel)
  have fl51 := hts (.fieldLink RX9 51 "AlgebraLawsModel" "letterMany" "I") (by decide +kernel)
  have fl61 := hts (.fieldLink RX9 61 "AlgebraLawsModel" "tokenAt" "I") (by decide +kernel)
  have fl93 := hts (.fieldLink RX9 93 "AlgebraLawsModel" "faultAt" "I") (by decide +kernel)
  have fl7 := hts (.fieldLink RX9 7 "AlgebraLawsModel" "now" "[I") (by decide +kernel)
  have fl96 := hts (.fieldLink RX9 96 "AlgebraLawsModel" "undoMany" "I") (by decide +kernel)
  have fl99 := hts (.fieldLink RX9 99 "AlgebraLawsModel" "seenMany" "I") (by decide +kernel)
  have fl19 := hts (.fieldLink RX9 19 "AlgebraLawsModel" "isKept" "[Z") (by decide +kernel)
  have hl := lv_entry ([.ref a] : List Value) (n := 2) (Nat.le_of_ble_eq_true rfl)
  rw [lg_entry_eq]
  generalize (lg_sl ([.ref a] : List Value) ++ List.replicate (2 - (lg_sl ([.ref a] : List Value)).length) Slot.unset).toArray = ls at hl ⊢
  have hl : lv_has ls 2 [(0, .ref a)] := hl
  unfold m_X9_tables at h
  refine lv_aload_n hx hb dX9_tables_0 rfl (lv_at hl 0 rfl) ?_
  refine va_get (D := D) (ci := 6) (v := .ref a_read) (C := RX9) (T := TX9) (N := 21) hx hb hts iX9 hown hK hP 0 rfl rfl 15 (by decide) fl29 (fun _ h9 => h9) rfl dX9_tables_1 ?_
  refine lv_iconst (v := 2) hx hb dX9_tables_4 (by decide) ?_
  refine cw_v (wn := fun u1 => [(a, .inr (6, [.ref a_now, .int v_undoMany, .int v_undoAt, .ref a_undos, .int v_seenMany, .ref a_seen, .ref a_isKept, .ref a_kept, .int v_letterMany, .ref a_text, .int v_readAt, .int v_tokenAt, .int v_token, .int v_faultAt, .int v_readItems, .ref a_read, .int v_congruenceMany, .ref a_congruences, .int v_termMany, .int v_rounds, .ref a_terms])), (a_isKept, .inl (y.2.2.1, 2, .inl v_isKept)), (a_now, .inl (y.1, 21, .inl v_now)), (a_read, .inl (y.1, 21, .inl u1)), (a_text, .inl (y.1, 60, .inl v_text))]) (wr := [(a, .inr (6, [.ref a_now, .int v_undoMany, .int v_undoAt, .ref a_undos, .int v_seenMany, .ref a_seen, .ref a_isKept, .ref a_kept, .int v_letterMany, .ref a_text, .int v_readAt, .int v_tokenAt, .int v_token, .int v_faultAt, .int v_readItems, .ref a_read, .int v_congruenceMany, .ref a_congruences, .int v_termMany, .int v_rounds, .ref a_terms])), (a_isKept, .inl (y.2.2.1, 2, .inl v_isKept)), (a_now, .inl (y.1, 21, .inl v_now)), (a_text, .inl (y.1, 60, .inl v_text))]) (wsc (As := [.ref a_read, .int 2]) (rest := []) ⟨hx, hb, hml, hown, hts⟩ (c_X9_begins l D y a_read v_read 2 _ _ rfl _ (sat_bind h)) (va_cwS 2 hts gX9_tables_X9_begins rfl rfl rfl (by decide +kernel) ⟨Nat.le_of_ble_eq_true rfl, Nat.le_of_ble_eq_true rfl⟩) hK hP hD [3] rfl rfl rfl rfl hl.1 rfl (Nat.le_of_ble_eq_true rfl) dX9_tables_5 ⟨Nat.zero_le _, Nat.zero_le _⟩) hS hP hD hA [3] [0, 1, 2, 4] [0, 1, 2, 4, 3] rfl rfl rfl (by decide) (fun _ => rfl) rfl (fun _ => rfl) (fun u1 H locs h hP hD hS => ?_)
  refine lv_aload_n hx hb dX9_tables_8 rfl (lv_at hl 0 rfl) ?_
  refine lv_iconst (v := 0) hx hb dX9_tables_9 (by decide) ?_
  refine pf (D := D) (ci := 6) (v := .int 0) (ty := .int) (C := RX9) (T := TX9) (N := 21) (wn := [(a, .inr (6, [.ref a_now, .int v_undoMany, .int v_undoAt, .ref a_undos, .int v_seenMany, .ref a_seen, .ref a_isKept, .ref a_kept, .int v_letterMany, .ref a_text, .int 0, .int v_tokenAt, .int v_token, .int v_faultAt, .int v_readItems, .ref a_read, .int v_congruenceMany, .ref a_congruences, .int v_termMany, .int v_rounds, .ref a_terms])), (a_isKept, .inl (y.2.2.1, 2, .inl v_isKept)), (a_now, .inl (y.1, 21, .inl v_now)), (a_read, .inl (y.1, 21, .inl u1)), (a_text, .inl (y.1, 60, .inl v_text))]) hx hb hts iX9 tyX9 tyX9_ok nmX9 hown hK hP hD hS 0 rfl rfl 10 (by decide) fl55 (fun _ h9 => h9) rfl (by decide +kernel) rfl rfl (Nat.le_of_ble_eq_true rfl) dX9_tables_10 rfl (fun H locs hP hD hS => ?_)
  refine lv_aload_n hx hb dX9_tables_13 rfl (lv_at hl 0 rfl) ?_
  refine lv_iconst (v := 0) hx hb dX9_tables_14 (by decide) ?_
  refine pf (D := D) (ci := 6) (v := .int 0) (ty := .int) (C := RX9) (T := TX9) (N := 21) (wn := [(a, .inr (6, [.ref a_now, .int v_undoMany, .int v_undoAt, .ref a_undos, .int v_seenMany, .ref a_seen, .ref a_isKept, .ref a_kept, .int v_letterMany, .ref a_text, .int 0, .int v_tokenAt, .int v_token, .int v_faultAt, .int 0, .ref a_read, .int v_congruenceMany, .ref a_congruences, .int v_termMany, .int v_rounds, .ref a_terms])), (a_isKept, .inl (y.2.2.1, 2, .inl v_isKept)), (a_now, .inl (y.1, 21, .inl v_now)), (a_read, .inl (y.1, 21, .inl u1)), (a_text, .inl (y.1, 60, .inl v_text))]) hx hb hts iX9 tyX9 tyX9_ok nmX9 hown hK hP hD hS 0 rfl rfl 14 (by decide) fl70 (fun _ h9 => h9) rfl (by decide +kernel) rfl rfl (Nat.le_of_ble_eq_true rfl) dX9_tables_15 rfl (fun H locs hP hD hS => ?_)
  refine lv_aload_n hx hb dX9_tables_18 rfl (lv_at hl 0 rfl) ?_
  refine cw_v (wn := fun u2 => [(a, .inr (6, [.ref a_now, .int v_undoMany, .int v_undoAt, .ref a_undos, .int v_seenMany, .ref a_seen, .ref a_isKept, .ref a_kept, .int v_letterMany, .ref a_text, .int u2, .int v_tokenAt, .int v_token, .int v_faultAt, .int 0, .ref a_read, .int v_congruenceMany, .ref a_congruences, .int v_termMany, .int v_rounds, .ref a_terms])), (a_isKept, .inl (y.2.2.1, 2, .inl v_isKept)), (a_now, .inl (y.1, 21, .inl v_now)), (a_read, .inl (y.1, 21, .inl u1)), (a_text, .inl (y.1, 60, .inl v_text))]) (wr := [(a_isKept, .inl (y.2.2.1, 2, .inl v_isKept)), (a_now, .inl (y.1, 21, .inl v_now)), (a_read, .inl (y.1, 21, .inl u1))]) (wv (As := []) (rest := []) ⟨hx, hb, hml, hown, hts⟩ (c_X9_blanks l D y a a_text a_now a_undos a_seen a_isKept a_kept a_read a_congruences a_terms v_undoMany v_undoAt v_seenMany v_letterMany 0 v_tokenAt v_token v_faultAt 0 v_congruenceMany v_termMany v_rounds v_text _ _ rfl _ (sat_bind h)) (cwV 0 hts gX9_tables_X9_blanks rfl rfl rfl (by decide +kernel) ⟨Nat.le_of_ble_eq_true rfl, Nat.le_of_ble_eq_true rfl⟩) hK hP hD [0, 4] rfl rfl rfl 0 6 rfl rfl rfl rfl hl.1 rfl (Nat.le_of_ble_eq_true rfl) dX9_tables_19 ⟨Nat.zero_le _, Nat.zero_le _⟩) hS hP hD hA [0, 4] [1, 2, 3] [3, 0, 1, 2, 4] rfl rfl rfl (by decide) (fun _ => rfl) rfl (fun _ => rfl) (fun u2 H locs h hP hD hS => ?_)
  have hL22 : ∀ (K22 : ((Int32 × (Int32 × Int32 × Int32 × Int32 × Int32 × Int32 × Int32 × Int32 × (Nat → Int32) × (Nat → Int32) × (Nat → Int32))) ⊕ (Int32 × Int32 × Int32 × Int32 × (Nat → Int32))) → Prop)
      (hR22 : ∀ (u : (Int32 × (Int32 × Int32 × Int32 × Int32 × Int32 × Int32 × Int32 × Int32 × (Nat → Int32) × (Nat → Int32) × (Nat → Int32)))), K22 (.inl u) → pK K u)
      (hE22 : ∀ (z22 : (Int32 × Int32 × Int32 × Int32 × (Nat → Int32))) (ls : Array Slot) (H : Heap) (locs : List Loc), K22 (.inr z22) → lv_has ls 2 [(0, .ref a)] → va_P D vwCl [(a, .inr (6, [.ref a_now, .int v_undoMany, .int v_undoAt, .ref a_undos, .int v_seenMany, .ref a_seen, .ref a_isKept, .ref a_kept, .int v_letterMany, .ref a_text, .int z22.1, .int z22.2.1, .int z22.2.2.1, .int v_faultAt, .int z22.2.2.2.1, .ref a_read, .int v_congruenceMany, .ref a_congruences, .int v_termMany, .int v_rounds, .ref a_terms])), (a_isKept, .inl (y.2.2.1, 2, .inl v_isKept)), (a_now, .inl (y.1, 21, .inl v_now)), (a_read, .inl (y.1, 21, .inl z22.2.2.2.2)), (a_text, .inl (y.1, 60, .inl v_text))] H → va_D A [(a, .inr (6, [.ref a_now, .int v_undoMany, .int v_undoAt, .ref a_undos, .int v_seenMany, .ref a_seen, .ref a_isKept, .ref a_kept, .int v_letterMany, .ref a_text, .int z22.1, .int z22.2.1, .int z22.2.2.1, .int v_faultAt, .int z22.2.2.2.1, .ref a_read, .int v_congruenceMany, .ref a_congruences, .int v_termMany, .int v_rounds, .ref a_terms])), (a_isKept, .inl (y.2.2.1, 2, .inl v_isKept)), (a_now, .inl (y.1, 21, .inl v_now)), (a_read, .inl (y.1, 21, .inl z22.2.2.2.2)), (a_text, .inl (y.1, 60, .inl v_text))] → va_S A s.heap H locs → W p l e (headSpec wsX9_tables ({ frames := 5, cells := 0, slots := 0, locals := 104 } : Room)).room s m ([.ref a] : List Value).toArray below meth c H locs 0 0 (MQ below (va_Qi K (bW D y A (fun u : (Int32 × Int32 × Int32 × Int32 × Int32 × Int32 × Int32 × Int32 × (Nat → Int32) × (Nat → Int32) × (Nat → Int32)) => [(a, .inr (6, [.ref a_now, .int u.1, .int v_undoAt, .ref a_undos, .int u.2.1, .ref a_seen, .ref a_isKept, .ref a_kept, .int u.2.2.1, .ref a_text, .int u.2.2.2.1, .int u.2.2.2.2.1, .int u.2.2.2.2.2.1, .int u.2.2.2.2.2.2.1, .int u.2.2.2.2.2.2.2.1, .ref a_read, .int v_congruenceMany, .ref a_congruences, .int v_termMany, .int v_rounds, .ref a_terms])), (a_isKept, .inl (y.2.2.1, 2, .inl u.2.2.2.2.2.2.2.2.1)), (a_now, .inl (y.1, 21, .inl u.2.2.2.2.2.2.2.2.2.1)), (a_read, .inl (y.1, 21, .inl u.2.2.2.2.2.2.2.2.2.2)), (a_text, .inl (y.1, 60, .inl v_text))])) A) ([.ref a] : List Value).toArray s 0 0 A) (F0 m 73 ls []))
      (n : Nat) (v_readAt_22 : Int32) (v_tokenAt_22 : Int32) (v_token_22 : Int32) (v_readItems_22 : Int32) (v_read_22 : Nat → Int32) (ls : Array Slot) (H : Heap) (locs : List Loc), sat (lp (fun q : (Int32 × Int32 × Int32 × Int32 × (Nat → Int32)) => m_X9_tables_s22 v_undoMany v_seenMany v_letterMany v_isKept v_now v_text q.1 q.2.1 q.2.2.1 q.2.2.2.1 q.2.2.2.2) n (v_readAt_22, v_tokenAt_22, v_token_22, v_readItems_22, v_read_22)) K22 → lv_has ls 2 [(0, .ref a)] → va_P D vwCl [(a, .inr (6, [.ref a_now, .int v_undoMany, .int v_undoAt, .ref a_undos, .int v_seenMany, .ref a_seen, .ref a_isKept, .ref a_kept, .int v_letterMany, .ref a_text, .int v_readAt_22, .int v_tokenAt_22, .int v_token_22, .int v_faultAt, .int v_readItems_22, .ref a_read, .int v_congruenceMany, .ref a_congruences, .int v_termMany, .int v_rounds, .ref a_terms])), (a_isKept, .inl (y.2.2.1, 2, .inl v_isKept)), (a_now, .inl (y.1, 21, .inl v_now)), (a_read, .inl (y.1, 21, .inl v_read_22)), (a_text, .inl (y.1, 60, .inl v_text))] H → va_D A [(a, .inr (6, [.ref a_now, .int v_undoMany, .int v_undoAt, .ref a_undos, .int v_seenMany, .ref a_seen, .ref a_isKept, .ref a_kept, .int v_letterMany, .ref a_text, .int v_readAt_22, .int v_tokenAt_22, .int v_token_22, .int v_faultAt, .int v_readItems_22, .ref a_read, .int v_congruenceMany, .ref a_congruences, .int v_termMany, .int v_rounds, .ref a_terms])), (a_isKept, .inl (y.2.2.1, 2, .inl v_isKept)), (a_now, .inl (y.1, 21, .inl v_now)), (a_read, .inl (y.1, 21, .inl v_read_22)), (a_text, .inl (y.1, 60, .inl v_text))] → va_S A s.heap H locs → W p l e (headSpec wsX9_tables ({ frames := 5, cells := 0, slots := 0, locals := 104 } : Room)).room s m ([.ref a] : List Value).toArray below meth c H locs 0 0 (MQ below (va_Qi K (bW D y A (fun u : (Int32 × Int32 × Int32 × Int32 × Int32 × Int32 × Int32 × Int32 × (Nat → Int32) × (Nat → Int32) × (Nat → Int32)) => [(a, .inr (6, [.ref a_now, .int u.1, .int v_undoAt, .ref a_undos, .int u.2.1, .ref a_seen, .ref a_isKept, .ref a_kept, .int u.2.2.1, .ref a_text, .int u.2.2.2.1, .int u.2.2.2.2.1, .int u.2.2.2.2.2.1, .int u.2.2.2.2.2.2.1, .int u.2.2.2.2.2.2.2.1, .ref a_read, .int v_congruenceMany, .ref a_congruences, .int v_termMany, .int v_rounds, .ref a_terms])), (a_isKept, .inl (y.2.2.1, 2, .inl u.2.2.2.2.2.2.2.2.1)), (a_now, .inl (y.1, 21, .inl u.2.2.2.2.2.2.2.2.2.1)), (a_read, .inl (y.1, 21, .inl u.2.2.2.2.2.2.2.2.2.2)), (a_text, .inl (y.1, 60, .inl v_text))])) A) ([.ref a] : List Value).toArray s 0 0 A) (F0 m 22 ls []) := by
    intro K22 hR22 hE22 n
    induction n with
    | zero => intro v_readAt_22 v_tokenAt_22 v_token_22 v_readItems_22 v_read_22 ls H locs h; exact (sat_lp0 h).elim
    | succ n ih =>
      intro v_readAt_22 v_tokenAt_22 v_token_22 v_readItems_22 v_read_22 ls H locs h hl hP hD hS
      have h := sat_lp h
      have h : sat (m_X9_tables_s22 v_undoMany v_seenMany v_letterMany v_isKept v_now v_text v_readAt_22 v_tokenAt_22 v_token_22 v_readItems_22 v_read_22) (lk (fun s' => sat (lp (fun q : (Int32 × Int32 × Int32 × Int32 × (Nat → Int32)) => m_X9_tables_s22 v_undoMany v_seenMany v_letterMany v_isKept v_now v_text q.1 q.2.1 q.2.2.1 q.2.2.2.1 q.2.2.2.2) n s') K22) K22) := h
      unfold m_X9_tables_s22 at h
      refine lv_aload_n hx hb dX9_tables_22 rfl (lv_at hl 0 rfl) ?_
      refine va_get (D := D) (ci := 6) (v := .int v_readAt_22) (C := RX9) (T := TX9) (N := 21) hx hb hts iX9 hown hK hP 0 rfl rfl 10 (by decide) fl55 (fun _ h9 => h9) rfl dX9_tables_23 ?_
      refine lv_aload_n hx hb dX9_tables_26 rfl (lv_at hl 0 rfl) ?_
      refine va_get (D := D) (ci := 6) (v := .int v_letterMany) (C := RX9) (T := TX9) (N := 21) hx hb hts iX9 hown hK hP 0 rfl rfl 8 (by decide) fl51 (fun _ h9 => h9) rfl dX9_tables_27 ?_
      refine lv_icmp_ge (tgt := 73) hx hb dX9_tables_30 (by decide) (fun c30 => ?_) (fun c30 => ?_)
      · have h := sat_t c30 h
        have h := lk_r (sat_some h)
        exact hE22 (v_readAt_22, v_tokenAt_22, v_token_22, v_readItems_22, v_read_22) ls H locs h hl hP hD hS
      · have h := sat_f c30 h
        refine lv_aload_n hx hb dX9_tables_33 rfl (lv_at hl 0 rfl) ?_
        refine cw_i (wn := fun u4 => [(a, .inr (6, [.ref a_now, .int v_undoMany, .int v_undoAt, .ref a_undos, .int v_seenMany, .ref a_seen, .ref a_isKept, .ref a_kept, .int v_letterMany, .ref a_text, .int u4.1, .int u4.2.1, .int u4.2.2.1, .int v_faultAt, .int v_readItems_22, .ref a_read, .int v_congruenceMany, .ref a_congruences, .int v_termMany, .int v_rounds, .ref a_terms])), (a_isKept, .inl (y.2.2.1, 2, .inl v_isKept)), (a_now, .inl (y.1, 21, .inl v_now)), (a_read, .inl (y.1, 21, .inl u4.2.2.2)), (a_text, .inl (y.1, 60, .inl v_text))]) (wr := [(a_isKept, .inl (y.2.2.1, 2, .inl v_isKept)), (a_now, .inl (y.1, 21, .inl v_now))]) (wv (As := []) (rest := []) ⟨hx, hb, hml, hown, hts⟩ (c_X9_readsItem l D y a a_read a_text a_now a_undos a_seen a_isKept a_kept a_congruences a_terms v_undoMany v_undoAt v_seenMany v_letterMany v_readAt_22 v_tokenAt_22 v_token_22 v_faultAt v_readItems_22 v_congruenceMany v_termMany v_rounds v_read_22 v_text _ _ rfl _ (sat_bd2 h)) (cwV 0 hts gX9_tables_X9_readsItem rfl rfl rfl (by decide +kernel) ⟨Nat.le_of_ble_eq_true rfl, Nat.le_of_ble_eq_true rfl⟩) hK hP hD [0, 3, 4] rfl rfl rfl 0 6 rfl rfl rfl rfl hl.1 rfl (Nat.le_of_ble_eq_true rfl) dX9_tables_34 ⟨Nat.zero_le _, Nat.zero_le _⟩) hS hP hD hA [0, 3, 4] [1, 2] [2, 0, 1, 3, 4] rfl rfl rfl (by decide) (fun _ => rfl) rfl (fun _ => rfl) (fun r5 u4 H locs h hP hD hS => ?_)
        refine lv_if_ne (tgt := 56) hx hb dX9_tables_37 (by decide) (fun c37 => ?_) (fun c37 => ?_)
        · have h := sat_f c37 h
          refine lv_aload_n hx hb dX9_tables_56 rfl (lv_at hl 0 rfl) ?_
          refine lv_dup hx hb dX9_tables_57 rfl ?_
          refine va_get (D := D) (ci := 6) (v := .int v_readItems_22) (C := RX9) (T := TX9) (N := 21) hx hb hts iX9 hown hK hP 0 rfl rfl 14 (by decide) fl70 (fun _ h9 => h9) rfl dX9_tables_58 ?_
          refine lv_iconst (v := 1) hx hb dX9_tables_61 (by decide) ?_
          refine lv_iadd hx hb dX9_tables_62 ?_
          refine pf (D := D) (ci := 6) (v := .int (v_readItems_22 + 1)) (ty := .int) (C := RX9) (T := TX9) (N := 21) (wn := [(a, .inr (6, [.ref a_now, .int v_undoMany, .int v_undoAt, .ref a_undos, .int v_seenMany, .ref a_seen, .ref a_isKept, .ref a_kept, .int v_letterMany, .ref a_text, .int u4.1, .int u4.2.1, .int u4.2.2.1, .int v_faultAt, .int (v_readItems_22 + 1), .ref a_read, .int v_congruenceMany, .ref a_congruences, .int v_termMany, .int v_rounds, .ref a_terms])), (a_isKept, .inl (y.2.2.1, 2, .inl v_isKept)), (a_now, .inl (y.1, 21, .inl v_now)), (a_read, .inl (y.1, 21, .inl u4.2.2.2)), (a_text, .inl (y.1, 60, .inl v_text))]) hx hb hts iX9 tyX9 tyX9_ok nmX9 hown hK hP hD hS 0 rfl rfl 14 (by decide) fl70 (fun _ h9 => h9) rfl (by decide +kernel) rfl rfl (Nat.le_of_ble_eq_true rfl) dX9_tables_63 rfl (fun H locs hP hD hS => ?_)
          refine lv_aload_n hx hb dX9_tables_66 rfl (lv_at hl 0 rfl) ?_
          refine cw_v (wn := fun u6 => [(a, .inr (6, [.ref a_now, .int v_undoMany, .int v_undoAt, .ref a_undos, .int v_seenMany, .ref a_seen, .ref a_isKept, .ref a_kept, .int v_letterMany, .ref a_text, .int u6, .int u4.2.1, .int u4.2.2.1, .int v_faultAt, .int (v_readItems_22 + 1), .ref a_read, .int v_congruenceMany, .ref a_congruences, .int v_termMany, .int v_rounds, .ref a_terms])), (a_isKept, .inl (y.2.2.1, 2, .inl v_isKept)), (a_now, .inl (y.1, 21, .inl v_now)), (a_read, .inl (y.1, 21, .inl u4.2.2.2)), (a_text, .inl (y.1, 60, .inl v_text))]) (wr := [(a_isKept, .inl (y.2.2.1, 2, .inl v_isKept)), (a_now, .inl (y.1, 21, .inl v_now)), (a_read, .inl (y.1, 21, .inl u4.2.2.2))]) (wv (As := []) (rest := []) ⟨hx, hb, hml, hown, hts⟩ (c_X9_blanks l D y a a_text a_now a_undos a_seen a_isKept a_kept a_read a_congruences a_terms v_undoMany v_undoAt v_seenMany v_letterMany u4.1 u4.2.1 u4.2.2.1 v_faultAt (v_readItems_22 + 1) v_congruenceMany v_termMany v_rounds v_text _ _ rfl _ (sat_bind h)) (cwV 0 hts gX9_tables_X9_blanks rfl rfl rfl (by decide +kernel) ⟨Nat.le_of_ble_eq_true rfl, Nat.le_of_ble_eq_true rfl⟩) hK hP hD [0, 4] rfl rfl rfl 0 6 rfl rfl rfl rfl hl.1 rfl (Nat.le_of_ble_eq_true rfl) dX9_tables_67 ⟨Nat.zero_le _, Nat.zero_le _⟩) hS hP hD hA [0, 4] [1, 2, 3] [3, 0, 1, 2, 4] rfl rfl rfl (by decide) (fun _ => rfl) rfl (fun _ => rfl) (fun u6 H locs h hP hD hS => ?_)
          refine lv_goto (tgt := 22) hx hb dX9_tables_70 (by decide) ?_
          have h := lk_l (sat_some h)
          exact ih u6 u4.2.1 u4.2.2.1 (v_readItems_22 + 1) u4.2.2.2 ls H locs h hl hP hD hS
        · have h := sat_t c37 h
          refine lv_aload_n hx hb dX9_tables_40 rfl (lv_at hl 0 rfl) ?_
          refine lv_aload_n hx hb dX9_tables_41 rfl (lv_at hl 0 rfl) ?_
          refine va_get (D := D) (ci := 6) (v := .int u4.2.1) (C := RX9) (T := TX9) (N := 21) hx hb hts iX9 hown hK hP 0 rfl rfl 11 (by decide) fl61 (fun _ h9 => h9) rfl dX9_tables_42 ?_
          refine pf (D := D) (ci := 6) (v := .int u4.2.1) (ty := .int) (C := RX9) (T := TX9) (N := 21) (wn := [(a, .inr (6, [.ref a_now, .int v_undoMany, .int v_undoAt, .ref a_undos, .int v_seenMany, .ref a_seen, .ref a_isKept, .ref a_kept, .int v_letterMany, .ref a_text, .int u4.1, .int u4.2.1, .int u4.2.2.1, .int u4.2.1, .int v_readItems_22, .ref a_read, .int v_congruenceMany, .ref a_congruences, .int v_termMany, .int v_rounds, .ref a_terms])), (a_isKept, .inl (y.2.2.1, 2, .inl v_isKept)), (a_now, .inl (y.1, 21, .inl v_now)), (a_read, .inl (y.1, 21, .inl u4.2.2.2)), (a_text, .inl (y.1, 60, .inl v_text))]) hx hb hts iX9 tyX9 tyX9_ok nmX9 hown hK hP hD hS 0 rfl rfl 13 (by decide) fl93 (fun _ h9 => h9) rfl (by decide +kernel) rfl rfl (Nat.le_of_ble_eq_true rfl) dX9_tables_45 rfl (fun H locs hP hD hS => ?_)
          refine lv_bipush (v := (-10)) hx hb dX9_tables_48 (by decide) ?_
          refine lv_aload_n hx hb dX9_tables_50 rfl (lv_at hl 0 rfl) ?_
          refine va_get (D := D) (ci := 6) (v := .int u4.2.1) (C := RX9) (T := TX9) (N := 21) hx hb hts iX9 hown hK hP 0 rfl rfl 13 (by decide) fl93 (fun _ h9 => h9) rfl dX9_tables_51 ?_
          refine lv_isub hx hb dX9_tables_54 ?_
          have h := hR22 _ (lk_r (sat_some h))
          exact W.iret (v := (-10) - u4.2.1) hx hb hr (fun t ht hW => ⟨⟨(-10) - u4.2.1, (v_undoMany, v_seenMany, v_letterMany, u4.1, u4.2.1, u4.2.2.1, u4.2.1, v_readItems_22, v_isKept, v_now, u4.2.2.2), rfl, h, by rw [ht]; exact hP, va_K.moved hW.alike hK, hD⟩, hS.F ht⟩) hS.2.2 dX9_tables_55
  have h := sat_bdS h
  refine hL22 _ (fun u h => ?_) (fun z22 ls H locs h hl hP hD hS => ?_) 1000 u2 v_tokenAt v_token 0 u1 ls H locs h hl hP hD hS
  · have h := lk_l h
    exact sat_some h
  · have h := lk_r h
    refine lv_aload_n hx hb dX9_tables_73 rfl (lv_at hl 0 rfl) ?_
    refine lv_iconst (v := 0) hx hb dX9_tables_74 (by decide) ?_
    refine pf (D := D) (ci := 6) (v := .int 0) (ty := .int) (C := RX9) (T := TX9) (N := 21) (wn := [(a, .inr (6, [.ref a_now, .int v_undoMany, .int v_undoAt, .ref a_undos, .int v_seenMany, .ref a_seen, .ref a_isKept, .ref a_kept, .int 0, .ref a_text, .int z22.1, .int z22.2.1, .int z22.2.2.1, .int v_faultAt, .int z22.2.2.2.1, .ref a_read, .int v_congruenceMany, .ref a_congruences, .int v_termMany, .int v_rounds, .ref a_terms])), (a_isKept, .inl (y.2.2.1, 2, .inl v_isKept)), (a_now, .inl (y.1, 21, .inl v_now)), (a_read, .inl (y.1, 21, .inl z22.2.2.2.2)), (a_text, .inl (y.1, 60, .inl v_text))]) hx hb hts iX9 tyX9 tyX9_ok nmX9 hown hK hP hD hS 0 rfl rfl 8 (by decide) fl51 (fun _ h9 => h9) rfl (by decide +kernel) rfl rfl (Nat.le_of_ble_eq_true rfl) dX9_tables_75 rfl (fun H locs hP hD hS => ?_)
    refine lv_iconst (v := 0) hx hb dX9_tables_78 (by decide) ?_
    refine lv_istore_n (lv' := [(1, .int 0), (0, .ref a)]) hx hb dX9_tables_79 rfl hl (by decide) rfl (fun ls hl => ?_)
    have hL80 : ∀ (K80 : ((Nat → Int32)) → Prop)
        (hE80 : ∀ (z80 : ((Nat → Int32))) (ls : Array Slot) (H : Heap) (locs : List Loc), K80 z80 → lv_has ls 2 [(0, .ref a)] → va_P D vwCl [(a, .inr (6, [.ref a_now, .int v_undoMany, .int v_undoAt, .ref a_undos, .int v_seenMany, .ref a_seen, .ref a_isKept, .ref a_kept, .int 0, .ref a_text, .int z22.1, .int z22.2.1, .int z22.2.2.1, .int v_faultAt, .int z22.2.2.2.1, .ref a_read, .int v_congruenceMany, .ref a_congruences, .int v_termMany, .int v_rounds, .ref a_terms])), (a_isKept, .inl (y.2.2.1, 2, .inl v_isKept)), (a_now, .inl (y.1, 21, .inl z80)), (a_read, .inl (y.1, 21, .inl z22.2.2.2.2)), (a_text, .inl (y.1, 60, .inl v_text))] H → va_D A [(a, .inr (6, [.ref a_now, .int v_undoMany, .int v_undoAt, .ref a_undos, .int v_seenMany, .ref a_seen, .ref a_isKept, .ref a_kept, .int 0, .ref a_text, .int z22.1, .int z22.2.1, .int z22.2.2.1, .int v_faultAt, .int z22.2.2.2.1, .ref a_read, .int v_congruenceMany, .ref a_congruences, .int v_termMany, .int v_rounds, .ref a_terms])), (a_isKept, .inl (y.2.2.1, 2, .inl v_isKept)), (a_now, .inl (y.1, 21, .inl z80)), (a_read, .inl (y.1, 21, .inl z22.2.2.2.2)), (a_text, .inl (y.1, 60, .inl v_text))] → va_S A s.heap H locs → W p l e (headSpec wsX9_tables ({ frames := 5, cells := 0, slots := 0, locals := 104 } : Room)).room s m ([.ref a] : List Value).toArray below meth c H locs 0 0 (MQ below (va_Qi K (bW D y A (fun u : (Int32 × Int32 × Int32 × Int32 × Int32 × Int32 × Int32 × Int32 × (Nat → Int32) × (Nat → Int32) × (Nat → Int32)) => [(a, .inr (6, [.ref a_now, .int u.1, .int v_undoAt, .ref a_undos, .int u.2.1, .ref a_seen, .ref a_isKept, .ref a_kept, .int u.2.2.1, .ref a_text, .int u.2.2.2.1, .int u.2.2.2.2.1, .int u.2.2.2.2.2.1, .int u.2.2.2.2.2.2.1, .int u.2.2.2.2.2.2.2.1, .ref a_read, .int v_congruenceMany, .ref a_congruences, .int v_termMany, .int v_rounds, .ref a_terms])), (a_isKept, .inl (y.2.2.1, 2, .inl u.2.2.2.2.2.2.2.2.1)), (a_now, .inl (y.1, 21, .inl u.2.2.2.2.2.2.2.2.2.1)), (a_read, .inl (y.1, 21, .inl u.2.2.2.2.2.2.2.2.2.2)), (a_text, .inl (y.1, 60, .inl v_text))])) A) ([.ref a] : List Value).toArray s 0 0 A) (F0 m 104 ls []))
        (n : Nat) (x1_80 : Int32) (v_now_80 : Nat → Int32) (ls : Array Slot) (H : Heap) (locs : List Loc), sat (lp (fun q : (Int32 × (Nat → Int32)) => m_X9_tables_s80 z22 q.1 q.2) n (x1_80, v_now_80)) K80 → lv_has ls 2 [(0, .ref a), (1, .int x1_80)] → va_P D vwCl [(a, .inr (6, [.ref a_now, .int v_undoMany, .int v_undoAt, .ref a_undos, .int v_seenMany, .ref a_seen, .ref a_isKept, .ref a_kept, .int 0, .ref a_text, .int z22.1, .int z22.2.1, .int z22.2.2.1, .int v_faultAt, .int z22.2.2.2.1, .ref a_read, .int v_congruenceMany, .ref a_congruences, .int v_termMany, .int v_rounds, .ref a_terms])), (a_isKept, .inl (y.2.2.1, 2, .inl v_isKept)), (a_now, .inl (y.1, 21, .inl v_now_80)), (a_read, .inl (y.1, 21, .inl z22.2.2.2.2)), (a_text, .inl (y.1, 60, .inl v_text))] H → va_D A [(a, .inr (6, [.ref a_now, .int v_undoMany, .int v_undoAt, .ref a_undos, .int v_seenMany, .ref a_seen, .ref a_isKept, .ref a_kept, .int 0, .ref a_text, .int z22.1, .int z22.2.1, .int z22.2.2.1, .int v_faultAt, .int z22.2.2.2.1, .ref a_read, .int v_congruenceMany, .ref a_congruences, .int v_termMany, .int v_rounds, .ref a_terms])), (a_isKept, .inl (y.2.2.1, 2, .inl v_isKept)), (a_now, .inl (y.1, 21, .inl v_now_80)), (a_read, .inl (y.1, 21, .inl z22.2.2.2.2)), (a_text, .inl (y.1, 60, .inl v_text))] → va_S A s.heap H locs → W p l e (headSpec wsX9_tables ({ frames := 5, cells := 0, slots := 0, locals := 104 } : Room)).room s m ([.ref a] : List Value).toArray below meth c H locs 0 0 (MQ below (va_Qi K (bW D y A (fun u : (Int32 × Int32 × Int32 × Int32 × Int32 × Int32 × Int32 × Int32 × (Nat → Int32) × (Nat → Int32) × (Nat → Int32)) => [(a, .inr (6, [.ref a_now, .int u.1, .int v_undoAt, .ref a_undos, .int u.2.1, .ref a_seen, .ref a_isKept, .ref a_kept, .int u.2.2.1, .ref a_text, .int u.2.2.2.1, .int u.2.2.2.2.1, .int u.2.2.2.2.2.1, .int u.2.2.2.2.2.2.1, .int u.2.2.2.2.2.2.2.1, .ref a_read, .int v_congruenceMany, .ref a_congruences, .int v_termMany, .int v_rounds, .ref a_terms])), (a_isKept, .inl (y.2.2.1, 2, .inl u.2.2.2.2.2.2.2.2.1)), (a_now, .inl (y.1, 21, .inl u.2.2.2.2.2.2.2.2.2.1)), (a_read, .inl (y.1, 21, .inl u.2.2.2.2.2.2.2.2.2.2)), (a_text, .inl (y.1, 60, .inl v_text))])) A) ([.ref a] : List Value).toArray s 0 0 A) (F0 m 80 ls []) := by
      intro K80 hE80 n
      induction n with
      | zero => intro x1_80 v_now_80 ls H locs h; exact (sat_lp0 h).elim
      | succ n ih =>
        intro x1_80 v_now_80 ls H locs h hl hP hD hS
        have h := sat_lp h
        have h : sat (m_X9_tables_s80 z22 x1_80 v_now_80) (lk (fun s' => sat (lp (fun q : (Int32 × (Nat → Int32)) => m_X9_tables_s80 z22 q.1 q.2) n s') K80) K80) := h
        unfold m_X9_tables_s80 at h
        refine lv_iload_n hx hb dX9_tables_80 rfl (lv_at hl 1 rfl) ?_
        refine lv_bipush (v := 21) hx hb dX9_tables_81 (by decide) ?_
        refine lv_icmp_ge (tgt := 104) hx hb dX9_tables_83 (by decide) (fun c83 => ?_) (fun c83 => ?_)
        · have h := sat_t c83 h
          have h := lk_r (sat_some h)
          exact hE80 v_now_80 ls H locs h (lv_sub hl [0] rfl) hP hD hS
        · have h := sat_f c83 h
          refine lv_aload_n hx hb dX9_tables_86 rfl (lv_at hl 0 rfl) ?_
          refine va_get (D := D) (ci := 6) (v := .ref a_now) (C := RX9) (T := TX9) (N := 21) hx hb hts iX9 hown hK hP 0 rfl rfl 0 (by decide) fl7 (fun _ h9 => h9) rfl dX9_tables_87 ?_
          refine lv_iload_n hx hb dX9_tables_90 rfl (lv_at hl 1 rfl) ?_
          refine lv_aload_n hx hb dX9_tables_91 rfl (lv_at hl 0 rfl) ?_
          refine va_get (D := D) (ci := 6) (v := .ref a_read) (C := RX9) (T := TX9) (N := 21) hx hb hts iX9 hown hK hP 0 rfl rfl 15 (by decide) fl29 (fun _ h9 => h9) rfl dX9_tables_92 ?_
          refine lv_iload_n hx hb dX9_tables_95 rfl (lv_at hl 1 rfl) ?_
          obtain ⟨r8, er8, hin, h⟩ := sat_rd h
          refine xi hx hb hK hP 3 0 rfl rfl er8 hin dX9_tables_96 ?_
          obtain ⟨f9, ef9, hin, h⟩ := sat_wrI h
          refine yi (wn := [(a, .inr (6, [.ref a_now, .int v_undoMany, .int v_undoAt, .ref a_undos, .int v_seenMany, .ref a_seen, .ref a_isKept, .ref a_kept, .int 0, .ref a_text, .int z22.1, .int z22.2.1, .int z22.2.2.1, .int v_faultAt, .int z22.2.2.2.1, .ref a_read, .int v_congruenceMany, .ref a_congruences, .int v_termMany, .int v_rounds, .ref a_terms])), (a_isKept, .inl (y.2.2.1, 2, .inl v_isKept)), (a_now, .inl (y.1, 21, .inl f9)), (a_read, .inl (y.1, 21, .inl z22.2.2.2.2)), (a_text, .inl (y.1, 60, .inl v_text))]) hx hb hK hP hD hS 2 0 rfl rfl ef9 hin dX9_tables_97 rfl (fun H locs hP hD hS => ?_)
          refine lv_iinc (v := x1_80 + 1) (lv' := [(1, .int (x1_80 + 1)), (0, .ref a)]) hx hb dX9_tables_98 hl (k := 1) rfl rfl (by decide) rfl (fun ls hl => ?_)
          refine lv_goto (tgt := 80) hx hb dX9_tables_101 (by decide) ?_
          have h := lk_l (sat_some h)
          exact ih (x1_80 + 1) f9 ls H locs h (lv_sub hl [1, 0] rfl) hP hD hS
    have h := sat_bind h
    refine hL80 _ (fun z80 ls H locs h hl hP hD hS => ?_) 1000 0 v_now ls H locs h (lv_sub hl [1, 0] rfl) hP hD hS
    refine lv_aload_n hx hb dX9_tables_104 rfl (lv_at hl 0 rfl) ?_
    refine lv_iconst (v := 0) hx hb dX9_tables_105 (by decide) ?_
    refine pf (D := D) (ci := 6) (v := .int 0) (ty := .int) (C := RX9) (T := TX9) (N := 21) (wn := [(a, .inr (6, [.ref a_now, .int 0, .int v_undoAt, .ref a_undos, .int v_seenMany, .ref a_seen, .ref a_isKept, .ref a_kept, .int 0, .ref a_text, .int z22.1, .int z22.2.1, .int z22.2.2.1, .int v_faultAt, .int z22.2.2.2.1, .ref a_read, .int v_congruenceMany, .ref a_congruences, .int v_termMany, .int v_rounds, .ref a_terms])), (a_isKept, .inl (y.2.2.1, 2, .inl v_isKept)), (a_now, .inl (y.1, 21, .inl z80)), (a_read, .inl (y.1, 21, .inl z22.2.2.2.2)), (a_text, .inl (y.1, 60, .inl v_text))]) hx hb hts iX9 tyX9 tyX9_ok nmX9 hown hK hP hD hS 0 rfl rfl 1 (by decide) fl96 (fun _ h9 => h9) rfl (by decide +kernel) rfl rfl (Nat.le_of_ble_eq_true rfl) dX9_tables_106 rfl (fun H locs hP hD hS => ?_)
    refine lv_aload_n hx hb dX9_tables_109 rfl (lv_at hl 0 rfl) ?_
    refine lv_iconst (v := 0) hx hb dX9_tables_110 (by decide) ?_
    refine pf (D := D) (ci := 6) (v := .int 0) (ty := .int) (C := RX9) (T := TX9) (N := 21) (wn := [(a, .inr (6, [.ref a_now, .int 0, .int v_undoAt, .ref a_undos, .int 0, .ref a_seen, .ref a_isKept, .ref a_kept, .int 0, .ref a_text, .int z22.1, .int z22.2.1, .int z22.2.2.1, .int v_faultAt, .int z22.2.2.2.1, .ref a_read, .int v_congruenceMany, .ref a_congruences, .int v_termMany, .int v_rounds, .ref a_terms])), (a_isKept, .inl (y.2.2.1, 2, .inl v_isKept)), (a_now, .inl (y.1, 21, .inl z80)), (a_read, .inl (y.1, 21, .inl z22.2.2.2.2)), (a_text, .inl (y.1, 60, .inl v_text))]) hx hb hts iX9 tyX9 tyX9_ok nmX9 hown hK hP hD hS 0 rfl rfl 4 (by decide) fl99 (fun _ h9 => h9) rfl (by decide +kernel) rfl rfl (Nat.le_of_ble_eq_true rfl) dX9_tables_111 rfl (fun H locs hP hD hS => ?_)
    refine lv_aload_n hx hb dX9_tables_114 rfl (lv_at hl 0 rfl) ?_
    refine va_get (D := D) (ci := 6) (v := .ref a_isKept) (C := RX9) (T := TX9) (N := 21) hx hb hts iX9 hown hK hP 0 rfl rfl 6 (by decide) fl19 (fun _ h9 => h9) rfl dX9_tables_115 ?_
    refine lv_iconst (v := 0) hx hb dX9_tables_118 (by decide) ?_
    refine lv_iconst (v := 0) hx hb dX9_tables_119 (by decide) ?_
    obtain ⟨f10, ef10, hin, h⟩ := sat_wrI h
    refine yz (wn := [(a, .inr (6, [.ref a_now, .int 0, .int v_undoAt, .ref a_undos, .int 0, .ref a_seen, .ref a_isKept, .ref a_kept, .int 0, .ref a_text, .int z22.1, .int z22.2.1, .int z22.2.2.1, .int v_faultAt, .int z22.2.2.2.1, .ref a_read, .int v_congruenceMany, .ref a_congruences, .int v_termMany, .int v_rounds, .ref a_terms])), (a_isKept, .inl (y.2.2.1, 2, .inl f10)), (a_now, .inl (y.1, 21, .inl z80)), (a_read, .inl (y.1, 21, .inl z22.2.2.2.2)), (a_text, .inl (y.1, 60, .inl v_text))]) hx hb hK hP hD hS 1 2 rfl rfl ef10 (by decide) hin dX9_tables_120 rfl (fun H locs hP hD hS => ?_)
    refine lv_aload_n hx hb dX9_tables_121 rfl (lv_at hl 0 rfl) ?_
    refine va_get (D := D) (ci := 6) (v := .ref a_isKept) (C := RX9) (T := TX9) (N := 21) hx hb hts iX9 hown hK hP 0 rfl rfl 6 (by decide) fl19 (fun _ h9 => h9) rfl dX9_tables_122 ?_
    refine lv_iconst (v := 1) hx hb dX9_tables_125 (by decide) ?_
    refine lv_iconst (v := 0) hx hb dX9_tables_126 (by decide) ?_
    obtain ⟨f11, ef11, hin, h⟩ := sat_wrI h
    refine yz (wn := [(a, .inr (6, [.ref a_now, .int 0, .int v_undoAt, .ref a_undos, .int 0, .ref a_seen, .ref a_isKept, .ref a_kept, .int 0, .ref a_text, .int z22.1, .int z22.2.1, .int z22.2.2.1, .int v_faultAt, .int z22.2.2.2.1, .ref a_read, .int v_congruenceMany, .ref a_congruences, .int v_termMany, .int v_rounds, .ref a_terms])), (a_isKept, .inl (y.2.2.1, 2, .inl f11)), (a_now, .inl (y.1, 21, .inl z80)), (a_read, .inl (y.1, 21, .inl z22.2.2.2.2)), (a_text, .inl (y.1, 60, .inl v_text))]) hx hb hK hP hD hS 1 2 rfl rfl ef11 (by decide) hin dX9_tables_127 rfl (fun H locs hP hD hS => ?_)
    refine lv_aload_n hx hb dX9_tables_128 rfl (lv_at hl 0 rfl) ?_
    refine va_get (D := D) (ci := 6) (v := .int z22.2.2.2.1) (C := RX9) (T := TX9) (N := 21) hx hb hts iX9 hown hK hP 0 rfl rfl 14 (by decide) fl70 (fun _ h9 => h9) rfl dX9_tables_129 ?_
    have h := sat_some h
    exact W.iret (v := z22.2.2.2.1) hx hb hr (fun t ht hW => ⟨⟨z22.2.2.2.1, (0, 0, 0, z22.1, z22.2.1, z22.2.2.1, v_faultAt, z22.2.2.2.1, f11, z80, z22.2.2.2.2), rfl, h, by rw [ht]; exact hP, va_K.moved hW.alike hK, hD⟩, hS.F ht⟩) hS.2.2 dX9_tables_132

/-! X9_f -/
set_option maxHeartbeats 4000000 in
set_option maxRecDepth 100000 in
theorem c_X9_f (l : Launch) (D : va_G) (y : ClassId × ClassId × ClassId × ClassId) (a a_now a_undos a_seen a_isKept a_kept a_text a_read a_congruences a_terms : Nat) (v_undoMany : Int32) (v_undoAt : Int32) (v_seenMany : Int32) (v_letterMany : Int32) (v_readAt : Int32) (v_tokenAt : Int32) (v_token : Int32) (v_faultAt : Int32) (v_readItems : Int32) (v_congruenceMany : Int32) (v_termMany : Int32) (v_rounds : Int32) (v_now : Nat → Int32) (x1 : Int32) (x2 : Int32) (K : Int32 → Prop) (h : sat (m_X9_f v_now x1 x2) K) : Met l yX9_f wsX9_f ({ frames := 2, cells := 0, slots := 0, locals := 43 } : Room) (pR D y ([.ref a, .int x1, .int x2] : List Value) [(a, .inr (6, [.ref a_now, .int v_undoMany, .int v_undoAt, .ref a_undos, .int v_seenMany, .ref a_seen, .ref a_isKept, .ref a_kept, .int v_letterMany, .ref a_text, .int v_readAt, .int v_tokenAt, .int v_token, .int v_faultAt, .int v_readItems, .ref a_read, .int v_congruenceMany, .ref a_congruences, .int v_termMany, .int v_rounds, .ref a_terms])), (a_now, .inl (y.1, 21, .inl v_now))]) (qSi K) 0 0 (fun _ => False) := by
  refine Met.ofW (cc := cX9_f) (maxL := 3) (ret := (some .int)) (by decide) rfl ?_
  intro p e s m args below meth c s₁ B hml hv
  obtain ⟨rfl, hP, hK⟩ := hv
  have hx := B.exec
  have hb := B.bytes
  have hr := B.returns
  have hts := atoms_spec (ws := wsX9_f) B.pre
  have hown : s.vm.findClass RX9 = some m.cls := findClass_of_methodNamed B.named
  have hlocks := B.notSynchronized
  have hl := lv_entry ([.ref a, .int x1, .int x2] : List Value) (n := 3) (Nat.le_of_ble_eq_true rfl)
  rw [lg_entry_eq]
  generalize (lg_sl ([.ref a, .int x1, .int x2] : List Value) ++ List.replicate (3 - (lg_sl ([.ref a, .int x1, .int x2] : List Value)).length) Slot.unset).toArray = ls at hl ⊢
  have hl : lv_has ls 3 [(0, .ref a), (1, .int x1), (2, .int x2)] := hl
  unfold m_X9_f at h
  refine lv_aload_n hx hb dX9_f_0 rfl (lv_at hl 0 rfl) ?_
  refine lv_iload_n hx hb dX9_f_1 rfl (lv_at hl 1 rfl) ?_
  refine cr_i (rv (As := [.int x1]) (rest := []) ⟨hx, hb, hml, hown, hts⟩ (c_X9_is l D y a a_now a_undos a_seen a_isKept a_kept a_text a_read a_congruences a_terms v_undoMany v_undoAt v_seenMany v_letterMany v_readAt v_tokenAt v_token v_faultAt v_readItems v_congruenceMany v_termMany v_rounds v_now x1 _ (sat_bind h)) (cwV 1 hts gX9_f_X9_is rfl rfl rfl (by decide +kernel) ⟨Nat.le_of_ble_eq_true rfl, Nat.le_of_ble_eq_true rfl⟩) hK hP [0, 1] rfl 0 6 rfl rfl rfl rfl hl.1 rfl (Nat.le_of_ble_eq_true rfl) dX9_f_2 ⟨Nat.zero_le _, Nat.zero_le _⟩) (fun r1 h => ?_)
  refine lv_if_eq (tgt := 25) hx hb dX9_f_5 (by decide) (fun c5 => ?_) (fun c5 => ?_)
  · have h := sat_t c5 h
    refine lv_bipush (v := (-2)) hx hb dX9_f_25 (by decide) ?_
    have h := sat_some h
    exact W.iret (v := (-2)) hx hb hr (fun t ht _ => ⟨(-2), rfl, h, ht⟩) (fun _ hq => by cases hq) dX9_f_27
  · have h := sat_f c5 h
    refine lv_aload_n hx hb dX9_f_8 rfl (lv_at hl 0 rfl) ?_
    refine lv_iload_n hx hb dX9_f_9 rfl (lv_at hl 2 rfl) ?_
    refine cr_i (rv (As := [.int x2]) (rest := []) ⟨hx, hb, hml, hown, hts⟩ (c_X9_is l D y a a_now a_undos a_seen a_isKept a_kept a_text a_read a_congruences a_terms v_undoMany v_undoAt v_seenMany v_letterMany v_readAt v_tokenAt v_token v_faultAt v_readItems v_congruenceMany v_termMany v_rounds v_now x2 _ (sat_bind h)) (cwV 1 hts gX9_f_X9_is rfl rfl rfl (by decide +kernel) ⟨Nat.le_of_ble_eq_true rfl, Nat.le_of_ble_eq_true rfl⟩) hK hP [0, 1] rfl 0 6 rfl rfl rfl rfl hl.1 rfl (Nat.le_of_ble_eq_true rfl) dX9_f_10 ⟨Nat.zero_le _, Nat.zero_le _⟩) (fun r2 h => ?_)
    refine lv_if_eq (tgt := 25) hx hb dX9_f_13 (by decide) (fun c13 => ?_) (fun c13 => ?_)
    · have h := sat_t c13 h
      refine lv_bipush (v := (-2)) hx hb dX9_f_25 (by decide) ?_
      have h := sat_some h
      exact W.iret (v := (-2)) hx hb hr (fun t ht _ => ⟨(-2), rfl, h, ht⟩) (fun _ hq => by cases hq) dX9_f_27
    · have h := sat_f c13 h
      refine lv_aload_n hx hb dX9_f_16 rfl (lv_at hl 0 rfl) ?_
      refine lv_iload_n hx hb dX9_f_17 rfl (lv_at hl 1 rfl) ?_
      refine lv_iload_n hx hb dX9_f_18 rfl (lv_at hl 2 rfl) ?_
      refine cr_i (rv (As := [.int x1, .int x2]) (rest := []) ⟨hx, hb, hml, hown, hts⟩ (c_X9_ff l D y a a_now a_undos a_seen a_isKept a_kept a_text a_read a_congruences a_terms v_undoMany v_undoAt v_seenMany v_letterMany v_readAt v_tokenAt v_token v_faultAt v_readItems v_congruenceMany v_termMany v_rounds v_now x1 x2 _ (sat_bind h)) (cwV 2 hts gX9_f_X9_ff rfl rfl rfl (by decide +kernel) ⟨Nat.le_of_ble_eq_true rfl, Nat.le_of_ble_eq_true rfl⟩) hK hP [0, 1] rfl 0 6 rfl rfl rfl rfl hl.1 rfl (Nat.le_of_ble_eq_true rfl) dX9_f_19 ⟨Nat.zero_le _, Nat.zero_le _⟩) (fun r3 h => ?_)
      refine lv_goto (tgt := 27) hx hb dX9_f_22 (by decide) ?_
      have h := sat_some h
      exact W.iret (v := r3) hx hb hr (fun t ht _ => ⟨r3, rfl, h, ht⟩) (fun _ hq => by cases hq) dX9_f_27

/-! X9_g -/
set_option maxHeartbeats 4000000 in
set_option maxRecDepth 100000 in
theorem c_X9_g (l : Launch) (D : va_G) (y : ClassId × ClassId × ClassId × ClassId) (a a_now a_undos a_seen a_isKept a_kept a_text a_read a_congruences a_terms : Nat) (v_undoMany : Int32) (v_undoAt : Int32) (v_seenMany : Int32) (v_letterMany : Int32) (v_readAt : Int32) (v_tokenAt : Int32) (v_token : Int32) (v_faultAt : Int32) (v_readItems : Int32) (v_congruenceMany : Int32) (v_termMany : Int32) (v_rounds : Int32) (v_now : Nat → Int32) (x1 : Int32) (K : Int32 → Prop) (h : sat (m_X9_g v_now x1) K) : Met l yX9_g wsX9_g ({ frames := 2, cells := 0, slots := 0, locals := 43 } : Room) (pR D y ([.ref a, .int x1] : List Value) [(a, .inr (6, [.ref a_now, .int v_undoMany, .int v_undoAt, .ref a_undos, .int v_seenMany, .ref a_seen, .ref a_isKept, .ref a_kept, .int v_letterMany, .ref a_text, .int v_readAt, .int v_tokenAt, .int v_token, .int v_faultAt, .int v_readItems, .ref a_read, .int v_congruenceMany, .ref a_congruences, .int v_termMany, .int v_rounds, .ref a_terms])), (a_now, .inl (y.1, 21, .inl v_now))]) (qSi K) 0 0 (fun _ => False) := by
  refine Met.ofW (cc := cX9_g) (maxL := 2) (ret := (some .int)) (by decide) rfl ?_
  intro p e s m args below meth c s₁ B hml hv
  obtain ⟨rfl, hP, hK⟩ := hv
  have hx := B.exec
  have hb := B.bytes
  have hr := B.returns
  have hts := atoms_spec (ws := wsX9_g) B.pre
  have hown : s.vm.findClass RX9 = some m.cls := findClass_of_methodNamed B.named
  have hlocks := B.notSynchronized
  have hl := lv_entry ([.ref a, .int x1] : List Value) (n := 2) (Nat.le_of_ble_eq_true rfl)
  rw [lg_entry_eq]
  generalize (lg_sl ([.ref a, .int x1] : List Value) ++ List.replicate (2 - (lg_sl ([.ref a, .int x1] : List Value)).length) Slot.unset).toArray = ls at hl ⊢
  have hl : lv_has ls 2 [(0, .ref a), (1, .int x1)] := hl
  unfold m_X9_g at h
  refine lv_aload_n hx hb dX9_g_0 rfl (lv_at hl 0 rfl) ?_
  refine lv_iload_n hx hb dX9_g_1 rfl (lv_at hl 1 rfl) ?_
  refine cr_i (rv (As := [.int x1]) (rest := []) ⟨hx, hb, hml, hown, hts⟩ (c_X9_is l D y a a_now a_undos a_seen a_isKept a_kept a_text a_read a_congruences a_terms v_undoMany v_undoAt v_seenMany v_letterMany v_readAt v_tokenAt v_token v_faultAt v_readItems v_congruenceMany v_termMany v_rounds v_now x1 _ (sat_bind h)) (cwV 1 hts gX9_g_X9_is rfl rfl rfl (by decide +kernel) ⟨Nat.le_of_ble_eq_true rfl, Nat.le_of_ble_eq_true rfl⟩) hK hP [0, 1] rfl 0 6 rfl rfl rfl rfl hl.1 rfl (Nat.le_of_ble_eq_true rfl) dX9_g_2 ⟨Nat.zero_le _, Nat.zero_le _⟩) (fun r1 h => ?_)
  refine lv_if_eq (tgt := 16) hx hb dX9_g_5 (by decide) (fun c5 => ?_) (fun c5 => ?_)
  · have h := sat_t c5 h
    refine lv_bipush (v := (-2)) hx hb dX9_g_16 (by decide) ?_
    have h := sat_some h
    exact W.iret (v := (-2)) hx hb hr (fun t ht _ => ⟨(-2), rfl, h, ht⟩) (fun _ hq => by cases hq) dX9_g_18
  · have h := sat_f c5 h
    refine lv_aload_n hx hb dX9_g_8 rfl (lv_at hl 0 rfl) ?_
    refine lv_iload_n hx hb dX9_g_9 rfl (lv_at hl 1 rfl) ?_
    refine cr_i (rv (As := [.int x1]) (rest := []) ⟨hx, hb, hml, hown, hts⟩ (c_X9_gg l D y a a_now a_undos a_seen a_isKept a_kept a_text a_read a_congruences a_terms v_undoMany v_undoAt v_seenMany v_letterMany v_readAt v_tokenAt v_token v_faultAt v_readItems v_congruenceMany v_termMany v_rounds v_now x1 _ (sat_bind h)) (cwV 1 hts gX9_g_X9_gg rfl rfl rfl (by decide +kernel) ⟨Nat.le_of_ble_eq_true rfl, Nat.le_of_ble_eq_true rfl⟩) hK hP [0, 1] rfl 0 6 rfl rfl rfl rfl hl.1 rfl (Nat.le_of_ble_eq_true rfl) dX9_g_10 ⟨Nat.zero_le _, Nat.zero_le _⟩) (fun r2 h => ?_)
    refine lv_goto (tgt := 18) hx hb dX9_g_13 (by decide) ?_
    have h := sat_some h
    exact W.iret (v := r2) hx hb hr (fun t ht _ => ⟨r2, rfl, h, ht⟩) (fun _ hq => by cases hq) dX9_g_18

/-! X9_sets -/
set_option maxHeartbeats 4000000 in
set_option maxRecDepth 100000 in
theorem c_X9_sets (l : Launch) (D : va_G) (y : ClassId × ClassId × ClassId × ClassId) (a a_now a_undos a_seen a_isKept a_kept a_text a_read a_congruences a_terms : Nat) (v_undoMany : Int32) (v_undoAt : Int32) (v_seenMany : Int32) (v_letterMany : Int32) (v_readAt : Int32) (v_tokenAt : Int32) (v_token : Int32) (v_faultAt : Int32) (v_readItems : Int32) (v_congruenceMany : Int32) (v_termMany : Int32) (v_rounds : Int32) (v_now : Nat → Int32) (v_undos : Nat → Int32) (x1 : Int32) (x2 : Int32) (x3 : Int32) (sz : Nat) (A : Nat → Prop) (hAe : va_A [(a, .inr (6, [.ref a_now, .int v_undoMany, .int v_undoAt, .ref a_undos, .int v_seenMany, .ref a_seen, .ref a_isKept, .ref a_kept, .int v_letterMany, .ref a_text, .int v_readAt, .int v_tokenAt, .int v_token, .int v_faultAt, .int v_readItems, .ref a_read, .int v_congruenceMany, .ref a_congruences, .int v_termMany, .int v_rounds, .ref a_terms])), (a_now, .inl (y.1, 21, .inl v_now)), (a_undos, .inl (y.1, 252, .inl v_undos))] sz = A) (K : Int32 → (Int32 × Int32 × (Nat → Int32) × (Nat → Int32)) → Prop) (h : sat (m_X9_sets v_undoMany v_undoAt v_now v_undos x1 x2 x3) (pK K)) : Met l yX9_sets wsX9_sets ({ frames := 2, cells := 0, slots := 0, locals := 43 } : Room) (pW D y ([.ref a, .int x1, .int x2, .int x3] : List Value) [(a, .inr (6, [.ref a_now, .int v_undoMany, .int v_undoAt, .ref a_undos, .int v_seenMany, .ref a_seen, .ref a_isKept, .ref a_kept, .int v_letterMany, .ref a_text, .int v_readAt, .int v_tokenAt, .int v_token, .int v_faultAt, .int v_readItems, .ref a_read, .int v_congruenceMany, .ref a_congruences, .int v_termMany, .int v_rounds, .ref a_terms])), (a_now, .inl (y.1, 21, .inl v_now)), (a_undos, .inl (y.1, 252, .inl v_undos))] sz) (va_Qi K (bW D y A (fun u : (Int32 × Int32 × (Nat → Int32) × (Nat → Int32)) => [(a, .inr (6, [.ref a_now, .int u.1, .int u.2.1, .ref a_undos, .int v_seenMany, .ref a_seen, .ref a_isKept, .ref a_kept, .int v_letterMany, .ref a_text, .int v_readAt, .int v_tokenAt, .int v_token, .int v_faultAt, .int v_readItems, .ref a_read, .int v_congruenceMany, .ref a_congruences, .int v_termMany, .int v_rounds, .ref a_terms])), (a_now, .inl (y.1, 21, .inl u.2.2.1)), (a_undos, .inl (y.1, 252, .inl u.2.2.2))])) A) 0 0 A := by
  refine Met.ofW (cc := cX9_sets) (maxL := 7) (ret := (some .int)) (by decide) rfl ?_
  intro p e s m args below meth c s₁ B hml hv
  obtain ⟨rfl, hsz, hP, hK, hD0⟩ := hv
  have hx := B.exec
  have hb := B.bytes
  have hr := B.returns
  have hts := atoms_spec (ws := wsX9_sets) B.pre
  have hown : s.vm.findClass RX9 = some m.cls := findClass_of_methodNamed B.named
  have hlocks := B.notSynchronized
  subst hsz
  have hD : va_D A [(a, .inr (6, [.ref a_now, .int v_undoMany, .int v_undoAt, .ref a_undos, .int v_seenMany, .ref a_seen, .ref a_isKept, .ref a_kept, .int v_letterMany, .ref a_text, .int v_readAt, .int v_tokenAt, .int v_token, .int v_faultAt, .int v_readItems, .ref a_read, .int v_congruenceMany, .ref a_congruences, .int v_termMany, .int v_rounds, .ref a_terms])), (a_now, .inl (y.1, 21, .inl v_now)), (a_undos, .inl (y.1, 252, .inl v_undos))] := hAe ▸ hD0.self
  have hA : ∀ q : Nat, s.heap.size ≤ q → A q := fun q h => hAe ▸ Or.inr h
  have hS : va_S A s.heap s.heap [] := va_S.rf
  have iX9 : ∀ w ∈ wsX90, w ∈ wsX9_sets := by decide +kernel
  have fl96 := hts (.fieldLink RX9 96 "AlgebraLawsModel" "undoMany" "I") (by decide +kernel)
  have fl7 := hts (.fieldLink RX9 7 "AlgebraLawsModel" "now" "[I") (by decide +kernel)
  have fl13 := hts (.fieldLink RX9 13 "AlgebraLawsModel" "undos" "[I") (by decide +kernel)
  have fl114 := hts (.fieldLink RX9 114 "AlgebraLawsModel" "undoAt" "I") (by decide +kernel)
  have hl := lv_entry ([.ref a, .int x1, .int x2, .int x3] : List Value) (n := 7) (Nat.le_of_ble_eq_true rfl)
  rw [lg_entry_eq]
  generalize (lg_sl ([.ref a, .int x1, .int x2, .int x3] : List Value) ++ List.replicate (7 - (lg_sl ([.ref a, .int x1, .int x2, .int x3] : List Value)).length) Slot.unset).toArray = ls at hl ⊢
  have hl : lv_has ls 7 [(0, .ref a), (1, .int x1), (2, .int x2), (3, .int x3)] := hl
  have hJ139 : ∀ (x4_139 : Int32) (x5_139 : Int32) (t1_139 : Int32) (t2_139 : Int32) (v_undoMany_139 : Int32) (v_undoAt_139 : Int32) (v_now_139 : Nat → Int32) (v_undos_139 : Nat → Int32) (ls : Array Slot) (H : Heap) (locs : List Loc), sat (m_X9_sets_j139 x3 x4_139 x5_139 t1_139 t2_139 v_undoMany_139 v_undoAt_139 v_now_139 v_undos_139) (pK K) → lv_has ls 7 [(0, .ref a), (3, .int x3), (4, .int x4_139), (5, .int x5_139)] → va_P D vwCl [(a, .inr (6, [.ref a_now, .int v_undoMany_139, .int v_undoAt_139, .ref a_undos, .int v_seenMany, .ref a_seen, .ref a_isKept, .ref a_kept, .int v_letterMany, .ref a_text, .int v_readAt, .int v_tokenAt, .int v_token, .int v_faultAt, .int v_readItems, .ref a_read, .int v_congruenceMany, .ref a_congruences, .int v_termMany, .int v_rounds, .ref a_terms])), (a_now, .inl (y.1, 21, .inl v_now_139)), (a_undos, .inl (y.1, 252, .inl v_undos_139))] H → va_D A [(a, .inr (6, [.ref a_now, .int v_undoMany_139, .int v_undoAt_139, .ref a_undos, .int v_seenMany, .ref a_seen, .ref a_isKept, .ref a_kept, .int v_letterMany, .ref a_text, .int v_readAt, .int v_tokenAt, .int v_token, .int v_faultAt, .int v_readItems, .ref a_read, .int v_congruenceMany, .ref a_congruences, .int v_termMany, .int v_rounds, .ref a_terms])), (a_now, .inl (y.1, 21, .inl v_now_139)), (a_undos, .inl (y.1, 252, .inl v_undos_139))] → va_S A s.heap H locs → W p l e (headSpec wsX9_sets ({ frames := 2, cells := 0, slots := 0, locals := 43 } : Room)).room s m ([.ref a, .int x1, .int x2, .int x3] : List Value).toArray below meth c H locs 0 0 (MQ below (va_Qi K (bW D y A (fun u : (Int32 × Int32 × (Nat → Int32) × (Nat → Int32)) => [(a, .inr (6, [.ref a_now, .int u.1, .int u.2.1, .ref a_undos, .int v_seenMany, .ref a_seen, .ref a_isKept, .ref a_kept, .int v_letterMany, .ref a_text, .int v_readAt, .int v_tokenAt, .int v_token, .int v_faultAt, .int v_readItems, .ref a_read, .int v_congruenceMany, .ref a_congruences, .int v_termMany, .int v_rounds, .ref a_terms])), (a_now, .inl (y.1, 21, .inl u.2.2.1)), (a_undos, .inl (y.1, 252, .inl u.2.2.2))])) A) ([.ref a, .int x1, .int x2, .int x3] : List Value).toArray s 0 0 A) (F0 m 139 ls [.int t2_139, .int t1_139, .ref a]) := by
    intro x4_139 x5_139 t1_139 t2_139 v_undoMany_139 v_undoAt_139 v_now_139 v_undos_139 ls H locs h hl hP hD hS
    unfold m_X9_sets_j139 at h
    refine lv_iadd hx hb dX9_sets_139 ?_
    refine pf (D := D) (ci := 6) (v := .int (t1_139 + t2_139)) (ty := .int) (C := RX9) (T := TX9) (N := 21) (wn := [(a, .inr (6, [.ref a_now, .int (t1_139 + t2_139), .int v_undoAt_139, .ref a_undos, .int v_seenMany, .ref a_seen, .ref a_isKept, .ref a_kept, .int v_letterMany, .ref a_text, .int v_readAt, .int v_tokenAt, .int v_token, .int v_faultAt, .int v_readItems, .ref a_read, .int v_congruenceMany, .ref a_congruences, .int v_termMany, .int v_rounds, .ref a_terms])), (a_now, .inl (y.1, 21, .inl v_now_139)), (a_undos, .inl (y.1, 252, .inl v_undos_139))]) hx hb hts iX9 tyX9 tyX9_ok nmX9 hown hK hP hD hS 0 rfl rfl 1 (by decide) fl96 (fun _ h9 => h9) rfl (by decide +kernel) rfl rfl (Nat.le_of_ble_eq_true rfl) dX9_sets_140 rfl (fun H locs hP hD hS => ?_)
    refine lv_aload_n hx hb dX9_sets_143 rfl (lv_at hl 0 rfl) ?_
    refine va_get (D := D) (ci := 6) (v := .ref a_now) (C := RX9) (T := TX9) (N := 21) hx hb hts iX9 hown hK hP 0 rfl rfl 0 (by decide) fl7 (fun _ h9 => h9) rfl dX9_sets_144 ?_
    refine lv_iload hx hb dX9_sets_147 (lv_at hl 2 rfl) ?_
    refine lv_iload_n hx hb dX9_sets_149 rfl (lv_at hl 1 rfl) ?_
    obtain ⟨f1, ef1, hin, h⟩ := sat_wrI h
    refine yi (wn := [(a, .inr (6, [.ref a_now, .int (t1_139 + t2_139), .int v_undoAt_139, .ref a_undos, .int v_seenMany, .ref a_seen, .ref a_isKept, .ref a_kept, .int v_letterMany, .ref a_text, .int v_readAt, .int v_tokenAt, .int v_token, .int v_faultAt, .int v_readItems, .ref a_read, .int v_congruenceMany, .ref a_congruences, .int v_termMany, .int v_rounds, .ref a_terms])), (a_now, .inl (y.1, 21, .inl f1)), (a_undos, .inl (y.1, 252, .inl v_undos_139))]) hx hb hK hP hD hS 1 0 rfl rfl ef1 hin dX9_sets_150 rfl (fun H locs hP hD hS => ?_)
    refine lv_iload hx hb dX9_sets_151 (lv_at hl 3 rfl) ?_
    have h := sat_some h
    exact W.iret (v := x5_139) hx hb hr (fun t ht hW => ⟨⟨x5_139, (t1_139 + t2_139, v_undoAt_139, f1, v_undos_139), rfl, h, by rw [ht]; exact hP, va_K.moved hW.alike hK, hD⟩, hS.F ht⟩) hS.2.2 dX9_sets_153
  have hJ49 : ∀ (t0_49 : Int32) (v_undoMany_49 : Int32) (v_undoAt_49 : Int32) (v_now_49 : Nat → Int32) (v_undos_49 : Nat → Int32) (ls : Array Slot) (H : Heap) (locs : List Loc), sat (m_X9_sets_j49 x3 t0_49 v_undoMany_49 v_undoAt_49 v_now_49 v_undos_49) (pK K) → lv_has ls 7 [(0, .ref a), (3, .int x3)] → va_P D vwCl [(a, .inr (6, [.ref a_now, .int v_undoMany_49, .int v_undoAt_49, .ref a_undos, .int v_seenMany, .ref a_seen, .ref a_isKept, .ref a_kept, .int v_letterMany, .ref a_text, .int v_readAt, .int v_tokenAt, .int v_token, .int v_faultAt, .int v_readItems, .ref a_read, .int v_congruenceMany, .ref a_congruences, .int v_termMany, .int v_rounds, .ref a_terms])), (a_now, .inl (y.1, 21, .inl v_now_49)), (a_undos, .inl (y.1, 252, .inl v_undos_49))] H → va_D A [(a, .inr (6, [.ref a_now, .int v_undoMany_49, .int v_undoAt_49, .ref a_undos, .int v_seenMany, .ref a_seen, .ref a_isKept, .ref a_kept, .int v_letterMany, .ref a_text, .int v_readAt, .int v_tokenAt, .int v_token, .int v_faultAt, .int v_readItems, .ref a_read, .int v_congruenceMany, .ref a_congruences, .int v_termMany, .int v_rounds, .ref a_terms])), (a_now, .inl (y.1, 21, .inl v_now_49)), (a_undos, .inl (y.1, 252, .inl v_undos_49))] → va_S A s.heap H locs → W p l e (headSpec wsX9_sets ({ frames := 2, cells := 0, slots := 0, locals := 43 } : Room)).room s m ([.ref a, .int x1, .int x2, .int x3] : List Value).toArray below meth c H locs 0 0 (MQ below (va_Qi K (bW D y A (fun u : (Int32 × Int32 × (Nat → Int32) × (Nat → Int32)) => [(a, .inr (6, [.ref a_now, .int u.1, .int u.2.1, .ref a_undos, .int v_seenMany, .ref a_seen, .ref a_isKept, .ref a_kept, .int v_letterMany, .ref a_text, .int v_readAt, .int v_tokenAt, .int v_token, .int v_faultAt, .int v_readItems, .ref a_read, .int v_congruenceMany, .ref a_congruences, .int v_termMany, .int v_rounds, .ref a_terms])), (a_now, .inl (y.1, 21, .inl u.2.2.1)), (a_undos, .inl (y.1, 252, .inl u.2.2.2))])) A) ([.ref a, .int x1, .int x2, .int x3] : List Value).toArray s 0 0 A) (F0 m 49 ls [.int t0_49]) := by
    intro t0_49 v_undoMany_49 v_undoAt_49 v_now_49 v_undos_49 ls H locs h hl hP hD hS
    unfold m_X9_sets_j49 at h
    refine lv_istore (lv' := [(4, .int t0_49), (0, .ref a), (3, .int x3)]) hx hb dX9_sets_49 hl (by decide) rfl (fun ls hl => ?_)
    refine lv_aload_n hx hb dX9_sets_51 rfl (lv_at hl 1 rfl) ?_
    refine va_get (D := D) (ci := 6) (v := .ref a_now) (C := RX9) (T := TX9) (N := 21) hx hb hts iX9 hown hK hP 0 rfl rfl 0 (by decide) fl7 (fun _ h9 => h9) rfl dX9_sets_52 ?_
    refine lv_iload hx hb dX9_sets_55 (lv_at hl 0 rfl) ?_
    obtain ⟨r2, er2, hin, h⟩ := sat_rd h
    refine xi hx hb hK hP 1 0 rfl rfl er2 hin dX9_sets_57 ?_
    refine lv_istore (lv' := [(5, .int r2), (4, .int t0_49), (0, .ref a), (3, .int x3)]) hx hb dX9_sets_58 hl (by decide) rfl (fun ls hl => ?_)
    refine lv_iload hx hb dX9_sets_60 (lv_at hl 0 rfl) ?_
    refine lv_iload_n hx hb dX9_sets_62 rfl (lv_at hl 3 rfl) ?_
    refine lv_icmp_ne (tgt := 69) hx hb dX9_sets_63 (by decide) (fun c63 => ?_) (fun c63 => ?_)
    · have h := sat_f c63 h
      refine lv_iconst (v := 0) hx hb dX9_sets_69 (by decide) ?_
      refine lv_istore (lv' := [(6, .int 0), (5, .int r2), (4, .int t0_49), (0, .ref a), (3, .int x3)]) hx hb dX9_sets_70 hl (by decide) rfl (fun ls hl => ?_)
      have hL72 : ∀ (K72 : ((Nat → Int32)) → Prop)
          (hE72 : ∀ (z72 : ((Nat → Int32))) (ls : Array Slot) (H : Heap) (locs : List Loc), K72 z72 → lv_has ls 7 [(0, .ref a), (3, .int x3), (4, .int t0_49), (5, .int r2)] → va_P D vwCl [(a, .inr (6, [.ref a_now, .int v_undoMany_49, .int v_undoAt_49, .ref a_undos, .int v_seenMany, .ref a_seen, .ref a_isKept, .ref a_kept, .int v_letterMany, .ref a_text, .int v_readAt, .int v_tokenAt, .int v_token, .int v_faultAt, .int v_readItems, .ref a_read, .int v_congruenceMany, .ref a_congruences, .int v_termMany, .int v_rounds, .ref a_terms])), (a_now, .inl (y.1, 21, .inl v_now_49)), (a_undos, .inl (y.1, 252, .inl z72))] H → va_D A [(a, .inr (6, [.ref a_now, .int v_undoMany_49, .int v_undoAt_49, .ref a_undos, .int v_seenMany, .ref a_seen, .ref a_isKept, .ref a_kept, .int v_letterMany, .ref a_text, .int v_readAt, .int v_tokenAt, .int v_token, .int v_faultAt, .int v_readItems, .ref a_read, .int v_congruenceMany, .ref a_congruences, .int v_termMany, .int v_rounds, .ref a_terms])), (a_now, .inl (y.1, 21, .inl v_now_49)), (a_undos, .inl (y.1, 252, .inl z72))] → va_S A s.heap H locs → W p l e (headSpec wsX9_sets ({ frames := 2, cells := 0, slots := 0, locals := 43 } : Room)).room s m ([.ref a, .int x1, .int x2, .int x3] : List Value).toArray below meth c H locs 0 0 (MQ below (va_Qi K (bW D y A (fun u : (Int32 × Int32 × (Nat → Int32) × (Nat → Int32)) => [(a, .inr (6, [.ref a_now, .int u.1, .int u.2.1, .ref a_undos, .int v_seenMany, .ref a_seen, .ref a_isKept, .ref a_kept, .int v_letterMany, .ref a_text, .int v_readAt, .int v_tokenAt, .int v_token, .int v_faultAt, .int v_readItems, .ref a_read, .int v_congruenceMany, .ref a_congruences, .int v_termMany, .int v_rounds, .ref a_terms])), (a_now, .inl (y.1, 21, .inl u.2.2.1)), (a_undos, .inl (y.1, 252, .inl u.2.2.2))])) A) ([.ref a, .int x1, .int x2, .int x3] : List Value).toArray s 0 0 A) (F0 m 107 ls []))
          (n : Nat) (x6_72 : Int32) (v_undos_72 : Nat → Int32) (ls : Array Slot) (H : Heap) (locs : List Loc), sat (lp (fun q : (Int32 × (Nat → Int32)) => m_X9_sets_s72 v_undoAt_49 v_now_49 q.1 q.2) n (x6_72, v_undos_72)) K72 → lv_has ls 7 [(0, .ref a), (3, .int x3), (4, .int t0_49), (5, .int r2), (6, .int x6_72)] → va_P D vwCl [(a, .inr (6, [.ref a_now, .int v_undoMany_49, .int v_undoAt_49, .ref a_undos, .int v_seenMany, .ref a_seen, .ref a_isKept, .ref a_kept, .int v_letterMany, .ref a_text, .int v_readAt, .int v_tokenAt, .int v_token, .int v_faultAt, .int v_readItems, .ref a_read, .int v_congruenceMany, .ref a_congruences, .int v_termMany, .int v_rounds, .ref a_terms])), (a_now, .inl (y.1, 21, .inl v_now_49)), (a_undos, .inl (y.1, 252, .inl v_undos_72))] H → va_D A [(a, .inr (6, [.ref a_now, .int v_undoMany_49, .int v_undoAt_49, .ref a_undos, .int v_seenMany, .ref a_seen, .ref a_isKept, .ref a_kept, .int v_letterMany, .ref a_text, .int v_readAt, .int v_tokenAt, .int v_token, .int v_faultAt, .int v_readItems, .ref a_read, .int v_congruenceMany, .ref a_congruences, .int v_termMany, .int v_rounds, .ref a_terms])), (a_now, .inl (y.1, 21, .inl v_now_49)), (a_undos, .inl (y.1, 252, .inl v_undos_72))] → va_S A s.heap H locs → W p l e (headSpec wsX9_sets ({ frames := 2, cells := 0, slots := 0, locals := 43 } : Room)).room s m ([.ref a, .int x1, .int x2, .int x3] : List Value).toArray below meth c H locs 0 0 (MQ below (va_Qi K (bW D y A (fun u : (Int32 × Int32 × (Nat → Int32) × (Nat → Int32)) => [(a, .inr (6, [.ref a_now, .int u.1, .int u.2.1, .ref a_undos, .int v_seenMany, .ref a_seen, .ref a_isKept, .ref a_kept, .int v_letterMany, .ref a_text, .int v_readAt, .int v_tokenAt, .int v_token, .int v_faultAt, .int v_readItems, .ref a_read, .int v_congruenceMany, .ref a_congruences, .int v_termMany, .int v_rounds, .ref a_terms])), (a_now, .inl (y.1, 21, .inl u.2.2.1)), (a_undos, .inl (y.1, 252, .inl u.2.2.2))])) A) ([.ref a, .int x1, .int x2, .int x3] : List Value).toArray s 0 0 A) (F0 m 72 ls []) := by
        intro K72 hE72 n
        induction n with
        | zero => intro x6_72 v_undos_72 ls H locs h; exact (sat_lp0 h).elim
        | succ n ih =>
          intro x6_72 v_undos_72 ls H locs h hl hP hD hS
          have h := sat_lp h
          have h : sat (m_X9_sets_s72 v_undoAt_49 v_now_49 x6_72 v_undos_72) (lk (fun s' => sat (lp (fun q : (Int32 × (Nat → Int32)) => m_X9_sets_s72 v_undoAt_49 v_now_49 q.1 q.2) n s') K72) K72) := h
          unfold m_X9_sets_s72 at h
          refine lv_iload hx hb dX9_sets_72 (lv_at hl 4 rfl) ?_
          refine lv_bipush (v := 21) hx hb dX9_sets_74 (by decide) ?_
          refine lv_icmp_ge (tgt := 107) hx hb dX9_sets_76 (by decide) (fun c76 => ?_) (fun c76 => ?_)
          · have h := sat_t c76 h
            have h := lk_r (sat_some h)
            exact hE72 v_undos_72 ls H locs h (lv_sub hl [0, 1, 2, 3] rfl) hP hD hS
          · have h := sat_f c76 h
            refine lv_aload_n hx hb dX9_sets_79 rfl (lv_at hl 0 rfl) ?_
            refine va_get (D := D) (ci := 6) (v := .ref a_undos) (C := RX9) (T := TX9) (N := 21) hx hb hts iX9 hown hK hP 0 rfl rfl 3 (by decide) fl13 (fun _ h9 => h9) rfl dX9_sets_80 ?_
            refine lv_bipush (v := 21) hx hb dX9_sets_83 (by decide) ?_
            refine lv_aload_n hx hb dX9_sets_85 rfl (lv_at hl 0 rfl) ?_
            refine va_get (D := D) (ci := 6) (v := .int v_undoAt_49) (C := RX9) (T := TX9) (N := 21) hx hb hts iX9 hown hK hP 0 rfl rfl 2 (by decide) fl114 (fun _ h9 => h9) rfl dX9_sets_86 ?_
            refine lv_imul hx hb dX9_sets_89 ?_
            refine lv_iload hx hb dX9_sets_90 (lv_at hl 4 rfl) ?_
            refine lv_iadd hx hb dX9_sets_92 ?_
            refine lv_aload_n hx hb dX9_sets_93 rfl (lv_at hl 0 rfl) ?_
            refine va_get (D := D) (ci := 6) (v := .ref a_now) (C := RX9) (T := TX9) (N := 21) hx hb hts iX9 hown hK hP 0 rfl rfl 0 (by decide) fl7 (fun _ h9 => h9) rfl dX9_sets_94 ?_
            refine lv_iload hx hb dX9_sets_97 (lv_at hl 4 rfl) ?_
            obtain ⟨r4, er4, hin, h⟩ := sat_rd h
            refine xi hx hb hK hP 1 0 rfl rfl er4 hin dX9_sets_99 ?_
            obtain ⟨f5, ef5, hin, h⟩ := sat_wrI h
            refine yi (wn := [(a, .inr (6, [.ref a_now, .int v_undoMany_49, .int v_undoAt_49, .ref a_undos, .int v_seenMany, .ref a_seen, .ref a_isKept, .ref a_kept, .int v_letterMany, .ref a_text, .int v_readAt, .int v_tokenAt, .int v_token, .int v_faultAt, .int v_readItems, .ref a_read, .int v_congruenceMany, .ref a_congruences, .int v_termMany, .int v_rounds, .ref a_terms])), (a_now, .inl (y.1, 21, .inl v_now_49)), (a_undos, .inl (y.1, 252, .inl f5))]) hx hb hK hP hD hS 2 0 rfl rfl ef5 hin dX9_sets_100 rfl (fun H locs hP hD hS => ?_)
            refine lv_iinc (v := x6_72 + 1) (lv' := [(6, .int (x6_72 + 1)), (0, .ref a), (3, .int x3), (4, .int t0_49), (5, .int r2)]) hx hb dX9_sets_101 hl (k := 4) rfl rfl (by decide) rfl (fun ls hl => ?_)
            refine lv_goto (tgt := 72) hx hb dX9_sets_104 (by decide) ?_
            have h := lk_l (sat_some h)
            exact ih (x6_72 + 1) f5 ls H locs h (lv_sub hl [1, 2, 3, 4, 0] rfl) hP hD hS
      have h := sat_bind h
      refine hL72 _ (fun z72 ls H locs h hl hP hD hS => ?_) 1000 0 v_undos_49 ls H locs h (lv_sub hl [3, 4, 2, 1, 0] rfl) hP hD hS
      refine lv_aload_n hx hb dX9_sets_107 rfl (lv_at hl 0 rfl) ?_
      refine lv_aload_n hx hb dX9_sets_108 rfl (lv_at hl 0 rfl) ?_
      refine va_get (D := D) (ci := 6) (v := .int v_undoAt_49) (C := RX9) (T := TX9) (N := 21) hx hb hts iX9 hown hK hP 0 rfl rfl 2 (by decide) fl114 (fun _ h9 => h9) rfl dX9_sets_109 ?_
      refine lv_iconst (v := 1) hx hb dX9_sets_112 (by decide) ?_
      refine lv_iadd hx hb dX9_sets_113 ?_
      refine lv_bipush (v := 12) hx hb dX9_sets_114 (by decide) ?_
      refine lv_irem hx hb dX9_sets_116 (by decide) ?_
      obtain ⟨w6, ew6, h⟩ := sat_nm h
      refine tI ew6 ?_
      refine pf (D := D) (ci := 6) (v := .int w6) (ty := .int) (C := RX9) (T := TX9) (N := 21) (wn := [(a, .inr (6, [.ref a_now, .int v_undoMany_49, .int w6, .ref a_undos, .int v_seenMany, .ref a_seen, .ref a_isKept, .ref a_kept, .int v_letterMany, .ref a_text, .int v_readAt, .int v_tokenAt, .int v_token, .int v_faultAt, .int v_readItems, .ref a_read, .int v_congruenceMany, .ref a_congruences, .int v_termMany, .int v_rounds, .ref a_terms])), (a_now, .inl (y.1, 21, .inl v_now_49)), (a_undos, .inl (y.1, 252, .inl z72))]) hx hb hts iX9 tyX9 tyX9_ok nmX9 hown hK hP hD hS 0 rfl rfl 2 (by decide) fl114 (fun _ h9 => h9) rfl (by decide +kernel) rfl rfl (Nat.le_of_ble_eq_true rfl) dX9_sets_117 rfl (fun H locs hP hD hS => ?_)
      refine lv_aload_n hx hb dX9_sets_120 rfl (lv_at hl 0 rfl) ?_
      refine lv_dup hx hb dX9_sets_121 rfl ?_
      refine va_get (D := D) (ci := 6) (v := .int v_undoMany_49) (C := RX9) (T := TX9) (N := 21) hx hb hts iX9 hown hK hP 0 rfl rfl 1 (by decide) fl96 (fun _ h9 => h9) rfl dX9_sets_122 ?_
      refine lv_aload_n hx hb dX9_sets_125 rfl (lv_at hl 0 rfl) ?_
      refine va_get (D := D) (ci := 6) (v := .int v_undoMany_49) (C := RX9) (T := TX9) (N := 21) hx hb hts iX9 hown hK hP 0 rfl rfl 1 (by decide) fl96 (fun _ h9 => h9) rfl dX9_sets_126 ?_
      refine lv_bipush (v := 12) hx hb dX9_sets_129 (by decide) ?_
      refine lv_icmp_ge (tgt := 138) hx hb dX9_sets_131 (by decide) (fun c131 => ?_) (fun c131 => ?_)
      · have h := sat_t c131 h
        refine lv_iconst (v := 0) hx hb dX9_sets_138 (by decide) ?_
        exact hJ139 t0_49 r2 v_undoMany_49 0 v_undoMany_49 w6 v_now_49 z72 ls H locs h hl hP hD hS
      · have h := sat_f c131 h
        refine lv_iconst (v := 1) hx hb dX9_sets_134 (by decide) ?_
        refine lv_goto (tgt := 139) hx hb dX9_sets_135 (by decide) ?_
        exact hJ139 t0_49 r2 v_undoMany_49 1 v_undoMany_49 w6 v_now_49 z72 ls H locs h hl hP hD hS
    · have h := sat_t c63 h
      refine lv_bipush (v := (-3)) hx hb dX9_sets_66 (by decide) ?_
      have h := sat_some h
      exact W.iret (v := (-3)) hx hb hr (fun t ht hW => ⟨⟨(-3), (v_undoMany_49, v_undoAt_49, v_now_49, v_undos_49), rfl, h, by rw [ht]; exact hP, va_K.moved hW.alike hK, hD⟩, hS.F ht⟩) hS.2.2 dX9_sets_68
  unfold m_X9_sets at h
  refine lv_aload_n hx hb dX9_sets_0 rfl (lv_at hl 0 rfl) ?_
  refine lv_iload_n hx hb dX9_sets_1 rfl (lv_at hl 1 rfl) ?_
  refine cr_i (rv (As := [.int x1]) (rest := []) ⟨hx, hb, hml, hown, hts⟩ (c_X9_is l D y a a_now a_undos a_seen a_isKept a_kept a_text a_read a_congruences a_terms v_undoMany v_undoAt v_seenMany v_letterMany v_readAt v_tokenAt v_token v_faultAt v_readItems v_congruenceMany v_termMany v_rounds v_now x1 _ (sat_bind h)) (cwV 1 hts gX9_sets_X9_is rfl rfl rfl (by decide +kernel) ⟨Nat.le_of_ble_eq_true rfl, Nat.le_of_ble_eq_true rfl⟩) hK hP [0, 1] rfl 0 6 rfl rfl rfl rfl hl.1 rfl (Nat.le_of_ble_eq_true rfl) dX9_sets_2 ⟨Nat.zero_le _, Nat.zero_le _⟩) (fun r7 h => ?_)
  refine lv_if_eq (tgt := 30) hx hb dX9_sets_5 (by decide) (fun c5 => ?_) (fun c5 => ?_)
  · have h := sat_t c5 h
    refine lv_bipush (v := (-2)) hx hb dX9_sets_30 (by decide) ?_
    have h := sat_some h
    exact W.iret (v := (-2)) hx hb hr (fun t ht hW => ⟨⟨(-2), (v_undoMany, v_undoAt, v_now, v_undos), rfl, h, by rw [ht]; exact hP, va_K.moved hW.alike hK, hD⟩, hS.F ht⟩) hS.2.2 dX9_sets_32
  · have h := sat_f c5 h
    refine lv_iload_n hx hb dX9_sets_8 rfl (lv_at hl 2 rfl) ?_
    refine lv_iconst (v := (-1)) hx hb dX9_sets_9 (by decide) ?_
    refine lv_aload_n hx hb dX9_sets_10 rfl (lv_at hl 0 rfl) ?_
    refine cr_i (rv (As := []) (rest := [.int (-1), .int x2]) ⟨hx, hb, hml, hown, hts⟩ (c_X9_size l D y a a_now a_undos a_seen a_isKept a_kept a_text a_read a_congruences a_terms v_undoMany v_undoAt v_seenMany v_letterMany v_readAt v_tokenAt v_token v_faultAt v_readItems v_congruenceMany v_termMany v_rounds v_now _ (sat_bind h)) (cwV 0 hts gX9_sets_X9_size rfl rfl rfl (by decide +kernel) ⟨Nat.le_of_ble_eq_true rfl, Nat.le_of_ble_eq_true rfl⟩) hK hP [0, 1] rfl 0 6 rfl rfl rfl rfl hl.1 rfl (Nat.le_of_ble_eq_true rfl) dX9_sets_11 ⟨Nat.zero_le _, Nat.zero_le _⟩) (fun r8 h => ?_)
    refine lv_iconst (v := 1) hx hb dX9_sets_14 (by decide) ?_
    refine lv_isub hx hb dX9_sets_15 ?_
    refine cr_i (rs (As := [.int x2, .int (-1), .int (r8 - 1)]) (rest := []) ⟨hx, hb, hml, hown, hts⟩ (c_X9_in l D y x2 (-1) (r8 - 1) _ (sat_bind h)) (va_cwS 3 hts gX9_sets_X9_in rfl rfl rfl (by decide +kernel) ⟨Nat.le_of_ble_eq_true rfl, Nat.le_of_ble_eq_true rfl⟩) hK hP [] rfl rfl hl.1 rfl (Nat.le_of_ble_eq_true rfl) dX9_sets_16 ⟨Nat.zero_le _, Nat.zero_le _⟩) (fun r9 h => ?_)
    refine lv_if_eq (tgt := 30) hx hb dX9_sets_19 (by decide) (fun c19 => ?_) (fun c19 => ?_)
    · have h := sat_t c19 h
      refine lv_bipush (v := (-2)) hx hb dX9_sets_30 (by decide) ?_
      have h := sat_some h
      exact W.iret (v := (-2)) hx hb hr (fun t ht hW => ⟨⟨(-2), (v_undoMany, v_undoAt, v_now, v_undos), rfl, h, by rw [ht]; exact hP, va_K.moved hW.alike hK, hD⟩, hS.F ht⟩) hS.2.2 dX9_sets_32
    · have h := sat_f c19 h
      refine lv_aload_n hx hb dX9_sets_22 rfl (lv_at hl 0 rfl) ?_
      refine lv_iload_n hx hb dX9_sets_23 rfl (lv_at hl 3 rfl) ?_
      refine cr_i (rv (As := [.int x3]) (rest := []) ⟨hx, hb, hml, hown, hts⟩ (c_X9_is l D y a a_now a_undos a_seen a_isKept a_kept a_text a_read a_congruences a_terms v_undoMany v_undoAt v_seenMany v_letterMany v_readAt v_tokenAt v_token v_faultAt v_readItems v_congruenceMany v_termMany v_rounds v_now x3 _ (sat_bind h)) (cwV 1 hts gX9_sets_X9_is rfl rfl rfl (by decide +kernel) ⟨Nat.le_of_ble_eq_true rfl, Nat.le_of_ble_eq_true rfl⟩) hK hP [0, 1] rfl 0 6 rfl rfl rfl rfl hl.1 rfl (Nat.le_of_ble_eq_true rfl) dX9_sets_24 ⟨Nat.zero_le _, Nat.zero_le _⟩) (fun r10 h => ?_)
      refine lv_if_ne (tgt := 33) hx hb dX9_sets_27 (by decide) (fun c27 => ?_) (fun c27 => ?_)
      · have h := sat_f c27 h
        refine lv_iload_n hx hb dX9_sets_33 rfl (lv_at hl 2 rfl) ?_
        refine lv_if_ge (tgt := 44) hx hb dX9_sets_34 (by decide) (fun c34 => ?_) (fun c34 => ?_)
        · have h := sat_t c34 h
          refine lv_iconst (v := 4) hx hb dX9_sets_44 (by decide) ?_
          refine lv_iload_n hx hb dX9_sets_45 rfl (lv_at hl 1 rfl) ?_
          refine lv_imul hx hb dX9_sets_46 ?_
          refine lv_iload_n hx hb dX9_sets_47 rfl (lv_at hl 2 rfl) ?_
          refine lv_iadd hx hb dX9_sets_48 ?_
          exact hJ49 ((4 * x1) + x2) v_undoMany v_undoAt v_now v_undos ls s.heap [] h (lv_sub hl [0, 3] rfl) hP hD hS
        · have h := sat_f c34 h
          refine lv_bipush (v := 16) hx hb dX9_sets_37 (by decide) ?_
          refine lv_iload_n hx hb dX9_sets_39 rfl (lv_at hl 1 rfl) ?_
          refine lv_iadd hx hb dX9_sets_40 ?_
          refine lv_goto (tgt := 49) hx hb dX9_sets_41 (by decide) ?_
          exact hJ49 (16 + x1) v_undoMany v_undoAt v_now v_undos ls s.heap [] h (lv_sub hl [0, 3] rfl) hP hD hS
      · have h := sat_t c27 h
        refine lv_bipush (v := (-2)) hx hb dX9_sets_30 (by decide) ?_
        have h := sat_some h
        exact W.iret (v := (-2)) hx hb hr (fun t ht hW => ⟨⟨(-2), (v_undoMany, v_undoAt, v_now, v_undos), rfl, h, by rw [ht]; exact hP, va_K.moved hW.alike hK, hD⟩, hS.F ht⟩) hS.2.2 dX9_sets_32

/-! X9_undo -/
set_option maxHeartbeats 4000000 in
set_option maxRecDepth 100000 in
theorem c_X9_undo (l : Launch) (D : va_G) (y : ClassId × ClassId × ClassId × ClassId) (a a_now a_undos a_seen a_isKept a_kept a_text a_read a_congruences a_terms : Nat) (v_undoMany : Int32) (v_undoAt : Int32) (v_seenMany : Int32) (v_letterMany : Int32) (v_readAt : Int32) (v_tokenAt : Int32) (v_token : Int32) (v_faultAt : Int32) (v_readItems : Int32) (v_congruenceMany : Int32) (v_termMany : Int32) (v_rounds : Int32) (v_now : Nat → Int32) (v_undos : Nat → Int32) (sz : Nat) (A : Nat → Prop) (hAe : va_A [(a, .inr (6, [.ref a_now, .int v_undoMany, .int v_undoAt, .ref a_undos, .int v_seenMany, .ref a_seen, .ref a_isKept, .ref a_kept, .int v_letterMany, .ref a_text, .int v_readAt, .int v_tokenAt, .int v_token, .int v_faultAt, .int v_readItems, .ref a_read, .int v_congruenceMany, .ref a_congruences, .int v_termMany, .int v_rounds, .ref a_terms])), (a_now, .inl (y.1, 21, .inl v_now)), (a_undos, .inl (y.1, 252, .inl v_undos))] sz = A) (K : Int32 → (Int32 × Int32 × (Nat → Int32)) → Prop) (h : sat (m_X9_undo v_undoMany v_undoAt v_now v_undos) (pK K)) : Met l yX9_undo wsX9_undo ({ frames := 0, cells := 0, slots := 0, locals := 0 } : Room) (pW D y ([.ref a] : List Value) [(a, .inr (6, [.ref a_now, .int v_undoMany, .int v_undoAt, .ref a_undos, .int v_seenMany, .ref a_seen, .ref a_isKept, .ref a_kept, .int v_letterMany, .ref a_text, .int v_readAt, .int v_tokenAt, .int v_token, .int v_faultAt, .int v_readItems, .ref a_read, .int v_congruenceMany, .ref a_congruences, .int v_termMany, .int v_rounds, .ref a_terms])), (a_now, .inl (y.1, 21, .inl v_now)), (a_undos, .inl (y.1, 252, .inl v_undos))] sz) (va_Qi K (bW D y A (fun u : (Int32 × Int32 × (Nat → Int32)) => [(a, .inr (6, [.ref a_now, .int u.1, .int u.2.1, .ref a_undos, .int v_seenMany, .ref a_seen, .ref a_isKept, .ref a_kept, .int v_letterMany, .ref a_text, .int v_readAt, .int v_tokenAt, .int v_token, .int v_faultAt, .int v_readItems, .ref a_read, .int v_congruenceMany, .ref a_congruences, .int v_termMany, .int v_rounds, .ref a_terms])), (a_now, .inl (y.1, 21, .inl u.2.2)), (a_undos, .inl (y.1, 252, .inl v_undos))])) A) 0 0 A := by
  refine Met.ofW (cc := cX9_undo) (maxL := 2) (ret := (some .int)) (by decide) rfl ?_
  intro p e s m args below meth c s₁ B hml hv
  obtain ⟨rfl, hsz, hP, hK, hD0⟩ := hv
  have hx := B.exec
  have hb := B.bytes
  have hr := B.returns
  have hts := atoms_spec (ws := wsX9_undo) B.pre
  have hown : s.vm.findClass RX9 = some m.cls := findClass_of_methodNamed B.named
  have hlocks := B.notSynchronized
  subst hsz
  have hD : va_D A [(a, .inr (6, [.ref a_now, .int v_undoMany, .int v_undoAt, .ref a_undos, .int v_seenMany, .ref a_seen, .ref a_isKept, .ref a_kept, .int v_letterMany, .ref a_text, .int v_readAt, .int v_tokenAt, .int v_token, .int v_faultAt, .int v_readItems, .ref a_read, .int v_congruenceMany, .ref a_congruences, .int v_termMany, .int v_rounds, .ref a_terms])), (a_now, .inl (y.1, 21, .inl v_now)), (a_undos, .inl (y.1, 252, .inl v_undos))] := hAe ▸ hD0.self
  have hA : ∀ q : Nat, s.heap.size ≤ q → A q := fun q h => hAe ▸ Or.inr h
  have hS : va_S A s.heap s.heap [] := va_S.rf
  have iX9 : ∀ w ∈ wsX90, w ∈ wsX9_undo := by decide +kernel
  have fl96 := hts (.fieldLink RX9 96 "AlgebraLawsModel" "undoMany" "I") (by decide +kernel)
  have fl114 := hts (.fieldLink RX9 114 "AlgebraLawsModel" "undoAt" "I") (by decide +kernel)
  have fl7 := hts (.fieldLink RX9 7 "AlgebraLawsModel" "now" "[I") (by decide +kernel)
  have fl13 := hts (.fieldLink RX9 13 "AlgebraLawsModel" "undos" "[I") (by decide +kernel)
  have hl := lv_entry ([.ref a] : List Value) (n := 2) (Nat.le_of_ble_eq_true rfl)
  rw [lg_entry_eq]
  generalize (lg_sl ([.ref a] : List Value) ++ List.replicate (2 - (lg_sl ([.ref a] : List Value)).length) Slot.unset).toArray = ls at hl ⊢
  have hl : lv_has ls 2 [(0, .ref a)] := hl
  unfold m_X9_undo at h
  refine lv_aload_n hx hb dX9_undo_0 rfl (lv_at hl 0 rfl) ?_
  refine va_get (D := D) (ci := 6) (v := .int v_undoMany) (C := RX9) (T := TX9) (N := 21) hx hb hts iX9 hown hK hP 0 rfl rfl 1 (by decide) fl96 (fun _ h9 => h9) rfl dX9_undo_1 ?_
  refine lv_if_ne (tgt := 10) hx hb dX9_undo_4 (by decide) (fun c4 => ?_) (fun c4 => ?_)
  · have h := sat_f c4 h
    refine lv_aload_n hx hb dX9_undo_10 rfl (lv_at hl 0 rfl) ?_
    refine lv_aload_n hx hb dX9_undo_11 rfl (lv_at hl 0 rfl) ?_
    refine va_get (D := D) (ci := 6) (v := .int v_undoAt) (C := RX9) (T := TX9) (N := 21) hx hb hts iX9 hown hK hP 0 rfl rfl 2 (by decide) fl114 (fun _ h9 => h9) rfl dX9_undo_12 ?_
    refine lv_bipush (v := 12) hx hb dX9_undo_15 (by decide) ?_
    refine lv_iadd hx hb dX9_undo_17 ?_
    refine lv_iconst (v := 1) hx hb dX9_undo_18 (by decide) ?_
    refine lv_isub hx hb dX9_undo_19 ?_
    refine lv_bipush (v := 12) hx hb dX9_undo_20 (by decide) ?_
    refine lv_irem hx hb dX9_undo_22 (by decide) ?_
    obtain ⟨w1, ew1, h⟩ := sat_nm h
    refine tI ew1 ?_
    refine pf (D := D) (ci := 6) (v := .int w1) (ty := .int) (C := RX9) (T := TX9) (N := 21) (wn := [(a, .inr (6, [.ref a_now, .int v_undoMany, .int w1, .ref a_undos, .int v_seenMany, .ref a_seen, .ref a_isKept, .ref a_kept, .int v_letterMany, .ref a_text, .int v_readAt, .int v_tokenAt, .int v_token, .int v_faultAt, .int v_readItems, .ref a_read, .int v_congruenceMany, .ref a_congruences, .int v_termMany, .int v_rounds, .ref a_terms])), (a_now, .inl (y.1, 21, .inl v_now)), (a_undos, .inl (y.1, 252, .inl v_undos))]) hx hb hts iX9 tyX9 tyX9_ok nmX9 hown hK hP hD hS 0 rfl rfl 2 (by decide) fl114 (fun _ h9 => h9) rfl (by decide +kernel) rfl rfl (Nat.le_of_ble_eq_true rfl) dX9_undo_23 rfl (fun H locs hP hD hS => ?_)
    refine lv_aload_n hx hb dX9_undo_26 rfl (lv_at hl 0 rfl) ?_
    refine lv_dup hx hb dX9_undo_27 rfl ?_
    refine va_get (D := D) (ci := 6) (v := .int v_undoMany) (C := RX9) (T := TX9) (N := 21) hx hb hts iX9 hown hK hP 0 rfl rfl 1 (by decide) fl96 (fun _ h9 => h9) rfl dX9_undo_28 ?_
    refine lv_iconst (v := 1) hx hb dX9_undo_31 (by decide) ?_
    refine lv_isub hx hb dX9_undo_32 ?_
    refine pf (D := D) (ci := 6) (v := .int (v_undoMany - 1)) (ty := .int) (C := RX9) (T := TX9) (N := 21) (wn := [(a, .inr (6, [.ref a_now, .int (v_undoMany - 1), .int w1, .ref a_undos, .int v_seenMany, .ref a_seen, .ref a_isKept, .ref a_kept, .int v_letterMany, .ref a_text, .int v_readAt, .int v_tokenAt, .int v_token, .int v_faultAt, .int v_readItems, .ref a_read, .int v_congruenceMany, .ref a_congruences, .int v_termMany, .int v_rounds, .ref a_terms])), (a_now, .inl (y.1, 21, .inl v_now)), (a_undos, .inl (y.1, 252, .inl v_undos))]) hx hb hts iX9 tyX9 tyX9_ok nmX9 hown hK hP hD hS 0 rfl rfl 1 (by decide) fl96 (fun _ h9 => h9) rfl (by decide +kernel) rfl rfl (Nat.le_of_ble_eq_true rfl) dX9_undo_33 rfl (fun H locs hP hD hS => ?_)
    refine lv_iconst (v := 0) hx hb dX9_undo_36 (by decide) ?_
    refine lv_istore_n (lv' := [(1, .int 0), (0, .ref a)]) hx hb dX9_undo_37 rfl hl (by decide) rfl (fun ls hl => ?_)
    have hL38 : ∀ (K38 : ((Nat → Int32)) → Prop)
        (hE38 : ∀ (z38 : ((Nat → Int32))) (ls : Array Slot) (H : Heap) (locs : List Loc), K38 z38 → lv_has ls 2 [(0, .ref a)] → va_P D vwCl [(a, .inr (6, [.ref a_now, .int (v_undoMany - 1), .int w1, .ref a_undos, .int v_seenMany, .ref a_seen, .ref a_isKept, .ref a_kept, .int v_letterMany, .ref a_text, .int v_readAt, .int v_tokenAt, .int v_token, .int v_faultAt, .int v_readItems, .ref a_read, .int v_congruenceMany, .ref a_congruences, .int v_termMany, .int v_rounds, .ref a_terms])), (a_now, .inl (y.1, 21, .inl z38)), (a_undos, .inl (y.1, 252, .inl v_undos))] H → va_D A [(a, .inr (6, [.ref a_now, .int (v_undoMany - 1), .int w1, .ref a_undos, .int v_seenMany, .ref a_seen, .ref a_isKept, .ref a_kept, .int v_letterMany, .ref a_text, .int v_readAt, .int v_tokenAt, .int v_token, .int v_faultAt, .int v_readItems, .ref a_read, .int v_congruenceMany, .ref a_congruences, .int v_termMany, .int v_rounds, .ref a_terms])), (a_now, .inl (y.1, 21, .inl z38)), (a_undos, .inl (y.1, 252, .inl v_undos))] → va_S A s.heap H locs → W p l e (headSpec wsX9_undo ({ frames := 0, cells := 0, slots := 0, locals := 0 } : Room)).room s m ([.ref a] : List Value).toArray below meth c H locs 0 0 (MQ below (va_Qi K (bW D y A (fun u : (Int32 × Int32 × (Nat → Int32)) => [(a, .inr (6, [.ref a_now, .int u.1, .int u.2.1, .ref a_undos, .int v_seenMany, .ref a_seen, .ref a_isKept, .ref a_kept, .int v_letterMany, .ref a_text, .int v_readAt, .int v_tokenAt, .int v_token, .int v_faultAt, .int v_readItems, .ref a_read, .int v_congruenceMany, .ref a_congruences, .int v_termMany, .int v_rounds, .ref a_terms])), (a_now, .inl (y.1, 21, .inl u.2.2)), (a_undos, .inl (y.1, 252, .inl v_undos))])) A) ([.ref a] : List Value).toArray s 0 0 A) (F0 m 70 ls []))
        (n : Nat) (x1_38 : Int32) (v_now_38 : Nat → Int32) (ls : Array Slot) (H : Heap) (locs : List Loc), sat (lp (fun q : (Int32 × (Nat → Int32)) => m_X9_undo_s38 v_undos w1 q.1 q.2) n (x1_38, v_now_38)) K38 → lv_has ls 2 [(0, .ref a), (1, .int x1_38)] → va_P D vwCl [(a, .inr (6, [.ref a_now, .int (v_undoMany - 1), .int w1, .ref a_undos, .int v_seenMany, .ref a_seen, .ref a_isKept, .ref a_kept, .int v_letterMany, .ref a_text, .int v_readAt, .int v_tokenAt, .int v_token, .int v_faultAt, .int v_readItems, .ref a_read, .int v_congruenceMany, .ref a_congruences, .int v_termMany, .int v_rounds, .ref a_terms])), (a_now, .inl (y.1, 21, .inl v_now_38)), (a_undos, .inl (y.1, 252, .inl v_undos))] H → va_D A [(a, .inr (6, [.ref a_now, .int (v_undoMany - 1), .int w1, .ref a_undos, .int v_seenMany, .ref a_seen, .ref a_isKept, .ref a_kept, .int v_letterMany, .ref a_text, .int v_readAt, .int v_tokenAt, .int v_token, .int v_faultAt, .int v_readItems, .ref a_read, .int v_congruenceMany, .ref a_congruences, .int v_termMany, .int v_rounds, .ref a_terms])), (a_now, .inl (y.1, 21, .inl v_now_38)), (a_undos, .inl (y.1, 252, .inl v_undos))] → va_S A s.heap H locs → W p l e (headSpec wsX9_undo ({ frames := 0, cells := 0, slots := 0, locals := 0 } : Room)).room s m ([.ref a] : List Value).toArray below meth c H locs 0 0 (MQ below (va_Qi K (bW D y A (fun u : (Int32 × Int32 × (Nat → Int32)) => [(a, .inr (6, [.ref a_now, .int u.1, .int u.2.1, .ref a_undos, .int v_seenMany, .ref a_seen, .ref a_isKept, .ref a_kept, .int v_letterMany, .ref a_text, .int v_readAt, .int v_tokenAt, .int v_token, .int v_faultAt, .int v_readItems, .ref a_read, .int v_congruenceMany, .ref a_congruences, .int v_termMany, .int v_rounds, .ref a_terms])), (a_now, .inl (y.1, 21, .inl u.2.2)), (a_undos, .inl (y.1, 252, .inl v_undos))])) A) ([.ref a] : List Value).toArray s 0 0 A) (F0 m 38 ls []) := by
      intro K38 hE38 n
      induction n with
      | zero => intro x1_38 v_now_38 ls H locs h; exact (sat_lp0 h).elim
      | succ n ih =>
        intro x1_38 v_now_38 ls H locs h hl hP hD hS
        have h := sat_lp h
        have h : sat (m_X9_undo_s38 v_undos w1 x1_38 v_now_38) (lk (fun s' => sat (lp (fun q : (Int32 × (Nat → Int32)) => m_X9_undo_s38 v_undos w1 q.1 q.2) n s') K38) K38) := h
        unfold m_X9_undo_s38 at h
        refine lv_iload_n hx hb dX9_undo_38 rfl (lv_at hl 1 rfl) ?_
        refine lv_bipush (v := 21) hx hb dX9_undo_39 (by decide) ?_
        refine lv_icmp_ge (tgt := 70) hx hb dX9_undo_41 (by decide) (fun c41 => ?_) (fun c41 => ?_)
        · have h := sat_t c41 h
          have h := lk_r (sat_some h)
          exact hE38 v_now_38 ls H locs h (lv_sub hl [0] rfl) hP hD hS
        · have h := sat_f c41 h
          refine lv_aload_n hx hb dX9_undo_44 rfl (lv_at hl 0 rfl) ?_
          refine va_get (D := D) (ci := 6) (v := .ref a_now) (C := RX9) (T := TX9) (N := 21) hx hb hts iX9 hown hK hP 0 rfl rfl 0 (by decide) fl7 (fun _ h9 => h9) rfl dX9_undo_45 ?_
          refine lv_iload_n hx hb dX9_undo_48 rfl (lv_at hl 1 rfl) ?_
          refine lv_aload_n hx hb dX9_undo_49 rfl (lv_at hl 0 rfl) ?_
          refine va_get (D := D) (ci := 6) (v := .ref a_undos) (C := RX9) (T := TX9) (N := 21) hx hb hts iX9 hown hK hP 0 rfl rfl 3 (by decide) fl13 (fun _ h9 => h9) rfl dX9_undo_50 ?_
          refine lv_bipush (v := 21) hx hb dX9_undo_53 (by decide) ?_
          refine lv_aload_n hx hb dX9_undo_55 rfl (lv_at hl 0 rfl) ?_
          refine va_get (D := D) (ci := 6) (v := .int w1) (C := RX9) (T := TX9) (N := 21) hx hb hts iX9 hown hK hP 0 rfl rfl 2 (by decide) fl114 (fun _ h9 => h9) rfl dX9_undo_56 ?_
          refine lv_imul hx hb dX9_undo_59 ?_
          refine lv_iload_n hx hb dX9_undo_60 rfl (lv_at hl 1 rfl) ?_
          refine lv_iadd hx hb dX9_undo_61 ?_
          obtain ⟨r3, er3, hin, h⟩ := sat_rd h
          refine xi hx hb hK hP 2 0 rfl rfl er3 hin dX9_undo_62 ?_
          obtain ⟨f4, ef4, hin, h⟩ := sat_wrI h
          refine yi (wn := [(a, .inr (6, [.ref a_now, .int (v_undoMany - 1), .int w1, .ref a_undos, .int v_seenMany, .ref a_seen, .ref a_isKept, .ref a_kept, .int v_letterMany, .ref a_text, .int v_readAt, .int v_tokenAt, .int v_token, .int v_faultAt, .int v_readItems, .ref a_read, .int v_congruenceMany, .ref a_congruences, .int v_termMany, .int v_rounds, .ref a_terms])), (a_now, .inl (y.1, 21, .inl f4)), (a_undos, .inl (y.1, 252, .inl v_undos))]) hx hb hK hP hD hS 1 0 rfl rfl ef4 hin dX9_undo_63 rfl (fun H locs hP hD hS => ?_)
          refine lv_iinc (v := x1_38 + 1) (lv' := [(1, .int (x1_38 + 1)), (0, .ref a)]) hx hb dX9_undo_64 hl (k := 1) rfl rfl (by decide) rfl (fun ls hl => ?_)
          refine lv_goto (tgt := 38) hx hb dX9_undo_67 (by decide) ?_
          have h := lk_l (sat_some h)
          exact ih (x1_38 + 1) f4 ls H locs h (lv_sub hl [1, 0] rfl) hP hD hS
    have h := sat_bind h
    refine hL38 _ (fun z38 ls H locs h hl hP hD hS => ?_) 1000 0 v_now ls H locs h (lv_sub hl [1, 0] rfl) hP hD hS
    refine lv_aload_n hx hb dX9_undo_70 rfl (lv_at hl 0 rfl) ?_
    refine va_get (D := D) (ci := 6) (v := .int (v_undoMany - 1)) (C := RX9) (T := TX9) (N := 21) hx hb hts iX9 hown hK hP 0 rfl rfl 1 (by decide) fl96 (fun _ h9 => h9) rfl dX9_undo_71 ?_
    have h := sat_some h
    exact W.iret (v := v_undoMany - 1) hx hb hr (fun t ht hW => ⟨⟨v_undoMany - 1, (v_undoMany - 1, w1, z38), rfl, h, by rw [ht]; exact hP, va_K.moved hW.alike hK, hD⟩, hS.F ht⟩) hS.2.2 dX9_undo_74
  · have h := sat_t c4 h
    refine lv_bipush (v := (-3)) hx hb dX9_undo_7 (by decide) ?_
    have h := sat_some h
    exact W.iret (v := (-3)) hx hb hr (fun t ht hW => ⟨⟨(-3), (v_undoMany, v_undoAt, v_now), rfl, h, by rw [ht]; exact hP, va_K.moved hW.alike hK, hD⟩, hS.F ht⟩) hS.2.2 dX9_undo_9

/-! X9_wider -/
set_option maxHeartbeats 4000000 in
set_option maxRecDepth 100000 in
theorem c_X9_wider (l : Launch) (D : va_G) (y : ClassId × ClassId × ClassId × ClassId) (a a_now a_undos a_seen a_isKept a_kept a_text a_read a_congruences a_terms : Nat) (v_undoMany : Int32) (v_undoAt : Int32) (v_seenMany : Int32) (v_letterMany : Int32) (v_readAt : Int32) (v_tokenAt : Int32) (v_token : Int32) (v_faultAt : Int32) (v_readItems : Int32) (v_congruenceMany : Int32) (v_termMany : Int32) (v_rounds : Int32) (v_now : Nat → Int32) (x1 : Int32) (K : Int32 → Prop) (h : sat (m_X9_wider v_now x1) K) : Met l yX9_wider wsX9_wider ({ frames := 1, cells := 0, slots := 0, locals := 22 } : Room) (pR D y ([.ref a, .int x1] : List Value) [(a, .inr (6, [.ref a_now, .int v_undoMany, .int v_undoAt, .ref a_undos, .int v_seenMany, .ref a_seen, .ref a_isKept, .ref a_kept, .int v_letterMany, .ref a_text, .int v_readAt, .int v_tokenAt, .int v_token, .int v_faultAt, .int v_readItems, .ref a_read, .int v_congruenceMany, .ref a_congruences, .int v_termMany, .int v_rounds, .ref a_terms])), (a_now, .inl (y.1, 21, .inl v_now))]) (qSi K) 0 0 (fun _ => False) := by
  refine Met.ofW (cc := cX9_wider) (maxL := 5) (ret := (some .int)) (by decide) rfl ?_
  intro p e s m args below meth c s₁ B hml hv
  obtain ⟨rfl, hP, hK⟩ := hv
  have hx := B.exec
  have hb := B.bytes
  have hr := B.returns
  have hts := atoms_spec (ws := wsX9_wider) B.pre
  have hown : s.vm.findClass RX9 = some m.cls := findClass_of_methodNamed B.named
  have hlocks := B.notSynchronized
  have hl := lv_entry ([.ref a, .int x1] : List Value) (n := 5) (Nat.le_of_ble_eq_true rfl)
  rw [lg_entry_eq]
  generalize (lg_sl ([.ref a, .int x1] : List Value) ++ List.replicate (5 - (lg_sl ([.ref a, .int x1] : List Value)).length) Slot.unset).toArray = ls at hl ⊢
  have hl : lv_has ls 5 [(0, .ref a), (1, .int x1)] := hl
  unfold m_X9_wider at h
  refine lv_iload_n hx hb dX9_wider_0 rfl (lv_at hl 1 rfl) ?_
  refine lv_istore_n (lv' := [(2, .int x1), (0, .ref a), (1, .int x1)]) hx hb dX9_wider_1 rfl hl (by decide) rfl (fun ls hl => ?_)
  refine lv_iconst (v := 0) hx hb dX9_wider_2 (by decide) ?_
  refine lv_istore_n (lv' := [(3, .int 0), (2, .int x1), (0, .ref a), (1, .int x1)]) hx hb dX9_wider_3 rfl hl (by decide) rfl (fun ls hl => ?_)
  have hL4 : ∀ (K4 : Int32 → Prop)
      (hE4 : ∀ (z4 : Int32) (ls : Array Slot), K4 z4 → lv_has ls 5 [(2, .int z4)] → W p l e (headSpec wsX9_wider ({ frames := 1, cells := 0, slots := 0, locals := 22 } : Room)).room s m ([.ref a, .int x1] : List Value).toArray below meth c s.heap [] 0 0 (MQ below (qSi K) ([.ref a, .int x1] : List Value).toArray s 0 0 (fun _ => False)) (F0 m 91 ls []))
      (n : Nat) (x2_4 : Int32) (x3_4 : Int32) (ls : Array Slot), sat (lp (fun q : (Int32 × Int32) => m_X9_wider_s4 v_now x1 q.1 q.2) n (x2_4, x3_4)) K4 → lv_has ls 5 [(0, .ref a), (1, .int x1), (2, .int x2_4), (3, .int x3_4)] → W p l e (headSpec wsX9_wider ({ frames := 1, cells := 0, slots := 0, locals := 22 } : Room)).room s m ([.ref a, .int x1] : List Value).toArray below meth c s.heap [] 0 0 (MQ below (qSi K) ([.ref a, .int x1] : List Value).toArray s 0 0 (fun _ => False)) (F0 m 4 ls []) := by
    intro K4 hE4 n
    induction n with
    | zero => intro x2_4 x3_4 ls h; exact (sat_lp0 h).elim
    | succ n ih =>
      intro x2_4 x3_4 ls h hl
      have h := sat_lp h
      have h : sat (m_X9_wider_s4 v_now x1 x2_4 x3_4) (lk (fun s' => sat (lp (fun q : (Int32 × Int32) => m_X9_wider_s4 v_now x1 q.1 q.2) n s') K4) K4) := h
      have hJ32 : ∀ (x3_32 : Int32) (t0_32 : Int32) (t1_32 : Int32) (ls : Array Slot), sat (m_X9_wider_j32 v_now x1 x3_32 t0_32 t1_32) (lk (fun s' => sat (lp (fun q : (Int32 × Int32) => m_X9_wider_s4 v_now x1 q.1 q.2) n s') K4) K4) → lv_has ls 5 [(0, .ref a), (1, .int x1), (3, .int x3_32)] → W p l e (headSpec wsX9_wider ({ frames := 1, cells := 0, slots := 0, locals := 22 } : Room)).room s m ([.ref a, .int x1] : List Value).toArray below meth c s.heap [] 0 0 (MQ below (qSi K) ([.ref a, .int x1] : List Value).toArray s 0 0 (fun _ => False)) (F0 m 32 ls [.int t1_32, .int t0_32]) := by
        intro x3_32 t0_32 t1_32 ls h hl
        unfold m_X9_wider_j32 at h
        refine lv_ior hx hb dX9_wider_32 ?_
        refine lv_istore_n (lv' := [(2, .int (t0_32 ||| t1_32)), (0, .ref a), (1, .int x1), (3, .int x3_32)]) hx hb dX9_wider_33 rfl hl (by decide) rfl (fun ls hl => ?_)
        refine lv_iconst (v := 0) hx hb dX9_wider_34 (by decide) ?_
        refine lv_istore (lv' := [(4, .int 0), (2, .int (t0_32 ||| t1_32)), (0, .ref a), (1, .int x1), (3, .int x3_32)]) hx hb dX9_wider_35 hl (by decide) rfl (fun ls hl => ?_)
        have hL37 : ∀ (K37 : Int32 → Prop)
            (hE37 : ∀ (z37 : Int32) (ls : Array Slot), K37 z37 → lv_has ls 5 [(0, .ref a), (1, .int x1), (2, .int z37), (3, .int x3_32)] → W p l e (headSpec wsX9_wider ({ frames := 1, cells := 0, slots := 0, locals := 22 } : Room)).room s m ([.ref a, .int x1] : List Value).toArray below meth c s.heap [] 0 0 (MQ below (qSi K) ([.ref a, .int x1] : List Value).toArray s 0 0 (fun _ => False)) (F0 m 85 ls []))
            (n : Nat) (x2_37 : Int32) (x4_37 : Int32) (ls : Array Slot), sat (lp (fun q : (Int32 × Int32) => m_X9_wider_s37 v_now x1 x3_32 q.1 q.2) n (x2_37, x4_37)) K37 → lv_has ls 5 [(0, .ref a), (1, .int x1), (2, .int x2_37), (3, .int x3_32), (4, .int x4_37)] → W p l e (headSpec wsX9_wider ({ frames := 1, cells := 0, slots := 0, locals := 22 } : Room)).room s m ([.ref a, .int x1] : List Value).toArray below meth c s.heap [] 0 0 (MQ below (qSi K) ([.ref a, .int x1] : List Value).toArray s 0 0 (fun _ => False)) (F0 m 37 ls []) := by
          intro K37 hE37 n
          induction n with
          | zero => intro x2_37 x4_37 ls h; exact (sat_lp0 h).elim
          | succ n ih =>
            intro x2_37 x4_37 ls h hl
            have h := sat_lp h
            have h : sat (m_X9_wider_s37 v_now x1 x3_32 x2_37 x4_37) (lk (fun s' => sat (lp (fun q : (Int32 × Int32) => m_X9_wider_s37 v_now x1 x3_32 q.1 q.2) n s') K37) K37) := h
            unfold m_X9_wider_s37 at h
            refine lv_iload hx hb dX9_wider_37 (lv_at hl 4 rfl) ?_
            refine lv_aload_n hx hb dX9_wider_39 rfl (lv_at hl 0 rfl) ?_
            refine cr_i (rv (As := []) (rest := [.int x4_37]) ⟨hx, hb, hml, hown, hts⟩ (c_X9_size l D y a a_now a_undos a_seen a_isKept a_kept a_text a_read a_congruences a_terms v_undoMany v_undoAt v_seenMany v_letterMany v_readAt v_tokenAt v_token v_faultAt v_readItems v_congruenceMany v_termMany v_rounds v_now _ (sat_bind h)) (cwV 0 hts gX9_wider_X9_size rfl rfl rfl (by decide +kernel) ⟨Nat.le_of_ble_eq_true rfl, Nat.le_of_ble_eq_true rfl⟩) hK hP [0, 1] rfl 0 6 rfl rfl rfl rfl hl.1 rfl (Nat.le_of_ble_eq_true rfl) dX9_wider_40 ⟨Nat.zero_le _, Nat.zero_le _⟩) (fun r3 h => ?_)
            refine lv_icmp_ge (tgt := 85) hx hb dX9_wider_43 (by decide) (fun c43 => ?_) (fun c43 => ?_)
            · have h := sat_t c43 h
              have h := lk_r (sat_some h)
              exact hE37 x2_37 ls h (lv_sub hl [0, 1, 2, 3] rfl)
            · have h := sat_f c43 h
              refine lv_iload_n hx hb dX9_wider_46 rfl (lv_at hl 2 rfl) ?_
              refine lv_iload_n hx hb dX9_wider_47 rfl (lv_at hl 1 rfl) ?_
              refine lv_iload_n hx hb dX9_wider_48 rfl (lv_at hl 3 rfl) ?_
              refine cr_i (rs (As := [.int x1, .int x3_32]) (rest := [.int x2_37]) ⟨hx, hb, hml, hown, hts⟩ (c_X9_has l D y x1 x3_32 _ (sat_bind h)) (va_cwS 2 hts gX9_wider_X9_has rfl rfl rfl (by decide +kernel) ⟨Nat.le_of_ble_eq_true rfl, Nat.le_of_ble_eq_true rfl⟩) hK hP [] rfl rfl hl.1 rfl (Nat.le_of_ble_eq_true rfl) dX9_wider_49 ⟨Nat.zero_le _, Nat.zero_le _⟩) (fun r4 h => ?_)
              refine lv_if_eq (tgt := 76) hx hb dX9_wider_52 (by decide) (fun c52 => ?_) (fun c52 => ?_)
              · have h := sat_t c52 h
                refine lv_iconst (v := 0) hx hb dX9_wider_76 (by decide) ?_
                refine lv_ior hx hb dX9_wider_77 ?_
                refine lv_istore_n (lv' := [(2, .int (x2_37 ||| 0)), (0, .ref a), (1, .int x1), (3, .int x3_32), (4, .int x4_37)]) hx hb dX9_wider_78 rfl hl (by decide) rfl (fun ls hl => ?_)
                refine lv_iinc (v := x4_37 + 1) (lv' := [(4, .int (x4_37 + 1)), (2, .int (x2_37 ||| 0)), (0, .ref a), (1, .int x1), (3, .int x3_32)]) hx hb dX9_wider_79 hl (k := 4) rfl rfl (by decide) rfl (fun ls hl => ?_)
                refine lv_goto (tgt := 37) hx hb dX9_wider_82 (by decide) ?_
                have h := lk_l (sat_some h)
                exact ih (x2_37 ||| 0) (x4_37 + 1) ls h (lv_sub hl [2, 3, 1, 4, 0] rfl)
              · have h := sat_f c52 h
                refine lv_iload_n hx hb dX9_wider_55 rfl (lv_at hl 1 rfl) ?_
                refine lv_iload hx hb dX9_wider_56 (lv_at hl 4 rfl) ?_
                refine cr_i (rs (As := [.int x1, .int x4_37]) (rest := [.int x2_37]) ⟨hx, hb, hml, hown, hts⟩ (c_X9_has l D y x1 x4_37 _ (sat_bind h)) (va_cwS 2 hts gX9_wider_X9_has rfl rfl rfl (by decide +kernel) ⟨Nat.le_of_ble_eq_true rfl, Nat.le_of_ble_eq_true rfl⟩) hK hP [] rfl rfl hl.1 rfl (Nat.le_of_ble_eq_true rfl) dX9_wider_58 ⟨Nat.zero_le _, Nat.zero_le _⟩) (fun r5 h => ?_)
                refine lv_if_eq (tgt := 76) hx hb dX9_wider_61 (by decide) (fun c61 => ?_) (fun c61 => ?_)
                · have h := sat_t c61 h
                  refine lv_iconst (v := 0) hx hb dX9_wider_76 (by decide) ?_
                  refine lv_ior hx hb dX9_wider_77 ?_
                  refine lv_istore_n (lv' := [(2, .int (x2_37 ||| 0)), (0, .ref a), (1, .int x1), (3, .int x3_32), (4, .int x4_37)]) hx hb dX9_wider_78 rfl hl (by decide) rfl (fun ls hl => ?_)
                  refine lv_iinc (v := x4_37 + 1) (lv' := [(4, .int (x4_37 + 1)), (2, .int (x2_37 ||| 0)), (0, .ref a), (1, .int x1), (3, .int x3_32)]) hx hb dX9_wider_79 hl (k := 4) rfl rfl (by decide) rfl (fun ls hl => ?_)
                  refine lv_goto (tgt := 37) hx hb dX9_wider_82 (by decide) ?_
                  have h := lk_l (sat_some h)
                  exact ih (x2_37 ||| 0) (x4_37 + 1) ls h (lv_sub hl [2, 3, 1, 4, 0] rfl)
                · have h := sat_f c61 h
                  refine lv_iconst (v := 1) hx hb dX9_wider_64 (by decide) ?_
                  refine lv_aload_n hx hb dX9_wider_65 rfl (lv_at hl 0 rfl) ?_
                  refine lv_iload_n hx hb dX9_wider_66 rfl (lv_at hl 3 rfl) ?_
                  refine lv_iload hx hb dX9_wider_67 (lv_at hl 4 rfl) ?_
                  refine cr_i (rv (As := [.int x3_32, .int x4_37]) (rest := [.int 1, .int x2_37]) ⟨hx, hb, hml, hown, hts⟩ (c_X9_ff l D y a a_now a_undos a_seen a_isKept a_kept a_text a_read a_congruences a_terms v_undoMany v_undoAt v_seenMany v_letterMany v_readAt v_tokenAt v_token v_faultAt v_readItems v_congruenceMany v_termMany v_rounds v_now x3_32 x4_37 _ (sat_bind h)) (cwV 2 hts gX9_wider_X9_ff rfl rfl rfl (by decide +kernel) ⟨Nat.le_of_ble_eq_true rfl, Nat.le_of_ble_eq_true rfl⟩) hK hP [0, 1] rfl 0 6 rfl rfl rfl rfl hl.1 rfl (Nat.le_of_ble_eq_true rfl) dX9_wider_69 ⟨Nat.zero_le _, Nat.zero_le _⟩) (fun r6 h => ?_)
                  refine lv_ishl hx hb dX9_wider_72 ?_
                  refine lv_goto (tgt := 77) hx hb dX9_wider_73 (by decide) ?_
                  refine lv_ior hx hb dX9_wider_77 ?_
                  refine lv_istore_n (lv' := [(2, .int (x2_37 ||| (1 <<< (r6 &&& 31)))), (0, .ref a), (1, .int x1), (3, .int x3_32), (4, .int x4_37)]) hx hb dX9_wider_78 rfl hl (by decide) rfl (fun ls hl => ?_)
                  refine lv_iinc (v := x4_37 + 1) (lv' := [(4, .int (x4_37 + 1)), (2, .int (x2_37 ||| (1 <<< (r6 &&& 31)))), (0, .ref a), (1, .int x1), (3, .int x3_32)]) hx hb dX9_wider_79 hl (k := 4) rfl rfl (by decide) rfl (fun ls hl => ?_)
                  refine lv_goto (tgt := 37) hx hb dX9_wider_82 (by decide) ?_
                  have h := lk_l (sat_some h)
                  exact ih (x2_37 ||| (1 <<< (r6 &&& 31))) (x4_37 + 1) ls h (lv_sub hl [2, 3, 1, 4, 0] rfl)
        have h := sat_bind h
        refine hL37 _ (fun z37 ls h hl => ?_) 1000 (t0_32 ||| t1_32) 0 ls h (lv_sub hl [2, 3, 1, 4, 0] rfl)
        refine lv_iinc (v := x3_32 + 1) (lv' := [(3, .int (x3_32 + 1)), (0, .ref a), (1, .int x1), (2, .int z37)]) hx hb dX9_wider_85 hl (k := 3) rfl rfl (by decide) rfl (fun ls hl => ?_)
        refine lv_goto (tgt := 4) hx hb dX9_wider_88 (by decide) ?_
        have h := lk_l (sat_some h)
        exact ih z37 (x3_32 + 1) ls h (lv_sub hl [1, 2, 3, 0] rfl)
      unfold m_X9_wider_s4 at h
      refine lv_iload_n hx hb dX9_wider_4 rfl (lv_at hl 3 rfl) ?_
      refine lv_aload_n hx hb dX9_wider_5 rfl (lv_at hl 0 rfl) ?_
      refine cr_i (rv (As := []) (rest := [.int x3_4]) ⟨hx, hb, hml, hown, hts⟩ (c_X9_size l D y a a_now a_undos a_seen a_isKept a_kept a_text a_read a_congruences a_terms v_undoMany v_undoAt v_seenMany v_letterMany v_readAt v_tokenAt v_token v_faultAt v_readItems v_congruenceMany v_termMany v_rounds v_now _ (sat_bind h)) (cwV 0 hts gX9_wider_X9_size rfl rfl rfl (by decide +kernel) ⟨Nat.le_of_ble_eq_true rfl, Nat.le_of_ble_eq_true rfl⟩) hK hP [0, 1] rfl 0 6 rfl rfl rfl rfl hl.1 rfl (Nat.le_of_ble_eq_true rfl) dX9_wider_6 ⟨Nat.zero_le _, Nat.zero_le _⟩) (fun r7 h => ?_)
      refine lv_icmp_ge (tgt := 91) hx hb dX9_wider_9 (by decide) (fun c9 => ?_) (fun c9 => ?_)
      · have h := sat_t c9 h
        have h := lk_r (sat_some h)
        exact hE4 x2_4 ls h (lv_sub hl [2] rfl)
      · have h := sat_f c9 h
        refine lv_iload_n hx hb dX9_wider_12 rfl (lv_at hl 2 rfl) ?_
        refine lv_iload_n hx hb dX9_wider_13 rfl (lv_at hl 1 rfl) ?_
        refine lv_iload_n hx hb dX9_wider_14 rfl (lv_at hl 3 rfl) ?_
        refine cr_i (rs (As := [.int x1, .int x3_4]) (rest := [.int x2_4]) ⟨hx, hb, hml, hown, hts⟩ (c_X9_has l D y x1 x3_4 _ (sat_bind h)) (va_cwS 2 hts gX9_wider_X9_has rfl rfl rfl (by decide +kernel) ⟨Nat.le_of_ble_eq_true rfl, Nat.le_of_ble_eq_true rfl⟩) hK hP [] rfl rfl hl.1 rfl (Nat.le_of_ble_eq_true rfl) dX9_wider_15 ⟨Nat.zero_le _, Nat.zero_le _⟩) (fun r8 h => ?_)
        refine lv_if_eq (tgt := 31) hx hb dX9_wider_18 (by decide) (fun c18 => ?_) (fun c18 => ?_)
        · have h := sat_t c18 h
          refine lv_iconst (v := 0) hx hb dX9_wider_31 (by decide) ?_
          exact hJ32 x3_4 x2_4 0 ls h (lv_sub hl [0, 1, 3] rfl)
        · have h := sat_f c18 h
          refine lv_iconst (v := 1) hx hb dX9_wider_21 (by decide) ?_
          refine lv_aload_n hx hb dX9_wider_22 rfl (lv_at hl 0 rfl) ?_
          refine lv_iload_n hx hb dX9_wider_23 rfl (lv_at hl 3 rfl) ?_
          refine cr_i (rv (As := [.int x3_4]) (rest := [.int 1, .int x2_4]) ⟨hx, hb, hml, hown, hts⟩ (c_X9_gg l D y a a_now a_undos a_seen a_isKept a_kept a_text a_read a_congruences a_terms v_undoMany v_undoAt v_seenMany v_letterMany v_readAt v_tokenAt v_token v_faultAt v_readItems v_congruenceMany v_termMany v_rounds v_now x3_4 _ (sat_bind h)) (cwV 1 hts gX9_wider_X9_gg rfl rfl rfl (by decide +kernel) ⟨Nat.le_of_ble_eq_true rfl, Nat.le_of_ble_eq_true rfl⟩) hK hP [0, 1] rfl 0 6 rfl rfl rfl rfl hl.1 rfl (Nat.le_of_ble_eq_true rfl) dX9_wider_24 ⟨Nat.zero_le _, Nat.zero_le _⟩) (fun r9 h => ?_)
          refine lv_ishl hx hb dX9_wider_27 ?_
          refine lv_goto (tgt := 32) hx hb dX9_wider_28 (by decide) ?_
          exact hJ32 x3_4 x2_4 (1 <<< (r9 &&& 31)) ls h (lv_sub hl [0, 1, 3] rfl)
  have h := sat_bind h
  refine hL4 _ (fun z4 ls h hl => ?_) 1000 x1 0 ls h (lv_sub hl [2, 3, 1, 0] rfl)
  refine lv_iload_n hx hb dX9_wider_91 rfl (lv_at hl 0 rfl) ?_
  have h := sat_some h
  exact W.iret (v := z4) hx hb hr (fun t ht _ => ⟨z4, rfl, h, ht⟩) (fun _ hq => by cases hq) dX9_wider_92

/-! X9_setMany -/
set_option maxHeartbeats 4000000 in
set_option maxRecDepth 100000 in
theorem c_X9_setMany (l : Launch) (D : va_G) (y : ClassId × ClassId × ClassId × ClassId) (a a_now a_undos a_seen a_isKept a_kept a_text a_read a_congruences a_terms : Nat) (v_undoMany : Int32) (v_undoAt : Int32) (v_seenMany : Int32) (v_letterMany : Int32) (v_readAt : Int32) (v_tokenAt : Int32) (v_token : Int32) (v_faultAt : Int32) (v_readItems : Int32) (v_congruenceMany : Int32) (v_termMany : Int32) (v_rounds : Int32) (v_now : Nat → Int32) (K : Int32 → Prop) (h : sat (m_X9_setMany v_now) K) : Met l yX9_setMany wsX9_setMany ({ frames := 1, cells := 0, slots := 0, locals := 20 } : Room) (pR D y ([.ref a] : List Value) [(a, .inr (6, [.ref a_now, .int v_undoMany, .int v_undoAt, .ref a_undos, .int v_seenMany, .ref a_seen, .ref a_isKept, .ref a_kept, .int v_letterMany, .ref a_text, .int v_readAt, .int v_tokenAt, .int v_token, .int v_faultAt, .int v_readItems, .ref a_read, .int v_congruenceMany, .ref a_congruences, .int v_termMany, .int v_rounds, .ref a_terms])), (a_now, .inl (y.1, 21, .inl v_now))]) (qSi K) 0 0 (fun _ => False) := by
  refine Met.ofW (cc := cX9_setMany) (maxL := 1) (ret := (some .int)) (by decide) rfl ?_
  intro p e s m args below meth c s₁ B hml hv
  obtain ⟨rfl, hP, hK⟩ := hv
  have hx := B.exec
  have hb := B.bytes
  have hr := B.returns
  have hts := atoms_spec (ws := wsX9_setMany) B.pre
  have hown : s.vm.findClass RX9 = some m.cls := findClass_of_methodNamed B.named
  have hlocks := B.notSynchronized
  have hl := lv_entry ([.ref a] : List Value) (n := 1) (Nat.le_of_ble_eq_true rfl)
  rw [lg_entry_eq]
  generalize (lg_sl ([.ref a] : List Value) ++ List.replicate (1 - (lg_sl ([.ref a] : List Value)).length) Slot.unset).toArray = ls at hl ⊢
  have hl : lv_has ls 1 [(0, .ref a)] := hl
  unfold m_X9_setMany at h
  refine lv_iconst (v := 1) hx hb dX9_setMany_0 (by decide) ?_
  refine lv_aload_n hx hb dX9_setMany_1 rfl (lv_at hl 0 rfl) ?_
  refine cr_i (rv (As := []) (rest := [.int 1]) ⟨hx, hb, hml, hown, hts⟩ (c_X9_size l D y a a_now a_undos a_seen a_isKept a_kept a_text a_read a_congruences a_terms v_undoMany v_undoAt v_seenMany v_letterMany v_readAt v_tokenAt v_token v_faultAt v_readItems v_congruenceMany v_termMany v_rounds v_now _ (sat_bind h)) (cwV 0 hts gX9_setMany_X9_size rfl rfl rfl (by decide +kernel) ⟨Nat.le_of_ble_eq_true rfl, Nat.le_of_ble_eq_true rfl⟩) hK hP [0, 1] rfl 0 6 rfl rfl rfl rfl hl.1 rfl (Nat.le_of_ble_eq_true rfl) dX9_setMany_2 ⟨Nat.zero_le _, Nat.zero_le _⟩) (fun r1 h => ?_)
  refine lv_ishl hx hb dX9_setMany_5 ?_
  have h := sat_some h
  exact W.iret (v := 1 <<< (r1 &&& 31)) hx hb hr (fun t ht _ => ⟨1 <<< (r1 &&& 31), rfl, h, ht⟩) (fun _ hq => by cases hq) dX9_setMany_6

/-! X9_made -/
set_option maxHeartbeats 4000000 in
set_option maxRecDepth 100000 in
theorem c_X9_made (l : Launch) (D : va_G) (y : ClassId × ClassId × ClassId × ClassId) (a a_now a_undos a_seen a_isKept a_kept a_text a_read a_congruences a_terms : Nat) (v_undoMany : Int32) (v_undoAt : Int32) (v_seenMany : Int32) (v_letterMany : Int32) (v_readAt : Int32) (v_tokenAt : Int32) (v_token : Int32) (v_faultAt : Int32) (v_readItems : Int32) (v_congruenceMany : Int32) (v_termMany : Int32) (v_rounds : Int32) (v_now : Nat → Int32) (x1 : Int32) (K : Int32 → Prop) (h : sat (m_X9_made v_now x1) K) : Met l yX9_made wsX9_made ({ frames := 2, cells := 0, slots := 0, locals := 46 } : Room) (pR D y ([.ref a, .int x1] : List Value) [(a, .inr (6, [.ref a_now, .int v_undoMany, .int v_undoAt, .ref a_undos, .int v_seenMany, .ref a_seen, .ref a_isKept, .ref a_kept, .int v_letterMany, .ref a_text, .int v_readAt, .int v_tokenAt, .int v_token, .int v_faultAt, .int v_readItems, .ref a_read, .int v_congruenceMany, .ref a_congruences, .int v_termMany, .int v_rounds, .ref a_terms])), (a_now, .inl (y.1, 21, .inl v_now))]) (qSi K) 0 0 (fun _ => False) := by
  refine Met.ofW (cc := cX9_made) (maxL := 3) (ret := (some .int)) (by decide) rfl ?_
  intro p e s m args below meth c s₁ B hml hv
  obtain ⟨rfl, hP, hK⟩ := hv
  have hx := B.exec
  have hb := B.bytes
  have hr := B.returns
  have hts := atoms_spec (ws := wsX9_made) B.pre
  have hown : s.vm.findClass RX9 = some m.cls := findClass_of_methodNamed B.named
  have hlocks := B.notSynchronized
  have hl := lv_entry ([.ref a, .int x1] : List Value) (n := 3) (Nat.le_of_ble_eq_true rfl)
  rw [lg_entry_eq]
  generalize (lg_sl ([.ref a, .int x1] : List Value) ++ List.replicate (3 - (lg_sl ([.ref a, .int x1] : List Value)).length) Slot.unset).toArray = ls at hl ⊢
  have hl : lv_has ls 3 [(0, .ref a), (1, .int x1)] := hl
  unfold m_X9_made at h
  refine lv_iload_n hx hb dX9_made_0 rfl (lv_at hl 1 rfl) ?_
  refine lv_iconst (v := 0) hx hb dX9_made_1 (by decide) ?_
  refine lv_aload_n hx hb dX9_made_2 rfl (lv_at hl 0 rfl) ?_
  refine cr_i (rv (As := []) (rest := [.int 0, .int x1]) ⟨hx, hb, hml, hown, hts⟩ (c_X9_setMany l D y a a_now a_undos a_seen a_isKept a_kept a_text a_read a_congruences a_terms v_undoMany v_undoAt v_seenMany v_letterMany v_readAt v_tokenAt v_token v_faultAt v_readItems v_congruenceMany v_termMany v_rounds v_now _ (sat_bind h)) (cwV 0 hts gX9_made_X9_setMany rfl rfl rfl (by decide +kernel) ⟨Nat.le_of_ble_eq_true rfl, Nat.le_of_ble_eq_true rfl⟩) hK hP [0, 1] rfl 0 6 rfl rfl rfl rfl hl.1 rfl (Nat.le_of_ble_eq_true rfl) dX9_made_3 ⟨Nat.zero_le _, Nat.zero_le _⟩) (fun r1 h => ?_)
  refine lv_iconst (v := 1) hx hb dX9_made_6 (by decide) ?_
  refine lv_isub hx hb dX9_made_7 ?_
  refine cr_i (rs (As := [.int x1, .int 0, .int (r1 - 1)]) (rest := []) ⟨hx, hb, hml, hown, hts⟩ (c_X9_in l D y x1 0 (r1 - 1) _ (sat_bind h)) (va_cwS 3 hts gX9_made_X9_in rfl rfl rfl (by decide +kernel) ⟨Nat.le_of_ble_eq_true rfl, Nat.le_of_ble_eq_true rfl⟩) hK hP [] rfl rfl hl.1 rfl (Nat.le_of_ble_eq_true rfl) dX9_made_8 ⟨Nat.zero_le _, Nat.zero_le _⟩) (fun r2 h => ?_)
  refine lv_if_ne (tgt := 17) hx hb dX9_made_11 (by decide) (fun c11 => ?_) (fun c11 => ?_)
  · have h := sat_f c11 h
    refine lv_iload_n hx hb dX9_made_17 rfl (lv_at hl 1 rfl) ?_
    refine lv_istore_n (lv' := [(2, .int x1), (0, .ref a), (1, .int x1)]) hx hb dX9_made_18 rfl hl (by decide) rfl (fun ls hl => ?_)
    have hL19 : ∀ (K19 : Int32 → Prop)
        (hE19 : ∀ (z19 : Int32) (ls : Array Slot), K19 z19 → lv_has ls 3 [(2, .int z19)] → W p l e (headSpec wsX9_made ({ frames := 2, cells := 0, slots := 0, locals := 46 } : Room)).room s m ([.ref a, .int x1] : List Value).toArray below meth c s.heap [] 0 0 (MQ below (qSi K) ([.ref a, .int x1] : List Value).toArray s 0 0 (fun _ => False)) (F0 m 37 ls []))
        (n : Nat) (x2_19 : Int32) (ls : Array Slot), sat (lp (fun q : Int32 => m_X9_made_s19 v_now q) n x2_19) K19 → lv_has ls 3 [(0, .ref a), (2, .int x2_19)] → W p l e (headSpec wsX9_made ({ frames := 2, cells := 0, slots := 0, locals := 46 } : Room)).room s m ([.ref a, .int x1] : List Value).toArray below meth c s.heap [] 0 0 (MQ below (qSi K) ([.ref a, .int x1] : List Value).toArray s 0 0 (fun _ => False)) (F0 m 19 ls []) := by
      intro K19 hE19 n
      induction n with
      | zero => intro x2_19 ls h; exact (sat_lp0 h).elim
      | succ n ih =>
        intro x2_19 ls h hl
        have h := sat_lp h
        have h : sat (m_X9_made_s19 v_now x2_19) (lk (fun s' => sat (lp (fun q : Int32 => m_X9_made_s19 v_now q) n s') K19) K19) := h
        unfold m_X9_made_s19 at h
        refine lv_aload_n hx hb dX9_made_19 rfl (lv_at hl 0 rfl) ?_
        refine lv_iload_n hx hb dX9_made_20 rfl (lv_at hl 1 rfl) ?_
        refine cr_i (rv (As := [.int x2_19]) (rest := []) ⟨hx, hb, hml, hown, hts⟩ (c_X9_wider l D y a a_now a_undos a_seen a_isKept a_kept a_text a_read a_congruences a_terms v_undoMany v_undoAt v_seenMany v_letterMany v_readAt v_tokenAt v_token v_faultAt v_readItems v_congruenceMany v_termMany v_rounds v_now x2_19 _ (sat_bind h)) (cwV 1 hts gX9_made_X9_wider rfl rfl rfl (by decide +kernel) ⟨Nat.le_of_ble_eq_true rfl, Nat.le_of_ble_eq_true rfl⟩) hK hP [0, 1] rfl 0 6 rfl rfl rfl rfl hl.1 rfl (Nat.le_of_ble_eq_true rfl) dX9_made_21 ⟨Nat.zero_le _, Nat.zero_le _⟩) (fun r4 h => ?_)
        refine lv_iload_n hx hb dX9_made_24 rfl (lv_at hl 1 rfl) ?_
        refine lv_icmp_eq (tgt := 37) hx hb dX9_made_25 (by decide) (fun c25 => ?_) (fun c25 => ?_)
        · have h := sat_t c25 h
          have h := lk_r (sat_some h)
          exact hE19 x2_19 ls h (lv_sub hl [1] rfl)
        · have h := sat_f c25 h
          refine lv_aload_n hx hb dX9_made_28 rfl (lv_at hl 0 rfl) ?_
          refine lv_iload_n hx hb dX9_made_29 rfl (lv_at hl 1 rfl) ?_
          refine cr_i (rv (As := [.int x2_19]) (rest := []) ⟨hx, hb, hml, hown, hts⟩ (c_X9_wider l D y a a_now a_undos a_seen a_isKept a_kept a_text a_read a_congruences a_terms v_undoMany v_undoAt v_seenMany v_letterMany v_readAt v_tokenAt v_token v_faultAt v_readItems v_congruenceMany v_termMany v_rounds v_now x2_19 _ (sat_bind h)) (cwV 1 hts gX9_made_X9_wider rfl rfl rfl (by decide +kernel) ⟨Nat.le_of_ble_eq_true rfl, Nat.le_of_ble_eq_true rfl⟩) hK hP [0, 1] rfl 0 6 rfl rfl rfl rfl hl.1 rfl (Nat.le_of_ble_eq_true rfl) dX9_made_30 ⟨Nat.zero_le _, Nat.zero_le _⟩) (fun r5 h => ?_)
          refine lv_istore_n (lv' := [(2, .int r5), (0, .ref a)]) hx hb dX9_made_33 rfl hl (by decide) rfl (fun ls hl => ?_)
          refine lv_goto (tgt := 19) hx hb dX9_made_34 (by decide) ?_
          have h := lk_l (sat_some h)
          exact ih r5 ls h (lv_sub hl [1, 0] rfl)
    have h := sat_bind h
    refine hL19 _ (fun z19 ls h hl => ?_) 1000 x1 ls h (lv_sub hl [1, 0] rfl)
    refine lv_iload_n hx hb dX9_made_37 rfl (lv_at hl 0 rfl) ?_
    have h := sat_some h
    exact W.iret (v := z19) hx hb hr (fun t ht _ => ⟨z19, rfl, h, ht⟩) (fun _ hq => by cases hq) dX9_made_38
  · have h := sat_t c11 h
    refine lv_bipush (v := (-2)) hx hb dX9_made_14 (by decide) ?_
    have h := sat_some h
    exact W.iret (v := (-2)) hx hb hr (fun t ht _ => ⟨(-2), rfl, h, ht⟩) (fun _ hq => by cases hq) dX9_made_16

/-! X9_closedOf -/
set_option maxHeartbeats 4000000 in
set_option maxRecDepth 100000 in
theorem c_X9_closedOf (l : Launch) (D : va_G) (y : ClassId × ClassId × ClassId × ClassId) (a a_now a_undos a_seen a_isKept a_kept a_text a_read a_congruences a_terms : Nat) (v_undoMany : Int32) (v_undoAt : Int32) (v_seenMany : Int32) (v_letterMany : Int32) (v_readAt : Int32) (v_tokenAt : Int32) (v_token : Int32) (v_faultAt : Int32) (v_readItems : Int32) (v_congruenceMany : Int32) (v_termMany : Int32) (v_rounds : Int32) (v_now : Nat → Int32) (x1 : Int32) (K : Int32 → Prop) (h : sat (m_X9_closedOf v_now x1) K) : Met l yX9_closedOf wsX9_closedOf ({ frames := 2, cells := 0, slots := 0, locals := 46 } : Room) (pR D y ([.ref a, .int x1] : List Value) [(a, .inr (6, [.ref a_now, .int v_undoMany, .int v_undoAt, .ref a_undos, .int v_seenMany, .ref a_seen, .ref a_isKept, .ref a_kept, .int v_letterMany, .ref a_text, .int v_readAt, .int v_tokenAt, .int v_token, .int v_faultAt, .int v_readItems, .ref a_read, .int v_congruenceMany, .ref a_congruences, .int v_termMany, .int v_rounds, .ref a_terms])), (a_now, .inl (y.1, 21, .inl v_now))]) (qSi K) 0 0 (fun _ => False) := by
  refine Met.ofW (cc := cX9_closedOf) (maxL := 4) (ret := (some .int)) (by decide) rfl ?_
  intro p e s m args below meth c s₁ B hml hv
  obtain ⟨rfl, hP, hK⟩ := hv
  have hx := B.exec
  have hb := B.bytes
  have hr := B.returns
  have hts := atoms_spec (ws := wsX9_closedOf) B.pre
  have hown : s.vm.findClass RX9 = some m.cls := findClass_of_methodNamed B.named
  have hlocks := B.notSynchronized
  have hl := lv_entry ([.ref a, .int x1] : List Value) (n := 4) (Nat.le_of_ble_eq_true rfl)
  rw [lg_entry_eq]
  generalize (lg_sl ([.ref a, .int x1] : List Value) ++ List.replicate (4 - (lg_sl ([.ref a, .int x1] : List Value)).length) Slot.unset).toArray = ls at hl ⊢
  have hl : lv_has ls 4 [(0, .ref a), (1, .int x1)] := hl
  unfold m_X9_closedOf at h
  refine lv_iconst (v := 0) hx hb dX9_closedOf_0 (by decide) ?_
  refine lv_istore_n (lv' := [(2, .int 0), (0, .ref a), (1, .int x1)]) hx hb dX9_closedOf_1 rfl hl (by decide) rfl (fun ls hl => ?_)
  refine lv_iconst (v := 0) hx hb dX9_closedOf_2 (by decide) ?_
  refine lv_istore_n (lv' := [(3, .int 0), (2, .int 0), (0, .ref a), (1, .int x1)]) hx hb dX9_closedOf_3 rfl hl (by decide) rfl (fun ls hl => ?_)
  have hL4 : ∀ (K4 : (Int32 ⊕ Int32) → Prop)
      (hR4 : ∀ (u : Int32), K4 (.inl u) → K u)
      (hE4 : ∀ (z4 : Int32) (ls : Array Slot), K4 (.inr z4) → lv_has ls 4 [(1, .int x1), (2, .int z4)] → W p l e (headSpec wsX9_closedOf ({ frames := 2, cells := 0, slots := 0, locals := 46 } : Room)).room s m ([.ref a, .int x1] : List Value).toArray below meth c s.heap [] 0 0 (MQ below (qSi K) ([.ref a, .int x1] : List Value).toArray s 0 0 (fun _ => False)) (F0 m 37 ls []))
      (n : Nat) (x2_4 : Int32) (x3_4 : Int32) (ls : Array Slot), sat (lp (fun q : (Int32 × Int32) => m_X9_closedOf_s4 v_now x1 q.1 q.2) n (x2_4, x3_4)) K4 → lv_has ls 4 [(0, .ref a), (1, .int x1), (2, .int x2_4), (3, .int x3_4)] → W p l e (headSpec wsX9_closedOf ({ frames := 2, cells := 0, slots := 0, locals := 46 } : Room)).room s m ([.ref a, .int x1] : List Value).toArray below meth c s.heap [] 0 0 (MQ below (qSi K) ([.ref a, .int x1] : List Value).toArray s 0 0 (fun _ => False)) (F0 m 4 ls []) := by
    intro K4 hR4 hE4 n
    induction n with
    | zero => intro x2_4 x3_4 ls h; exact (sat_lp0 h).elim
    | succ n ih =>
      intro x2_4 x3_4 ls h hl
      have h := sat_lp h
      have h : sat (m_X9_closedOf_s4 v_now x1 x2_4 x3_4) (lk (fun s' => sat (lp (fun q : (Int32 × Int32) => m_X9_closedOf_s4 v_now x1 q.1 q.2) n s') K4) K4) := h
      unfold m_X9_closedOf_s4 at h
      refine lv_iload_n hx hb dX9_closedOf_4 rfl (lv_at hl 3 rfl) ?_
      refine lv_aload_n hx hb dX9_closedOf_5 rfl (lv_at hl 0 rfl) ?_
      refine cr_i (rv (As := []) (rest := [.int x3_4]) ⟨hx, hb, hml, hown, hts⟩ (c_X9_setMany l D y a a_now a_undos a_seen a_isKept a_kept a_text a_read a_congruences a_terms v_undoMany v_undoAt v_seenMany v_letterMany v_readAt v_tokenAt v_token v_faultAt v_readItems v_congruenceMany v_termMany v_rounds v_now _ (sat_bind h)) (cwV 0 hts gX9_closedOf_X9_setMany rfl rfl rfl (by decide +kernel) ⟨Nat.le_of_ble_eq_true rfl, Nat.le_of_ble_eq_true rfl⟩) hK hP [0, 1] rfl 0 6 rfl rfl rfl rfl hl.1 rfl (Nat.le_of_ble_eq_true rfl) dX9_closedOf_6 ⟨Nat.zero_le _, Nat.zero_le _⟩) (fun r2 h => ?_)
      refine lv_icmp_ge (tgt := 37) hx hb dX9_closedOf_9 (by decide) (fun c9 => ?_) (fun c9 => ?_)
      · have h := sat_t c9 h
        have h := lk_r (sat_some h)
        exact hE4 x2_4 ls h (lv_sub hl [1, 2] rfl)
      · have h := sat_f c9 h
        refine lv_aload_n hx hb dX9_closedOf_12 rfl (lv_at hl 0 rfl) ?_
        refine lv_iload_n hx hb dX9_closedOf_13 rfl (lv_at hl 3 rfl) ?_
        refine cr_i (rv (As := [.int x3_4]) (rest := []) ⟨hx, hb, hml, hown, hts⟩ (c_X9_wider l D y a a_now a_undos a_seen a_isKept a_kept a_text a_read a_congruences a_terms v_undoMany v_undoAt v_seenMany v_letterMany v_readAt v_tokenAt v_token v_faultAt v_readItems v_congruenceMany v_termMany v_rounds v_now x3_4 _ (sat_bind h)) (cwV 1 hts gX9_closedOf_X9_wider rfl rfl rfl (by decide +kernel) ⟨Nat.le_of_ble_eq_true rfl, Nat.le_of_ble_eq_true rfl⟩) hK hP [0, 1] rfl 0 6 rfl rfl rfl rfl hl.1 rfl (Nat.le_of_ble_eq_true rfl) dX9_closedOf_14 ⟨Nat.zero_le _, Nat.zero_le _⟩) (fun r3 h => ?_)
        refine lv_iload_n hx hb dX9_closedOf_17 rfl (lv_at hl 3 rfl) ?_
        refine lv_icmp_ne (tgt := 31) hx hb dX9_closedOf_18 (by decide) (fun c18 => ?_) (fun c18 => ?_)
        · have h := sat_f c18 h
          refine lv_iinc (v := x3_4 + 1) (lv' := [(3, .int (x3_4 + 1)), (0, .ref a), (1, .int x1), (2, .int x2_4)]) hx hb dX9_closedOf_31 hl (k := 3) rfl rfl (by decide) rfl (fun ls hl => ?_)
          refine lv_goto (tgt := 4) hx hb dX9_closedOf_34 (by decide) ?_
          have h := lk_l (sat_some h)
          exact ih x2_4 (x3_4 + 1) ls h (lv_sub hl [1, 2, 3, 0] rfl)
        · have h := sat_t c18 h
          refine lv_iload_n hx hb dX9_closedOf_21 rfl (lv_at hl 2 rfl) ?_
          refine lv_iload_n hx hb dX9_closedOf_22 rfl (lv_at hl 1 rfl) ?_
          refine lv_icmp_ne (tgt := 28) hx hb dX9_closedOf_23 (by decide) (fun c23 => ?_) (fun c23 => ?_)
          · have h := sat_f c23 h
            refine lv_iinc (v := x2_4 + 1) (lv' := [(2, .int (x2_4 + 1)), (0, .ref a), (1, .int x1), (3, .int x3_4)]) hx hb dX9_closedOf_28 hl (k := 2) rfl rfl (by decide) rfl (fun ls hl => ?_)
            refine lv_iinc (v := x3_4 + 1) (lv' := [(3, .int (x3_4 + 1)), (2, .int (x2_4 + 1)), (0, .ref a), (1, .int x1)]) hx hb dX9_closedOf_31 hl (k := 3) rfl rfl (by decide) rfl (fun ls hl => ?_)
            refine lv_goto (tgt := 4) hx hb dX9_closedOf_34 (by decide) ?_
            have h := lk_l (sat_some h)
            exact ih (x2_4 + 1) (x3_4 + 1) ls h (lv_sub hl [2, 3, 1, 0] rfl)
          · have h := sat_t c23 h
            refine lv_iload_n hx hb dX9_closedOf_26 rfl (lv_at hl 3 rfl) ?_
            have h := hR4 _ (lk_r (sat_some h))
            exact W.iret (v := x3_4) hx hb hr (fun t ht _ => ⟨x3_4, rfl, h, ht⟩) (fun _ hq => by cases hq) dX9_closedOf_27
  have h := sat_bdS h
  refine hL4 _ (fun u h => ?_) (fun z4 ls h hl => ?_) 1000 0 0 ls h (lv_sub hl [2, 3, 1, 0] rfl)
  · have h := lk_l h
    exact sat_some h
  · have h := lk_r h
    refine lv_iload_n hx hb dX9_closedOf_37 rfl (lv_at hl 0 rfl) ?_
    refine lv_if_ge (tgt := 45) hx hb dX9_closedOf_38 (by decide) (fun c38 => ?_) (fun c38 => ?_)
    · have h := sat_t c38 h
      refine lv_bipush (v := (-9)) hx hb dX9_closedOf_45 (by decide) ?_
      have h := sat_some h
      exact W.iret (v := (-9)) hx hb hr (fun t ht _ => ⟨(-9), rfl, h, ht⟩) (fun _ hq => by cases hq) dX9_closedOf_47
    · have h := sat_f c38 h
      refine lv_iload_n hx hb dX9_closedOf_41 rfl (lv_at hl 1 rfl) ?_
      refine lv_goto (tgt := 47) hx hb dX9_closedOf_42 (by decide) ?_
      have h := sat_some h
      exact W.iret (v := z4) hx hb hr (fun t ht _ => ⟨z4, rfl, h, ht⟩) (fun _ hq => by cases hq) dX9_closedOf_47

/-! X9_closed -/
set_option maxHeartbeats 4000000 in
set_option maxRecDepth 100000 in
theorem c_X9_closed (l : Launch) (D : va_G) (y : ClassId × ClassId × ClassId × ClassId) (a a_now a_undos a_seen a_isKept a_kept a_text a_read a_congruences a_terms : Nat) (v_undoMany : Int32) (v_undoAt : Int32) (v_seenMany : Int32) (v_letterMany : Int32) (v_readAt : Int32) (v_tokenAt : Int32) (v_token : Int32) (v_faultAt : Int32) (v_readItems : Int32) (v_congruenceMany : Int32) (v_termMany : Int32) (v_rounds : Int32) (v_now : Nat → Int32) (x1 : Int32) (K : Int32 → Prop) (h : sat (m_X9_closed v_now x1) K) : Met l yX9_closed wsX9_closed ({ frames := 3, cells := 0, slots := 0, locals := 69 } : Room) (pR D y ([.ref a, .int x1] : List Value) [(a, .inr (6, [.ref a_now, .int v_undoMany, .int v_undoAt, .ref a_undos, .int v_seenMany, .ref a_seen, .ref a_isKept, .ref a_kept, .int v_letterMany, .ref a_text, .int v_readAt, .int v_tokenAt, .int v_token, .int v_faultAt, .int v_readItems, .ref a_read, .int v_congruenceMany, .ref a_congruences, .int v_termMany, .int v_rounds, .ref a_terms])), (a_now, .inl (y.1, 21, .inl v_now))]) (qSi K) 0 0 (fun _ => False) := by
  refine Met.ofW (cc := cX9_closed) (maxL := 2) (ret := (some .int)) (by decide) rfl ?_
  intro p e s m args below meth c s₁ B hml hv
  obtain ⟨rfl, hP, hK⟩ := hv
  have hx := B.exec
  have hb := B.bytes
  have hr := B.returns
  have hts := atoms_spec (ws := wsX9_closed) B.pre
  have hown : s.vm.findClass RX9 = some m.cls := findClass_of_methodNamed B.named
  have hlocks := B.notSynchronized
  have hl := lv_entry ([.ref a, .int x1] : List Value) (n := 2) (Nat.le_of_ble_eq_true rfl)
  rw [lg_entry_eq]
  generalize (lg_sl ([.ref a, .int x1] : List Value) ++ List.replicate (2 - (lg_sl ([.ref a, .int x1] : List Value)).length) Slot.unset).toArray = ls at hl ⊢
  have hl : lv_has ls 2 [(0, .ref a), (1, .int x1)] := hl
  unfold m_X9_closed at h
  refine lv_iload_n hx hb dX9_closed_0 rfl (lv_at hl 1 rfl) ?_
  refine lv_if_ge (tgt := 9) hx hb dX9_closed_1 (by decide) (fun c1 => ?_) (fun c1 => ?_)
  · have h := sat_t c1 h
    refine lv_aload_n hx hb dX9_closed_9 rfl (lv_at hl 0 rfl) ?_
    refine lv_iload_n hx hb dX9_closed_10 rfl (lv_at hl 1 rfl) ?_
    refine cr_i (rv (As := [.int x1]) (rest := []) ⟨hx, hb, hml, hown, hts⟩ (c_X9_closedOf l D y a a_now a_undos a_seen a_isKept a_kept a_text a_read a_congruences a_terms v_undoMany v_undoAt v_seenMany v_letterMany v_readAt v_tokenAt v_token v_faultAt v_readItems v_congruenceMany v_termMany v_rounds v_now x1 _ (sat_bind h)) (cwV 1 hts gX9_closed_X9_closedOf rfl rfl rfl (by decide +kernel) ⟨Nat.le_of_ble_eq_true rfl, Nat.le_of_ble_eq_true rfl⟩) hK hP [0, 1] rfl 0 6 rfl rfl rfl rfl hl.1 rfl (Nat.le_of_ble_eq_true rfl) dX9_closed_11 ⟨Nat.zero_le _, Nat.zero_le _⟩) (fun r1 h => ?_)
    have h := sat_some h
    exact W.iret (v := r1) hx hb hr (fun t ht _ => ⟨r1, rfl, h, ht⟩) (fun _ hq => by cases hq) dX9_closed_14
  · have h := sat_f c1 h
    refine lv_bipush (v := (-2)) hx hb dX9_closed_4 (by decide) ?_
    refine lv_goto (tgt := 14) hx hb dX9_closed_6 (by decide) ?_
    have h := sat_some h
    exact W.iret (v := (-2)) hx hb hr (fun t ht _ => ⟨(-2), rfl, h, ht⟩) (fun _ hq => by cases hq) dX9_closed_14
