/-! X6_placeOfTwo -/
set_option maxHeartbeats 4000000 in
set_option maxRecDepth 100000 in
theorem c_X6_placeOfTwo (l : Launch) (D : va_G) (y : ClassId × ClassId × ClassId × ClassId) (x0 : Int32) (x1 : Int32) (K : Int32 → Prop) (h : sat (m_X6_placeOfTwo x0 x1) K) : Met l yX6_placeOfTwo wsX6_placeOfTwo ({ frames := 0, cells := 0, slots := 0, locals := 0 } : Room) (pR D y ([.int x0, .int x1] : List Value) []) (qSi K) 0 0 (fun _ => False) := by
  refine Met.ofW (cc := cX6_placeOfTwo) (maxL := 2) (ret := (some .int)) (by decide) rfl ?_
  intro p e s m args below meth c s₁ B hml hv
  obtain ⟨rfl, hP, hK⟩ := hv
  have hx := B.exec
  have hb := B.bytes
  have hr := B.returns
  have hts := atoms_spec (ws := wsX6_placeOfTwo) B.pre
  have hown : s.vm.findClass RX6 = some m.cls := findClass_of_methodNamed B.named
  have hlocks := B.notSynchronized
  have hl := lv_entry ([.int x0, .int x1] : List Value) (n := 2) (Nat.le_of_ble_eq_true rfl)
  rw [lg_entry_eq]
  generalize (lg_sl ([.int x0, .int x1] : List Value) ++ List.replicate (2 - (lg_sl ([.int x0, .int x1] : List Value)).length) Slot.unset).toArray = ls at hl ⊢
  have hl : lv_has ls 2 [(0, .int x0), (1, .int x1)] := hl
  unfold m_X6_placeOfTwo at h
  refine lv_iload_n hx hb dX6_placeOfTwo_0 rfl (lv_at hl 0 rfl) ?_
  refine lv_iconst (v := 3) hx hb dX6_placeOfTwo_1 (by decide) ?_
  refine lv_iand hx hb dX6_placeOfTwo_2 ?_
  refine lv_iconst (v := 2) hx hb dX6_placeOfTwo_3 (by decide) ?_
  refine lv_ishl hx hb dX6_placeOfTwo_4 ?_
  refine lv_iload_n hx hb dX6_placeOfTwo_5 rfl (lv_at hl 1 rfl) ?_
  refine lv_iconst (v := 3) hx hb dX6_placeOfTwo_6 (by decide) ?_
  refine lv_iand hx hb dX6_placeOfTwo_7 ?_
  refine lv_ior hx hb dX6_placeOfTwo_8 ?_
  have h := sat_some h
  exact W.iret (v := ((x0 &&& 3) <<< (2 &&& 31)) ||| (x1 &&& 3)) hx hb hr (fun t ht _ => ⟨((x0 &&& 3) <<< (2 &&& 31)) ||| (x1 &&& 3), rfl, h, ht⟩) (fun _ hq => by cases hq) dX6_placeOfTwo_9

/-! X6_placeOfOne -/
set_option maxHeartbeats 4000000 in
set_option maxRecDepth 100000 in
theorem c_X6_placeOfOne (l : Launch) (D : va_G) (y : ClassId × ClassId × ClassId × ClassId) (x0 : Int32) (K : Int32 → Prop) (h : sat (m_X6_placeOfOne x0) K) : Met l yX6_placeOfOne wsX6_placeOfOne ({ frames := 0, cells := 0, slots := 0, locals := 0 } : Room) (pR D y ([.int x0] : List Value) []) (qSi K) 0 0 (fun _ => False) := by
  refine Met.ofW (cc := cX6_placeOfOne) (maxL := 1) (ret := (some .int)) (by decide) rfl ?_
  intro p e s m args below meth c s₁ B hml hv
  obtain ⟨rfl, hP, hK⟩ := hv
  have hx := B.exec
  have hb := B.bytes
  have hr := B.returns
  have hts := atoms_spec (ws := wsX6_placeOfOne) B.pre
  have hown : s.vm.findClass RX6 = some m.cls := findClass_of_methodNamed B.named
  have hlocks := B.notSynchronized
  have hl := lv_entry ([.int x0] : List Value) (n := 1) (Nat.le_of_ble_eq_true rfl)
  rw [lg_entry_eq]
  generalize (lg_sl ([.int x0] : List Value) ++ List.replicate (1 - (lg_sl ([.int x0] : List Value)).length) Slot.unset).toArray = ls at hl ⊢
  have hl : lv_has ls 1 [(0, .int x0)] := hl
  unfold m_X6_placeOfOne at h
  refine lv_bipush (v := 16) hx hb dX6_placeOfOne_0 (by decide) ?_
  refine lv_iload_n hx hb dX6_placeOfOne_2 rfl (lv_at hl 0 rfl) ?_
  refine lv_iconst (v := 3) hx hb dX6_placeOfOne_3 (by decide) ?_
  refine lv_iand hx hb dX6_placeOfOne_4 ?_
  refine lv_ior hx hb dX6_placeOfOne_5 ?_
  have h := sat_some h
  exact W.iret (v := 16 ||| (x0 &&& 3)) hx hb hr (fun t ht _ => ⟨16 ||| (x0 &&& 3), rfl, h, ht⟩) (fun _ hq => by cases hq) dX6_placeOfOne_6

/-! X6_startOver -/
set_option maxHeartbeats 4000000 in
set_option maxRecDepth 100000 in
theorem c_X6_startOver (l : Launch) (D : va_G) (y : ClassId × ClassId × ClassId × ClassId) (a a_values : Nat) (v_size : Int32) (v_values : Nat → Int32) (x1 : Int32) (sz : Nat) (A : Nat → Prop) (hAe : va_A [(a, .inr (3, [.int v_size, .ref a_values])), (a_values, .inl (y.1, 20, .inl v_values))] sz = A) (K : (Int32 × (Nat → Int32)) → Prop) (h : sat (m_X6_startOver v_size v_values x1) K) : Met l yX6_startOver wsX6_startOver ({ frames := 1, cells := 0, slots := 0, locals := 21 } : Room) (pW D y ([.ref a, .int x1] : List Value) [(a, .inr (3, [.int v_size, .ref a_values])), (a_values, .inl (y.1, 20, .inl v_values))] sz) (va_Qv K (bW D y A (fun u : (Int32 × (Nat → Int32)) => [(a, .inr (3, [.int u.1, .ref a_values])), (a_values, .inl (y.1, 20, .inl u.2))])) A) 0 0 A := by
  refine Met.ofW (cc := cX6_startOver) (maxL := 4) (ret := none) (by decide) rfl ?_
  intro p e s m args below meth c s₁ B hml hv
  obtain ⟨rfl, hsz, hP, hK, hD0⟩ := hv
  have hx := B.exec
  have hb := B.bytes
  have hr := B.returns
  have hts := atoms_spec (ws := wsX6_startOver) B.pre
  have hown : s.vm.findClass RX6 = some m.cls := findClass_of_methodNamed B.named
  have hlocks := B.notSynchronized
  subst hsz
  have hD : va_D A [(a, .inr (3, [.int v_size, .ref a_values])), (a_values, .inl (y.1, 20, .inl v_values))] := hAe ▸ hD0.self
  have hA : ∀ q : Nat, s.heap.size ≤ q → A q := fun q h => hAe ▸ Or.inr h
  have hS : va_S A s.heap s.heap [] := va_S.rf
  have iX6 : ∀ w ∈ wsX60, w ∈ wsX6_startOver := by decide +kernel
  have fl13 := hts (.fieldLink RX6 13 "AlgebraLaws$Tables" "size" "I") (by decide +kernel)
  have fl9 := hts (.fieldLink RX6 9 "AlgebraLaws$Tables" "values" "[I") (by decide +kernel)
  have hl := lv_entry ([.ref a, .int x1] : List Value) (n := 4) (Nat.le_of_ble_eq_true rfl)
  rw [lg_entry_eq]
  generalize (lg_sl ([.ref a, .int x1] : List Value) ++ List.replicate (4 - (lg_sl ([.ref a, .int x1] : List Value)).length) Slot.unset).toArray = ls at hl ⊢
  have hl : lv_has ls 4 [(0, .ref a), (1, .int x1)] := hl
  unfold m_X6_startOver at h
  refine lv_aload_n hx hb dX6_startOver_0 rfl (lv_at hl 0 rfl) ?_
  refine lv_iload_n hx hb dX6_startOver_1 rfl (lv_at hl 1 rfl) ?_
  refine pf (D := D) (ci := 3) (v := .int x1) (ty := .int) (C := RX6) (T := TX6) (N := 2) (wn := [(a, .inr (3, [.int x1, .ref a_values])), (a_values, .inl (y.1, 20, .inl v_values))]) hx hb hts iX6 tyX6 tyX6_ok nmX6 hown hK hP hD hS 0 rfl rfl 0 (by decide) fl13 (fun _ h9 => h9) rfl (by decide +kernel) rfl rfl (Nat.le_of_ble_eq_true rfl) dX6_startOver_2 rfl (fun H locs hP hD hS => ?_)
  refine lv_iconst (v := 0) hx hb dX6_startOver_5 (by decide) ?_
  refine lv_istore_n (lv' := [(2, .int 0), (0, .ref a), (1, .int x1)]) hx hb dX6_startOver_6 rfl hl (by decide) rfl (fun ls hl => ?_)
  have hL7 : ∀ (K7 : ((Nat → Int32)) → Prop)
      (hE7 : ∀ (z7 : ((Nat → Int32))) (ls : Array Slot) (H : Heap) (locs : List Loc), K7 z7 → lv_has ls 4 [] → va_P D vwCl [(a, .inr (3, [.int x1, .ref a_values])), (a_values, .inl (y.1, 20, .inl z7))] H → va_D A [(a, .inr (3, [.int x1, .ref a_values])), (a_values, .inl (y.1, 20, .inl z7))] → va_S A s.heap H locs → W p l e (headSpec wsX6_startOver ({ frames := 1, cells := 0, slots := 0, locals := 21 } : Room)).room s m ([.ref a, .int x1] : List Value).toArray below meth c H locs 0 0 (MQ below (va_Qv K (bW D y A (fun u : (Int32 × (Nat → Int32)) => [(a, .inr (3, [.int u.1, .ref a_values])), (a_values, .inl (y.1, 20, .inl u.2))])) A) ([.ref a, .int x1] : List Value).toArray s 0 0 A) (F0 m 52 ls []))
      (n : Nat) (x2_7 : Int32) (v_values_7 : Nat → Int32) (ls : Array Slot) (H : Heap) (locs : List Loc), sat (lp (fun q : (Int32 × (Nat → Int32)) => m_X6_startOver_s7  q.1 q.2) n (x2_7, v_values_7)) K7 → lv_has ls 4 [(0, .ref a), (2, .int x2_7)] → va_P D vwCl [(a, .inr (3, [.int x1, .ref a_values])), (a_values, .inl (y.1, 20, .inl v_values_7))] H → va_D A [(a, .inr (3, [.int x1, .ref a_values])), (a_values, .inl (y.1, 20, .inl v_values_7))] → va_S A s.heap H locs → W p l e (headSpec wsX6_startOver ({ frames := 1, cells := 0, slots := 0, locals := 21 } : Room)).room s m ([.ref a, .int x1] : List Value).toArray below meth c H locs 0 0 (MQ below (va_Qv K (bW D y A (fun u : (Int32 × (Nat → Int32)) => [(a, .inr (3, [.int u.1, .ref a_values])), (a_values, .inl (y.1, 20, .inl u.2))])) A) ([.ref a, .int x1] : List Value).toArray s 0 0 A) (F0 m 7 ls []) := by
    intro K7 hE7 n
    induction n with
    | zero => intro x2_7 v_values_7 ls H locs h; exact (sat_lp0 h).elim
    | succ n ih =>
      intro x2_7 v_values_7 ls H locs h hl hP hD hS
      have h := sat_lp h
      have h : sat (m_X6_startOver_s7  x2_7 v_values_7) (lk (fun s' => sat (lp (fun q : (Int32 × (Nat → Int32)) => m_X6_startOver_s7  q.1 q.2) n s') K7) K7) := h
      unfold m_X6_startOver_s7 at h
      refine lv_iload_n hx hb dX6_startOver_7 rfl (lv_at hl 1 rfl) ?_
      refine lv_iconst (v := 4) hx hb dX6_startOver_8 (by decide) ?_
      refine lv_icmp_ge (tgt := 52) hx hb dX6_startOver_9 (by decide) (fun c9 => ?_) (fun c9 => ?_)
      · have h := sat_t c9 h
        have h := lk_r (sat_some h)
        exact hE7 v_values_7 ls H locs h (lv_sub hl [] rfl) hP hD hS
      · have h := sat_f c9 h
        refine lv_iconst (v := 0) hx hb dX6_startOver_12 (by decide) ?_
        refine lv_istore_n (lv' := [(3, .int 0), (0, .ref a), (2, .int x2_7)]) hx hb dX6_startOver_13 rfl hl (by decide) rfl (fun ls hl => ?_)
        have hL14 : ∀ (K14 : ((Nat → Int32)) → Prop)
            (hE14 : ∀ (z14 : ((Nat → Int32))) (ls : Array Slot) (H : Heap) (locs : List Loc), K14 z14 → lv_has ls 4 [(0, .ref a), (2, .int x2_7)] → va_P D vwCl [(a, .inr (3, [.int x1, .ref a_values])), (a_values, .inl (y.1, 20, .inl z14))] H → va_D A [(a, .inr (3, [.int x1, .ref a_values])), (a_values, .inl (y.1, 20, .inl z14))] → va_S A s.heap H locs → W p l e (headSpec wsX6_startOver ({ frames := 1, cells := 0, slots := 0, locals := 21 } : Room)).room s m ([.ref a, .int x1] : List Value).toArray below meth c H locs 0 0 (MQ below (va_Qv K (bW D y A (fun u : (Int32 × (Nat → Int32)) => [(a, .inr (3, [.int u.1, .ref a_values])), (a_values, .inl (y.1, 20, .inl u.2))])) A) ([.ref a, .int x1] : List Value).toArray s 0 0 A) (F0 m 36 ls []))
            (n : Nat) (x3_14 : Int32) (v_values_14 : Nat → Int32) (ls : Array Slot) (H : Heap) (locs : List Loc), sat (lp (fun q : (Int32 × (Nat → Int32)) => m_X6_startOver_s14 x2_7 q.1 q.2) n (x3_14, v_values_14)) K14 → lv_has ls 4 [(0, .ref a), (2, .int x2_7), (3, .int x3_14)] → va_P D vwCl [(a, .inr (3, [.int x1, .ref a_values])), (a_values, .inl (y.1, 20, .inl v_values_14))] H → va_D A [(a, .inr (3, [.int x1, .ref a_values])), (a_values, .inl (y.1, 20, .inl v_values_14))] → va_S A s.heap H locs → W p l e (headSpec wsX6_startOver ({ frames := 1, cells := 0, slots := 0, locals := 21 } : Room)).room s m ([.ref a, .int x1] : List Value).toArray below meth c H locs 0 0 (MQ below (va_Qv K (bW D y A (fun u : (Int32 × (Nat → Int32)) => [(a, .inr (3, [.int u.1, .ref a_values])), (a_values, .inl (y.1, 20, .inl u.2))])) A) ([.ref a, .int x1] : List Value).toArray s 0 0 A) (F0 m 14 ls []) := by
          intro K14 hE14 n
          induction n with
          | zero => intro x3_14 v_values_14 ls H locs h; exact (sat_lp0 h).elim
          | succ n ih =>
            intro x3_14 v_values_14 ls H locs h hl hP hD hS
            have h := sat_lp h
            have h : sat (m_X6_startOver_s14 x2_7 x3_14 v_values_14) (lk (fun s' => sat (lp (fun q : (Int32 × (Nat → Int32)) => m_X6_startOver_s14 x2_7 q.1 q.2) n s') K14) K14) := h
            unfold m_X6_startOver_s14 at h
            refine lv_iload_n hx hb dX6_startOver_14 rfl (lv_at hl 2 rfl) ?_
            refine lv_iconst (v := 4) hx hb dX6_startOver_15 (by decide) ?_
            refine lv_icmp_ge (tgt := 36) hx hb dX6_startOver_16 (by decide) (fun c16 => ?_) (fun c16 => ?_)
            · have h := sat_t c16 h
              have h := lk_r (sat_some h)
              exact hE14 v_values_14 ls H locs h (lv_sub hl [0, 1] rfl) hP hD hS
            · have h := sat_f c16 h
              refine lv_aload_n hx hb dX6_startOver_19 rfl (lv_at hl 0 rfl) ?_
              refine va_get (D := D) (ci := 3) (v := .ref a_values) (C := RX6) (T := TX6) (N := 2) hx hb hts iX6 hown hK hP 0 rfl rfl 1 (by decide) fl9 (fun _ h9 => h9) rfl dX6_startOver_20 ?_
              refine lv_iload_n hx hb dX6_startOver_23 rfl (lv_at hl 1 rfl) ?_
              refine lv_iload_n hx hb dX6_startOver_24 rfl (lv_at hl 2 rfl) ?_
              refine cr_i (rs (As := [.int x2_7, .int x3_14]) (rest := [.ref a_values]) ⟨hx, hb, hml, hown, hts⟩ (c_X6_placeOfTwo l D y x2_7 x3_14 _ (sat_bind h)) (va_cwS 2 hts gX6_startOver_X6_placeOfTwo rfl rfl rfl (by decide +kernel) ⟨Nat.le_of_ble_eq_true rfl, Nat.le_of_ble_eq_true rfl⟩) hK hP [] rfl rfl hl.1 rfl (Nat.le_of_ble_eq_true rfl) dX6_startOver_25 ⟨Nat.zero_le _, Nat.zero_le _⟩) (fun r3 h => ?_)
              refine lv_iload_n hx hb dX6_startOver_28 rfl (lv_at hl 1 rfl) ?_
              obtain ⟨f4, ef4, hin, h⟩ := sat_wrI h
              refine yi (wn := [(a, .inr (3, [.int x1, .ref a_values])), (a_values, .inl (y.1, 20, .inl f4))]) hx hb hK hP hD hS 1 0 rfl rfl ef4 hin dX6_startOver_29 rfl (fun H locs hP hD hS => ?_)
              refine lv_iinc (v := x3_14 + 1) (lv' := [(3, .int (x3_14 + 1)), (0, .ref a), (2, .int x2_7)]) hx hb dX6_startOver_30 hl (k := 2) rfl rfl (by decide) rfl (fun ls hl => ?_)
              refine lv_goto (tgt := 14) hx hb dX6_startOver_33 (by decide) ?_
              have h := lk_l (sat_some h)
              exact ih (x3_14 + 1) f4 ls H locs h (lv_sub hl [1, 2, 0] rfl) hP hD hS
        have h := sat_bind h
        refine hL14 _ (fun z14 ls H locs h hl hP hD hS => ?_) 1000 0 v_values_7 ls H locs h (lv_sub hl [1, 2, 0] rfl) hP hD hS
        refine lv_aload_n hx hb dX6_startOver_36 rfl (lv_at hl 0 rfl) ?_
        refine va_get (D := D) (ci := 3) (v := .ref a_values) (C := RX6) (T := TX6) (N := 2) hx hb hts iX6 hown hK hP 0 rfl rfl 1 (by decide) fl9 (fun _ h9 => h9) rfl dX6_startOver_37 ?_
        refine lv_iload_n hx hb dX6_startOver_40 rfl (lv_at hl 1 rfl) ?_
        refine cr_i (rs (As := [.int x2_7]) (rest := [.ref a_values]) ⟨hx, hb, hml, hown, hts⟩ (c_X6_placeOfOne l D y x2_7 _ (sat_bind h)) (va_cwS 1 hts gX6_startOver_X6_placeOfOne rfl rfl rfl (by decide +kernel) ⟨Nat.le_of_ble_eq_true rfl, Nat.le_of_ble_eq_true rfl⟩) hK hP [] rfl rfl hl.1 rfl (Nat.le_of_ble_eq_true rfl) dX6_startOver_41 ⟨Nat.zero_le _, Nat.zero_le _⟩) (fun r5 h => ?_)
        refine lv_iload_n hx hb dX6_startOver_44 rfl (lv_at hl 1 rfl) ?_
        obtain ⟨f6, ef6, hin, h⟩ := sat_wrI h
        refine yi (wn := [(a, .inr (3, [.int x1, .ref a_values])), (a_values, .inl (y.1, 20, .inl f6))]) hx hb hK hP hD hS 1 0 rfl rfl ef6 hin dX6_startOver_45 rfl (fun H locs hP hD hS => ?_)
        refine lv_iinc (v := x2_7 + 1) (lv' := [(2, .int (x2_7 + 1)), (0, .ref a)]) hx hb dX6_startOver_46 hl (k := 1) rfl rfl (by decide) rfl (fun ls hl => ?_)
        refine lv_goto (tgt := 7) hx hb dX6_startOver_49 (by decide) ?_
        have h := lk_l (sat_some h)
        exact ih (x2_7 + 1) f6 ls H locs h (lv_sub hl [1, 0] rfl) hP hD hS
  have h := sat_bind h
  refine hL7 _ (fun z7 ls H locs h hl hP hD hS => ?_) 1000 0 v_values ls H locs h (lv_sub hl [1, 0] rfl) hP hD hS
  have h := sat_some h
  exact W.vret hx hb hr (fun t ht hW => ⟨⟨(x1, z7), rfl, h, by rw [ht]; exact hP, va_K.moved hW.alike hK, hD⟩, hS.F ht⟩) hS.2.2 dX6_startOver_52

/-! X6_has -/
set_option maxHeartbeats 4000000 in
set_option maxRecDepth 100000 in
theorem c_X6_has (l : Launch) (D : va_G) (y : ClassId × ClassId × ClassId × ClassId) (a a_values : Nat) (v_size : Int32) (x1 : Int32) (K : Int32 → Prop) (h : sat (m_X6_has v_size x1) K) : Met l yX6_has wsX6_has ({ frames := 0, cells := 0, slots := 0, locals := 0 } : Room) (pR D y ([.ref a, .int x1] : List Value) [(a, .inr (3, [.int v_size, .ref a_values]))]) (qSi K) 0 0 (fun _ => False) := by
  refine Met.ofW (cc := cX6_has) (maxL := 2) (ret := (some .boolean)) (by decide) rfl ?_
  intro p e s m args below meth c s₁ B hml hv
  obtain ⟨rfl, hP, hK⟩ := hv
  have hx := B.exec
  have hb := B.bytes
  have hr := B.returns
  have hts := atoms_spec (ws := wsX6_has) B.pre
  have hown : s.vm.findClass RX6 = some m.cls := findClass_of_methodNamed B.named
  have hlocks := B.notSynchronized
  have iX6 : ∀ w ∈ wsX60, w ∈ wsX6_has := by decide +kernel
  have fl13 := hts (.fieldLink RX6 13 "AlgebraLaws$Tables" "size" "I") (by decide +kernel)
  have hl := lv_entry ([.ref a, .int x1] : List Value) (n := 2) (Nat.le_of_ble_eq_true rfl)
  rw [lg_entry_eq]
  generalize (lg_sl ([.ref a, .int x1] : List Value) ++ List.replicate (2 - (lg_sl ([.ref a, .int x1] : List Value)).length) Slot.unset).toArray = ls at hl ⊢
  have hl : lv_has ls 2 [(0, .ref a), (1, .int x1)] := hl
  unfold m_X6_has at h
  refine lv_iload_n hx hb dX6_has_0 rfl (lv_at hl 1 rfl) ?_
  refine lv_if_lt (tgt := 16) hx hb dX6_has_1 (by decide) (fun c1 => ?_) (fun c1 => ?_)
  · have h := sat_t c1 h
    refine lv_iconst (v := 0) hx hb dX6_has_16 (by decide) ?_
    have h := sat_some h
    exact W.zret (v := 0) hx hb hr rfl (fun t ht _ => ⟨0, rfl, h, ht⟩) (fun _ hq => by cases hq) dX6_has_17
  · have h := sat_f c1 h
    refine lv_iload_n hx hb dX6_has_4 rfl (lv_at hl 1 rfl) ?_
    refine lv_aload_n hx hb dX6_has_5 rfl (lv_at hl 0 rfl) ?_
    refine va_get (D := D) (ci := 3) (v := .int v_size) (C := RX6) (T := TX6) (N := 2) hx hb hts iX6 hown hK hP 0 rfl rfl 0 (by decide) fl13 (fun _ h9 => h9) rfl dX6_has_6 ?_
    refine lv_icmp_ge (tgt := 16) hx hb dX6_has_9 (by decide) (fun c9 => ?_) (fun c9 => ?_)
    · have h := sat_t c9 h
      refine lv_iconst (v := 0) hx hb dX6_has_16 (by decide) ?_
      have h := sat_some h
      exact W.zret (v := 0) hx hb hr rfl (fun t ht _ => ⟨0, rfl, h, ht⟩) (fun _ hq => by cases hq) dX6_has_17
    · have h := sat_f c9 h
      refine lv_iconst (v := 1) hx hb dX6_has_12 (by decide) ?_
      refine lv_goto (tgt := 17) hx hb dX6_has_13 (by decide) ?_
      have h := sat_some h
      exact W.zret (v := 1) hx hb hr rfl (fun t ht _ => ⟨1, rfl, h, ht⟩) (fun _ hq => by cases hq) dX6_has_17

/-! X6_allElements -/
set_option maxHeartbeats 4000000 in
set_option maxRecDepth 100000 in
theorem c_X6_allElements (l : Launch) (D : va_G) (y : ClassId × ClassId × ClassId × ClassId) (a a_values : Nat) (v_size : Int32) (K : Int32 → Prop) (h : sat (m_X6_allElements v_size) K) : Met l yX6_allElements wsX6_allElements ({ frames := 0, cells := 0, slots := 0, locals := 0 } : Room) (pR D y ([.ref a] : List Value) [(a, .inr (3, [.int v_size, .ref a_values]))]) (qSi K) 0 0 (fun _ => False) := by
  refine Met.ofW (cc := cX6_allElements) (maxL := 1) (ret := (some .int)) (by decide) rfl ?_
  intro p e s m args below meth c s₁ B hml hv
  obtain ⟨rfl, hP, hK⟩ := hv
  have hx := B.exec
  have hb := B.bytes
  have hr := B.returns
  have hts := atoms_spec (ws := wsX6_allElements) B.pre
  have hown : s.vm.findClass RX6 = some m.cls := findClass_of_methodNamed B.named
  have hlocks := B.notSynchronized
  have iX6 : ∀ w ∈ wsX60, w ∈ wsX6_allElements := by decide +kernel
  have fl13 := hts (.fieldLink RX6 13 "AlgebraLaws$Tables" "size" "I") (by decide +kernel)
  have hl := lv_entry ([.ref a] : List Value) (n := 1) (Nat.le_of_ble_eq_true rfl)
  rw [lg_entry_eq]
  generalize (lg_sl ([.ref a] : List Value) ++ List.replicate (1 - (lg_sl ([.ref a] : List Value)).length) Slot.unset).toArray = ls at hl ⊢
  have hl : lv_has ls 1 [(0, .ref a)] := hl
  unfold m_X6_allElements at h
  refine lv_iconst (v := 1) hx hb dX6_allElements_0 (by decide) ?_
  refine lv_aload_n hx hb dX6_allElements_1 rfl (lv_at hl 0 rfl) ?_
  refine va_get (D := D) (ci := 3) (v := .int v_size) (C := RX6) (T := TX6) (N := 2) hx hb hts iX6 hown hK hP 0 rfl rfl 0 (by decide) fl13 (fun _ h9 => h9) rfl dX6_allElements_2 ?_
  refine lv_ishl hx hb dX6_allElements_5 ?_
  refine lv_iconst (v := 1) hx hb dX6_allElements_6 (by decide) ?_
  refine lv_isub hx hb dX6_allElements_7 ?_
  have h := sat_some h
  exact W.iret (v := (1 <<< (v_size &&& 31)) - 1) hx hb hr (fun t ht _ => ⟨(1 <<< (v_size &&& 31)) - 1, rfl, h, ht⟩) (fun _ hq => by cases hq) dX6_allElements_8

/-! X6_two -/
set_option maxHeartbeats 4000000 in
set_option maxRecDepth 100000 in
theorem c_X6_two (l : Launch) (D : va_G) (y : ClassId × ClassId × ClassId × ClassId) (a a_values : Nat) (v_size : Int32) (v_values : Nat → Int32) (x1 : Int32) (x2 : Int32) (K : Int32 → Prop) (h : sat (m_X6_two v_values x1 x2) K) : Met l yX6_two wsX6_two ({ frames := 1, cells := 0, slots := 0, locals := 21 } : Room) (pR D y ([.ref a, .int x1, .int x2] : List Value) [(a, .inr (3, [.int v_size, .ref a_values])), (a_values, .inl (y.1, 20, .inl v_values))]) (qSi K) 0 0 (fun _ => False) := by
  refine Met.ofW (cc := cX6_two) (maxL := 3) (ret := (some .int)) (by decide) rfl ?_
  intro p e s m args below meth c s₁ B hml hv
  obtain ⟨rfl, hP, hK⟩ := hv
  have hx := B.exec
  have hb := B.bytes
  have hr := B.returns
  have hts := atoms_spec (ws := wsX6_two) B.pre
  have hown : s.vm.findClass RX6 = some m.cls := findClass_of_methodNamed B.named
  have hlocks := B.notSynchronized
  have iX6 : ∀ w ∈ wsX60, w ∈ wsX6_two := by decide +kernel
  have fl9 := hts (.fieldLink RX6 9 "AlgebraLaws$Tables" "values" "[I") (by decide +kernel)
  have hl := lv_entry ([.ref a, .int x1, .int x2] : List Value) (n := 3) (Nat.le_of_ble_eq_true rfl)
  rw [lg_entry_eq]
  generalize (lg_sl ([.ref a, .int x1, .int x2] : List Value) ++ List.replicate (3 - (lg_sl ([.ref a, .int x1, .int x2] : List Value)).length) Slot.unset).toArray = ls at hl ⊢
  have hl : lv_has ls 3 [(0, .ref a), (1, .int x1), (2, .int x2)] := hl
  unfold m_X6_two at h
  refine lv_aload_n hx hb dX6_two_0 rfl (lv_at hl 0 rfl) ?_
  refine va_get (D := D) (ci := 3) (v := .ref a_values) (C := RX6) (T := TX6) (N := 2) hx hb hts iX6 hown hK hP 0 rfl rfl 1 (by decide) fl9 (fun _ h9 => h9) rfl dX6_two_1 ?_
  refine lv_iload_n hx hb dX6_two_4 rfl (lv_at hl 1 rfl) ?_
  refine lv_iload_n hx hb dX6_two_5 rfl (lv_at hl 2 rfl) ?_
  refine cr_i (rs (As := [.int x1, .int x2]) (rest := [.ref a_values]) ⟨hx, hb, hml, hown, hts⟩ (c_X6_placeOfTwo l D y x1 x2 _ (sat_bind h)) (va_cwS 2 hts gX6_two_X6_placeOfTwo rfl rfl rfl (by decide +kernel) ⟨Nat.le_of_ble_eq_true rfl, Nat.le_of_ble_eq_true rfl⟩) hK hP [] rfl rfl hl.1 rfl (Nat.le_of_ble_eq_true rfl) dX6_two_6 ⟨Nat.zero_le _, Nat.zero_le _⟩) (fun r1 h => ?_)
  obtain ⟨r2, er2, hin, h⟩ := sat_rd h
  refine xi hx hb hK hP 1 0 rfl rfl er2 hin dX6_two_9 ?_
  have h := sat_some h
  exact W.iret (v := r2) hx hb hr (fun t ht _ => ⟨r2, rfl, h, ht⟩) (fun _ hq => by cases hq) dX6_two_10

/-! X6_one -/
set_option maxHeartbeats 4000000 in
set_option maxRecDepth 100000 in
theorem c_X6_one (l : Launch) (D : va_G) (y : ClassId × ClassId × ClassId × ClassId) (a a_values : Nat) (v_size : Int32) (v_values : Nat → Int32) (x1 : Int32) (K : Int32 → Prop) (h : sat (m_X6_one v_values x1) K) : Met l yX6_one wsX6_one ({ frames := 1, cells := 0, slots := 0, locals := 20 } : Room) (pR D y ([.ref a, .int x1] : List Value) [(a, .inr (3, [.int v_size, .ref a_values])), (a_values, .inl (y.1, 20, .inl v_values))]) (qSi K) 0 0 (fun _ => False) := by
  refine Met.ofW (cc := cX6_one) (maxL := 2) (ret := (some .int)) (by decide) rfl ?_
  intro p e s m args below meth c s₁ B hml hv
  obtain ⟨rfl, hP, hK⟩ := hv
  have hx := B.exec
  have hb := B.bytes
  have hr := B.returns
  have hts := atoms_spec (ws := wsX6_one) B.pre
  have hown : s.vm.findClass RX6 = some m.cls := findClass_of_methodNamed B.named
  have hlocks := B.notSynchronized
  have iX6 : ∀ w ∈ wsX60, w ∈ wsX6_one := by decide +kernel
  have fl9 := hts (.fieldLink RX6 9 "AlgebraLaws$Tables" "values" "[I") (by decide +kernel)
  have hl := lv_entry ([.ref a, .int x1] : List Value) (n := 2) (Nat.le_of_ble_eq_true rfl)
  rw [lg_entry_eq]
  generalize (lg_sl ([.ref a, .int x1] : List Value) ++ List.replicate (2 - (lg_sl ([.ref a, .int x1] : List Value)).length) Slot.unset).toArray = ls at hl ⊢
  have hl : lv_has ls 2 [(0, .ref a), (1, .int x1)] := hl
  unfold m_X6_one at h
  refine lv_aload_n hx hb dX6_one_0 rfl (lv_at hl 0 rfl) ?_
  refine va_get (D := D) (ci := 3) (v := .ref a_values) (C := RX6) (T := TX6) (N := 2) hx hb hts iX6 hown hK hP 0 rfl rfl 1 (by decide) fl9 (fun _ h9 => h9) rfl dX6_one_1 ?_
  refine lv_iload_n hx hb dX6_one_4 rfl (lv_at hl 1 rfl) ?_
  refine cr_i (rs (As := [.int x1]) (rest := [.ref a_values]) ⟨hx, hb, hml, hown, hts⟩ (c_X6_placeOfOne l D y x1 _ (sat_bind h)) (va_cwS 1 hts gX6_one_X6_placeOfOne rfl rfl rfl (by decide +kernel) ⟨Nat.le_of_ble_eq_true rfl, Nat.le_of_ble_eq_true rfl⟩) hK hP [] rfl rfl hl.1 rfl (Nat.le_of_ble_eq_true rfl) dX6_one_5 ⟨Nat.zero_le _, Nat.zero_le _⟩) (fun r1 h => ?_)
  obtain ⟨r2, er2, hin, h⟩ := sat_rd h
  refine xi hx hb hK hP 1 0 rfl rfl er2 hin dX6_one_8 ?_
  have h := sat_some h
  exact W.iret (v := r2) hx hb hr (fun t ht _ => ⟨r2, rfl, h, ht⟩) (fun _ hq => by cases hq) dX6_one_9

/-! X6_at -/
set_option maxHeartbeats 4000000 in
set_option maxRecDepth 100000 in
theorem c_X6_at (l : Launch) (D : va_G) (y : ClassId × ClassId × ClassId × ClassId) (a a_values : Nat) (v_size : Int32) (v_values : Nat → Int32) (x1 : Int32) (K : Int32 → Prop) (h : sat (m_X6_at v_values x1) K) : Met l yX6_at wsX6_at ({ frames := 0, cells := 0, slots := 0, locals := 0 } : Room) (pR D y ([.ref a, .int x1] : List Value) [(a, .inr (3, [.int v_size, .ref a_values])), (a_values, .inl (y.1, 20, .inl v_values))]) (qSi K) 0 0 (fun _ => False) := by
  refine Met.ofW (cc := cX6_at) (maxL := 2) (ret := (some .int)) (by decide) rfl ?_
  intro p e s m args below meth c s₁ B hml hv
  obtain ⟨rfl, hP, hK⟩ := hv
  have hx := B.exec
  have hb := B.bytes
  have hr := B.returns
  have hts := atoms_spec (ws := wsX6_at) B.pre
  have hown : s.vm.findClass RX6 = some m.cls := findClass_of_methodNamed B.named
  have hlocks := B.notSynchronized
  have iX6 : ∀ w ∈ wsX60, w ∈ wsX6_at := by decide +kernel
  have fl9 := hts (.fieldLink RX6 9 "AlgebraLaws$Tables" "values" "[I") (by decide +kernel)
  have hl := lv_entry ([.ref a, .int x1] : List Value) (n := 2) (Nat.le_of_ble_eq_true rfl)
  rw [lg_entry_eq]
  generalize (lg_sl ([.ref a, .int x1] : List Value) ++ List.replicate (2 - (lg_sl ([.ref a, .int x1] : List Value)).length) Slot.unset).toArray = ls at hl ⊢
  have hl : lv_has ls 2 [(0, .ref a), (1, .int x1)] := hl
  unfold m_X6_at at h
  refine lv_iload_n hx hb dX6_at_0 rfl (lv_at hl 1 rfl) ?_
  refine lv_if_lt (tgt := 19) hx hb dX6_at_1 (by decide) (fun c1 => ?_) (fun c1 => ?_)
  · have h := sat_t c1 h
    refine lv_iconst (v := 0) hx hb dX6_at_19 (by decide) ?_
    have h := sat_some h
    exact W.iret (v := 0) hx hb hr (fun t ht _ => ⟨0, rfl, h, ht⟩) (fun _ hq => by cases hq) dX6_at_20
  · have h := sat_f c1 h
    refine lv_iload_n hx hb dX6_at_4 rfl (lv_at hl 1 rfl) ?_
    refine lv_bipush (v := 20) hx hb dX6_at_5 (by decide) ?_
    refine lv_icmp_ge (tgt := 19) hx hb dX6_at_7 (by decide) (fun c7 => ?_) (fun c7 => ?_)
    · have h := sat_t c7 h
      refine lv_iconst (v := 0) hx hb dX6_at_19 (by decide) ?_
      have h := sat_some h
      exact W.iret (v := 0) hx hb hr (fun t ht _ => ⟨0, rfl, h, ht⟩) (fun _ hq => by cases hq) dX6_at_20
    · have h := sat_f c7 h
      refine lv_aload_n hx hb dX6_at_10 rfl (lv_at hl 0 rfl) ?_
      refine va_get (D := D) (ci := 3) (v := .ref a_values) (C := RX6) (T := TX6) (N := 2) hx hb hts iX6 hown hK hP 0 rfl rfl 1 (by decide) fl9 (fun _ h9 => h9) rfl dX6_at_11 ?_
      refine lv_iload_n hx hb dX6_at_14 rfl (lv_at hl 1 rfl) ?_
      obtain ⟨r1, er1, hin, h⟩ := sat_rd h
      refine xi hx hb hK hP 1 0 rfl rfl er1 hin dX6_at_15 ?_
      refine lv_goto (tgt := 20) hx hb dX6_at_16 (by decide) ?_
      have h := sat_some h
      exact W.iret (v := r1) hx hb hr (fun t ht _ => ⟨r1, rfl, h, ht⟩) (fun _ hq => by cases hq) dX6_at_20

/-! X6_put -/
set_option maxHeartbeats 4000000 in
set_option maxRecDepth 100000 in
theorem c_X6_put (l : Launch) (D : va_G) (y : ClassId × ClassId × ClassId × ClassId) (a a_values : Nat) (v_size : Int32) (v_values : Nat → Int32) (x1 : Int32) (x2 : Int32) (sz : Nat) (A : Nat → Prop) (hAe : va_A [(a, .inr (3, [.int v_size, .ref a_values])), (a_values, .inl (y.1, 20, .inl v_values))] sz = A) (K : ((Nat → Int32)) → Prop) (h : sat (m_X6_put v_values x1 x2) K) : Met l yX6_put wsX6_put ({ frames := 0, cells := 0, slots := 0, locals := 0 } : Room) (pW D y ([.ref a, .int x1, .int x2] : List Value) [(a, .inr (3, [.int v_size, .ref a_values])), (a_values, .inl (y.1, 20, .inl v_values))] sz) (va_Qv K (bW D y A (fun u : ((Nat → Int32)) => [(a, .inr (3, [.int v_size, .ref a_values])), (a_values, .inl (y.1, 20, .inl u))])) A) 0 0 A := by
  refine Met.ofW (cc := cX6_put) (maxL := 3) (ret := none) (by decide) rfl ?_
  intro p e s m args below meth c s₁ B hml hv
  obtain ⟨rfl, hsz, hP, hK, hD0⟩ := hv
  have hx := B.exec
  have hb := B.bytes
  have hr := B.returns
  have hts := atoms_spec (ws := wsX6_put) B.pre
  have hown : s.vm.findClass RX6 = some m.cls := findClass_of_methodNamed B.named
  have hlocks := B.notSynchronized
  subst hsz
  have hD : va_D A [(a, .inr (3, [.int v_size, .ref a_values])), (a_values, .inl (y.1, 20, .inl v_values))] := hAe ▸ hD0.self
  have hA : ∀ q : Nat, s.heap.size ≤ q → A q := fun q h => hAe ▸ Or.inr h
  have hS : va_S A s.heap s.heap [] := va_S.rf
  have iX6 : ∀ w ∈ wsX60, w ∈ wsX6_put := by decide +kernel
  have fl9 := hts (.fieldLink RX6 9 "AlgebraLaws$Tables" "values" "[I") (by decide +kernel)
  have hl := lv_entry ([.ref a, .int x1, .int x2] : List Value) (n := 3) (Nat.le_of_ble_eq_true rfl)
  rw [lg_entry_eq]
  generalize (lg_sl ([.ref a, .int x1, .int x2] : List Value) ++ List.replicate (3 - (lg_sl ([.ref a, .int x1, .int x2] : List Value)).length) Slot.unset).toArray = ls at hl ⊢
  have hl : lv_has ls 3 [(0, .ref a), (1, .int x1), (2, .int x2)] := hl
  unfold m_X6_put at h
  refine lv_iload_n hx hb dX6_put_0 rfl (lv_at hl 1 rfl) ?_
  refine lv_if_lt (tgt := 17) hx hb dX6_put_1 (by decide) (fun c1 => ?_) (fun c1 => ?_)
  · have h := sat_t c1 h
    have h := sat_some h
    exact W.vret hx hb hr (fun t ht hW => ⟨⟨v_values, rfl, h, by rw [ht]; exact hP, va_K.moved hW.alike hK, hD⟩, hS.F ht⟩) hS.2.2 dX6_put_17
  · have h := sat_f c1 h
    refine lv_iload_n hx hb dX6_put_4 rfl (lv_at hl 1 rfl) ?_
    refine lv_bipush (v := 20) hx hb dX6_put_5 (by decide) ?_
    refine lv_icmp_ge (tgt := 17) hx hb dX6_put_7 (by decide) (fun c7 => ?_) (fun c7 => ?_)
    · have h := sat_t c7 h
      have h := sat_some h
      exact W.vret hx hb hr (fun t ht hW => ⟨⟨v_values, rfl, h, by rw [ht]; exact hP, va_K.moved hW.alike hK, hD⟩, hS.F ht⟩) hS.2.2 dX6_put_17
    · have h := sat_f c7 h
      refine lv_aload_n hx hb dX6_put_10 rfl (lv_at hl 0 rfl) ?_
      refine va_get (D := D) (ci := 3) (v := .ref a_values) (C := RX6) (T := TX6) (N := 2) hx hb hts iX6 hown hK hP 0 rfl rfl 1 (by decide) fl9 (fun _ h9 => h9) rfl dX6_put_11 ?_
      refine lv_iload_n hx hb dX6_put_14 rfl (lv_at hl 1 rfl) ?_
      refine lv_iload_n hx hb dX6_put_15 rfl (lv_at hl 2 rfl) ?_
      obtain ⟨f1, ef1, hin, h⟩ := sat_wrI h
      refine yi (wn := [(a, .inr (3, [.int v_size, .ref a_values])), (a_values, .inl (y.1, 20, .inl f1))]) hx hb hK hP hD hS 1 0 rfl rfl ef1 hin dX6_put_16 rfl (fun H locs hP hD hS => ?_)
      have h := sat_some h
      exact W.vret hx hb hr (fun t ht hW => ⟨⟨f1, rfl, h, by rw [ht]; exact hP, va_K.moved hW.alike hK, hD⟩, hS.F ht⟩) hS.2.2 dX6_put_17

/-! X6_copyFrom -/
set_option maxHeartbeats 4000000 in
set_option maxRecDepth 100000 in
theorem c_X6_copyFrom (l : Launch) (D : va_G) (y : ClassId × ClassId × ClassId × ClassId) (a a_values a1 a1_values : Nat) (v_size : Int32) (v_values : Nat → Int32) (v1_size : Int32) (v1_values : Nat → Int32) (sz : Nat) (A : Nat → Prop) (hAe : va_A [(a, .inr (3, [.int v_size, .ref a_values])), (a_values, .inl (y.1, 20, .inl v_values)), (a1, .inr (3, [.int v1_size, .ref a1_values])), (a1_values, .inl (y.1, 20, .inl v1_values))] sz = A) (K : (Int32 × (Nat → Int32)) → Prop) (h : sat (m_X6_copyFrom v_size v_values v1_size v1_values) K) : Met l yX6_copyFrom wsX6_copyFrom ({ frames := 1, cells := 0, slots := 0, locals := 40 } : Room) (pW D y ([.ref a, .ref a1] : List Value) [(a, .inr (3, [.int v_size, .ref a_values])), (a_values, .inl (y.1, 20, .inl v_values)), (a1, .inr (3, [.int v1_size, .ref a1_values])), (a1_values, .inl (y.1, 20, .inl v1_values))] sz) (va_Qv K (bW D y A (fun u : (Int32 × (Nat → Int32)) => [(a, .inr (3, [.int u.1, .ref a_values])), (a_values, .inl (y.1, 20, .inl u.2)), (a1, .inr (3, [.int v1_size, .ref a1_values])), (a1_values, .inl (y.1, 20, .inl v1_values))])) A) 0 0 A := by
  refine Met.ofW (cc := cX6_copyFrom) (maxL := 2) (ret := none) (by decide) rfl ?_
  intro p e s m args below meth c s₁ B hml hv
  obtain ⟨rfl, hsz, hP, hK, hD0⟩ := hv
  have hx := B.exec
  have hb := B.bytes
  have hr := B.returns
  have hts := atoms_spec (ws := wsX6_copyFrom) B.pre
  have hown : s.vm.findClass RX6 = some m.cls := findClass_of_methodNamed B.named
  have hlocks := B.notSynchronized
  subst hsz
  have hD : va_D A [(a, .inr (3, [.int v_size, .ref a_values])), (a_values, .inl (y.1, 20, .inl v_values)), (a1, .inr (3, [.int v1_size, .ref a1_values])), (a1_values, .inl (y.1, 20, .inl v1_values))] := hAe ▸ hD0.self
  have hA : ∀ q : Nat, s.heap.size ≤ q → A q := fun q h => hAe ▸ Or.inr h
  have hS : va_S A s.heap s.heap [] := va_S.rf
  have iX6 : ∀ w ∈ wsX60, w ∈ wsX6_copyFrom := by decide +kernel
  have fl13 := hts (.fieldLink RX6 13 "AlgebraLaws$Tables" "size" "I") (by decide +kernel)
  have fl9 := hts (.fieldLink RX6 9 "AlgebraLaws$Tables" "values" "[I") (by decide +kernel)
  have hl := lv_entry ([.ref a, .ref a1] : List Value) (n := 2) (Nat.le_of_ble_eq_true rfl)
  rw [lg_entry_eq]
  generalize (lg_sl ([.ref a, .ref a1] : List Value) ++ List.replicate (2 - (lg_sl ([.ref a, .ref a1] : List Value)).length) Slot.unset).toArray = ls at hl ⊢
  have hl : lv_has ls 2 [(0, .ref a), (1, .ref a1)] := hl
  unfold m_X6_copyFrom at h
  refine lv_aload_n hx hb dX6_copyFrom_0 rfl (lv_at hl 0 rfl) ?_
  refine lv_aload_n hx hb dX6_copyFrom_1 rfl (lv_at hl 1 rfl) ?_
  refine va_get (D := D) (ci := 3) (v := .int v1_size) (C := RX6) (T := TX6) (N := 2) hx hb hts iX6 hown hK hP 2 rfl rfl 0 (by decide) fl13 (fun _ h9 => h9) rfl dX6_copyFrom_2 ?_
  refine pf (D := D) (ci := 3) (v := .int v1_size) (ty := .int) (C := RX6) (T := TX6) (N := 2) (wn := [(a, .inr (3, [.int v1_size, .ref a_values])), (a_values, .inl (y.1, 20, .inl v_values)), (a1, .inr (3, [.int v1_size, .ref a1_values])), (a1_values, .inl (y.1, 20, .inl v1_values))]) hx hb hts iX6 tyX6 tyX6_ok nmX6 hown hK hP hD hS 0 rfl rfl 0 (by decide) fl13 (fun _ h9 => h9) rfl (by decide +kernel) rfl rfl (Nat.le_of_ble_eq_true rfl) dX6_copyFrom_5 rfl (fun H locs hP hD hS => ?_)
  refine lv_aload_n hx hb dX6_copyFrom_8 rfl (lv_at hl 1 rfl) ?_
  refine va_get (D := D) (ci := 3) (v := .ref a1_values) (C := RX6) (T := TX6) (N := 2) hx hb hts iX6 hown hK hP 2 rfl rfl 1 (by decide) fl9 (fun _ h9 => h9) rfl dX6_copyFrom_9 ?_
  refine lv_iconst (v := 0) hx hb dX6_copyFrom_12 (by decide) ?_
  refine lv_aload_n hx hb dX6_copyFrom_13 rfl (lv_at hl 0 rfl) ?_
  refine va_get (D := D) (ci := 3) (v := .ref a_values) (C := RX6) (T := TX6) (N := 2) hx hb hts iX6 hown hK hP 0 rfl rfl 1 (by decide) fl9 (fun _ h9 => h9) rfl dX6_copyFrom_14 ?_
  refine lv_iconst (v := 0) hx hb dX6_copyFrom_17 (by decide) ?_
  refine lv_bipush (v := 20) hx hb dX6_copyFrom_18 (by decide) ?_
  obtain ⟨f1, ef1, h⟩ := sat_nm h
  refine cpy (wn := [(a, .inr (3, [.int v1_size, .ref a_values])), (a_values, .inl (y.1, 20, .inl f1)), (a1, .inr (3, [.int v1_size, .ref a1_values])), (a1_values, .inl (y.1, 20, .inl v1_values))]) hx hb (by rw [hml]; exact hl.1.symm) hown (hts (.methodLink RX6 25 arraycopyName) (by decide +kernel)) (hts (.native arraycopyName) (by decide +kernel)) (hts (.static arraycopyName) (by decide +kernel)) (hts (.initialized "java/lang/System") (by decide +kernel)) hK hP hD hS 3 1 0 0 rfl rfl rfl rfl 0 0 20 ef1 (by decide) (Nat.le_of_ble_eq_true rfl) (Nat.le_of_ble_eq_true rfl) dX6_copyFrom_20 rfl (fun H locs hP hD hS => ?_)
  have h := sat_some h
  exact W.vret hx hb hr (fun t ht hW => ⟨⟨(v1_size, f1), rfl, h, by rw [ht]; exact hP, va_K.moved hW.alike hK, hD⟩, hS.F ht⟩) hS.2.2 dX6_copyFrom_23

/-! X0_valuesIn -/
set_option maxHeartbeats 4000000 in
set_option maxRecDepth 100000 in
theorem c_X0_valuesIn (l : Launch) (D : va_G) (y : ClassId × ClassId × ClassId × ClassId) (a a_values : Nat) (v_size : Int32) (v_values : Nat → Int32) (x1 : Int32) (K : Int32 → Prop) (h : sat (m_X0_valuesIn v_size v_values x1) K) : Met l yX0_valuesIn wsX0_valuesIn ({ frames := 2, cells := 0, slots := 0, locals := 43 } : Room) (pR D y ([.ref a, .int x1] : List Value) [(a, .inr (3, [.int v_size, .ref a_values])), (a_values, .inl (y.1, 20, .inl v_values))]) (qSi K) 0 0 (fun _ => False) := by
  refine Met.ofW (cc := cX0_valuesIn) (maxL := 5) (ret := (some .int)) (by decide) rfl ?_
  intro p e s m args below meth c s₁ B hml hv
  obtain ⟨rfl, hP, hK⟩ := hv
  have hx := B.exec
  have hb := B.bytes
  have hr := B.returns
  have hts := atoms_spec (ws := wsX0_valuesIn) B.pre
  have hown : s.vm.findClass RX0 = some m.cls := findClass_of_methodNamed B.named
  have hlocks := B.notSynchronized
  have iX6 : ∀ w ∈ wsX60, w ∈ wsX0_valuesIn := by decide +kernel
  have fl25 := hts (.fieldLink RX0 25 "AlgebraLaws$Tables" "size" "I") (by decide +kernel)
  have hl := lv_entry ([.ref a, .int x1] : List Value) (n := 5) (Nat.le_of_ble_eq_true rfl)
  rw [lg_entry_eq]
  generalize (lg_sl ([.ref a, .int x1] : List Value) ++ List.replicate (5 - (lg_sl ([.ref a, .int x1] : List Value)).length) Slot.unset).toArray = ls at hl ⊢
  have hl : lv_has ls 5 [(0, .ref a), (1, .int x1)] := hl
  unfold m_X0_valuesIn at h
  refine lv_iconst (v := 0) hx hb dX0_valuesIn_0 (by decide) ?_
  refine lv_istore_n (lv' := [(2, .int 0), (0, .ref a), (1, .int x1)]) hx hb dX0_valuesIn_1 rfl hl (by decide) rfl (fun ls hl => ?_)
  refine lv_iconst (v := 0) hx hb dX0_valuesIn_2 (by decide) ?_
  refine lv_istore_n (lv' := [(3, .int 0), (2, .int 0), (0, .ref a), (1, .int x1)]) hx hb dX0_valuesIn_3 rfl hl (by decide) rfl (fun ls hl => ?_)
  have hL4 : ∀ (K4 : Int32 → Prop)
      (hE4 : ∀ (z4 : Int32) (ls : Array Slot), K4 z4 → lv_has ls 5 [(2, .int z4)] → W p l e (headSpec wsX0_valuesIn ({ frames := 2, cells := 0, slots := 0, locals := 43 } : Room)).room s m ([.ref a, .int x1] : List Value).toArray below meth c s.heap [] 0 0 (MQ below (qSi K) ([.ref a, .int x1] : List Value).toArray s 0 0 (fun _ => False)) (F0 m 75 ls []))
      (n : Nat) (x2_4 : Int32) (x3_4 : Int32) (ls : Array Slot), sat (lp (fun q : (Int32 × Int32) => m_X0_valuesIn_s4 v_size v_values x1 q.1 q.2) n (x2_4, x3_4)) K4 → lv_has ls 5 [(0, .ref a), (1, .int x1), (2, .int x2_4), (3, .int x3_4)] → W p l e (headSpec wsX0_valuesIn ({ frames := 2, cells := 0, slots := 0, locals := 43 } : Room)).room s m ([.ref a, .int x1] : List Value).toArray below meth c s.heap [] 0 0 (MQ below (qSi K) ([.ref a, .int x1] : List Value).toArray s 0 0 (fun _ => False)) (F0 m 4 ls []) := by
    intro K4 hE4 n
    induction n with
    | zero => intro x2_4 x3_4 ls h; exact (sat_lp0 h).elim
    | succ n ih =>
      intro x2_4 x3_4 ls h hl
      have h := sat_lp h
      have h : sat (m_X0_valuesIn_s4 v_size v_values x1 x2_4 x3_4) (lk (fun s' => sat (lp (fun q : (Int32 × Int32) => m_X0_valuesIn_s4 v_size v_values x1 q.1 q.2) n s') K4) K4) := h
      unfold m_X0_valuesIn_s4 at h
      refine lv_iload_n hx hb dX0_valuesIn_4 rfl (lv_at hl 3 rfl) ?_
      refine lv_aload_n hx hb dX0_valuesIn_5 rfl (lv_at hl 0 rfl) ?_
      refine va_get (D := D) (ci := 3) (v := .int v_size) (C := RX6) (T := TX6) (N := 2) hx hb hts iX6 hown hK hP 0 rfl rfl 0 (by decide) fl25 (fun _ h9 => h9) rfl dX0_valuesIn_6 ?_
      refine lv_icmp_ge (tgt := 75) hx hb dX0_valuesIn_9 (by decide) (fun c9 => ?_) (fun c9 => ?_)
      · have h := sat_t c9 h
        have h := lk_r (sat_some h)
        exact hE4 x2_4 ls h (lv_sub hl [2] rfl)
      · have h := sat_f c9 h
        refine lv_iload_n hx hb dX0_valuesIn_12 rfl (lv_at hl 1 rfl) ?_
        refine lv_iload_n hx hb dX0_valuesIn_13 rfl (lv_at hl 3 rfl) ?_
        refine lv_ishr hx hb dX0_valuesIn_14 ?_
        refine lv_iconst (v := 1) hx hb dX0_valuesIn_15 (by decide) ?_
        refine lv_iand hx hb dX0_valuesIn_16 ?_
        refine lv_if_eq (tgt := 69) hx hb dX0_valuesIn_17 (by decide) (fun c17 => ?_) (fun c17 => ?_)
        · have h := sat_t c17 h
          refine lv_iinc (v := x3_4 + 1) (lv' := [(3, .int (x3_4 + 1)), (0, .ref a), (1, .int x1), (2, .int x2_4)]) hx hb dX0_valuesIn_69 hl (k := 3) rfl rfl (by decide) rfl (fun ls hl => ?_)
          refine lv_goto (tgt := 4) hx hb dX0_valuesIn_72 (by decide) ?_
          have h := lk_l (sat_some h)
          exact ih x2_4 (x3_4 + 1) ls h (lv_sub hl [1, 2, 3, 0] rfl)
        · have h := sat_f c17 h
          refine lv_iload_n hx hb dX0_valuesIn_20 rfl (lv_at hl 2 rfl) ?_
          refine lv_iconst (v := 1) hx hb dX0_valuesIn_21 (by decide) ?_
          refine lv_aload_n hx hb dX0_valuesIn_22 rfl (lv_at hl 0 rfl) ?_
          refine lv_iload_n hx hb dX0_valuesIn_23 rfl (lv_at hl 3 rfl) ?_
          refine cr_i (rv (As := [.int x3_4]) (rest := [.int 1, .int x2_4]) ⟨hx, hb, hml, hown, hts⟩ (c_X6_one l D y a a_values v_size v_values x3_4 _ (sat_bind h)) (cwV 1 hts gX0_valuesIn_X6_one rfl rfl rfl (by decide +kernel) ⟨Nat.le_of_ble_eq_true rfl, Nat.le_of_ble_eq_true rfl⟩) hK hP [0, 1] rfl 0 3 rfl rfl rfl rfl hl.1 rfl (Nat.le_of_ble_eq_true rfl) dX0_valuesIn_24 ⟨Nat.zero_le _, Nat.zero_le _⟩) (fun r2 h => ?_)
          refine lv_ishl hx hb dX0_valuesIn_27 ?_
          refine lv_ior hx hb dX0_valuesIn_28 ?_
          refine lv_istore_n (lv' := [(2, .int (x2_4 ||| (1 <<< (r2 &&& 31)))), (0, .ref a), (1, .int x1), (3, .int x3_4)]) hx hb dX0_valuesIn_29 rfl hl (by decide) rfl (fun ls hl => ?_)
          refine lv_iconst (v := 0) hx hb dX0_valuesIn_30 (by decide) ?_
          refine lv_istore (lv' := [(4, .int 0), (2, .int (x2_4 ||| (1 <<< (r2 &&& 31)))), (0, .ref a), (1, .int x1), (3, .int x3_4)]) hx hb dX0_valuesIn_31 hl (by decide) rfl (fun ls hl => ?_)
          have hL33 : ∀ (K33 : Int32 → Prop)
              (hE33 : ∀ (z33 : Int32) (ls : Array Slot), K33 z33 → lv_has ls 5 [(0, .ref a), (1, .int x1), (2, .int z33), (3, .int x3_4)] → W p l e (headSpec wsX0_valuesIn ({ frames := 2, cells := 0, slots := 0, locals := 43 } : Room)).room s m ([.ref a, .int x1] : List Value).toArray below meth c s.heap [] 0 0 (MQ below (qSi K) ([.ref a, .int x1] : List Value).toArray s 0 0 (fun _ => False)) (F0 m 69 ls []))
              (n : Nat) (x2_33 : Int32) (x4_33 : Int32) (ls : Array Slot), sat (lp (fun q : (Int32 × Int32) => m_X0_valuesIn_s33 v_size v_values x1 x3_4 q.1 q.2) n (x2_33, x4_33)) K33 → lv_has ls 5 [(0, .ref a), (1, .int x1), (2, .int x2_33), (3, .int x3_4), (4, .int x4_33)] → W p l e (headSpec wsX0_valuesIn ({ frames := 2, cells := 0, slots := 0, locals := 43 } : Room)).room s m ([.ref a, .int x1] : List Value).toArray below meth c s.heap [] 0 0 (MQ below (qSi K) ([.ref a, .int x1] : List Value).toArray s 0 0 (fun _ => False)) (F0 m 33 ls []) := by
            intro K33 hE33 n
            induction n with
            | zero => intro x2_33 x4_33 ls h; exact (sat_lp0 h).elim
            | succ n ih =>
              intro x2_33 x4_33 ls h hl
              have h := sat_lp h
              have h : sat (m_X0_valuesIn_s33 v_size v_values x1 x3_4 x2_33 x4_33) (lk (fun s' => sat (lp (fun q : (Int32 × Int32) => m_X0_valuesIn_s33 v_size v_values x1 x3_4 q.1 q.2) n s') K33) K33) := h
              unfold m_X0_valuesIn_s33 at h
              refine lv_iload hx hb dX0_valuesIn_33 (lv_at hl 4 rfl) ?_
              refine lv_aload_n hx hb dX0_valuesIn_35 rfl (lv_at hl 0 rfl) ?_
              refine va_get (D := D) (ci := 3) (v := .int v_size) (C := RX6) (T := TX6) (N := 2) hx hb hts iX6 hown hK hP 0 rfl rfl 0 (by decide) fl25 (fun _ h9 => h9) rfl dX0_valuesIn_36 ?_
              refine lv_icmp_ge (tgt := 69) hx hb dX0_valuesIn_39 (by decide) (fun c39 => ?_) (fun c39 => ?_)
              · have h := sat_t c39 h
                have h := lk_r (sat_some h)
                exact hE33 x2_33 ls h (lv_sub hl [0, 1, 2, 3] rfl)
              · have h := sat_f c39 h
                refine lv_iload_n hx hb dX0_valuesIn_42 rfl (lv_at hl 1 rfl) ?_
                refine lv_iload hx hb dX0_valuesIn_43 (lv_at hl 4 rfl) ?_
                refine lv_ishr hx hb dX0_valuesIn_45 ?_
                refine lv_iconst (v := 1) hx hb dX0_valuesIn_46 (by decide) ?_
                refine lv_iand hx hb dX0_valuesIn_47 ?_
                refine lv_if_eq (tgt := 63) hx hb dX0_valuesIn_48 (by decide) (fun c48 => ?_) (fun c48 => ?_)
                · have h := sat_t c48 h
                  refine lv_iinc (v := x4_33 + 1) (lv' := [(4, .int (x4_33 + 1)), (0, .ref a), (1, .int x1), (2, .int x2_33), (3, .int x3_4)]) hx hb dX0_valuesIn_63 hl (k := 4) rfl rfl (by decide) rfl (fun ls hl => ?_)
                  refine lv_goto (tgt := 33) hx hb dX0_valuesIn_66 (by decide) ?_
                  have h := lk_l (sat_some h)
                  exact ih x2_33 (x4_33 + 1) ls h (lv_sub hl [1, 2, 3, 4, 0] rfl)
                · have h := sat_f c48 h
                  refine lv_iload_n hx hb dX0_valuesIn_51 rfl (lv_at hl 2 rfl) ?_
                  refine lv_iconst (v := 1) hx hb dX0_valuesIn_52 (by decide) ?_
                  refine lv_aload_n hx hb dX0_valuesIn_53 rfl (lv_at hl 0 rfl) ?_
                  refine lv_iload_n hx hb dX0_valuesIn_54 rfl (lv_at hl 3 rfl) ?_
                  refine lv_iload hx hb dX0_valuesIn_55 (lv_at hl 4 rfl) ?_
                  refine cr_i (rv (As := [.int x3_4, .int x4_33]) (rest := [.int 1, .int x2_33]) ⟨hx, hb, hml, hown, hts⟩ (c_X6_two l D y a a_values v_size v_values x3_4 x4_33 _ (sat_bind h)) (cwV 2 hts gX0_valuesIn_X6_two rfl rfl rfl (by decide +kernel) ⟨Nat.le_of_ble_eq_true rfl, Nat.le_of_ble_eq_true rfl⟩) hK hP [0, 1] rfl 0 3 rfl rfl rfl rfl hl.1 rfl (Nat.le_of_ble_eq_true rfl) dX0_valuesIn_57 ⟨Nat.zero_le _, Nat.zero_le _⟩) (fun r4 h => ?_)
                  refine lv_ishl hx hb dX0_valuesIn_60 ?_
                  refine lv_ior hx hb dX0_valuesIn_61 ?_
                  refine lv_istore_n (lv' := [(2, .int (x2_33 ||| (1 <<< (r4 &&& 31)))), (0, .ref a), (1, .int x1), (3, .int x3_4), (4, .int x4_33)]) hx hb dX0_valuesIn_62 rfl hl (by decide) rfl (fun ls hl => ?_)
                  refine lv_iinc (v := x4_33 + 1) (lv' := [(4, .int (x4_33 + 1)), (2, .int (x2_33 ||| (1 <<< (r4 &&& 31)))), (0, .ref a), (1, .int x1), (3, .int x3_4)]) hx hb dX0_valuesIn_63 hl (k := 4) rfl rfl (by decide) rfl (fun ls hl => ?_)
                  refine lv_goto (tgt := 33) hx hb dX0_valuesIn_66 (by decide) ?_
                  have h := lk_l (sat_some h)
                  exact ih (x2_33 ||| (1 <<< (r4 &&& 31))) (x4_33 + 1) ls h (lv_sub hl [2, 3, 1, 4, 0] rfl)
          have h := sat_bind h
          refine hL33 _ (fun z33 ls h hl => ?_) 1000 (x2_4 ||| (1 <<< (r2 &&& 31))) 0 ls h (lv_sub hl [2, 3, 1, 4, 0] rfl)
          refine lv_iinc (v := x3_4 + 1) (lv' := [(3, .int (x3_4 + 1)), (0, .ref a), (1, .int x1), (2, .int z33)]) hx hb dX0_valuesIn_69 hl (k := 3) rfl rfl (by decide) rfl (fun ls hl => ?_)
          refine lv_goto (tgt := 4) hx hb dX0_valuesIn_72 (by decide) ?_
          have h := lk_l (sat_some h)
          exact ih z33 (x3_4 + 1) ls h (lv_sub hl [1, 2, 3, 0] rfl)
  have h := sat_bind h
  refine hL4 _ (fun z4 ls h hl => ?_) 1000 0 0 ls h (lv_sub hl [2, 3, 1, 0] rfl)
  refine lv_iload_n hx hb dX0_valuesIn_75 rfl (lv_at hl 0 rfl) ?_
  have h := sat_some h
  exact W.iret (v := z4) hx hb hr (fun t ht _ => ⟨z4, rfl, h, ht⟩) (fun _ hq => by cases hq) dX0_valuesIn_76

/-! X0_leastAround -/
set_option maxHeartbeats 4000000 in
set_option maxRecDepth 100000 in
theorem c_X0_leastAround (l : Launch) (D : va_G) (y : ClassId × ClassId × ClassId × ClassId) (a a_values : Nat) (v_size : Int32) (v_values : Nat → Int32) (x1 : Int32) (K : Int32 → Prop) (h : sat (m_X0_leastAround v_size v_values x1) K) : Met l yX0_leastAround wsX0_leastAround ({ frames := 3, cells := 0, slots := 0, locals := 67 } : Room) (pR D y ([.ref a, .int x1] : List Value) [(a, .inr (3, [.int v_size, .ref a_values])), (a_values, .inl (y.1, 20, .inl v_values))]) (qSi K) 0 0 (fun _ => False) := by
  refine Met.ofW (cc := cX0_leastAround) (maxL := 4) (ret := (some .int)) (by decide) rfl ?_
  intro p e s m args below meth c s₁ B hml hv
  obtain ⟨rfl, hP, hK⟩ := hv
  have hx := B.exec
  have hb := B.bytes
  have hr := B.returns
  have hts := atoms_spec (ws := wsX0_leastAround) B.pre
  have hown : s.vm.findClass RX0 = some m.cls := findClass_of_methodNamed B.named
  have hlocks := B.notSynchronized
  have hl := lv_entry ([.ref a, .int x1] : List Value) (n := 4) (Nat.le_of_ble_eq_true rfl)
  rw [lg_entry_eq]
  generalize (lg_sl ([.ref a, .int x1] : List Value) ++ List.replicate (4 - (lg_sl ([.ref a, .int x1] : List Value)).length) Slot.unset).toArray = ls at hl ⊢
  have hl : lv_has ls 4 [(0, .ref a), (1, .int x1)] := hl
  unfold m_X0_leastAround at h
  refine lv_iload_n hx hb dX0_leastAround_0 rfl (lv_at hl 1 rfl) ?_
  refine lv_istore_n (lv' := [(2, .int x1), (0, .ref a), (1, .int x1)]) hx hb dX0_leastAround_1 rfl hl (by decide) rfl (fun ls hl => ?_)
  refine lv_iconst (v := 0) hx hb dX0_leastAround_2 (by decide) ?_
  refine lv_istore_n (lv' := [(3, .int 0), (2, .int x1), (0, .ref a), (1, .int x1)]) hx hb dX0_leastAround_3 rfl hl (by decide) rfl (fun ls hl => ?_)
  have hL4 : ∀ (K4 : Int32 → Prop)
      (hE4 : ∀ (z4 : Int32) (ls : Array Slot), K4 z4 → lv_has ls 4 [(2, .int z4)] → W p l e (headSpec wsX0_leastAround ({ frames := 3, cells := 0, slots := 0, locals := 67 } : Room)).room s m ([.ref a, .int x1] : List Value).toArray below meth c s.heap [] 0 0 (MQ below (qSi K) ([.ref a, .int x1] : List Value).toArray s 0 0 (fun _ => False)) (F0 m 23 ls []))
      (n : Nat) (x2_4 : Int32) (x3_4 : Int32) (ls : Array Slot), sat (lp (fun q : (Int32 × Int32) => m_X0_leastAround_s4 v_size v_values q.1 q.2) n (x2_4, x3_4)) K4 → lv_has ls 4 [(0, .ref a), (2, .int x2_4), (3, .int x3_4)] → W p l e (headSpec wsX0_leastAround ({ frames := 3, cells := 0, slots := 0, locals := 67 } : Room)).room s m ([.ref a, .int x1] : List Value).toArray below meth c s.heap [] 0 0 (MQ below (qSi K) ([.ref a, .int x1] : List Value).toArray s 0 0 (fun _ => False)) (F0 m 4 ls []) := by
    intro K4 hE4 n
    induction n with
    | zero => intro x2_4 x3_4 ls h; exact (sat_lp0 h).elim
    | succ n ih =>
      intro x2_4 x3_4 ls h hl
      have h := sat_lp h
      have h : sat (m_X0_leastAround_s4 v_size v_values x2_4 x3_4) (lk (fun s' => sat (lp (fun q : (Int32 × Int32) => m_X0_leastAround_s4 v_size v_values q.1 q.2) n s') K4) K4) := h
      unfold m_X0_leastAround_s4 at h
      refine lv_iload_n hx hb dX0_leastAround_4 rfl (lv_at hl 2 rfl) ?_
      refine lv_iconst (v := 4) hx hb dX0_leastAround_5 (by decide) ?_
      refine lv_icmp_ge (tgt := 23) hx hb dX0_leastAround_6 (by decide) (fun c6 => ?_) (fun c6 => ?_)
      · have h := sat_t c6 h
        have h := lk_r (sat_some h)
        exact hE4 x2_4 ls h (lv_sub hl [1] rfl)
      · have h := sat_f c6 h
        refine lv_iload_n hx hb dX0_leastAround_9 rfl (lv_at hl 1 rfl) ?_
        refine lv_aload_n hx hb dX0_leastAround_10 rfl (lv_at hl 0 rfl) ?_
        refine lv_iload_n hx hb dX0_leastAround_11 rfl (lv_at hl 1 rfl) ?_
        refine cr_i (rs (As := [.ref a, .int x2_4]) (rest := [.int x2_4]) ⟨hx, hb, hml, hown, hts⟩ (c_X0_valuesIn l D y a a_values v_size v_values x2_4 _ (sat_bind h)) (va_cwS 2 hts gX0_leastAround_X0_valuesIn rfl rfl rfl (by decide +kernel) ⟨Nat.le_of_ble_eq_true rfl, Nat.le_of_ble_eq_true rfl⟩) hK hP [0, 1] rfl rfl hl.1 rfl (Nat.le_of_ble_eq_true rfl) dX0_leastAround_12 ⟨Nat.zero_le _, Nat.zero_le _⟩) (fun r2 h => ?_)
        refine lv_ior hx hb dX0_leastAround_15 ?_
        refine lv_istore_n (lv' := [(2, .int (x2_4 ||| r2)), (0, .ref a), (3, .int x3_4)]) hx hb dX0_leastAround_16 rfl hl (by decide) rfl (fun ls hl => ?_)
        refine lv_iinc (v := x3_4 + 1) (lv' := [(3, .int (x3_4 + 1)), (2, .int (x2_4 ||| r2)), (0, .ref a)]) hx hb dX0_leastAround_17 hl (k := 2) rfl rfl (by decide) rfl (fun ls hl => ?_)
        refine lv_goto (tgt := 4) hx hb dX0_leastAround_20 (by decide) ?_
        have h := lk_l (sat_some h)
        exact ih (x2_4 ||| r2) (x3_4 + 1) ls h (lv_sub hl [2, 1, 0] rfl)
  have h := sat_bind h
  refine hL4 _ (fun z4 ls h hl => ?_) 1000 x1 0 ls h (lv_sub hl [2, 1, 0] rfl)
  refine lv_iload_n hx hb dX0_leastAround_23 rfl (lv_at hl 0 rfl) ?_
  have h := sat_some h
  exact W.iret (v := z4) hx hb hr (fun t ht _ => ⟨z4, rfl, h, ht⟩) (fun _ hq => by cases hq) dX0_leastAround_24

/-! X0_isClosed -/
set_option maxHeartbeats 4000000 in
set_option maxRecDepth 100000 in
theorem c_X0_isClosed (l : Launch) (D : va_G) (y : ClassId × ClassId × ClassId × ClassId) (a a_values : Nat) (v_size : Int32) (v_values : Nat → Int32) (x1 : Int32) (K : Int32 → Prop) (h : sat (m_X0_isClosed v_size v_values x1) K) : Met l yX0_isClosed wsX0_isClosed ({ frames := 3, cells := 0, slots := 0, locals := 67 } : Room) (pR D y ([.ref a, .int x1] : List Value) [(a, .inr (3, [.int v_size, .ref a_values])), (a_values, .inl (y.1, 20, .inl v_values))]) (qSi K) 0 0 (fun _ => False) := by
  refine Met.ofW (cc := cX0_isClosed) (maxL := 2) (ret := (some .boolean)) (by decide) rfl ?_
  intro p e s m args below meth c s₁ B hml hv
  obtain ⟨rfl, hP, hK⟩ := hv
  have hx := B.exec
  have hb := B.bytes
  have hr := B.returns
  have hts := atoms_spec (ws := wsX0_isClosed) B.pre
  have hown : s.vm.findClass RX0 = some m.cls := findClass_of_methodNamed B.named
  have hlocks := B.notSynchronized
  have hl := lv_entry ([.ref a, .int x1] : List Value) (n := 2) (Nat.le_of_ble_eq_true rfl)
  rw [lg_entry_eq]
  generalize (lg_sl ([.ref a, .int x1] : List Value) ++ List.replicate (2 - (lg_sl ([.ref a, .int x1] : List Value)).length) Slot.unset).toArray = ls at hl ⊢
  have hl : lv_has ls 2 [(0, .ref a), (1, .int x1)] := hl
  unfold m_X0_isClosed at h
  refine lv_aload_n hx hb dX0_isClosed_0 rfl (lv_at hl 0 rfl) ?_
  refine lv_iload_n hx hb dX0_isClosed_1 rfl (lv_at hl 1 rfl) ?_
  refine cr_i (rs (As := [.ref a, .int x1]) (rest := []) ⟨hx, hb, hml, hown, hts⟩ (c_X0_valuesIn l D y a a_values v_size v_values x1 _ (sat_bind h)) (va_cwS 2 hts gX0_isClosed_X0_valuesIn rfl rfl rfl (by decide +kernel) ⟨Nat.le_of_ble_eq_true rfl, Nat.le_of_ble_eq_true rfl⟩) hK hP [0, 1] rfl rfl hl.1 rfl (Nat.le_of_ble_eq_true rfl) dX0_isClosed_2 ⟨Nat.zero_le _, Nat.zero_le _⟩) (fun r1 h => ?_)
  refine lv_iload_n hx hb dX0_isClosed_5 rfl (lv_at hl 1 rfl) ?_
  refine lv_iconst (v := (-1)) hx hb dX0_isClosed_6 (by decide) ?_
  refine lv_ixor hx hb dX0_isClosed_7 ?_
  refine lv_iand hx hb dX0_isClosed_8 ?_
  refine lv_if_ne (tgt := 16) hx hb dX0_isClosed_9 (by decide) (fun c9 => ?_) (fun c9 => ?_)
  · have h := sat_f c9 h
    refine lv_iconst (v := 0) hx hb dX0_isClosed_16 (by decide) ?_
    have h := sat_some h
    exact W.zret (v := 0) hx hb hr rfl (fun t ht _ => ⟨0, rfl, h, ht⟩) (fun _ hq => by cases hq) dX0_isClosed_17
  · have h := sat_t c9 h
    refine lv_iconst (v := 1) hx hb dX0_isClosed_12 (by decide) ?_
    refine lv_goto (tgt := 17) hx hb dX0_isClosed_13 (by decide) ?_
    have h := sat_some h
    exact W.zret (v := 1) hx hb hr rfl (fun t ht _ => ⟨1, rfl, h, ht⟩) (fun _ hq => by cases hq) dX0_isClosed_17

/-! X0_byNumber -/
set_option maxHeartbeats 4000000 in
set_option maxRecDepth 100000 in
theorem c_X0_byNumber (l : Launch) (D : va_G) (y : ClassId × ClassId × ClassId × ClassId) (a a_values : Nat) (v_size : Int32) (v_values : Nat → Int32) (x1 : Int32) (K : Int32 → Prop) (h : sat (m_X0_byNumber v_size v_values x1) K) : Met l yX0_byNumber wsX0_byNumber ({ frames := 4, cells := 0, slots := 0, locals := 88 } : Room) (pR D y ([.ref a, .int x1] : List Value) [(a, .inr (3, [.int v_size, .ref a_values])), (a_values, .inl (y.1, 20, .inl v_values))]) (qSi K) 0 0 (fun _ => False) := by
  refine Met.ofW (cc := cX0_byNumber) (maxL := 4) (ret := (some .int)) (by decide) rfl ?_
  intro p e s m args below meth c s₁ B hml hv
  obtain ⟨rfl, hP, hK⟩ := hv
  have hx := B.exec
  have hb := B.bytes
  have hr := B.returns
  have hts := atoms_spec (ws := wsX0_byNumber) B.pre
  have hown : s.vm.findClass RX0 = some m.cls := findClass_of_methodNamed B.named
  have hlocks := B.notSynchronized
  have hl := lv_entry ([.ref a, .int x1] : List Value) (n := 4) (Nat.le_of_ble_eq_true rfl)
  rw [lg_entry_eq]
  generalize (lg_sl ([.ref a, .int x1] : List Value) ++ List.replicate (4 - (lg_sl ([.ref a, .int x1] : List Value)).length) Slot.unset).toArray = ls at hl ⊢
  have hl : lv_has ls 4 [(0, .ref a), (1, .int x1)] := hl
  unfold m_X0_byNumber at h
  refine lv_iconst (v := 0) hx hb dX0_byNumber_0 (by decide) ?_
  refine lv_istore_n (lv' := [(2, .int 0), (0, .ref a), (1, .int x1)]) hx hb dX0_byNumber_1 rfl hl (by decide) rfl (fun ls hl => ?_)
  refine lv_iconst (v := 0) hx hb dX0_byNumber_2 (by decide) ?_
  refine lv_istore_n (lv' := [(3, .int 0), (2, .int 0), (0, .ref a), (1, .int x1)]) hx hb dX0_byNumber_3 rfl hl (by decide) rfl (fun ls hl => ?_)
  have hL4 : ∀ (K4 : (Int32 ⊕ Unit) → Prop)
      (hR4 : ∀ (u : Int32), K4 (.inl u) → K u)
      (hE4 : ∀ (z4 : Unit) (ls : Array Slot), K4 (.inr z4) → lv_has ls 4 [] → W p l e (headSpec wsX0_byNumber ({ frames := 4, cells := 0, slots := 0, locals := 88 } : Room)).room s m ([.ref a, .int x1] : List Value).toArray below meth c s.heap [] 0 0 (MQ below (qSi K) ([.ref a, .int x1] : List Value).toArray s 0 0 (fun _ => False)) (F0 m 36 ls []))
      (n : Nat) (x2_4 : Int32) (x3_4 : Int32) (ls : Array Slot), sat (lp (fun q : (Int32 × Int32) => m_X0_byNumber_s4 v_size v_values x1 q.1 q.2) n (x2_4, x3_4)) K4 → lv_has ls 4 [(0, .ref a), (1, .int x1), (2, .int x2_4), (3, .int x3_4)] → W p l e (headSpec wsX0_byNumber ({ frames := 4, cells := 0, slots := 0, locals := 88 } : Room)).room s m ([.ref a, .int x1] : List Value).toArray below meth c s.heap [] 0 0 (MQ below (qSi K) ([.ref a, .int x1] : List Value).toArray s 0 0 (fun _ => False)) (F0 m 4 ls []) := by
    intro K4 hR4 hE4 n
    induction n with
    | zero => intro x2_4 x3_4 ls h; exact (sat_lp0 h).elim
    | succ n ih =>
      intro x2_4 x3_4 ls h hl
      have h := sat_lp h
      have h : sat (m_X0_byNumber_s4 v_size v_values x1 x2_4 x3_4) (lk (fun s' => sat (lp (fun q : (Int32 × Int32) => m_X0_byNumber_s4 v_size v_values x1 q.1 q.2) n s') K4) K4) := h
      unfold m_X0_byNumber_s4 at h
      refine lv_iload_n hx hb dX0_byNumber_4 rfl (lv_at hl 3 rfl) ?_
      refine lv_aload_n hx hb dX0_byNumber_5 rfl (lv_at hl 0 rfl) ?_
      refine cr_i (rv (As := []) (rest := [.int x3_4]) ⟨hx, hb, hml, hown, hts⟩ (c_X6_allElements l D y a a_values v_size _ (sat_bind h)) (cwV 0 hts gX0_byNumber_X6_allElements rfl rfl rfl (by decide +kernel) ⟨Nat.le_of_ble_eq_true rfl, Nat.le_of_ble_eq_true rfl⟩) hK hP [0] rfl 0 3 rfl rfl rfl rfl hl.1 rfl (Nat.le_of_ble_eq_true rfl) dX0_byNumber_6 ⟨Nat.zero_le _, Nat.zero_le _⟩) (fun r2 h => ?_)
      refine lv_icmp_gt (tgt := 36) hx hb dX0_byNumber_9 (by decide) (fun c9 => ?_) (fun c9 => ?_)
      · have h := sat_t c9 h
        have h := lk_r (sat_some h)
        exact hE4 () ls h (lv_sub hl [] rfl)
      · have h := sat_f c9 h
        refine lv_aload_n hx hb dX0_byNumber_12 rfl (lv_at hl 0 rfl) ?_
        refine lv_iload_n hx hb dX0_byNumber_13 rfl (lv_at hl 3 rfl) ?_
        refine cr_i (rs (As := [.ref a, .int x3_4]) (rest := []) ⟨hx, hb, hml, hown, hts⟩ (c_X0_isClosed l D y a a_values v_size v_values x3_4 _ (sat_bind h)) (va_cwS 2 hts gX0_byNumber_X0_isClosed rfl rfl rfl (by decide +kernel) ⟨Nat.le_of_ble_eq_true rfl, Nat.le_of_ble_eq_true rfl⟩) hK hP [0, 1] rfl rfl hl.1 rfl (Nat.le_of_ble_eq_true rfl) dX0_byNumber_14 ⟨Nat.zero_le _, Nat.zero_le _⟩) (fun r3 h => ?_)
        refine lv_if_eq (tgt := 30) hx hb dX0_byNumber_17 (by decide) (fun c17 => ?_) (fun c17 => ?_)
        · have h := sat_t c17 h
          refine lv_iinc (v := x3_4 + 1) (lv' := [(3, .int (x3_4 + 1)), (0, .ref a), (1, .int x1), (2, .int x2_4)]) hx hb dX0_byNumber_30 hl (k := 3) rfl rfl (by decide) rfl (fun ls hl => ?_)
          refine lv_goto (tgt := 4) hx hb dX0_byNumber_33 (by decide) ?_
          have h := lk_l (sat_some h)
          exact ih x2_4 (x3_4 + 1) ls h (lv_sub hl [1, 2, 3, 0] rfl)
        · have h := sat_f c17 h
          refine lv_iload_n hx hb dX0_byNumber_20 rfl (lv_at hl 2 rfl) ?_
          refine lv_iload_n hx hb dX0_byNumber_21 rfl (lv_at hl 1 rfl) ?_
          refine lv_icmp_ne (tgt := 27) hx hb dX0_byNumber_22 (by decide) (fun c22 => ?_) (fun c22 => ?_)
          · have h := sat_f c22 h
            refine lv_iinc (v := x2_4 + 1) (lv' := [(2, .int (x2_4 + 1)), (0, .ref a), (1, .int x1), (3, .int x3_4)]) hx hb dX0_byNumber_27 hl (k := 2) rfl rfl (by decide) rfl (fun ls hl => ?_)
            refine lv_iinc (v := x3_4 + 1) (lv' := [(3, .int (x3_4 + 1)), (2, .int (x2_4 + 1)), (0, .ref a), (1, .int x1)]) hx hb dX0_byNumber_30 hl (k := 3) rfl rfl (by decide) rfl (fun ls hl => ?_)
            refine lv_goto (tgt := 4) hx hb dX0_byNumber_33 (by decide) ?_
            have h := lk_l (sat_some h)
            exact ih (x2_4 + 1) (x3_4 + 1) ls h (lv_sub hl [2, 3, 1, 0] rfl)
          · have h := sat_t c22 h
            refine lv_iload_n hx hb dX0_byNumber_25 rfl (lv_at hl 3 rfl) ?_
            have h := hR4 _ (lk_r (sat_some h))
            exact W.iret (v := x3_4) hx hb hr (fun t ht _ => ⟨x3_4, rfl, h, ht⟩) (fun _ hq => by cases hq) dX0_byNumber_26
  have h := sat_bdS h
  refine hL4 _ (fun u h => ?_) (fun z4 ls h hl => ?_) 1000 0 0 ls h (lv_sub hl [2, 3, 1, 0] rfl)
  · have h := lk_l h
    exact sat_some h
  · have h := lk_r h
    refine lv_bipush (v := (-9)) hx hb dX0_byNumber_36 (by decide) ?_
    have h := sat_some h
    exact W.iret (v := (-9)) hx hb hr (fun t ht _ => ⟨(-9), rfl, h, ht⟩) (fun _ hq => by cases hq) dX0_byNumber_38

/-! X0_howMany -/
set_option maxHeartbeats 4000000 in
set_option maxRecDepth 100000 in
theorem c_X0_howMany (l : Launch) (D : va_G) (y : ClassId × ClassId × ClassId × ClassId) (a a_values : Nat) (v_size : Int32) (v_values : Nat → Int32) (K : Int32 → Prop) (h : sat (m_X0_howMany v_size v_values) K) : Met l yX0_howMany wsX0_howMany ({ frames := 4, cells := 0, slots := 0, locals := 88 } : Room) (pR D y ([.ref a] : List Value) [(a, .inr (3, [.int v_size, .ref a_values])), (a_values, .inl (y.1, 20, .inl v_values))]) (qSi K) 0 0 (fun _ => False) := by
  refine Met.ofW (cc := cX0_howMany) (maxL := 3) (ret := (some .int)) (by decide) rfl ?_
  intro p e s m args below meth c s₁ B hml hv
  obtain ⟨rfl, hP, hK⟩ := hv
  have hx := B.exec
  have hb := B.bytes
  have hr := B.returns
  have hts := atoms_spec (ws := wsX0_howMany) B.pre
  have hown : s.vm.findClass RX0 = some m.cls := findClass_of_methodNamed B.named
  have hlocks := B.notSynchronized
  have hl := lv_entry ([.ref a] : List Value) (n := 3) (Nat.le_of_ble_eq_true rfl)
  rw [lg_entry_eq]
  generalize (lg_sl ([.ref a] : List Value) ++ List.replicate (3 - (lg_sl ([.ref a] : List Value)).length) Slot.unset).toArray = ls at hl ⊢
  have hl : lv_has ls 3 [(0, .ref a)] := hl
  unfold m_X0_howMany at h
  refine lv_iconst (v := 0) hx hb dX0_howMany_0 (by decide) ?_
  refine lv_istore_n (lv' := [(1, .int 0), (0, .ref a)]) hx hb dX0_howMany_1 rfl hl (by decide) rfl (fun ls hl => ?_)
  refine lv_iconst (v := 0) hx hb dX0_howMany_2 (by decide) ?_
  refine lv_istore_n (lv' := [(2, .int 0), (1, .int 0), (0, .ref a)]) hx hb dX0_howMany_3 rfl hl (by decide) rfl (fun ls hl => ?_)
  have hL4 : ∀ (K4 : Int32 → Prop)
      (hE4 : ∀ (z4 : Int32) (ls : Array Slot), K4 z4 → lv_has ls 3 [(1, .int z4)] → W p l e (headSpec wsX0_howMany ({ frames := 4, cells := 0, slots := 0, locals := 88 } : Room)).room s m ([.ref a] : List Value).toArray below meth c s.heap [] 0 0 (MQ below (qSi K) ([.ref a] : List Value).toArray s 0 0 (fun _ => False)) (F0 m 29 ls []))
      (n : Nat) (x1_4 : Int32) (x2_4 : Int32) (ls : Array Slot), sat (lp (fun q : (Int32 × Int32) => m_X0_howMany_s4 v_size v_values q.1 q.2) n (x1_4, x2_4)) K4 → lv_has ls 3 [(0, .ref a), (1, .int x1_4), (2, .int x2_4)] → W p l e (headSpec wsX0_howMany ({ frames := 4, cells := 0, slots := 0, locals := 88 } : Room)).room s m ([.ref a] : List Value).toArray below meth c s.heap [] 0 0 (MQ below (qSi K) ([.ref a] : List Value).toArray s 0 0 (fun _ => False)) (F0 m 4 ls []) := by
    intro K4 hE4 n
    induction n with
    | zero => intro x1_4 x2_4 ls h; exact (sat_lp0 h).elim
    | succ n ih =>
      intro x1_4 x2_4 ls h hl
      have h := sat_lp h
      have h : sat (m_X0_howMany_s4 v_size v_values x1_4 x2_4) (lk (fun s' => sat (lp (fun q : (Int32 × Int32) => m_X0_howMany_s4 v_size v_values q.1 q.2) n s') K4) K4) := h
      unfold m_X0_howMany_s4 at h
      refine lv_iload_n hx hb dX0_howMany_4 rfl (lv_at hl 2 rfl) ?_
      refine lv_aload_n hx hb dX0_howMany_5 rfl (lv_at hl 0 rfl) ?_
      refine cr_i (rv (As := []) (rest := [.int x2_4]) ⟨hx, hb, hml, hown, hts⟩ (c_X6_allElements l D y a a_values v_size _ (sat_bind h)) (cwV 0 hts gX0_howMany_X6_allElements rfl rfl rfl (by decide +kernel) ⟨Nat.le_of_ble_eq_true rfl, Nat.le_of_ble_eq_true rfl⟩) hK hP [0] rfl 0 3 rfl rfl rfl rfl hl.1 rfl (Nat.le_of_ble_eq_true rfl) dX0_howMany_6 ⟨Nat.zero_le _, Nat.zero_le _⟩) (fun r2 h => ?_)
      refine lv_icmp_gt (tgt := 29) hx hb dX0_howMany_9 (by decide) (fun c9 => ?_) (fun c9 => ?_)
      · have h := sat_t c9 h
        have h := lk_r (sat_some h)
        exact hE4 x1_4 ls h (lv_sub hl [1] rfl)
      · have h := sat_f c9 h
        refine lv_aload_n hx hb dX0_howMany_12 rfl (lv_at hl 0 rfl) ?_
        refine lv_iload_n hx hb dX0_howMany_13 rfl (lv_at hl 2 rfl) ?_
        refine cr_i (rs (As := [.ref a, .int x2_4]) (rest := []) ⟨hx, hb, hml, hown, hts⟩ (c_X0_isClosed l D y a a_values v_size v_values x2_4 _ (sat_bind h)) (va_cwS 2 hts gX0_howMany_X0_isClosed rfl rfl rfl (by decide +kernel) ⟨Nat.le_of_ble_eq_true rfl, Nat.le_of_ble_eq_true rfl⟩) hK hP [0, 1] rfl rfl hl.1 rfl (Nat.le_of_ble_eq_true rfl) dX0_howMany_14 ⟨Nat.zero_le _, Nat.zero_le _⟩) (fun r3 h => ?_)
        refine lv_if_eq (tgt := 23) hx hb dX0_howMany_17 (by decide) (fun c17 => ?_) (fun c17 => ?_)
        · have h := sat_t c17 h
          refine lv_iinc (v := x2_4 + 1) (lv' := [(2, .int (x2_4 + 1)), (0, .ref a), (1, .int x1_4)]) hx hb dX0_howMany_23 hl (k := 2) rfl rfl (by decide) rfl (fun ls hl => ?_)
          refine lv_goto (tgt := 4) hx hb dX0_howMany_26 (by decide) ?_
          have h := lk_l (sat_some h)
          exact ih x1_4 (x2_4 + 1) ls h (lv_sub hl [1, 2, 0] rfl)
        · have h := sat_f c17 h
          refine lv_iinc (v := x1_4 + 1) (lv' := [(1, .int (x1_4 + 1)), (0, .ref a), (2, .int x2_4)]) hx hb dX0_howMany_20 hl (k := 1) rfl rfl (by decide) rfl (fun ls hl => ?_)
          refine lv_iinc (v := x2_4 + 1) (lv' := [(2, .int (x2_4 + 1)), (1, .int (x1_4 + 1)), (0, .ref a)]) hx hb dX0_howMany_23 hl (k := 2) rfl rfl (by decide) rfl (fun ls hl => ?_)
          refine lv_goto (tgt := 4) hx hb dX0_howMany_26 (by decide) ?_
          have h := lk_l (sat_some h)
          exact ih (x1_4 + 1) (x2_4 + 1) ls h (lv_sub hl [2, 1, 0] rfl)
  have h := sat_bind h
  refine hL4 _ (fun z4 ls h hl => ?_) 1000 0 0 ls h (lv_sub hl [2, 1, 0] rfl)
  refine lv_iload_n hx hb dX0_howMany_29 rfl (lv_at hl 0 rfl) ?_
  have h := sat_some h
  exact W.iret (v := z4) hx hb hr (fun t ht _ => ⟨z4, rfl, h, ht⟩) (fun _ hq => by cases hq) dX0_howMany_30

/-! X3_isThere -/
set_option maxHeartbeats 4000000 in
set_option maxRecDepth 100000 in
theorem c_X3_isThere (l : Launch) (D : va_G) (y : ClassId × ClassId × ClassId × ClassId) (x0 : Int32) (K : Int32 → Prop) (h : sat (m_X3_isThere x0) K) : Met l yX3_isThere wsX3_isThere ({ frames := 0, cells := 0, slots := 0, locals := 0 } : Room) (pR D y ([.int x0] : List Value) []) (qSi K) 0 0 (fun _ => False) := by
  refine Met.ofW (cc := cX3_isThere) (maxL := 1) (ret := (some .boolean)) (by decide) rfl ?_
  intro p e s m args below meth c s₁ B hml hv
  obtain ⟨rfl, hP, hK⟩ := hv
  have hx := B.exec
  have hb := B.bytes
  have hr := B.returns
  have hts := atoms_spec (ws := wsX3_isThere) B.pre
  have hown : s.vm.findClass RX3 = some m.cls := findClass_of_methodNamed B.named
  have hlocks := B.notSynchronized
  have hl := lv_entry ([.int x0] : List Value) (n := 1) (Nat.le_of_ble_eq_true rfl)
  rw [lg_entry_eq]
  generalize (lg_sl ([.int x0] : List Value) ++ List.replicate (1 - (lg_sl ([.int x0] : List Value)).length) Slot.unset).toArray = ls at hl ⊢
  have hl : lv_has ls 1 [(0, .int x0)] := hl
  unfold m_X3_isThere at h
  refine lv_iload_n hx hb dX3_isThere_0 rfl (lv_at hl 0 rfl) ?_
  refine lv_if_lt (tgt := 14) hx hb dX3_isThere_1 (by decide) (fun c1 => ?_) (fun c1 => ?_)
  · have h := sat_t c1 h
    refine lv_iconst (v := 0) hx hb dX3_isThere_14 (by decide) ?_
    have h := sat_some h
    exact W.zret (v := 0) hx hb hr rfl (fun t ht _ => ⟨0, rfl, h, ht⟩) (fun _ hq => by cases hq) dX3_isThere_15
  · have h := sat_f c1 h
    refine lv_iload_n hx hb dX3_isThere_4 rfl (lv_at hl 0 rfl) ?_
    refine lv_bipush (v := 7) hx hb dX3_isThere_5 (by decide) ?_
    refine lv_icmp_ge (tgt := 14) hx hb dX3_isThere_7 (by decide) (fun c7 => ?_) (fun c7 => ?_)
    · have h := sat_t c7 h
      refine lv_iconst (v := 0) hx hb dX3_isThere_14 (by decide) ?_
      have h := sat_some h
      exact W.zret (v := 0) hx hb hr rfl (fun t ht _ => ⟨0, rfl, h, ht⟩) (fun _ hq => by cases hq) dX3_isThere_15
    · have h := sat_f c7 h
      refine lv_iconst (v := 1) hx hb dX3_isThere_10 (by decide) ?_
      refine lv_goto (tgt := 15) hx hb dX3_isThere_11 (by decide) ?_
      have h := sat_some h
      exact W.zret (v := 1) hx hb hr rfl (fun t ht _ => ⟨1, rfl, h, ht⟩) (fun _ hq => by cases hq) dX3_isThere_15

/-! X3_isSo -/
set_option maxHeartbeats 4000000 in
set_option maxRecDepth 100000 in
theorem c_X3_isSo (l : Launch) (D : va_G) (y : ClassId × ClassId × ClassId × ClassId) (a a_values : Nat) (v_size : Int32) (v_values : Nat → Int32) (x1 : Int32) (x2 : Int32) (x3 : Int32) (x4 : Int32) (K : Int32 → Prop) (h : sat (m_X3_isSo v_values x1 x2 x3 x4) K) : Met l yX3_isSo wsX3_isSo ({ frames := 2, cells := 0, slots := 0, locals := 43 } : Room) (pR D y ([.ref a, .int x1, .int x2, .int x3, .int x4] : List Value) [(a, .inr (3, [.int v_size, .ref a_values])), (a_values, .inl (y.1, 20, .inl v_values))]) (qSi K) 0 0 (fun _ => False) := by
  refine Met.ofW (cc := cX3_isSo) (maxL := 5) (ret := (some .boolean)) (by decide) rfl ?_
  intro p e s m args below meth c s₁ B hml hv
  obtain ⟨rfl, hP, hK⟩ := hv
  have hx := B.exec
  have hb := B.bytes
  have hr := B.returns
  have hts := atoms_spec (ws := wsX3_isSo) B.pre
  have hown : s.vm.findClass RX3 = some m.cls := findClass_of_methodNamed B.named
  have hlocks := B.notSynchronized
  have hl := lv_entry ([.ref a, .int x1, .int x2, .int x3, .int x4] : List Value) (n := 5) (Nat.le_of_ble_eq_true rfl)
  rw [lg_entry_eq]
  generalize (lg_sl ([.ref a, .int x1, .int x2, .int x3, .int x4] : List Value) ++ List.replicate (5 - (lg_sl ([.ref a, .int x1, .int x2, .int x3, .int x4] : List Value)).length) Slot.unset).toArray = ls at hl ⊢
  have hl : lv_has ls 5 [(0, .ref a), (1, .int x1), (2, .int x2), (3, .int x3), (4, .int x4)] := hl
  unfold m_X3_isSo at h
  refine lv_iload_n hx hb dX3_isSo_0 rfl (lv_at hl 1 rfl) ?_
  by_cases c1_0 : x1 = 0
  · have h := sat_t c1_0 h
    refine lv_tableIn (tgt := 40) (off := 39) hx hb dX3_isSo_1 (by rw [c1_0]; decide) (by rw [c1_0]; decide) (by rw [c1_0]; rfl) (by decide) ?_
    refine lv_aload_n hx hb dX3_isSo_40 rfl (lv_at hl 0 rfl) ?_
    refine lv_iload_n hx hb dX3_isSo_41 rfl (lv_at hl 2 rfl) ?_
    refine lv_iload_n hx hb dX3_isSo_42 rfl (lv_at hl 2 rfl) ?_
    refine cr_i (rv (As := [.int x2, .int x2]) (rest := []) ⟨hx, hb, hml, hown, hts⟩ (c_X6_two l D y a a_values v_size v_values x2 x2 _ (sat_bind h)) (cwV 2 hts gX3_isSo_X6_two rfl rfl rfl (by decide +kernel) ⟨Nat.le_of_ble_eq_true rfl, Nat.le_of_ble_eq_true rfl⟩) hK hP [0, 1] rfl 0 3 rfl rfl rfl rfl hl.1 rfl (Nat.le_of_ble_eq_true rfl) dX3_isSo_43 ⟨Nat.zero_le _, Nat.zero_le _⟩) (fun r1 h => ?_)
    refine lv_iload_n hx hb dX3_isSo_46 rfl (lv_at hl 2 rfl) ?_
    refine lv_icmp_ne (tgt := 54) hx hb dX3_isSo_47 (by decide) (fun c47 => ?_) (fun c47 => ?_)
    · have h := sat_f c47 h
      refine lv_iconst (v := 0) hx hb dX3_isSo_54 (by decide) ?_
      have h := sat_some h
      exact W.zret (v := 0) hx hb hr rfl (fun t ht _ => ⟨0, rfl, h, ht⟩) (fun _ hq => by cases hq) dX3_isSo_55
    · have h := sat_t c47 h
      refine lv_iconst (v := 1) hx hb dX3_isSo_50 (by decide) ?_
      refine lv_goto (tgt := 55) hx hb dX3_isSo_51 (by decide) ?_
      have h := sat_some h
      exact W.zret (v := 1) hx hb hr rfl (fun t ht _ => ⟨1, rfl, h, ht⟩) (fun _ hq => by cases hq) dX3_isSo_55
  have h := sat_f c1_0 h
  by_cases c1_1 : x1 = 1
  · have h := sat_t c1_1 h
    refine lv_tableIn (tgt := 56) (off := 55) hx hb dX3_isSo_1 (by rw [c1_1]; decide) (by rw [c1_1]; decide) (by rw [c1_1]; rfl) (by decide) ?_
    refine lv_aload_n hx hb dX3_isSo_56 rfl (lv_at hl 0 rfl) ?_
    refine lv_iload_n hx hb dX3_isSo_57 rfl (lv_at hl 2 rfl) ?_
    refine lv_iload_n hx hb dX3_isSo_58 rfl (lv_at hl 3 rfl) ?_
    refine cr_i (rv (As := [.int x2, .int x3]) (rest := []) ⟨hx, hb, hml, hown, hts⟩ (c_X6_two l D y a a_values v_size v_values x2 x3 _ (sat_bind h)) (cwV 2 hts gX3_isSo_X6_two rfl rfl rfl (by decide +kernel) ⟨Nat.le_of_ble_eq_true rfl, Nat.le_of_ble_eq_true rfl⟩) hK hP [0, 1] rfl 0 3 rfl rfl rfl rfl hl.1 rfl (Nat.le_of_ble_eq_true rfl) dX3_isSo_59 ⟨Nat.zero_le _, Nat.zero_le _⟩) (fun r2 h => ?_)
    refine lv_aload_n hx hb dX3_isSo_62 rfl (lv_at hl 0 rfl) ?_
    refine lv_iload_n hx hb dX3_isSo_63 rfl (lv_at hl 3 rfl) ?_
    refine lv_iload_n hx hb dX3_isSo_64 rfl (lv_at hl 2 rfl) ?_
    refine cr_i (rv (As := [.int x3, .int x2]) (rest := [.int r2]) ⟨hx, hb, hml, hown, hts⟩ (c_X6_two l D y a a_values v_size v_values x3 x2 _ (sat_bind h)) (cwV 2 hts gX3_isSo_X6_two rfl rfl rfl (by decide +kernel) ⟨Nat.le_of_ble_eq_true rfl, Nat.le_of_ble_eq_true rfl⟩) hK hP [0, 1] rfl 0 3 rfl rfl rfl rfl hl.1 rfl (Nat.le_of_ble_eq_true rfl) dX3_isSo_65 ⟨Nat.zero_le _, Nat.zero_le _⟩) (fun r3 h => ?_)
    refine lv_icmp_ne (tgt := 75) hx hb dX3_isSo_68 (by decide) (fun c68 => ?_) (fun c68 => ?_)
    · have h := sat_f c68 h
      refine lv_iconst (v := 0) hx hb dX3_isSo_75 (by decide) ?_
      have h := sat_some h
      exact W.zret (v := 0) hx hb hr rfl (fun t ht _ => ⟨0, rfl, h, ht⟩) (fun _ hq => by cases hq) dX3_isSo_76
    · have h := sat_t c68 h
      refine lv_iconst (v := 1) hx hb dX3_isSo_71 (by decide) ?_
      refine lv_goto (tgt := 76) hx hb dX3_isSo_72 (by decide) ?_
      have h := sat_some h
      exact W.zret (v := 1) hx hb hr rfl (fun t ht _ => ⟨1, rfl, h, ht⟩) (fun _ hq => by cases hq) dX3_isSo_76
  have h := sat_f c1_1 h
  by_cases c1_2 : x1 = 2
  · have h := sat_t c1_2 h
    refine lv_tableIn (tgt := 77) (off := 76) hx hb dX3_isSo_1 (by rw [c1_2]; decide) (by rw [c1_2]; decide) (by rw [c1_2]; rfl) (by decide) ?_
    refine lv_aload_n hx hb dX3_isSo_77 rfl (lv_at hl 0 rfl) ?_
    refine lv_aload_n hx hb dX3_isSo_78 rfl (lv_at hl 0 rfl) ?_
    refine lv_iload_n hx hb dX3_isSo_79 rfl (lv_at hl 2 rfl) ?_
    refine lv_iload_n hx hb dX3_isSo_80 rfl (lv_at hl 3 rfl) ?_
    refine cr_i (rv (As := [.int x2, .int x3]) (rest := [.ref a]) ⟨hx, hb, hml, hown, hts⟩ (c_X6_two l D y a a_values v_size v_values x2 x3 _ (sat_bind h)) (cwV 2 hts gX3_isSo_X6_two rfl rfl rfl (by decide +kernel) ⟨Nat.le_of_ble_eq_true rfl, Nat.le_of_ble_eq_true rfl⟩) hK hP [0, 1] rfl 0 3 rfl rfl rfl rfl hl.1 rfl (Nat.le_of_ble_eq_true rfl) dX3_isSo_81 ⟨Nat.zero_le _, Nat.zero_le _⟩) (fun r4 h => ?_)
    refine lv_iload hx hb dX3_isSo_84 (lv_at hl 4 rfl) ?_
    refine cr_i (rv (As := [.int r4, .int x4]) (rest := []) ⟨hx, hb, hml, hown, hts⟩ (c_X6_two l D y a a_values v_size v_values r4 x4 _ (sat_bind h)) (cwV 2 hts gX3_isSo_X6_two rfl rfl rfl (by decide +kernel) ⟨Nat.le_of_ble_eq_true rfl, Nat.le_of_ble_eq_true rfl⟩) hK hP [0, 1] rfl 0 3 rfl rfl rfl rfl hl.1 rfl (Nat.le_of_ble_eq_true rfl) dX3_isSo_86 ⟨Nat.zero_le _, Nat.zero_le _⟩) (fun r5 h => ?_)
    refine lv_aload_n hx hb dX3_isSo_89 rfl (lv_at hl 0 rfl) ?_
    refine lv_iload_n hx hb dX3_isSo_90 rfl (lv_at hl 2 rfl) ?_
    refine lv_aload_n hx hb dX3_isSo_91 rfl (lv_at hl 0 rfl) ?_
    refine lv_iload_n hx hb dX3_isSo_92 rfl (lv_at hl 3 rfl) ?_
    refine lv_iload hx hb dX3_isSo_93 (lv_at hl 4 rfl) ?_
    refine cr_i (rv (As := [.int x3, .int x4]) (rest := [.int x2, .ref a, .int r5]) ⟨hx, hb, hml, hown, hts⟩ (c_X6_two l D y a a_values v_size v_values x3 x4 _ (sat_bind h)) (cwV 2 hts gX3_isSo_X6_two rfl rfl rfl (by decide +kernel) ⟨Nat.le_of_ble_eq_true rfl, Nat.le_of_ble_eq_true rfl⟩) hK hP [0, 1] rfl 0 3 rfl rfl rfl rfl hl.1 rfl (Nat.le_of_ble_eq_true rfl) dX3_isSo_95 ⟨Nat.zero_le _, Nat.zero_le _⟩) (fun r6 h => ?_)
    refine cr_i (rv (As := [.int x2, .int r6]) (rest := [.int r5]) ⟨hx, hb, hml, hown, hts⟩ (c_X6_two l D y a a_values v_size v_values x2 r6 _ (sat_bind h)) (cwV 2 hts gX3_isSo_X6_two rfl rfl rfl (by decide +kernel) ⟨Nat.le_of_ble_eq_true rfl, Nat.le_of_ble_eq_true rfl⟩) hK hP [0, 1] rfl 0 3 rfl rfl rfl rfl hl.1 rfl (Nat.le_of_ble_eq_true rfl) dX3_isSo_98 ⟨Nat.zero_le _, Nat.zero_le _⟩) (fun r7 h => ?_)
    refine lv_icmp_ne (tgt := 108) hx hb dX3_isSo_101 (by decide) (fun c101 => ?_) (fun c101 => ?_)
    · have h := sat_f c101 h
      refine lv_iconst (v := 0) hx hb dX3_isSo_108 (by decide) ?_
      have h := sat_some h
      exact W.zret (v := 0) hx hb hr rfl (fun t ht _ => ⟨0, rfl, h, ht⟩) (fun _ hq => by cases hq) dX3_isSo_109
    · have h := sat_t c101 h
      refine lv_iconst (v := 1) hx hb dX3_isSo_104 (by decide) ?_
      refine lv_goto (tgt := 109) hx hb dX3_isSo_105 (by decide) ?_
      have h := sat_some h
      exact W.zret (v := 1) hx hb hr rfl (fun t ht _ => ⟨1, rfl, h, ht⟩) (fun _ hq => by cases hq) dX3_isSo_109
  have h := sat_f c1_2 h
  by_cases c1_3 : x1 = 3
  · have h := sat_t c1_3 h
    refine lv_tableIn (tgt := 110) (off := 109) hx hb dX3_isSo_1 (by rw [c1_3]; decide) (by rw [c1_3]; decide) (by rw [c1_3]; rfl) (by decide) ?_
    refine lv_aload_n hx hb dX3_isSo_110 rfl (lv_at hl 0 rfl) ?_
    refine lv_aload_n hx hb dX3_isSo_111 rfl (lv_at hl 0 rfl) ?_
    refine lv_iload_n hx hb dX3_isSo_112 rfl (lv_at hl 2 rfl) ?_
    refine cr_i (rv (As := [.int x2]) (rest := [.ref a]) ⟨hx, hb, hml, hown, hts⟩ (c_X6_one l D y a a_values v_size v_values x2 _ (sat_bind h)) (cwV 1 hts gX3_isSo_X6_one rfl rfl rfl (by decide +kernel) ⟨Nat.le_of_ble_eq_true rfl, Nat.le_of_ble_eq_true rfl⟩) hK hP [0, 1] rfl 0 3 rfl rfl rfl rfl hl.1 rfl (Nat.le_of_ble_eq_true rfl) dX3_isSo_113 ⟨Nat.zero_le _, Nat.zero_le _⟩) (fun r8 h => ?_)
    refine cr_i (rv (As := [.int r8]) (rest := []) ⟨hx, hb, hml, hown, hts⟩ (c_X6_one l D y a a_values v_size v_values r8 _ (sat_bind h)) (cwV 1 hts gX3_isSo_X6_one rfl rfl rfl (by decide +kernel) ⟨Nat.le_of_ble_eq_true rfl, Nat.le_of_ble_eq_true rfl⟩) hK hP [0, 1] rfl 0 3 rfl rfl rfl rfl hl.1 rfl (Nat.le_of_ble_eq_true rfl) dX3_isSo_116 ⟨Nat.zero_le _, Nat.zero_le _⟩) (fun r9 h => ?_)
    refine lv_iload_n hx hb dX3_isSo_119 rfl (lv_at hl 2 rfl) ?_
    refine lv_icmp_ne (tgt := 127) hx hb dX3_isSo_120 (by decide) (fun c120 => ?_) (fun c120 => ?_)
    · have h := sat_f c120 h
      refine lv_iconst (v := 0) hx hb dX3_isSo_127 (by decide) ?_
      have h := sat_some h
      exact W.zret (v := 0) hx hb hr rfl (fun t ht _ => ⟨0, rfl, h, ht⟩) (fun _ hq => by cases hq) dX3_isSo_128
    · have h := sat_t c120 h
      refine lv_iconst (v := 1) hx hb dX3_isSo_123 (by decide) ?_
      refine lv_goto (tgt := 128) hx hb dX3_isSo_124 (by decide) ?_
      have h := sat_some h
      exact W.zret (v := 1) hx hb hr rfl (fun t ht _ => ⟨1, rfl, h, ht⟩) (fun _ hq => by cases hq) dX3_isSo_128
  have h := sat_f c1_3 h
  by_cases c1_4 : x1 = 4
  · have h := sat_t c1_4 h
    refine lv_tableIn (tgt := 129) (off := 128) hx hb dX3_isSo_1 (by rw [c1_4]; decide) (by rw [c1_4]; decide) (by rw [c1_4]; rfl) (by decide) ?_
    refine lv_aload_n hx hb dX3_isSo_129 rfl (lv_at hl 0 rfl) ?_
    refine lv_aload_n hx hb dX3_isSo_130 rfl (lv_at hl 0 rfl) ?_
    refine lv_iload_n hx hb dX3_isSo_131 rfl (lv_at hl 2 rfl) ?_
    refine lv_iload_n hx hb dX3_isSo_132 rfl (lv_at hl 3 rfl) ?_
    refine cr_i (rv (As := [.int x2, .int x3]) (rest := [.ref a]) ⟨hx, hb, hml, hown, hts⟩ (c_X6_two l D y a a_values v_size v_values x2 x3 _ (sat_bind h)) (cwV 2 hts gX3_isSo_X6_two rfl rfl rfl (by decide +kernel) ⟨Nat.le_of_ble_eq_true rfl, Nat.le_of_ble_eq_true rfl⟩) hK hP [0, 1] rfl 0 3 rfl rfl rfl rfl hl.1 rfl (Nat.le_of_ble_eq_true rfl) dX3_isSo_133 ⟨Nat.zero_le _, Nat.zero_le _⟩) (fun r10 h => ?_)
    refine cr_i (rv (As := [.int r10]) (rest := []) ⟨hx, hb, hml, hown, hts⟩ (c_X6_one l D y a a_values v_size v_values r10 _ (sat_bind h)) (cwV 1 hts gX3_isSo_X6_one rfl rfl rfl (by decide +kernel) ⟨Nat.le_of_ble_eq_true rfl, Nat.le_of_ble_eq_true rfl⟩) hK hP [0, 1] rfl 0 3 rfl rfl rfl rfl hl.1 rfl (Nat.le_of_ble_eq_true rfl) dX3_isSo_136 ⟨Nat.zero_le _, Nat.zero_le _⟩) (fun r11 h => ?_)
    refine lv_aload_n hx hb dX3_isSo_139 rfl (lv_at hl 0 rfl) ?_
    refine lv_aload_n hx hb dX3_isSo_140 rfl (lv_at hl 0 rfl) ?_
    refine lv_iload_n hx hb dX3_isSo_141 rfl (lv_at hl 3 rfl) ?_
    refine cr_i (rv (As := [.int x3]) (rest := [.ref a, .int r11]) ⟨hx, hb, hml, hown, hts⟩ (c_X6_one l D y a a_values v_size v_values x3 _ (sat_bind h)) (cwV 1 hts gX3_isSo_X6_one rfl rfl rfl (by decide +kernel) ⟨Nat.le_of_ble_eq_true rfl, Nat.le_of_ble_eq_true rfl⟩) hK hP [0, 1] rfl 0 3 rfl rfl rfl rfl hl.1 rfl (Nat.le_of_ble_eq_true rfl) dX3_isSo_142 ⟨Nat.zero_le _, Nat.zero_le _⟩) (fun r12 h => ?_)
    refine lv_aload_n hx hb dX3_isSo_145 rfl (lv_at hl 0 rfl) ?_
    refine lv_iload_n hx hb dX3_isSo_146 rfl (lv_at hl 2 rfl) ?_
    refine cr_i (rv (As := [.int x2]) (rest := [.int r12, .ref a, .int r11]) ⟨hx, hb, hml, hown, hts⟩ (c_X6_one l D y a a_values v_size v_values x2 _ (sat_bind h)) (cwV 1 hts gX3_isSo_X6_one rfl rfl rfl (by decide +kernel) ⟨Nat.le_of_ble_eq_true rfl, Nat.le_of_ble_eq_true rfl⟩) hK hP [0, 1] rfl 0 3 rfl rfl rfl rfl hl.1 rfl (Nat.le_of_ble_eq_true rfl) dX3_isSo_147 ⟨Nat.zero_le _, Nat.zero_le _⟩) (fun r13 h => ?_)
    refine cr_i (rv (As := [.int r12, .int r13]) (rest := [.int r11]) ⟨hx, hb, hml, hown, hts⟩ (c_X6_two l D y a a_values v_size v_values r12 r13 _ (sat_bind h)) (cwV 2 hts gX3_isSo_X6_two rfl rfl rfl (by decide +kernel) ⟨Nat.le_of_ble_eq_true rfl, Nat.le_of_ble_eq_true rfl⟩) hK hP [0, 1] rfl 0 3 rfl rfl rfl rfl hl.1 rfl (Nat.le_of_ble_eq_true rfl) dX3_isSo_150 ⟨Nat.zero_le _, Nat.zero_le _⟩) (fun r14 h => ?_)
    refine lv_icmp_ne (tgt := 160) hx hb dX3_isSo_153 (by decide) (fun c153 => ?_) (fun c153 => ?_)
    · have h := sat_f c153 h
      refine lv_iconst (v := 0) hx hb dX3_isSo_160 (by decide) ?_
      have h := sat_some h
      exact W.zret (v := 0) hx hb hr rfl (fun t ht _ => ⟨0, rfl, h, ht⟩) (fun _ hq => by cases hq) dX3_isSo_161
    · have h := sat_t c153 h
      refine lv_iconst (v := 1) hx hb dX3_isSo_156 (by decide) ?_
      refine lv_goto (tgt := 161) hx hb dX3_isSo_157 (by decide) ?_
      have h := sat_some h
      exact W.zret (v := 1) hx hb hr rfl (fun t ht _ => ⟨1, rfl, h, ht⟩) (fun _ hq => by cases hq) dX3_isSo_161
  have h := sat_f c1_4 h
  by_cases c1_5 : x1 = 5
  · have h := sat_t c1_5 h
    refine lv_tableIn (tgt := 162) (off := 161) hx hb dX3_isSo_1 (by rw [c1_5]; decide) (by rw [c1_5]; decide) (by rw [c1_5]; rfl) (by decide) ?_
    refine lv_aload_n hx hb dX3_isSo_162 rfl (lv_at hl 0 rfl) ?_
    refine lv_iload_n hx hb dX3_isSo_163 rfl (lv_at hl 2 rfl) ?_
    refine lv_aload_n hx hb dX3_isSo_164 rfl (lv_at hl 0 rfl) ?_
    refine lv_iload_n hx hb dX3_isSo_165 rfl (lv_at hl 2 rfl) ?_
    refine lv_iload_n hx hb dX3_isSo_166 rfl (lv_at hl 3 rfl) ?_
    refine cr_i (rv (As := [.int x2, .int x3]) (rest := [.int x2, .ref a]) ⟨hx, hb, hml, hown, hts⟩ (c_X6_two l D y a a_values v_size v_values x2 x3 _ (sat_bind h)) (cwV 2 hts gX3_isSo_X6_two rfl rfl rfl (by decide +kernel) ⟨Nat.le_of_ble_eq_true rfl, Nat.le_of_ble_eq_true rfl⟩) hK hP [0, 1] rfl 0 3 rfl rfl rfl rfl hl.1 rfl (Nat.le_of_ble_eq_true rfl) dX3_isSo_167 ⟨Nat.zero_le _, Nat.zero_le _⟩) (fun r15 h => ?_)
    refine cr_i (rv (As := [.int x2, .int r15]) (rest := []) ⟨hx, hb, hml, hown, hts⟩ (c_X6_two l D y a a_values v_size v_values x2 r15 _ (sat_bind h)) (cwV 2 hts gX3_isSo_X6_two rfl rfl rfl (by decide +kernel) ⟨Nat.le_of_ble_eq_true rfl, Nat.le_of_ble_eq_true rfl⟩) hK hP [0, 1] rfl 0 3 rfl rfl rfl rfl hl.1 rfl (Nat.le_of_ble_eq_true rfl) dX3_isSo_170 ⟨Nat.zero_le _, Nat.zero_le _⟩) (fun r16 h => ?_)
    refine lv_aload_n hx hb dX3_isSo_173 rfl (lv_at hl 0 rfl) ?_
    refine lv_iload_n hx hb dX3_isSo_174 rfl (lv_at hl 2 rfl) ?_
    refine lv_iload_n hx hb dX3_isSo_175 rfl (lv_at hl 3 rfl) ?_
    refine cr_i (rv (As := [.int x2, .int x3]) (rest := [.int r16]) ⟨hx, hb, hml, hown, hts⟩ (c_X6_two l D y a a_values v_size v_values x2 x3 _ (sat_bind h)) (cwV 2 hts gX3_isSo_X6_two rfl rfl rfl (by decide +kernel) ⟨Nat.le_of_ble_eq_true rfl, Nat.le_of_ble_eq_true rfl⟩) hK hP [0, 1] rfl 0 3 rfl rfl rfl rfl hl.1 rfl (Nat.le_of_ble_eq_true rfl) dX3_isSo_176 ⟨Nat.zero_le _, Nat.zero_le _⟩) (fun r17 h => ?_)
    refine lv_icmp_ne (tgt := 186) hx hb dX3_isSo_179 (by decide) (fun c179 => ?_) (fun c179 => ?_)
    · have h := sat_f c179 h
      refine lv_iconst (v := 0) hx hb dX3_isSo_186 (by decide) ?_
      have h := sat_some h
      exact W.zret (v := 0) hx hb hr rfl (fun t ht _ => ⟨0, rfl, h, ht⟩) (fun _ hq => by cases hq) dX3_isSo_187
    · have h := sat_t c179 h
      refine lv_iconst (v := 1) hx hb dX3_isSo_182 (by decide) ?_
      refine lv_goto (tgt := 187) hx hb dX3_isSo_183 (by decide) ?_
      have h := sat_some h
      exact W.zret (v := 1) hx hb hr rfl (fun t ht _ => ⟨1, rfl, h, ht⟩) (fun _ hq => by cases hq) dX3_isSo_187
  have h := sat_f c1_5 h
  have e1_0 : (x1).toInt ≠ 0 := fun q => c1_0 (Int32.toInt_inj.mp (q.trans rfl))
  have e1_1 : (x1).toInt ≠ 1 := fun q => c1_1 (Int32.toInt_inj.mp (q.trans rfl))
  have e1_2 : (x1).toInt ≠ 2 := fun q => c1_2 (Int32.toInt_inj.mp (q.trans rfl))
  have e1_3 : (x1).toInt ≠ 3 := fun q => c1_3 (Int32.toInt_inj.mp (q.trans rfl))
  have e1_4 : (x1).toInt ≠ 4 := fun q => c1_4 (Int32.toInt_inj.mp (q.trans rfl))
  have e1_5 : (x1).toInt ≠ 5 := fun q => c1_5 (Int32.toInt_inj.mp (q.trans rfl))
  refine lv_tableOut (tgt := 188) hx hb dX3_isSo_1 (by omega) (by decide) ?_
  refine lv_aload_n hx hb dX3_isSo_188 rfl (lv_at hl 0 rfl) ?_
  refine lv_iload_n hx hb dX3_isSo_189 rfl (lv_at hl 2 rfl) ?_
  refine lv_aload_n hx hb dX3_isSo_190 rfl (lv_at hl 0 rfl) ?_
  refine lv_iload_n hx hb dX3_isSo_191 rfl (lv_at hl 2 rfl) ?_
  refine cr_i (rv (As := [.int x2]) (rest := [.int x2, .ref a]) ⟨hx, hb, hml, hown, hts⟩ (c_X6_one l D y a a_values v_size v_values x2 _ (sat_bind h)) (cwV 1 hts gX3_isSo_X6_one rfl rfl rfl (by decide +kernel) ⟨Nat.le_of_ble_eq_true rfl, Nat.le_of_ble_eq_true rfl⟩) hK hP [0, 1] rfl 0 3 rfl rfl rfl rfl hl.1 rfl (Nat.le_of_ble_eq_true rfl) dX3_isSo_192 ⟨Nat.zero_le _, Nat.zero_le _⟩) (fun r18 h => ?_)
  refine cr_i (rv (As := [.int x2, .int r18]) (rest := []) ⟨hx, hb, hml, hown, hts⟩ (c_X6_two l D y a a_values v_size v_values x2 r18 _ (sat_bind h)) (cwV 2 hts gX3_isSo_X6_two rfl rfl rfl (by decide +kernel) ⟨Nat.le_of_ble_eq_true rfl, Nat.le_of_ble_eq_true rfl⟩) hK hP [0, 1] rfl 0 3 rfl rfl rfl rfl hl.1 rfl (Nat.le_of_ble_eq_true rfl) dX3_isSo_195 ⟨Nat.zero_le _, Nat.zero_le _⟩) (fun r19 h => ?_)
  refine lv_aload_n hx hb dX3_isSo_198 rfl (lv_at hl 0 rfl) ?_
  refine lv_iload_n hx hb dX3_isSo_199 rfl (lv_at hl 3 rfl) ?_
  refine lv_aload_n hx hb dX3_isSo_200 rfl (lv_at hl 0 rfl) ?_
  refine lv_iload_n hx hb dX3_isSo_201 rfl (lv_at hl 3 rfl) ?_
  refine cr_i (rv (As := [.int x3]) (rest := [.int x3, .ref a, .int r19]) ⟨hx, hb, hml, hown, hts⟩ (c_X6_one l D y a a_values v_size v_values x3 _ (sat_bind h)) (cwV 1 hts gX3_isSo_X6_one rfl rfl rfl (by decide +kernel) ⟨Nat.le_of_ble_eq_true rfl, Nat.le_of_ble_eq_true rfl⟩) hK hP [0, 1] rfl 0 3 rfl rfl rfl rfl hl.1 rfl (Nat.le_of_ble_eq_true rfl) dX3_isSo_202 ⟨Nat.zero_le _, Nat.zero_le _⟩) (fun r20 h => ?_)
  refine cr_i (rv (As := [.int x3, .int r20]) (rest := [.int r19]) ⟨hx, hb, hml, hown, hts⟩ (c_X6_two l D y a a_values v_size v_values x3 r20 _ (sat_bind h)) (cwV 2 hts gX3_isSo_X6_two rfl rfl rfl (by decide +kernel) ⟨Nat.le_of_ble_eq_true rfl, Nat.le_of_ble_eq_true rfl⟩) hK hP [0, 1] rfl 0 3 rfl rfl rfl rfl hl.1 rfl (Nat.le_of_ble_eq_true rfl) dX3_isSo_205 ⟨Nat.zero_le _, Nat.zero_le _⟩) (fun r21 h => ?_)
  refine lv_icmp_ne (tgt := 215) hx hb dX3_isSo_208 (by decide) (fun c208 => ?_) (fun c208 => ?_)
  · have h := sat_f c208 h
    refine lv_iconst (v := 0) hx hb dX3_isSo_215 (by decide) ?_
    have h := sat_some h
    exact W.zret (v := 0) hx hb hr rfl (fun t ht _ => ⟨0, rfl, h, ht⟩) (fun _ hq => by cases hq) dX3_isSo_216
  · have h := sat_t c208 h
    refine lv_iconst (v := 1) hx hb dX3_isSo_211 (by decide) ?_
    refine lv_goto (tgt := 216) hx hb dX3_isSo_212 (by decide) ?_
    have h := sat_some h
    exact W.zret (v := 1) hx hb hr rfl (fun t ht _ => ⟨1, rfl, h, ht⟩) (fun _ hq => by cases hq) dX3_isSo_216

/-! X3_firstAgainst -/
set_option maxHeartbeats 4000000 in
set_option maxRecDepth 100000 in
theorem c_X3_firstAgainst (l : Launch) (D : va_G) (y : ClassId × ClassId × ClassId × ClassId) (a a_values : Nat) (v_size : Int32) (v_values : Nat → Int32) (x1 : Int32) (K : Int32 → Prop) (h : sat (m_X3_firstAgainst v_size v_values x1) K) : Met l yX3_firstAgainst wsX3_firstAgainst ({ frames := 3, cells := 0, slots := 0, locals := 67 } : Room) (pR D y ([.ref a, .int x1] : List Value) [(a, .inr (3, [.int v_size, .ref a_values])), (a_values, .inl (y.1, 20, .inl v_values))]) (qSi K) 0 0 (fun _ => False) := by
  refine Met.ofW (cc := cX3_firstAgainst) (maxL := 7) (ret := (some .int)) (by decide) rfl ?_
  intro p e s m args below meth c s₁ B hml hv
  obtain ⟨rfl, hP, hK⟩ := hv
  have hx := B.exec
  have hb := B.bytes
  have hr := B.returns
  have hts := atoms_spec (ws := wsX3_firstAgainst) B.pre
  have hown : s.vm.findClass RX3 = some m.cls := findClass_of_methodNamed B.named
  have hlocks := B.notSynchronized
  have iX6 : ∀ w ∈ wsX60, w ∈ wsX3_firstAgainst := by decide +kernel
  have fl15 := hts (.fieldLink RX3 15 "AlgebraLaws$Tables" "size" "I") (by decide +kernel)
  have hl := lv_entry ([.ref a, .int x1] : List Value) (n := 7) (Nat.le_of_ble_eq_true rfl)
  rw [lg_entry_eq]
  generalize (lg_sl ([.ref a, .int x1] : List Value) ++ List.replicate (7 - (lg_sl ([.ref a, .int x1] : List Value)).length) Slot.unset).toArray = ls at hl ⊢
  have hl : lv_has ls 7 [(0, .ref a), (1, .int x1)] := hl
  have hJ31 : ∀ (x2_31 : Int32) (t0_31 : Int32) (ls : Array Slot), sat (m_X3_firstAgainst_j31 v_size v_values x1 x2_31 t0_31) K → lv_has ls 7 [(0, .ref a), (1, .int x1), (2, .int x2_31)] → W p l e (headSpec wsX3_firstAgainst ({ frames := 3, cells := 0, slots := 0, locals := 67 } : Room)).room s m ([.ref a, .int x1] : List Value).toArray below meth c s.heap [] 0 0 (MQ below (qSi K) ([.ref a, .int x1] : List Value).toArray s 0 0 (fun _ => False)) (F0 m 31 ls [.int t0_31]) := by
    intro x2_31 t0_31 ls h hl
    unfold m_X3_firstAgainst_j31 at h
    refine lv_istore_n (lv' := [(3, .int t0_31), (0, .ref a), (1, .int x1), (2, .int x2_31)]) hx hb dX3_firstAgainst_31 rfl hl (by decide) rfl (fun ls hl => ?_)
    refine lv_iconst (v := 0) hx hb dX3_firstAgainst_32 (by decide) ?_
    refine lv_istore (lv' := [(4, .int 0), (3, .int t0_31), (0, .ref a), (1, .int x1), (2, .int x2_31)]) hx hb dX3_firstAgainst_33 hl (by decide) rfl (fun ls hl => ?_)
    have hL35 : ∀ (K35 : (Int32 ⊕ Unit) → Prop)
        (hR35 : ∀ (u : Int32), K35 (.inl u) → K u)
        (hE35 : ∀ (z35 : Unit) (ls : Array Slot), K35 (.inr z35) → lv_has ls 7 [] → W p l e (headSpec wsX3_firstAgainst ({ frames := 3, cells := 0, slots := 0, locals := 67 } : Room)).room s m ([.ref a, .int x1] : List Value).toArray below meth c s.heap [] 0 0 (MQ below (qSi K) ([.ref a, .int x1] : List Value).toArray s 0 0 (fun _ => False)) (F0 m 109 ls []))
        (n : Nat) (x4_35 : Int32) (ls : Array Slot), sat (lp (fun q : Int32 => m_X3_firstAgainst_s35 v_size v_values x1 x2_31 t0_31 q) n x4_35) K35 → lv_has ls 7 [(0, .ref a), (1, .int x1), (2, .int x2_31), (3, .int t0_31), (4, .int x4_35)] → W p l e (headSpec wsX3_firstAgainst ({ frames := 3, cells := 0, slots := 0, locals := 67 } : Room)).room s m ([.ref a, .int x1] : List Value).toArray below meth c s.heap [] 0 0 (MQ below (qSi K) ([.ref a, .int x1] : List Value).toArray s 0 0 (fun _ => False)) (F0 m 35 ls []) := by
      intro K35 hR35 hE35 n
      induction n with
      | zero => intro x4_35 ls h; exact (sat_lp0 h).elim
      | succ n ih =>
        intro x4_35 ls h hl
        have h := sat_lp h
        have h : sat (m_X3_firstAgainst_s35 v_size v_values x1 x2_31 t0_31 x4_35) (lk (fun s' => sat (lp (fun q : Int32 => m_X3_firstAgainst_s35 v_size v_values x1 x2_31 t0_31 q) n s') K35) K35) := h
        unfold m_X3_firstAgainst_s35 at h
        refine lv_iload hx hb dX3_firstAgainst_35 (lv_at hl 4 rfl) ?_
        refine lv_aload_n hx hb dX3_firstAgainst_37 rfl (lv_at hl 0 rfl) ?_
        refine va_get (D := D) (ci := 3) (v := .int v_size) (C := RX6) (T := TX6) (N := 2) hx hb hts iX6 hown hK hP 0 rfl rfl 0 (by decide) fl15 (fun _ h9 => h9) rfl dX3_firstAgainst_38 ?_
        refine lv_icmp_ge (tgt := 109) hx hb dX3_firstAgainst_41 (by decide) (fun c41 => ?_) (fun c41 => ?_)
        · have h := sat_t c41 h
          have h := lk_r (sat_some h)
          exact hE35 () ls h (lv_sub hl [] rfl)
        · have h := sat_f c41 h
          refine lv_iconst (v := 0) hx hb dX3_firstAgainst_44 (by decide) ?_
          refine lv_istore (lv' := [(5, .int 0), (0, .ref a), (1, .int x1), (2, .int x2_31), (3, .int t0_31), (4, .int x4_35)]) hx hb dX3_firstAgainst_45 hl (by decide) rfl (fun ls hl => ?_)
          have hL47 : ∀ (K47 : (Int32 ⊕ Unit) → Prop)
              (hR47 : ∀ (u : Int32), K47 (.inl u) → K u)
              (hE47 : ∀ (z47 : Unit) (ls : Array Slot), K47 (.inr z47) → lv_has ls 7 [(0, .ref a), (1, .int x1), (2, .int x2_31), (3, .int t0_31), (4, .int x4_35)] → W p l e (headSpec wsX3_firstAgainst ({ frames := 3, cells := 0, slots := 0, locals := 67 } : Room)).room s m ([.ref a, .int x1] : List Value).toArray below meth c s.heap [] 0 0 (MQ below (qSi K) ([.ref a, .int x1] : List Value).toArray s 0 0 (fun _ => False)) (F0 m 103 ls []))
              (n : Nat) (x5_47 : Int32) (ls : Array Slot), sat (lp (fun q : Int32 => m_X3_firstAgainst_s47 v_values x1 x2_31 t0_31 x4_35 q) n x5_47) K47 → lv_has ls 7 [(0, .ref a), (1, .int x1), (2, .int x2_31), (3, .int t0_31), (4, .int x4_35), (5, .int x5_47)] → W p l e (headSpec wsX3_firstAgainst ({ frames := 3, cells := 0, slots := 0, locals := 67 } : Room)).room s m ([.ref a, .int x1] : List Value).toArray below meth c s.heap [] 0 0 (MQ below (qSi K) ([.ref a, .int x1] : List Value).toArray s 0 0 (fun _ => False)) (F0 m 47 ls []) := by
            intro K47 hR47 hE47 n
            induction n with
            | zero => intro x5_47 ls h; exact (sat_lp0 h).elim
            | succ n ih =>
              intro x5_47 ls h hl
              have h := sat_lp h
              have h : sat (m_X3_firstAgainst_s47 v_values x1 x2_31 t0_31 x4_35 x5_47) (lk (fun s' => sat (lp (fun q : Int32 => m_X3_firstAgainst_s47 v_values x1 x2_31 t0_31 x4_35 q) n s') K47) K47) := h
              unfold m_X3_firstAgainst_s47 at h
              refine lv_iload hx hb dX3_firstAgainst_47 (lv_at hl 5 rfl) ?_
              refine lv_iload_n hx hb dX3_firstAgainst_49 rfl (lv_at hl 2 rfl) ?_
              refine lv_icmp_ge (tgt := 103) hx hb dX3_firstAgainst_50 (by decide) (fun c50 => ?_) (fun c50 => ?_)
              · have h := sat_t c50 h
                have h := lk_r (sat_some h)
                exact hE47 () ls h (lv_sub hl [0, 1, 2, 3, 4] rfl)
              · have h := sat_f c50 h
                refine lv_iconst (v := 0) hx hb dX3_firstAgainst_53 (by decide) ?_
                refine lv_istore (lv' := [(6, .int 0), (0, .ref a), (1, .int x1), (2, .int x2_31), (3, .int t0_31), (4, .int x4_35), (5, .int x5_47)]) hx hb dX3_firstAgainst_54 hl (by decide) rfl (fun ls hl => ?_)
                have hL56 : ∀ (K56 : (Int32 ⊕ Unit) → Prop)
                    (hR56 : ∀ (u : Int32), K56 (.inl u) → K u)
                    (hE56 : ∀ (z56 : Unit) (ls : Array Slot), K56 (.inr z56) → lv_has ls 7 [(0, .ref a), (1, .int x1), (2, .int x2_31), (3, .int t0_31), (4, .int x4_35), (5, .int x5_47)] → W p l e (headSpec wsX3_firstAgainst ({ frames := 3, cells := 0, slots := 0, locals := 67 } : Room)).room s m ([.ref a, .int x1] : List Value).toArray below meth c s.heap [] 0 0 (MQ below (qSi K) ([.ref a, .int x1] : List Value).toArray s 0 0 (fun _ => False)) (F0 m 97 ls []))
                    (n : Nat) (x6_56 : Int32) (ls : Array Slot), sat (lp (fun q : Int32 => m_X3_firstAgainst_s56 v_values x1 t0_31 x4_35 x5_47 q) n x6_56) K56 → lv_has ls 7 [(0, .ref a), (1, .int x1), (2, .int x2_31), (3, .int t0_31), (4, .int x4_35), (5, .int x5_47), (6, .int x6_56)] → W p l e (headSpec wsX3_firstAgainst ({ frames := 3, cells := 0, slots := 0, locals := 67 } : Room)).room s m ([.ref a, .int x1] : List Value).toArray below meth c s.heap [] 0 0 (MQ below (qSi K) ([.ref a, .int x1] : List Value).toArray s 0 0 (fun _ => False)) (F0 m 56 ls []) := by
                  intro K56 hR56 hE56 n
                  induction n with
                  | zero => intro x6_56 ls h; exact (sat_lp0 h).elim
                  | succ n ih =>
                    intro x6_56 ls h hl
                    have h := sat_lp h
                    have h : sat (m_X3_firstAgainst_s56 v_values x1 t0_31 x4_35 x5_47 x6_56) (lk (fun s' => sat (lp (fun q : Int32 => m_X3_firstAgainst_s56 v_values x1 t0_31 x4_35 x5_47 q) n s') K56) K56) := h
                    unfold m_X3_firstAgainst_s56 at h
                    refine lv_iload hx hb dX3_firstAgainst_56 (lv_at hl 6 rfl) ?_
                    refine lv_iload_n hx hb dX3_firstAgainst_58 rfl (lv_at hl 3 rfl) ?_
                    refine lv_icmp_ge (tgt := 97) hx hb dX3_firstAgainst_59 (by decide) (fun c59 => ?_) (fun c59 => ?_)
                    · have h := sat_t c59 h
                      have h := lk_r (sat_some h)
                      exact hE56 () ls h (lv_sub hl [0, 1, 2, 3, 4, 5] rfl)
                    · have h := sat_f c59 h
                      refine lv_aload_n hx hb dX3_firstAgainst_62 rfl (lv_at hl 0 rfl) ?_
                      refine lv_iload_n hx hb dX3_firstAgainst_63 rfl (lv_at hl 1 rfl) ?_
                      refine lv_iload hx hb dX3_firstAgainst_64 (lv_at hl 4 rfl) ?_
                      refine lv_iload hx hb dX3_firstAgainst_66 (lv_at hl 5 rfl) ?_
                      refine lv_iload hx hb dX3_firstAgainst_68 (lv_at hl 6 rfl) ?_
                      refine cr_i (rs (As := [.ref a, .int x1, .int x4_35, .int x5_47, .int x6_56]) (rest := []) ⟨hx, hb, hml, hown, hts⟩ (c_X3_isSo l D y a a_values v_size v_values x1 x4_35 x5_47 x6_56 _ (sat_bind h)) (va_cwS 5 hts gX3_firstAgainst_X3_isSo rfl rfl rfl (by decide +kernel) ⟨Nat.le_of_ble_eq_true rfl, Nat.le_of_ble_eq_true rfl⟩) hK hP [0, 1] rfl rfl hl.1 rfl (Nat.le_of_ble_eq_true rfl) dX3_firstAgainst_70 ⟨Nat.zero_le _, Nat.zero_le _⟩) (fun r4 h => ?_)
                      refine lv_if_ne (tgt := 91) hx hb dX3_firstAgainst_73 (by decide) (fun c73 => ?_) (fun c73 => ?_)
                      · have h := sat_f c73 h
                        refine lv_iinc (v := x6_56 + 1) (lv' := [(6, .int (x6_56 + 1)), (0, .ref a), (1, .int x1), (2, .int x2_31), (3, .int t0_31), (4, .int x4_35), (5, .int x5_47)]) hx hb dX3_firstAgainst_91 hl (k := 6) rfl rfl (by decide) rfl (fun ls hl => ?_)
                        refine lv_goto (tgt := 56) hx hb dX3_firstAgainst_94 (by decide) ?_
                        have h := lk_l (sat_some h)
                        exact ih (x6_56 + 1) ls h (lv_sub hl [1, 2, 3, 4, 5, 6, 0] rfl)
                      · have h := sat_t c73 h
                        refine lv_bipush (v := 100) hx hb dX3_firstAgainst_76 (by decide) ?_
                        refine lv_iload hx hb dX3_firstAgainst_78 (lv_at hl 4 rfl) ?_
                        refine lv_imul hx hb dX3_firstAgainst_80 ?_
                        refine lv_bipush (v := 10) hx hb dX3_firstAgainst_81 (by decide) ?_
                        refine lv_iload hx hb dX3_firstAgainst_83 (lv_at hl 5 rfl) ?_
                        refine lv_imul hx hb dX3_firstAgainst_85 ?_
                        refine lv_iadd hx hb dX3_firstAgainst_86 ?_
                        refine lv_iload hx hb dX3_firstAgainst_87 (lv_at hl 6 rfl) ?_
                        refine lv_iadd hx hb dX3_firstAgainst_89 ?_
                        have h := hR56 _ (lk_r (sat_some h))
                        exact W.iret (v := ((100 * x4_35) + (10 * x5_47)) + x6_56) hx hb hr (fun t ht _ => ⟨((100 * x4_35) + (10 * x5_47)) + x6_56, rfl, h, ht⟩) (fun _ hq => by cases hq) dX3_firstAgainst_90
                have h := sat_bdS h
                refine hL56 _ (fun u h => ?_) (fun z56 ls h hl => ?_) 1000 0 ls h (lv_sub hl [1, 2, 3, 4, 5, 6, 0] rfl)
                · have h := lk_l h
                  exact hR47 _ (lk_r (sat_some h))
                · have h := lk_r h
                  refine lv_iinc (v := x5_47 + 1) (lv' := [(5, .int (x5_47 + 1)), (0, .ref a), (1, .int x1), (2, .int x2_31), (3, .int t0_31), (4, .int x4_35)]) hx hb dX3_firstAgainst_97 hl (k := 5) rfl rfl (by decide) rfl (fun ls hl => ?_)
                  refine lv_goto (tgt := 47) hx hb dX3_firstAgainst_100 (by decide) ?_
                  have h := lk_l (sat_some h)
                  exact ih (x5_47 + 1) ls h (lv_sub hl [1, 2, 3, 4, 5, 0] rfl)
          have h := sat_bdS h
          refine hL47 _ (fun u h => ?_) (fun z47 ls h hl => ?_) 1000 0 ls h (lv_sub hl [1, 2, 3, 4, 5, 0] rfl)
          · have h := lk_l h
            exact hR35 _ (lk_r (sat_some h))
          · have h := lk_r h
            refine lv_iinc (v := x4_35 + 1) (lv' := [(4, .int (x4_35 + 1)), (0, .ref a), (1, .int x1), (2, .int x2_31), (3, .int t0_31)]) hx hb dX3_firstAgainst_103 hl (k := 4) rfl rfl (by decide) rfl (fun ls hl => ?_)
            refine lv_goto (tgt := 35) hx hb dX3_firstAgainst_106 (by decide) ?_
            have h := lk_l (sat_some h)
            exact ih (x4_35 + 1) ls h (lv_sub hl [1, 2, 3, 4, 0] rfl)
    have h := sat_bdS h
    refine hL35 _ (fun u h => ?_) (fun z35 ls h hl => ?_) 1000 0 ls h (lv_sub hl [2, 3, 4, 1, 0] rfl)
    · have h := lk_l h
      exact sat_some h
    · have h := lk_r h
      refine lv_bipush (v := (-9)) hx hb dX3_firstAgainst_109 (by decide) ?_
      have h := sat_some h
      exact W.iret (v := (-9)) hx hb hr (fun t ht _ => ⟨(-9), rfl, h, ht⟩) (fun _ hq => by cases hq) dX3_firstAgainst_111
  have hJ17 : ∀ (t0_17 : Int32) (ls : Array Slot), sat (m_X3_firstAgainst_j17 v_size v_values x1 t0_17) K → lv_has ls 7 [(0, .ref a), (1, .int x1)] → W p l e (headSpec wsX3_firstAgainst ({ frames := 3, cells := 0, slots := 0, locals := 67 } : Room)).room s m ([.ref a, .int x1] : List Value).toArray below meth c s.heap [] 0 0 (MQ below (qSi K) ([.ref a, .int x1] : List Value).toArray s 0 0 (fun _ => False)) (F0 m 17 ls [.int t0_17]) := by
    intro t0_17 ls h hl
    unfold m_X3_firstAgainst_j17 at h
    refine lv_istore_n (lv' := [(2, .int t0_17), (0, .ref a), (1, .int x1)]) hx hb dX3_firstAgainst_17 rfl hl (by decide) rfl (fun ls hl => ?_)
    refine lv_iload_n hx hb dX3_firstAgainst_18 rfl (lv_at hl 2 rfl) ?_
    refine lv_iconst (v := 2) hx hb dX3_firstAgainst_19 (by decide) ?_
    refine lv_icmp_ne (tgt := 30) hx hb dX3_firstAgainst_20 (by decide) (fun c20 => ?_) (fun c20 => ?_)
    · have h := sat_f c20 h
      refine lv_iconst (v := 1) hx hb dX3_firstAgainst_30 (by decide) ?_
      exact hJ31 t0_17 1 ls h (lv_sub hl [1, 2, 0] rfl)
    · have h := sat_t c20 h
      refine lv_aload_n hx hb dX3_firstAgainst_23 rfl (lv_at hl 1 rfl) ?_
      refine va_get (D := D) (ci := 3) (v := .int v_size) (C := RX6) (T := TX6) (N := 2) hx hb hts iX6 hown hK hP 0 rfl rfl 0 (by decide) fl15 (fun _ h9 => h9) rfl dX3_firstAgainst_24 ?_
      refine lv_goto (tgt := 31) hx hb dX3_firstAgainst_27 (by decide) ?_
      exact hJ31 t0_17 v_size ls h (lv_sub hl [1, 2, 0] rfl)
  have hJ9 : ∀  (ls : Array Slot), sat (m_X3_firstAgainst_j9 v_size v_values x1) K → lv_has ls 7 [(0, .ref a), (1, .int x1)] → W p l e (headSpec wsX3_firstAgainst ({ frames := 3, cells := 0, slots := 0, locals := 67 } : Room)).room s m ([.ref a, .int x1] : List Value).toArray below meth c s.heap [] 0 0 (MQ below (qSi K) ([.ref a, .int x1] : List Value).toArray s 0 0 (fun _ => False)) (F0 m 9 ls []) := by
    intro  ls h hl
    unfold m_X3_firstAgainst_j9 at h
    refine lv_iconst (v := 1) hx hb dX3_firstAgainst_9 (by decide) ?_
    refine lv_goto (tgt := 17) hx hb dX3_firstAgainst_10 (by decide) ?_
    exact hJ17 1 ls h hl
  unfold m_X3_firstAgainst at h
  refine lv_iload_n hx hb dX3_firstAgainst_0 rfl (lv_at hl 1 rfl) ?_
  refine lv_if_eq (tgt := 9) hx hb dX3_firstAgainst_1 (by decide) (fun c1 => ?_) (fun c1 => ?_)
  · have h := sat_t c1 h
    exact hJ9  ls h hl
  · have h := sat_f c1 h
    refine lv_iload_n hx hb dX3_firstAgainst_4 rfl (lv_at hl 1 rfl) ?_
    refine lv_iconst (v := 3) hx hb dX3_firstAgainst_5 (by decide) ?_
    refine lv_icmp_ne (tgt := 13) hx hb dX3_firstAgainst_6 (by decide) (fun c6 => ?_) (fun c6 => ?_)
    · have h := sat_f c6 h
      refine lv_aload_n hx hb dX3_firstAgainst_13 rfl (lv_at hl 0 rfl) ?_
      refine va_get (D := D) (ci := 3) (v := .int v_size) (C := RX6) (T := TX6) (N := 2) hx hb hts iX6 hown hK hP 0 rfl rfl 0 (by decide) fl15 (fun _ h9 => h9) rfl dX3_firstAgainst_14 ?_
      exact hJ17 v_size ls h hl
    · have h := sat_t c6 h
      exact hJ9  ls h hl

/-! X3_holds -/
set_option maxHeartbeats 4000000 in
set_option maxRecDepth 100000 in
theorem c_X3_holds (l : Launch) (D : va_G) (y : ClassId × ClassId × ClassId × ClassId) (a a_values : Nat) (v_size : Int32) (v_values : Nat → Int32) (x1 : Int32) (K : Int32 → Prop) (h : sat (m_X3_holds v_size v_values x1) K) : Met l yX3_holds wsX3_holds ({ frames := 4, cells := 0, slots := 0, locals := 93 } : Room) (pR D y ([.ref a, .int x1] : List Value) [(a, .inr (3, [.int v_size, .ref a_values])), (a_values, .inl (y.1, 20, .inl v_values))]) (qSi K) 0 0 (fun _ => False) := by
  refine Met.ofW (cc := cX3_holds) (maxL := 2) (ret := (some .boolean)) (by decide) rfl ?_
  intro p e s m args below meth c s₁ B hml hv
  obtain ⟨rfl, hP, hK⟩ := hv
  have hx := B.exec
  have hb := B.bytes
  have hr := B.returns
  have hts := atoms_spec (ws := wsX3_holds) B.pre
  have hown : s.vm.findClass RX3 = some m.cls := findClass_of_methodNamed B.named
  have hlocks := B.notSynchronized
  have hl := lv_entry ([.ref a, .int x1] : List Value) (n := 2) (Nat.le_of_ble_eq_true rfl)
  rw [lg_entry_eq]
  generalize (lg_sl ([.ref a, .int x1] : List Value) ++ List.replicate (2 - (lg_sl ([.ref a, .int x1] : List Value)).length) Slot.unset).toArray = ls at hl ⊢
  have hl : lv_has ls 2 [(0, .ref a), (1, .int x1)] := hl
  unfold m_X3_holds at h
  refine lv_aload_n hx hb dX3_holds_0 rfl (lv_at hl 0 rfl) ?_
  refine lv_iload_n hx hb dX3_holds_1 rfl (lv_at hl 1 rfl) ?_
  refine cr_i (rs (As := [.ref a, .int x1]) (rest := []) ⟨hx, hb, hml, hown, hts⟩ (c_X3_firstAgainst l D y a a_values v_size v_values x1 _ (sat_bind h)) (va_cwS 2 hts gX3_holds_X3_firstAgainst rfl rfl rfl (by decide +kernel) ⟨Nat.le_of_ble_eq_true rfl, Nat.le_of_ble_eq_true rfl⟩) hK hP [0, 1] rfl rfl hl.1 rfl (Nat.le_of_ble_eq_true rfl) dX3_holds_2 ⟨Nat.zero_le _, Nat.zero_le _⟩) (fun r1 h => ?_)
  refine lv_bipush (v := (-9)) hx hb dX3_holds_5 (by decide) ?_
  refine lv_icmp_ne (tgt := 14) hx hb dX3_holds_7 (by decide) (fun c7 => ?_) (fun c7 => ?_)
  · have h := sat_f c7 h
    refine lv_iconst (v := 0) hx hb dX3_holds_14 (by decide) ?_
    have h := sat_some h
    exact W.zret (v := 0) hx hb hr rfl (fun t ht _ => ⟨0, rfl, h, ht⟩) (fun _ hq => by cases hq) dX3_holds_15
  · have h := sat_t c7 h
    refine lv_iconst (v := 1) hx hb dX3_holds_10 (by decide) ?_
    refine lv_goto (tgt := 15) hx hb dX3_holds_11 (by decide) ?_
    have h := sat_some h
    exact W.zret (v := 1) hx hb hr rfl (fun t ht _ => ⟨1, rfl, h, ht⟩) (fun _ hq => by cases hq) dX3_holds_15

/-! X3_thatHold -/
set_option maxHeartbeats 4000000 in
set_option maxRecDepth 100000 in
theorem c_X3_thatHold (l : Launch) (D : va_G) (y : ClassId × ClassId × ClassId × ClassId) (a a_values : Nat) (v_size : Int32) (v_values : Nat → Int32) (K : Int32 → Prop) (h : sat (m_X3_thatHold v_size v_values) K) : Met l yX3_thatHold wsX3_thatHold ({ frames := 5, cells := 0, slots := 0, locals := 114 } : Room) (pR D y ([.ref a] : List Value) [(a, .inr (3, [.int v_size, .ref a_values])), (a_values, .inl (y.1, 20, .inl v_values))]) (qSi K) 0 0 (fun _ => False) := by
  refine Met.ofW (cc := cX3_thatHold) (maxL := 3) (ret := (some .int)) (by decide) rfl ?_
  intro p e s m args below meth c s₁ B hml hv
  obtain ⟨rfl, hP, hK⟩ := hv
  have hx := B.exec
  have hb := B.bytes
  have hr := B.returns
  have hts := atoms_spec (ws := wsX3_thatHold) B.pre
  have hown : s.vm.findClass RX3 = some m.cls := findClass_of_methodNamed B.named
  have hlocks := B.notSynchronized
  have hl := lv_entry ([.ref a] : List Value) (n := 3) (Nat.le_of_ble_eq_true rfl)
  rw [lg_entry_eq]
  generalize (lg_sl ([.ref a] : List Value) ++ List.replicate (3 - (lg_sl ([.ref a] : List Value)).length) Slot.unset).toArray = ls at hl ⊢
  have hl : lv_has ls 3 [(0, .ref a)] := hl
  unfold m_X3_thatHold at h
  refine lv_iconst (v := 0) hx hb dX3_thatHold_0 (by decide) ?_
  refine lv_istore_n (lv' := [(1, .int 0), (0, .ref a)]) hx hb dX3_thatHold_1 rfl hl (by decide) rfl (fun ls hl => ?_)
  refine lv_iconst (v := 0) hx hb dX3_thatHold_2 (by decide) ?_
  refine lv_istore_n (lv' := [(2, .int 0), (1, .int 0), (0, .ref a)]) hx hb dX3_thatHold_3 rfl hl (by decide) rfl (fun ls hl => ?_)
  have hL4 : ∀ (K4 : Int32 → Prop)
      (hE4 : ∀ (z4 : Int32) (ls : Array Slot), K4 z4 → lv_has ls 3 [(1, .int z4)] → W p l e (headSpec wsX3_thatHold ({ frames := 5, cells := 0, slots := 0, locals := 114 } : Room)).room s m ([.ref a] : List Value).toArray below meth c s.heap [] 0 0 (MQ below (qSi K) ([.ref a] : List Value).toArray s 0 0 (fun _ => False)) (F0 m 30 ls []))
      (n : Nat) (x1_4 : Int32) (x2_4 : Int32) (ls : Array Slot), sat (lp (fun q : (Int32 × Int32) => m_X3_thatHold_s4 v_size v_values q.1 q.2) n (x1_4, x2_4)) K4 → lv_has ls 3 [(0, .ref a), (1, .int x1_4), (2, .int x2_4)] → W p l e (headSpec wsX3_thatHold ({ frames := 5, cells := 0, slots := 0, locals := 114 } : Room)).room s m ([.ref a] : List Value).toArray below meth c s.heap [] 0 0 (MQ below (qSi K) ([.ref a] : List Value).toArray s 0 0 (fun _ => False)) (F0 m 4 ls []) := by
    intro K4 hE4 n
    induction n with
    | zero => intro x1_4 x2_4 ls h; exact (sat_lp0 h).elim
    | succ n ih =>
      intro x1_4 x2_4 ls h hl
      have h := sat_lp h
      have h : sat (m_X3_thatHold_s4 v_size v_values x1_4 x2_4) (lk (fun s' => sat (lp (fun q : (Int32 × Int32) => m_X3_thatHold_s4 v_size v_values q.1 q.2) n s') K4) K4) := h
      unfold m_X3_thatHold_s4 at h
      refine lv_iload_n hx hb dX3_thatHold_4 rfl (lv_at hl 2 rfl) ?_
      refine lv_bipush (v := 7) hx hb dX3_thatHold_5 (by decide) ?_
      refine lv_icmp_ge (tgt := 30) hx hb dX3_thatHold_7 (by decide) (fun c7 => ?_) (fun c7 => ?_)
      · have h := sat_t c7 h
        have h := lk_r (sat_some h)
        exact hE4 x1_4 ls h (lv_sub hl [1] rfl)
      · have h := sat_f c7 h
        refine lv_aload_n hx hb dX3_thatHold_10 rfl (lv_at hl 0 rfl) ?_
        refine lv_iload_n hx hb dX3_thatHold_11 rfl (lv_at hl 2 rfl) ?_
        refine cr_i (rs (As := [.ref a, .int x2_4]) (rest := []) ⟨hx, hb, hml, hown, hts⟩ (c_X3_holds l D y a a_values v_size v_values x2_4 _ (sat_bind h)) (va_cwS 2 hts gX3_thatHold_X3_holds rfl rfl rfl (by decide +kernel) ⟨Nat.le_of_ble_eq_true rfl, Nat.le_of_ble_eq_true rfl⟩) hK hP [0, 1] rfl rfl hl.1 rfl (Nat.le_of_ble_eq_true rfl) dX3_thatHold_12 ⟨Nat.zero_le _, Nat.zero_le _⟩) (fun r2 h => ?_)
        refine lv_if_eq (tgt := 24) hx hb dX3_thatHold_15 (by decide) (fun c15 => ?_) (fun c15 => ?_)
        · have h := sat_t c15 h
          refine lv_iinc (v := x2_4 + 1) (lv' := [(2, .int (x2_4 + 1)), (0, .ref a), (1, .int x1_4)]) hx hb dX3_thatHold_24 hl (k := 2) rfl rfl (by decide) rfl (fun ls hl => ?_)
          refine lv_goto (tgt := 4) hx hb dX3_thatHold_27 (by decide) ?_
          have h := lk_l (sat_some h)
          exact ih x1_4 (x2_4 + 1) ls h (lv_sub hl [1, 2, 0] rfl)
        · have h := sat_f c15 h
          refine lv_iload_n hx hb dX3_thatHold_18 rfl (lv_at hl 1 rfl) ?_
          refine lv_iconst (v := 1) hx hb dX3_thatHold_19 (by decide) ?_
          refine lv_iload_n hx hb dX3_thatHold_20 rfl (lv_at hl 2 rfl) ?_
          refine lv_ishl hx hb dX3_thatHold_21 ?_
          refine lv_ior hx hb dX3_thatHold_22 ?_
          refine lv_istore_n (lv' := [(1, .int (x1_4 ||| (1 <<< (x2_4 &&& 31)))), (0, .ref a), (2, .int x2_4)]) hx hb dX3_thatHold_23 rfl hl (by decide) rfl (fun ls hl => ?_)
          refine lv_iinc (v := x2_4 + 1) (lv' := [(2, .int (x2_4 + 1)), (1, .int (x1_4 ||| (1 <<< (x2_4 &&& 31)))), (0, .ref a)]) hx hb dX3_thatHold_24 hl (k := 2) rfl rfl (by decide) rfl (fun ls hl => ?_)
          refine lv_goto (tgt := 4) hx hb dX3_thatHold_27 (by decide) ?_
          have h := lk_l (sat_some h)
          exact ih (x1_4 ||| (1 <<< (x2_4 &&& 31))) (x2_4 + 1) ls h (lv_sub hl [2, 1, 0] rfl)
  have h := sat_bind h
  refine hL4 _ (fun z4 ls h hl => ?_) 1000 0 0 ls h (lv_sub hl [2, 1, 0] rfl)
  refine lv_iload_n hx hb dX3_thatHold_30 rfl (lv_at hl 0 rfl) ?_
  have h := sat_some h
  exact W.iret (v := z4) hx hb hr (fun t ht _ => ⟨z4, rfl, h, ht⟩) (fun _ hq => by cases hq) dX3_thatHold_31

/-! X3_leastValue -/
set_option maxHeartbeats 4000000 in
set_option maxRecDepth 100000 in
theorem c_X3_leastValue (l : Launch) (D : va_G) (y : ClassId × ClassId × ClassId × ClassId) (a a_values : Nat) (v_size : Int32) (v_values : Nat → Int32) (x1 : Int32) (x2 : Int32) (sz : Nat) (A : Nat → Prop) (hAe : va_A [(a, .inr (3, [.int v_size, .ref a_values])), (a_values, .inl (y.1, 20, .inl v_values))] sz = A) (K : Int32 → ((Nat → Int32)) → Prop) (h : sat (m_X3_leastValue v_size v_values x1 x2) (pK K)) : Met l yX3_leastValue wsX3_leastValue ({ frames := 4, cells := 0, slots := 0, locals := 93 } : Room) (pW D y ([.ref a, .int x1, .int x2] : List Value) [(a, .inr (3, [.int v_size, .ref a_values])), (a_values, .inl (y.1, 20, .inl v_values))] sz) (va_Qi K (bW D y A (fun u : ((Nat → Int32)) => [(a, .inr (3, [.int v_size, .ref a_values])), (a_values, .inl (y.1, 20, .inl u))])) A) 0 0 A := by
  refine Met.ofW (cc := cX3_leastValue) (maxL := 6) (ret := (some .int)) (by decide) rfl ?_
  intro p e s m args below meth c s₁ B hml hv
  obtain ⟨rfl, hsz, hP, hK, hD0⟩ := hv
  have hx := B.exec
  have hb := B.bytes
  have hr := B.returns
  have hts := atoms_spec (ws := wsX3_leastValue) B.pre
  have hown : s.vm.findClass RX3 = some m.cls := findClass_of_methodNamed B.named
  have hlocks := B.notSynchronized
  subst hsz
  have hD : va_D A [(a, .inr (3, [.int v_size, .ref a_values])), (a_values, .inl (y.1, 20, .inl v_values))] := hAe ▸ hD0.self
  have hA : ∀ q : Nat, s.heap.size ≤ q → A q := fun q h => hAe ▸ Or.inr h
  have hS : va_S A s.heap s.heap [] := va_S.rf
  have iX6 : ∀ w ∈ wsX60, w ∈ wsX3_leastValue := by decide +kernel
  have fl15 := hts (.fieldLink RX3 15 "AlgebraLaws$Tables" "size" "I") (by decide +kernel)
  have hl := lv_entry ([.ref a, .int x1, .int x2] : List Value) (n := 6) (Nat.le_of_ble_eq_true rfl)
  rw [lg_entry_eq]
  generalize (lg_sl ([.ref a, .int x1, .int x2] : List Value) ++ List.replicate (6 - (lg_sl ([.ref a, .int x1, .int x2] : List Value)).length) Slot.unset).toArray = ls at hl ⊢
  have hl : lv_has ls 6 [(0, .ref a), (1, .int x1), (2, .int x2)] := hl
  have hJ56 : ∀ (x3_56 : Int32) (x4_56 : Int32) (v_values_56 : Nat → Int32) (ls : Array Slot) (H : Heap) (locs : List Loc), sat (m_X3_leastValue_j56 x2 x3_56 x4_56 v_values_56) (pK K) → lv_has ls 6 [(0, .ref a), (2, .int x2), (3, .int x3_56), (4, .int x4_56)] → va_P D vwCl [(a, .inr (3, [.int v_size, .ref a_values])), (a_values, .inl (y.1, 20, .inl v_values_56))] H → va_D A [(a, .inr (3, [.int v_size, .ref a_values])), (a_values, .inl (y.1, 20, .inl v_values_56))] → va_S A s.heap H locs → W p l e (headSpec wsX3_leastValue ({ frames := 4, cells := 0, slots := 0, locals := 93 } : Room)).room s m ([.ref a, .int x1, .int x2] : List Value).toArray below meth c H locs 0 0 (MQ below (va_Qi K (bW D y A (fun u : ((Nat → Int32)) => [(a, .inr (3, [.int v_size, .ref a_values])), (a_values, .inl (y.1, 20, .inl u))])) A) ([.ref a, .int x1, .int x2] : List Value).toArray s 0 0 A) (F0 m 56 ls []) := by
    intro x3_56 x4_56 v_values_56 ls H locs h hl hP hD hS
    unfold m_X3_leastValue_j56 at h
    refine lv_aload_n hx hb dX3_leastValue_56 rfl (lv_at hl 0 rfl) ?_
    refine lv_iload_n hx hb dX3_leastValue_57 rfl (lv_at hl 1 rfl) ?_
    refine lv_iload_n hx hb dX3_leastValue_58 rfl (lv_at hl 2 rfl) ?_
    refine cw_v (wn := fun u1 => [(a, .inr (3, [.int v_size, .ref a_values])), (a_values, .inl (y.1, 20, .inl u1))]) (wr := []) (wv (As := [.int x2, .int x3_56]) (rest := []) ⟨hx, hb, hml, hown, hts⟩ (c_X6_put l D y a a_values v_size v_values_56 x2 x3_56 _ _ rfl _ (sat_bind h)) (cwV 2 hts gX3_leastValue_X6_put rfl rfl rfl (by decide +kernel) ⟨Nat.le_of_ble_eq_true rfl, Nat.le_of_ble_eq_true rfl⟩) hK hP hD [0, 1] rfl rfl rfl 0 3 rfl rfl rfl rfl hl.1 rfl (Nat.le_of_ble_eq_true rfl) dX3_leastValue_59 ⟨Nat.zero_le _, Nat.zero_le _⟩) hS hP hD hA [0, 1] [] [0, 1] rfl rfl rfl (by decide) (fun _ => rfl) rfl (fun _ => rfl) (fun u1 H locs h hP hD hS => ?_)
    refine lv_iload hx hb dX3_leastValue_62 (lv_at hl 3 rfl) ?_
    have h := sat_some h
    exact W.iret (v := x4_56) hx hb hr (fun t ht hW => ⟨⟨x4_56, u1, rfl, h, by rw [ht]; exact hP, va_K.moved hW.alike hK, hD⟩, hS.F ht⟩) hS.2.2 dX3_leastValue_64
  unfold m_X3_leastValue at h
  refine lv_aload_n hx hb dX3_leastValue_0 rfl (lv_at hl 0 rfl) ?_
  refine lv_iload_n hx hb dX3_leastValue_1 rfl (lv_at hl 2 rfl) ?_
  refine cr_i (rv (As := [.int x2]) (rest := []) ⟨hx, hb, hml, hown, hts⟩ (c_X6_at l D y a a_values v_size v_values x2 _ (sat_bind h)) (cwV 1 hts gX3_leastValue_X6_at rfl rfl rfl (by decide +kernel) ⟨Nat.le_of_ble_eq_true rfl, Nat.le_of_ble_eq_true rfl⟩) hK hP [0, 1] rfl 0 3 rfl rfl rfl rfl hl.1 rfl (Nat.le_of_ble_eq_true rfl) dX3_leastValue_2 ⟨Nat.zero_le _, Nat.zero_le _⟩) (fun r2 h => ?_)
  refine lv_istore_n (lv' := [(3, .int r2), (0, .ref a), (1, .int x1), (2, .int x2)]) hx hb dX3_leastValue_5 rfl hl (by decide) rfl (fun ls hl => ?_)
  refine lv_bipush (v := (-9)) hx hb dX3_leastValue_6 (by decide) ?_
  refine lv_istore (lv' := [(4, .int (-9)), (3, .int r2), (0, .ref a), (1, .int x1), (2, .int x2)]) hx hb dX3_leastValue_8 hl (by decide) rfl (fun ls hl => ?_)
  refine lv_iconst (v := 0) hx hb dX3_leastValue_10 (by decide) ?_
  refine lv_istore (lv' := [(5, .int 0), (4, .int (-9)), (3, .int r2), (0, .ref a), (1, .int x1), (2, .int x2)]) hx hb dX3_leastValue_11 hl (by decide) rfl (fun ls hl => ?_)
  have hL13 : ∀ (K13 : (Int32 × (Nat → Int32)) → Prop)
      (hE13 : ∀ (z13 : (Int32 × (Nat → Int32))) (ls : Array Slot) (H : Heap) (locs : List Loc), K13 z13 → lv_has ls 6 [(0, .ref a), (2, .int x2), (3, .int r2), (4, .int z13.1)] → va_P D vwCl [(a, .inr (3, [.int v_size, .ref a_values])), (a_values, .inl (y.1, 20, .inl z13.2))] H → va_D A [(a, .inr (3, [.int v_size, .ref a_values])), (a_values, .inl (y.1, 20, .inl z13.2))] → va_S A s.heap H locs → W p l e (headSpec wsX3_leastValue ({ frames := 4, cells := 0, slots := 0, locals := 93 } : Room)).room s m ([.ref a, .int x1, .int x2] : List Value).toArray below meth c H locs 0 0 (MQ below (va_Qi K (bW D y A (fun u : ((Nat → Int32)) => [(a, .inr (3, [.int v_size, .ref a_values])), (a_values, .inl (y.1, 20, .inl u))])) A) ([.ref a, .int x1, .int x2] : List Value).toArray s 0 0 A) (F0 m 56 ls []))
      (n : Nat) (x4_13 : Int32) (x5_13 : Int32) (v_values_13 : Nat → Int32) (ls : Array Slot) (H : Heap) (locs : List Loc), sat (lp (fun q : (Int32 × Int32 × (Nat → Int32)) => m_X3_leastValue_s13 v_size x1 x2 q.1 q.2.1 q.2.2) n (x4_13, x5_13, v_values_13)) K13 → lv_has ls 6 [(0, .ref a), (1, .int x1), (2, .int x2), (3, .int r2), (4, .int x4_13), (5, .int x5_13)] → va_P D vwCl [(a, .inr (3, [.int v_size, .ref a_values])), (a_values, .inl (y.1, 20, .inl v_values_13))] H → va_D A [(a, .inr (3, [.int v_size, .ref a_values])), (a_values, .inl (y.1, 20, .inl v_values_13))] → va_S A s.heap H locs → W p l e (headSpec wsX3_leastValue ({ frames := 4, cells := 0, slots := 0, locals := 93 } : Room)).room s m ([.ref a, .int x1, .int x2] : List Value).toArray below meth c H locs 0 0 (MQ below (va_Qi K (bW D y A (fun u : ((Nat → Int32)) => [(a, .inr (3, [.int v_size, .ref a_values])), (a_values, .inl (y.1, 20, .inl u))])) A) ([.ref a, .int x1, .int x2] : List Value).toArray s 0 0 A) (F0 m 13 ls []) := by
    intro K13 hE13 n
    induction n with
    | zero => intro x4_13 x5_13 v_values_13 ls H locs h; exact (sat_lp0 h).elim
    | succ n ih =>
      intro x4_13 x5_13 v_values_13 ls H locs h hl hP hD hS
      have h := sat_lp h
      have h : sat (m_X3_leastValue_s13 v_size x1 x2 x4_13 x5_13 v_values_13) (lk (fun s' => sat (lp (fun q : (Int32 × Int32 × (Nat → Int32)) => m_X3_leastValue_s13 v_size x1 x2 q.1 q.2.1 q.2.2) n s') K13) K13) := h
      unfold m_X3_leastValue_s13 at h
      refine lv_iload hx hb dX3_leastValue_13 (lv_at hl 5 rfl) ?_
      refine lv_aload_n hx hb dX3_leastValue_15 rfl (lv_at hl 0 rfl) ?_
      refine va_get (D := D) (ci := 3) (v := .int v_size) (C := RX6) (T := TX6) (N := 2) hx hb hts iX6 hown hK hP 0 rfl rfl 0 (by decide) fl15 (fun _ h9 => h9) rfl dX3_leastValue_16 ?_
      refine lv_icmp_ge (tgt := 56) hx hb dX3_leastValue_19 (by decide) (fun c19 => ?_) (fun c19 => ?_)
      · have h := sat_t c19 h
        have h := lk_r (sat_some h)
        exact hE13 (x4_13, v_values_13) ls H locs h (lv_sub hl [0, 2, 3, 4] rfl) hP hD hS
      · have h := sat_f c19 h
        refine lv_iload hx hb dX3_leastValue_22 (lv_at hl 4 rfl) ?_
        refine lv_bipush (v := (-9)) hx hb dX3_leastValue_24 (by decide) ?_
        refine lv_icmp_ne (tgt := 56) hx hb dX3_leastValue_26 (by decide) (fun c26 => ?_) (fun c26 => ?_)
        · have h := sat_f c26 h
          have h := lk_r (sat_some h)
          exact hE13 (x4_13, v_values_13) ls H locs h (lv_sub hl [0, 2, 3, 4] rfl) hP hD hS
        · have h := sat_t c26 h
          refine lv_aload_n hx hb dX3_leastValue_29 rfl (lv_at hl 0 rfl) ?_
          refine lv_iload_n hx hb dX3_leastValue_30 rfl (lv_at hl 2 rfl) ?_
          refine lv_iload hx hb dX3_leastValue_31 (lv_at hl 5 rfl) ?_
          refine cw_v (wn := fun u4 => [(a, .inr (3, [.int v_size, .ref a_values])), (a_values, .inl (y.1, 20, .inl u4))]) (wr := []) (wv (As := [.int x2, .int x5_13]) (rest := []) ⟨hx, hb, hml, hown, hts⟩ (c_X6_put l D y a a_values v_size v_values_13 x2 x5_13 _ _ rfl _ (sat_bind h)) (cwV 2 hts gX3_leastValue_X6_put rfl rfl rfl (by decide +kernel) ⟨Nat.le_of_ble_eq_true rfl, Nat.le_of_ble_eq_true rfl⟩) hK hP hD [0, 1] rfl rfl rfl 0 3 rfl rfl rfl rfl hl.1 rfl (Nat.le_of_ble_eq_true rfl) dX3_leastValue_33 ⟨Nat.zero_le _, Nat.zero_le _⟩) hS hP hD hA [0, 1] [] [0, 1] rfl rfl rfl (by decide) (fun _ => rfl) rfl (fun _ => rfl) (fun u4 H locs h hP hD hS => ?_)
          refine lv_aload_n hx hb dX3_leastValue_36 rfl (lv_at hl 0 rfl) ?_
          refine lv_iload_n hx hb dX3_leastValue_37 rfl (lv_at hl 1 rfl) ?_
          refine cr_i (rs (As := [.ref a, .int x1]) (rest := []) ⟨hx, hb, hml, hown, hts⟩ (c_X3_firstAgainst l D y a a_values v_size u4 x1 _ (sat_bind h)) (va_cwS 2 hts gX3_leastValue_X3_firstAgainst rfl rfl rfl (by decide +kernel) ⟨Nat.le_of_ble_eq_true rfl, Nat.le_of_ble_eq_true rfl⟩) hK hP [0, 1] rfl rfl hl.1 rfl (Nat.le_of_ble_eq_true rfl) dX3_leastValue_38 ⟨Nat.zero_le _, Nat.zero_le _⟩) (fun r5 h => ?_)
          refine lv_bipush (v := (-9)) hx hb dX3_leastValue_41 (by decide) ?_
          refine lv_icmp_ne (tgt := 50) hx hb dX3_leastValue_43 (by decide) (fun c43 => ?_) (fun c43 => ?_)
          · have h := sat_f c43 h
            refine lv_iinc (v := x5_13 + 1) (lv' := [(5, .int (x5_13 + 1)), (0, .ref a), (1, .int x1), (2, .int x2), (3, .int r2), (4, .int x4_13)]) hx hb dX3_leastValue_50 hl (k := 5) rfl rfl (by decide) rfl (fun ls hl => ?_)
            refine lv_goto (tgt := 13) hx hb dX3_leastValue_53 (by decide) ?_
            have h := lk_l (sat_some h)
            exact ih x4_13 (x5_13 + 1) u4 ls H locs h (lv_sub hl [1, 2, 3, 4, 5, 0] rfl) hP hD hS
          · have h := sat_t c43 h
            refine lv_iload hx hb dX3_leastValue_46 (lv_at hl 5 rfl) ?_
            refine lv_istore (lv' := [(4, .int x5_13), (0, .ref a), (1, .int x1), (2, .int x2), (3, .int r2), (5, .int x5_13)]) hx hb dX3_leastValue_48 hl (by decide) rfl (fun ls hl => ?_)
            refine lv_iinc (v := x5_13 + 1) (lv' := [(5, .int (x5_13 + 1)), (4, .int x5_13), (0, .ref a), (1, .int x1), (2, .int x2), (3, .int r2)]) hx hb dX3_leastValue_50 hl (k := 5) rfl rfl (by decide) rfl (fun ls hl => ?_)
            refine lv_goto (tgt := 13) hx hb dX3_leastValue_53 (by decide) ?_
            have h := lk_l (sat_some h)
            exact ih x5_13 (x5_13 + 1) u4 ls H locs h (lv_sub hl [2, 3, 4, 5, 1, 0] rfl) hP hD hS
  have h := sat_bind h
  refine hL13 _ (fun z13 ls H locs h hl hP hD hS => ?_) 1000 (-9) 0 v_values ls s.heap [] h (lv_sub hl [3, 4, 5, 2, 1, 0] rfl) hP hD hS
  exact hJ56 r2 z13.1 z13.2 ls H locs h hl hP hD hS
