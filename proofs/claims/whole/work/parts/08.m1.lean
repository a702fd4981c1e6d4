/-! X6_placeOfTwo -/
def m_X6_placeOfTwo  (x0 : Int32) (x1 : Int32) : Option Int32 := some (((x0 &&& 3) <<< (2 &&& 31)) ||| (x1 &&& 3))
set_option maxHeartbeats 4000000 in
set_option maxRecDepth 100000 in
theorem c_X6_placeOfTwo (l : Launch) (D : va_G) (y : ClassId × ClassId × ClassId × ClassId) (x0 : Int32) (x1 : Int32) (K : Int32 → Prop) (h : sat (m_X6_placeOfTwo x0 x1) K) : Met l yX6_placeOfTwo wsX6_placeOfTwo ({ frames := 0, cells := 0, slots := 0, locals := 0 } : Room) (pR D y ([.int x0, .int x1] : List Value) []) (qSi K) 0 0 (fun _ => False) := by
  refine Met.ofW (cc := cX6_placeOfTwo) (maxL := 2) (ret := (some .int)) (by decide) rfl ?_
  intro p e s m args below meth c s₁ B hml hv
  obtain ⟨rfl, hP, hK⟩ := hv
  have hx := B.exec
  have hb := B.bytes
  have hr := B.returns
  have hts := atoms_spec (ws := wsX6_placeOfTwo) B.pre
  have hown : s.vm.findClass RX6 = some m.cls := findClass_of_methodNamed B.named
  have hlocks := B.notSynchronized
  have hl := lv_entry ([.int x0, .int x1] : List Value) (n := 2) (Nat.le_of_ble_eq_true rfl)
  rw [lg_entry_eq]
  generalize (lg_sl ([.int x0, .int x1] : List Value) ++ List.replicate (2 - (lg_sl ([.int x0, .int x1] : List Value)).length) Slot.unset).toArray = ls at hl ⊢
  have hl : lv_has ls 2 [(0, .int x0), (1, .int x1)] := hl
  unfold m_X6_placeOfTwo at h
  refine lv_iload_n hx hb dX6_placeOfTwo_0 rfl (lv_at hl 0 rfl) ?_
  refine lv_iconst (v := 3) hx hb dX6_placeOfTwo_1 (by decide) ?_
  refine lv_iand hx hb dX6_placeOfTwo_2 ?_
  refine lv_iconst (v := 2) hx hb dX6_placeOfTwo_3 (by decide) ?_
  refine lv_ishl hx hb dX6_placeOfTwo_4 ?_
  refine lv_iload_n hx hb dX6_placeOfTwo_5 rfl (lv_at hl 1 rfl) ?_
  refine lv_iconst (v := 3) hx hb dX6_placeOfTwo_6 (by decide) ?_
  refine lv_iand hx hb dX6_placeOfTwo_7 ?_
  refine lv_ior hx hb dX6_placeOfTwo_8 ?_
  have h := sat_some h
  exact W.iret (v := ((x0 &&& 3) <<< (2 &&& 31)) ||| (x1 &&& 3)) hx hb hr (fun t ht _ => ⟨((x0 &&& 3) <<< (2 &&& 31)) ||| (x1 &&& 3), rfl, h, ht⟩) (fun _ hq => by cases hq) dX6_placeOfTwo_9

/-! X6_placeOfOne -/
def m_X6_placeOfOne  (x0 : Int32) : Option Int32 := some (16 ||| (x0 &&& 3))
set_option maxHeartbeats 4000000 in
set_option maxRecDepth 100000 in
theorem c_X6_placeOfOne (l : Launch) (D : va_G) (y : ClassId × ClassId × ClassId × ClassId) (x0 : Int32) (K : Int32 → Prop) (h : sat (m_X6_placeOfOne x0) K) : Met l yX6_placeOfOne wsX6_placeOfOne ({ frames := 0, cells := 0, slots := 0, locals := 0 } : Room) (pR D y ([.int x0] : List Value) []) (qSi K) 0 0 (fun _ => False) := by
  refine Met.ofW (cc := cX6_placeOfOne) (maxL := 1) (ret := (some .int)) (by decide) rfl ?_
  intro p e s m args below meth c s₁ B hml hv
  obtain ⟨rfl, hP, hK⟩ := hv
  have hx := B.exec
  have hb := B.bytes
  have hr := B.returns
  have hts := atoms_spec (ws := wsX6_placeOfOne) B.pre
  have hown : s.vm.findClass RX6 = some m.cls := findClass_of_methodNamed B.named
  have hlocks := B.notSynchronized
  have hl := lv_entry ([.int x0] : List Value) (n := 1) (Nat.le_of_ble_eq_true rfl)
  rw [lg_entry_eq]
  generalize (lg_sl ([.int x0] : List Value) ++ List.replicate (1 - (lg_sl ([.int x0] : List Value)).length) Slot.unset).toArray = ls at hl ⊢
  have hl : lv_has ls 1 [(0, .int x0)] := hl
  unfold m_X6_placeOfOne at h
  refine lv_bipush (v := 16) hx hb dX6_placeOfOne_0 (by decide) ?_
  refine lv_iload_n hx hb dX6_placeOfOne_2 rfl (lv_at hl 0 rfl) ?_
  refine lv_iconst (v := 3) hx hb dX6_placeOfOne_3 (by decide) ?_
  refine lv_iand hx hb dX6_placeOfOne_4 ?_
  refine lv_ior hx hb dX6_placeOfOne_5 ?_
  have h := sat_some h
  exact W.iret (v := 16 ||| (x0 &&& 3)) hx hb hr (fun t ht _ => ⟨16 ||| (x0 &&& 3), rfl, h, ht⟩) (fun _ hq => by cases hq) dX6_placeOfOne_6

/-! X6_startOver -/
def m_X6_startOver_s14 (x2_7 : Int32) (x3_14 : Int32) (v_values_14 : Nat → Int32) : Option ((Int32 × (Nat → Int32)) ⊕ ((Nat → Int32))) := (if 4 ≤ x3_14 then some (.inr v_values_14) else (m_X6_placeOfTwo x2_7 x3_14).bind (fun r3 => wrI 20 v_values_14 r3 x2_7 (fun f4 => some (.inl (x3_14 + 1, f4)))))
def m_X6_startOver_s7  (x2_7 : Int32) (v_values_7 : Nat → Int32) : Option ((Int32 × (Nat → Int32)) ⊕ ((Nat → Int32))) := (if 4 ≤ x2_7 then some (.inr v_values_7) else (lp (fun q : (Int32 × (Nat → Int32)) => m_X6_startOver_s14 x2_7 q.1 q.2) 1000 (0, v_values_7)).bind (fun u14 => (m_X6_placeOfOne x2_7).bind (fun r5 => wrI 20 u14 r5 x2_7 (fun f6 => some (.inl (x2_7 + 1, f6))))))
def m_X6_startOver (v_size : Int32) (v_values : Nat → Int32) (x1 : Int32) : Option (Int32 × (Nat → Int32)) := (lp (fun q : (Int32 × (Nat → Int32)) => m_X6_startOver_s7  q.1 q.2) 1000 (0, v_values)).bind (fun u7 => some (x1, u7))
set_option maxHeartbeats 4000000 in
set_option maxRecDepth 100000 in
theorem c_X6_startOver (l : Launch) (D : va_G) (y : ClassId × ClassId × ClassId × ClassId) (a a_values : Nat) (v_size : Int32) (v_values : Nat → Int32) (x1 : Int32) (sz : Nat) (A : Nat → Prop) (hAe : va_A [(a, .inr (3, [.int v_size, .ref a_values])), (a_values, .inl (y.1, 20, .inl v_values))] sz = A) (K : (Int32 × (Nat → Int32)) → Prop) (h : sat (m_X6_startOver v_size v_values x1) K) : Met l yX6_startOver wsX6_startOver ({ frames := 1, cells := 0, slots := 0, locals := 21 } : Room) (pW D y ([.ref a, .int x1] : List Value) [(a, .inr (3, [.int v_size, .ref a_values])), (a_values, .inl (y.1, 20, .inl v_values))] sz) (va_Qv K (bW D y A (fun u : (Int32 × (Nat → Int32)) => [(a, .inr (3, [.int u.1, .ref a_values])), (a_values, .inl (y.1, 20, .inl u.2))])) A) 0 0 A := by
  refine Met.ofW (cc := cX6_startOver) (maxL := 4) (ret := none) (by decide) rfl ?_
  intro p e s m args below meth c s₁ B hml hv
  obtain ⟨rfl, hsz, hP, hK, hD0⟩ := hv
  have hx := B.exec
  have hb := B.bytes
  have hr := B.returns
  have hts := atoms_spec (ws := wsX6_startOver) B.pre
  have hown : s.vm.findClass RX6 = some m.cls := findClass_of_methodNamed B.named
  have hlocks := B.notSynchronized
  subst hsz
  have hD : va_D A [(a, .inr (3, [.int v_size, .ref a_values])), (a_values, .inl (y.1, 20, .inl v_values))] := hAe ▸ hD0.self
  have hA : ∀ q : Nat, s.heap.size ≤ q → A q := fun q h => hAe ▸ Or.inr h
  have hS : va_S A s.heap s.heap [] := va_S.rf
  have iX6 : ∀ w ∈ wsX60, w ∈ wsX6_startOver := by decide +kernel
  have fl13 := hts (.fieldLink RX6 13 "AlgebraLaws$Tables" "size" "I") (by decide +kernel)
  have fl9 := hts (.fieldLink RX6 9 "AlgebraLaws$Tables" "values" "[I") (by decide +kernel)
  have hl := lv_entry ([.ref a, .int x1] : List Value) (n := 4) (Nat.le_of_ble_eq_true rfl)
  rw [lg_entry_eq]
  generalize (lg_sl ([.ref a, .int x1] : List Value) ++ List.replicate (4 - (lg_sl ([.ref a, .int x1] : List Value)).length) Slot.unset).toArray = ls at hl ⊢
  have hl : lv_has ls 4 [(0, .ref a), (1, .int x1)] := hl
  unfold m_X6_startOver at h
  refine lv_aload_n hx hb dX6_startOver_0 rfl (lv_at hl 0 rfl) ?_
  refine lv_iload_n hx hb dX6_startOver_1 rfl (lv_at hl 1 rfl) ?_
  refine pf (D := D) (ci := 3) (v := .int x1) (ty := .int) (C := RX6) (T := TX6) (N := 2) (wn := [(a, .inr (3, [.int x1, .ref a_values])), (a_values, .inl (y.1, 20, .inl v_values))]) hx hb hts iX6 tyX6 tyX6_ok nmX6 hown hK hP hD hS 0 rfl rfl 0 (by decide) fl13 (fun _ h9 => h9) rfl (by decide +kernel) rfl rfl (Nat.le_of_ble_eq_true rfl) dX6_startOver_2 rfl (fun H locs hP hD hS => ?_)
  refine lv_iconst (v := 0) hx hb dX6_startOver_5 (by decide) ?_
  refine lv_istore_n (lv' := [(2, .int 0), (0, .ref a), (1, .int x1)]) hx hb dX6_startOver_6 rfl hl (by decide) rfl (fun ls hl => ?_)
  have hL7 : ∀ (K7 : ((Nat → Int32)) → Prop)
      (hE7 : ∀ (u7 : ((Nat → Int32))) (ls : Array Slot) (H : Heap) (locs : List Loc), K7 u7 → lv_has ls 4 [] → va_P D vwCl [(a, .inr (3, [.int x1, .ref a_values])), (a_values, .inl (y.1, 20, .inl u7))] H → va_D A [(a, .inr (3, [.int x1, .ref a_values])), (a_values, .inl (y.1, 20, .inl u7))] → va_S A s.heap H locs → W p l e (headSpec wsX6_startOver ({ frames := 1, cells := 0, slots := 0, locals := 21 } : Room)).room s m ([.ref a, .int x1] : List Value).toArray below meth c H locs 0 0 (MQ below (va_Qv K (bW D y A (fun u : (Int32 × (Nat → Int32)) => [(a, .inr (3, [.int u.1, .ref a_values])), (a_values, .inl (y.1, 20, .inl u.2))])) A) ([.ref a, .int x1] : List Value).toArray s 0 0 A) (F0 m 52 ls []))
      (n : Nat) (x2_7 : Int32) (v_values_7 : Nat → Int32) (ls : Array Slot) (H : Heap) (locs : List Loc), sat (lp (fun q : (Int32 × (Nat → Int32)) => m_X6_startOver_s7  q.1 q.2) n (x2_7, v_values_7)) K7 → lv_has ls 4 [(0, .ref a), (2, .int x2_7)] → va_P D vwCl [(a, .inr (3, [.int x1, .ref a_values])), (a_values, .inl (y.1, 20, .inl v_values_7))] H → va_D A [(a, .inr (3, [.int x1, .ref a_values])), (a_values, .inl (y.1, 20, .inl v_values_7))] → va_S A s.heap H locs → W p l e (headSpec wsX6_startOver ({ frames := 1, cells := 0, slots := 0, locals := 21 } : Room)).room s m ([.ref a, .int x1] : List Value).toArray below meth c H locs 0 0 (MQ below (va_Qv K (bW D y A (fun u : (Int32 × (Nat → Int32)) => [(a, .inr (3, [.int u.1, .ref a_values])), (a_values, .inl (y.1, 20, .inl u.2))])) A) ([.ref a, .int x1] : List Value).toArray s 0 0 A) (F0 m 7 ls []) := by
    intro K7 hE7 n
    induction n with
    | zero => intro x2_7 v_values_7 ls H locs h; exact (sat_lp0 h).elim
    | succ n ih =>
      intro x2_7 v_values_7 ls H locs h hl hP hD hS
      have h := sat_lp h
      have h : sat (m_X6_startOver_s7  x2_7 v_values_7) (lk (fun s' => sat (lp (fun q : (Int32 × (Nat → Int32)) => m_X6_startOver_s7  q.1 q.2) n s') K7) K7) := h
      unfold m_X6_startOver_s7 at h
      refine lv_iload_n hx hb dX6_startOver_7 rfl (lv_at hl 1 rfl) ?_
      refine lv_iconst (v := 4) hx hb dX6_startOver_8 (by decide) ?_
      refine lv_icmp_ge (tgt := 52) hx hb dX6_startOver_9 (by decide) (fun c9 => ?_) (fun c9 => ?_)
      · have h := sat_t c9 h
        have h := lk_r (sat_some h)
        exact hE7 v_values_7 ls H locs h (lv_sub hl [] rfl) hP hD hS
      · have h := sat_f c9 h
        refine lv_iconst (v := 0) hx hb dX6_startOver_12 (by decide) ?_
        refine lv_istore_n (lv' := [(3, .int 0), (0, .ref a), (2, .int x2_7)]) hx hb dX6_startOver_13 rfl hl (by decide) rfl (fun ls hl => ?_)
        have hL14 : ∀ (K14 : ((Nat → Int32)) → Prop)
            (hE14 : ∀ (u14 : ((Nat → Int32))) (ls : Array Slot) (H : Heap) (locs : List Loc), K14 u14 → lv_has ls 4 [(0, .ref a), (2, .int x2_7)] → va_P D vwCl [(a, .inr (3, [.int x1, .ref a_values])), (a_values, .inl (y.1, 20, .inl u14))] H → va_D A [(a, .inr (3, [.int x1, .ref a_values])), (a_values, .inl (y.1, 20, .inl u14))] → va_S A s.heap H locs → W p l e (headSpec wsX6_startOver ({ frames := 1, cells := 0, slots := 0, locals := 21 } : Room)).room s m ([.ref a, .int x1] : List Value).toArray below meth c H locs 0 0 (MQ below (va_Qv K (bW D y A (fun u : (Int32 × (Nat → Int32)) => [(a, .inr (3, [.int u.1, .ref a_values])), (a_values, .inl (y.1, 20, .inl u.2))])) A) ([.ref a, .int x1] : List Value).toArray s 0 0 A) (F0 m 36 ls []))
            (n : Nat) (x3_14 : Int32) (v_values_14 : Nat → Int32) (ls : Array Slot) (H : Heap) (locs : List Loc), sat (lp (fun q : (Int32 × (Nat → Int32)) => m_X6_startOver_s14 x2_7 q.1 q.2) n (x3_14, v_values_14)) K14 → lv_has ls 4 [(0, .ref a), (2, .int x2_7), (3, .int x3_14)] → va_P D vwCl [(a, .inr (3, [.int x1, .ref a_values])), (a_values, .inl (y.1, 20, .inl v_values_14))] H → va_D A [(a, .inr (3, [.int x1, .ref a_values])), (a_values, .inl (y.1, 20, .inl v_values_14))] → va_S A s.heap H locs → W p l e (headSpec wsX6_startOver ({ frames := 1, cells := 0, slots := 0, locals := 21 } : Room)).room s m ([.ref a, .int x1] : List Value).toArray below meth c H locs 0 0 (MQ below (va_Qv K (bW D y A (fun u : (Int32 × (Nat → Int32)) => [(a, .inr (3, [.int u.1, .ref a_values])), (a_values, .inl (y.1, 20, .inl u.2))])) A) ([.ref a, .int x1] : List Value).toArray s 0 0 A) (F0 m 14 ls []) := by
          intro K14 hE14 n
          induction n with
          | zero => intro x3_14 v_values_14 ls H locs h; exact (sat_lp0 h).elim
          | succ n ih =>
            intro x3_14 v_values_14 ls H locs h hl hP hD hS
            have h := sat_lp h
            have h : sat (m_X6_startOver_s14 x2_7 x3_14 v_values_14) (lk (fun s' => sat (lp (fun q : (Int32 × (Nat → Int32)) => m_X6_startOver_s14 x2_7 q.1 q.2) n s') K14) K14) := h
            unfold m_X6_startOver_s14 at h
            refine lv_iload_n hx hb dX6_startOver_14 rfl (lv_at hl 2 rfl) ?_
            refine lv_iconst (v := 4) hx hb dX6_startOver_15 (by decide) ?_
            refine lv_icmp_ge (tgt := 36) hx hb dX6_startOver_16 (by decide) (fun c16 => ?_) (fun c16 => ?_)
            · have h := sat_t c16 h
              have h := lk_r (sat_some h)
              exact hE14 v_values_14 ls H locs h (lv_sub hl [0, 1] rfl) hP hD hS
            · have h := sat_f c16 h
              refine lv_aload_n hx hb dX6_startOver_19 rfl (lv_at hl 0 rfl) ?_
              refine va_get (D := D) (ci := 3) (v := .ref a_values) (C := RX6) (T := TX6) (N := 2) hx hb hts iX6 hown hK hP 0 rfl rfl 1 (by decide) fl9 (fun _ h9 => h9) rfl dX6_startOver_20 ?_
              refine lv_iload_n hx hb dX6_startOver_23 rfl (lv_at hl 1 rfl) ?_
              refine lv_iload_n hx hb dX6_startOver_24 rfl (lv_at hl 2 rfl) ?_
              refine cr_i (rs (As := [.int x2_7, .int x3_14]) (rest := [.ref a_values]) ⟨hx, hb, hml, hown, hts⟩ (c_X6_placeOfTwo l D y x2_7 x3_14 _ (sat_bind h)) (va_cwS 2 hts gX6_startOver_X6_placeOfTwo rfl rfl rfl (by decide +kernel) ⟨Nat.le_of_ble_eq_true rfl, Nat.le_of_ble_eq_true rfl⟩) hK hP [] rfl rfl hl.1 rfl (Nat.le_of_ble_eq_true rfl) dX6_startOver_25 ⟨Nat.zero_le _, Nat.zero_le _⟩) (fun r3 h => ?_)
              refine lv_iload_n hx hb dX6_startOver_28 rfl (lv_at hl 1 rfl) ?_
              obtain ⟨f4, ef4, hin, h⟩ := sat_wrI h
              refine yi (wn := [(a, .inr (3, [.int x1, .ref a_values])), (a_values, .inl (y.1, 20, .inl f4))]) hx hb hK hP hD hS 1 0 rfl rfl ef4 hin dX6_startOver_29 rfl (fun H locs hP hD hS => ?_)
              refine lv_iinc (v := x3_14 + 1) (lv' := [(3, .int (x3_14 + 1)), (0, .ref a), (2, .int x2_7)]) hx hb dX6_startOver_30 hl (k := 2) rfl rfl (by decide) rfl (fun ls hl => ?_)
              refine lv_goto (tgt := 14) hx hb dX6_startOver_33 (by decide) ?_
              have h := lk_l (sat_some h)
              exact ih (x3_14 + 1) f4 ls H locs h (lv_sub hl [1, 2, 0] rfl) hP hD hS
        have h := sat_bind h
        refine hL14 _ (fun u14 ls H locs h hl hP hD hS => ?_) 1000 0 v_values_7 ls H locs h (lv_sub hl [1, 2, 0] rfl) hP hD hS
        refine lv_aload_n hx hb dX6_startOver_36 rfl (lv_at hl 0 rfl) ?_
        refine va_get (D := D) (ci := 3) (v := .ref a_values) (C := RX6) (T := TX6) (N := 2) hx hb hts iX6 hown hK hP 0 rfl rfl 1 (by decide) fl9 (fun _ h9 => h9) rfl dX6_startOver_37 ?_
        refine lv_iload_n hx hb dX6_startOver_40 rfl (lv_at hl 1 rfl) ?_
        refine cr_i (rs (As := [.int x2_7]) (rest := [.ref a_values]) ⟨hx, hb, hml, hown, hts⟩ (c_X6_placeOfOne l D y x2_7 _ (sat_bind h)) (va_cwS 1 hts gX6_startOver_X6_placeOfOne rfl rfl rfl (by decide +kernel) ⟨Nat.le_of_ble_eq_true rfl, Nat.le_of_ble_eq_true rfl⟩) hK hP [] rfl rfl hl.1 rfl (Nat.le_of_ble_eq_true rfl) dX6_startOver_41 ⟨Nat.zero_le _, Nat.zero_le _⟩) (fun r5 h => ?_)
        refine lv_iload_n hx hb dX6_startOver_44 rfl (lv_at hl 1 rfl) ?_
        obtain ⟨f6, ef6, hin, h⟩ := sat_wrI h
        refine yi (wn := [(a, .inr (3, [.int x1, .ref a_values])), (a_values, .inl (y.1, 20, .inl f6))]) hx hb hK hP hD hS 1 0 rfl rfl ef6 hin dX6_startOver_45 rfl (fun H locs hP hD hS => ?_)
        refine lv_iinc (v := x2_7 + 1) (lv' := [(2, .int (x2_7 + 1)), (0, .ref a)]) hx hb dX6_startOver_46 hl (k := 1) rfl rfl (by decide) rfl (fun ls hl => ?_)
        refine lv_goto (tgt := 7) hx hb dX6_startOver_49 (by decide) ?_
        have h := lk_l (sat_some h)
        exact ih (x2_7 + 1) f6 ls H locs h (lv_sub hl [1, 0] rfl) hP hD hS
  have h := sat_bind h
  refine hL7 _ (fun u7 ls H locs h hl hP hD hS => ?_) 1000 0 v_values ls H locs h (lv_sub hl [1, 0] rfl) hP hD hS
  have h := sat_some h
  exact W.vret hx hb hr (fun t ht hW => ⟨⟨(x1, u7), rfl, h, by rw [ht]; exact hP, va_K.moved hW.alike hK, hD⟩, hS.F ht⟩) hS.2.2 dX6_startOver_52

/-! X6_has -/
def m_X6_has (v_size : Int32) (x1 : Int32) : Option Int32 := (if x1 < 0 then some 0 else (if v_size ≤ x1 then some 0 else some 1))
set_option maxHeartbeats 4000000 in
set_option maxRecDepth 100000 in
theorem c_X6_has (l : Launch) (D : va_G) (y : ClassId × ClassId × ClassId × ClassId) (a a_values : Nat) (v_size : Int32) (x1 : Int32) (K : Int32 → Prop) (h : sat (m_X6_has v_size x1) K) : Met l yX6_has wsX6_has ({ frames := 0, cells := 0, slots := 0, locals := 0 } : Room) (pR D y ([.ref a, .int x1] : List Value) [(a, .inr (3, [.int v_size, .ref a_values]))]) (qSi K) 0 0 (fun _ => False) := by
  refine Met.ofW (cc := cX6_has) (maxL := 2) (ret := (some .boolean)) (by decide) rfl ?_
  intro p e s m args below meth c s₁ B hml hv
  obtain ⟨rfl, hP, hK⟩ := hv
  have hx := B.exec
  have hb := B.bytes
  have hr := B.returns
  have hts := atoms_spec (ws := wsX6_has) B.pre
  have hown : s.vm.findClass RX6 = some m.cls := findClass_of_methodNamed B.named
  have hlocks := B.notSynchronized
  have iX6 : ∀ w ∈ wsX60, w ∈ wsX6_has := by decide +kernel
  have fl13 := hts (.fieldLink RX6 13 "AlgebraLaws$Tables" "size" "I") (by decide +kernel)
  have hl := lv_entry ([.ref a, .int x1] : List Value) (n := 2) (Nat.le_of_ble_eq_true rfl)
  rw [lg_entry_eq]
  generalize (lg_sl ([.ref a, .int x1] : List Value) ++ List.replicate (2 - (lg_sl ([.ref a, .int x1] : List Value)).length) Slot.unset).toArray = ls at hl ⊢
  have hl : lv_has ls 2 [(0, .ref a), (1, .int x1)] := hl
  unfold m_X6_has at h
  refine lv_iload_n hx hb dX6_has_0 rfl (lv_at hl 1 rfl) ?_
  refine lv_if_lt (tgt := 16) hx hb dX6_has_1 (by decide) (fun c1 => ?_) (fun c1 => ?_)
  · have h := sat_t c1 h
    refine lv_iconst (v := 0) hx hb dX6_has_16 (by decide) ?_
    have h := sat_some h
    exact W.zret (v := 0) hx hb hr rfl (fun t ht _ => ⟨0, rfl, h, ht⟩) (fun _ hq => by cases hq) dX6_has_17
  · have h := sat_f c1 h
    refine lv_iload_n hx hb dX6_has_4 rfl (lv_at hl 1 rfl) ?_
    refine lv_aload_n hx hb dX6_has_5 rfl (lv_at hl 0 rfl) ?_
    refine va_get (D := D) (ci := 3) (v := .int v_size) (C := RX6) (T := TX6) (N := 2) hx hb hts iX6 hown hK hP 0 rfl rfl 0 (by decide) fl13 (fun _ h9 => h9) rfl dX6_has_6 ?_
    refine lv_icmp_ge (tgt := 16) hx hb dX6_has_9 (by decide) (fun c9 => ?_) (fun c9 => ?_)
    · have h := sat_t c9 h
      refine lv_iconst (v := 0) hx hb dX6_has_16 (by decide) ?_
      have h := sat_some h
      exact W.zret (v := 0) hx hb hr rfl (fun t ht _ => ⟨0, rfl, h, ht⟩) (fun _ hq => by cases hq) dX6_has_17
    · have h := sat_f c9 h
      refine lv_iconst (v := 1) hx hb dX6_has_12 (by decide) ?_
      refine lv_goto (tgt := 17) hx hb dX6_has_13 (by decide) ?_
      have h := sat_some h
      exact W.zret (v := 1) hx hb hr rfl (fun t ht _ => ⟨1, rfl, h, ht⟩) (fun _ hq => by cases hq) dX6_has_17

/-! X6_allElements -/
def m_X6_allElements (v_size : Int32)  : Option Int32 := some ((1 <<< (v_size &&& 31)) - 1)
set_option maxHeartbeats 4000000 in
set_option maxRecDepth 100000 in
theorem c_X6_allElements (l : Launch) (D : va_G) (y : ClassId × ClassId × ClassId × ClassId) (a a_values : Nat) (v_size : Int32) (K : Int32 → Prop) (h : sat (m_X6_allElements v_size) K) : Met l yX6_allElements wsX6_allElements ({ frames := 0, cells := 0, slots := 0, locals := 0 } : Room) (pR D y ([.ref a] : List Value) [(a, .inr (3, [.int v_size, .ref a_values]))]) (qSi K) 0 0 (fun _ => False) := by
  refine Met.ofW (cc := cX6_allElements) (maxL := 1) (ret := (some .int)) (by decide) rfl ?_
  intro p e s m args below meth c s₁ B hml hv
  obtain ⟨rfl, hP, hK⟩ := hv
  have hx := B.exec
  have hb := B.bytes
  have hr := B.returns
  have hts := atoms_spec (ws := wsX6_allElements) B.pre
  have hown : s.vm.findClass RX6 = some m.cls := findClass_of_methodNamed B.named
  have hlocks := B.notSynchronized
  have iX6 : ∀ w ∈ wsX60, w ∈ wsX6_allElements := by decide +kernel
  have fl13 := hts (.fieldLink RX6 13 "AlgebraLaws$Tables" "size" "I") (by decide +kernel)
  have hl := lv_entry ([.ref a] : List Value) (n := 1) (Nat.le_of_ble_eq_true rfl)
  rw [lg_entry_eq]
  generalize (lg_sl ([.ref a] : List Value) ++ List.replicate (1 - (lg_sl ([.ref a] : List Value)).length) Slot.unset).toArray = ls at hl ⊢
  have hl : lv_has ls 1 [(0, .ref a)] := hl
  unfold m_X6_allElements at h
  refine lv_iconst (v := 1) hx hb dX6_allElements_0 (by decide) ?_
  refine lv_aload_n hx hb dX6_allElements_1 rfl (lv_at hl 0 rfl) ?_
  refine va_get (D := D) (ci := 3) (v := .int v_size) (C := RX6) (T := TX6) (N := 2) hx hb hts iX6 hown hK hP 0 rfl rfl 0 (by decide) fl13 (fun _ h9 => h9) rfl dX6_allElements_2 ?_
  refine lv_ishl hx hb dX6_allElements_5 ?_
  refine lv_iconst (v := 1) hx hb dX6_allElements_6 (by decide) ?_
  refine lv_isub hx hb dX6_allElements_7 ?_
  have h := sat_some h
  exact W.iret (v := (1 <<< (v_size &&& 31)) - 1) hx hb hr (fun t ht _ => ⟨(1 <<< (v_size &&& 31)) - 1, rfl, h, ht⟩) (fun _ hq => by cases hq) dX6_allElements_8

/-! X6_two -/
def m_X6_two (v_values : Nat → Int32) (x1 : Int32) (x2 : Int32) : Option Int32 := (m_X6_placeOfTwo x1 x2).bind (fun r1 => rd 20 v_values r1 (fun r2 => some r2))
set_option maxHeartbeats 4000000 in
set_option maxRecDepth 100000 in
theorem c_X6_two (l : Launch) (D : va_G) (y : ClassId × ClassId × ClassId × ClassId) (a a_values : Nat) (v_size : Int32) (v_values : Nat → Int32) (x1 : Int32) (x2 : Int32) (K : Int32 → Prop) (h : sat (m_X6_two v_values x1 x2) K) : Met l yX6_two wsX6_two ({ frames := 1, cells := 0, slots := 0, locals := 21 } : Room) (pR D y ([.ref a, .int x1, .int x2] : List Value) [(a, .inr (3, [.int v_size, .ref a_values])), (a_values, .inl (y.1, 20, .inl v_values))]) (qSi K) 0 0 (fun _ => False) := by
  refine Met.ofW (cc := cX6_two) (maxL := 3) (ret := (some .int)) (by decide) rfl ?_
  intro p e s m args below meth c s₁ B hml hv
  obtain ⟨rfl, hP, hK⟩ := hv
  have hx := B.exec
  have hb := B.bytes
  have hr := B.returns
  have hts := atoms_spec (ws := wsX6_two) B.pre
  have hown : s.vm.findClass RX6 = some m.cls := findClass_of_methodNamed B.named
  have hlocks := B.notSynchronized
  have iX6 : ∀ w ∈ wsX60, w ∈ wsX6_two := by decide +kernel
  have fl9 := hts (.fieldLink RX6 9 "AlgebraLaws$Tables" "values" "[I") (by decide +kernel)
  have hl := lv_entry ([.ref a, .int x1, .int x2] : List Value) (n := 3) (Nat.le_of_ble_eq_true rfl)
  rw [lg_entry_eq]
  generalize (lg_sl ([.ref a, .int x1, .int x2] : List Value) ++ List.replicate (3 - (lg_sl ([.ref a, .int x1, .int x2] : List Value)).length) Slot.unset).toArray = ls at hl ⊢
  have hl : lv_has ls 3 [(0, .ref a), (1, .int x1), (2, .int x2)] := hl
  unfold m_X6_two at h
  refine lv_aload_n hx hb dX6_two_0 rfl (lv_at hl 0 rfl) ?_
  refine va_get (D := D) (ci := 3) (v := .ref a_values) (C := RX6) (T := TX6) (N := 2) hx hb hts iX6 hown hK hP 0 rfl rfl 1 (by decide) fl9 (fun _ h9 => h9) rfl dX6_two_1 ?_
  refine lv_iload_n hx hb dX6_two_4 rfl (lv_at hl 1 rfl) ?_
  refine lv_iload_n hx hb dX6_two_5 rfl (lv_at hl 2 rfl) ?_
  refine cr_i (rs (As := [.int x1, .int x2]) (rest := [.ref a_values]) ⟨hx, hb, hml, hown, hts⟩ (c_X6_placeOfTwo l D y x1 x2 _ (sat_bind h)) (va_cwS 2 hts gX6_two_X6_placeOfTwo rfl rfl rfl (by decide +kernel) ⟨Nat.le_of_ble_eq_true rfl, Nat.le_of_ble_eq_true rfl⟩) hK hP [] rfl rfl hl.1 rfl (Nat.le_of_ble_eq_true rfl) dX6_two_6 ⟨Nat.zero_le _, Nat.zero_le _⟩) (fun r1 h => ?_)
  obtain ⟨r2, er2, hin, h⟩ := sat_rd h
  refine xi hx hb hK hP 1 0 rfl rfl er2 hin dX6_two_9 ?_
  have h := sat_some h
  exact W.iret (v := r2) hx hb hr (fun t ht _ => ⟨r2, rfl, h, ht⟩) (fun _ hq => by cases hq) dX6_two_10

/-! X6_one -/
def m_X6_one (v_values : Nat → Int32) (x1 : Int32) : Option Int32 := (m_X6_placeOfOne x1).bind (fun r1 => rd 20 v_values r1 (fun r2 => some r2))
set_option maxHeartbeats 4000000 in
set_option maxRecDepth 100000 in
theorem c_X6_one (l : Launch) (D : va_G) (y : ClassId × ClassId × ClassId × ClassId) (a a_values : Nat) (v_size : Int32) (v_values : Nat → Int32) (x1 : Int32) (K : Int32 → Prop) (h : sat (m_X6_one v_values x1) K) : Met l yX6_one wsX6_one ({ frames := 1, cells := 0, slots := 0, locals := 20 } : Room) (pR D y ([.ref a, .int x1] : List Value) [(a, .inr (3, [.int v_size, .ref a_values])), (a_values, .inl (y.1, 20, .inl v_values))]) (qSi K) 0 0 (fun _ => False) := by
  refine Met.ofW (cc := cX6_one) (maxL := 2) (ret := (some .int)) (by decide) rfl ?_
  intro p e s m args below meth c s₁ B hml hv
  obtain ⟨rfl, hP, hK⟩ := hv
  have hx := B.exec
  have hb := B.bytes
  have hr := B.returns
  have hts := atoms_spec (ws := wsX6_one) B.pre
  have hown : s.vm.findClass RX6 = some m.cls := findClass_of_methodNamed B.named
  have hlocks := B.notSynchronized
  have iX6 : ∀ w ∈ wsX60, w ∈ wsX6_one := by decide +kernel
  have fl9 := hts (.fieldLink RX6 9 "AlgebraLaws$Tables" "values" "[I") (by decide +kernel)
  have hl := lv_entry ([.ref a, .int x1] : List Value) (n := 2) (Nat.le_of_ble_eq_true rfl)
  rw [lg_entry_eq]
  generalize (lg_sl ([.ref a, .int x1] : List Value) ++ List.replicate (2 - (lg_sl ([.ref a, .int x1] : List Value)).length) Slot.unset).toArray = ls at hl ⊢
  have hl : lv_has ls 2 [(0, .ref a), (1, .int x1)] := hl
  unfold m_X6_one at h
  refine lv_aload_n hx hb dX6_one_0 rfl (lv_at hl 0 rfl) ?_
  refine va_get (D := D) (ci := 3) (v := .ref a_values) (C := RX6) (T := TX6) (N := 2) hx hb hts iX6 hown hK hP 0 rfl rfl 1 (by decide) fl9 (fun _ h9 => h9) rfl dX6_one_1 ?_
  refine lv_iload_n hx hb dX6_one_4 rfl (lv_at hl 1 rfl) ?_
  refine cr_i (rs (As := [.int x1]) (rest := [.ref a_values]) ⟨hx, hb, hml, hown, hts⟩ (c_X6_placeOfOne l D y x1 _ (sat_bind h)) (va_cwS 1 hts gX6_one_X6_placeOfOne rfl rfl rfl (by decide +kernel) ⟨Nat.le_of_ble_eq_true rfl, Nat.le_of_ble_eq_true rfl⟩) hK hP [] rfl rfl hl.1 rfl (Nat.le_of_ble_eq_true rfl) dX6_one_5 ⟨Nat.zero_le _, Nat.zero_le _⟩) (fun r1 h => ?_)
  obtain ⟨r2, er2, hin, h⟩ := sat_rd h
  refine xi hx hb hK hP 1 0 rfl rfl er2 hin dX6_one_8 ?_
  have h := sat_some h
  exact W.iret (v := r2) hx hb hr (fun t ht _ => ⟨r2, rfl, h, ht⟩) (fun _ hq => by cases hq) dX6_one_9

/-! X6_at -/
def m_X6_at (v_values : Nat → Int32) (x1 : Int32) : Option Int32 := (if x1 < 0 then some 0 else (if 20 ≤ x1 then some 0 else rd 20 v_values x1 (fun r1 => some r1)))
set_option maxHeartbeats 4000000 in
set_option maxRecDepth 100000 in
theorem c_X6_at (l : Launch) (D : va_G) (y : ClassId × ClassId × ClassId × ClassId) (a a_values : Nat) (v_size : Int32) (v_values : Nat → Int32) (x1 : Int32) (K : Int32 → Prop) (h : sat (m_X6_at v_values x1) K) : Met l yX6_at wsX6_at ({ frames := 0, cells := 0, slots := 0, locals := 0 } : Room) (pR D y ([.ref a, .int x1] : List Value) [(a, .inr (3, [.int v_size, .ref a_values])), (a_values, .inl (y.1, 20, .inl v_values))]) (qSi K) 0 0 (fun _ => False) := by
  refine Met.ofW (cc := cX6_at) (maxL := 2) (ret := (some .int)) (by decide) rfl ?_
  intro p e s m args below meth c s₁ B hml hv
  obtain ⟨rfl, hP, hK⟩ := hv
  have hx := B.exec
  have hb := B.bytes
  have hr := B.returns
  have hts := atoms_spec (ws := wsX6_at) B.pre
  have hown : s.vm.findClass RX6 = some m.cls := findClass_of_methodNamed B.named
  have hlocks := B.notSynchronized
  have iX6 : ∀ w ∈ wsX60, w ∈ wsX6_at := by decide +kernel
  have fl9 := hts (.fieldLink RX6 9 "AlgebraLaws$Tables" "values" "[I") (by decide +kernel)
  have hl := lv_entry ([.ref a, .int x1] : List Value) (n := 2) (Nat.le_of_ble_eq_true rfl)
  rw [lg_entry_eq]
  generalize (lg_sl ([.ref a, .int x1] : List Value) ++ List.replicate (2 - (lg_sl ([.ref a, .int x1] : List Value)).length) Slot.unset).toArray = ls at hl ⊢
  have hl : lv_has ls 2 [(0, .ref a), (1, .int x1)] := hl
  unfold m_X6_at at h
  refine lv_iload_n hx hb dX6_at_0 rfl (lv_at hl 1 rfl) ?_
  refine lv_if_lt (tgt := 19) hx hb dX6_at_1 (by decide) (fun c1 => ?_) (fun c1 => ?_)
  · have h := sat_t c1 h
    refine lv_iconst (v := 0) hx hb dX6_at_19 (by decide) ?_
    have h := sat_some h
    exact W.iret (v := 0) hx hb hr (fun t ht _ => ⟨0, rfl, h, ht⟩) (fun _ hq => by cases hq) dX6_at_20
  · have h := sat_f c1 h
    refine lv_iload_n hx hb dX6_at_4 rfl (lv_at hl 1 rfl) ?_
    refine lv_bipush (v := 20) hx hb dX6_at_5 (by decide) ?_
    refine lv_icmp_ge (tgt := 19) hx hb dX6_at_7 (by decide) (fun c7 => ?_) (fun c7 => ?_)
    · have h := sat_t c7 h
      refine lv_iconst (v := 0) hx hb dX6_at_19 (by decide) ?_
      have h := sat_some h
      exact W.iret (v := 0) hx hb hr (fun t ht _ => ⟨0, rfl, h, ht⟩) (fun _ hq => by cases hq) dX6_at_20
    · have h := sat_f c7 h
      refine lv_aload_n hx hb dX6_at_10 rfl (lv_at hl 0 rfl) ?_
      refine va_get (D := D) (ci := 3) (v := .ref a_values) (C := RX6) (T := TX6) (N := 2) hx hb hts iX6 hown hK hP 0 rfl rfl 1 (by decide) fl9 (fun _ h9 => h9) rfl dX6_at_11 ?_
      refine lv_iload_n hx hb dX6_at_14 rfl (lv_at hl 1 rfl) ?_
      obtain ⟨r1, er1, hin, h⟩ := sat_rd h
      refine xi hx hb hK hP 1 0 rfl rfl er1 hin dX6_at_15 ?_
      refine lv_goto (tgt := 20) hx hb dX6_at_16 (by decide) ?_
      have h := sat_some h
      exact W.iret (v := r1) hx hb hr (fun t ht _ => ⟨r1, rfl, h, ht⟩) (fun _ hq => by cases hq) dX6_at_20

/-! X6_put -/
def m_X6_put (v_values : Nat → Int32) (x1 : Int32) (x2 : Int32) : Option ((Nat → Int32)) := (if x1 < 0 then some v_values else (if 20 ≤ x1 then some v_values else wrI 20 v_values x1 x2 (fun f1 => some f1)))
set_option maxHeartbeats 4000000 in
set_option maxRecDepth 100000 in
theorem c_X6_put (l : Launch) (D : va_G) (y : ClassId × ClassId × ClassId × ClassId) (a a_values : Nat) (v_size : Int32) (v_values : Nat → Int32) (x1 : Int32) (x2 : Int32) (sz : Nat) (A : Nat → Prop) (hAe : va_A [(a, .inr (3, [.int v_size, .ref a_values])), (a_values, .inl (y.1, 20, .inl v_values))] sz = A) (K : ((Nat → Int32)) → Prop) (h : sat (m_X6_put v_values x1 x2) K) : Met l yX6_put wsX6_put ({ frames := 0, cells := 0, slots := 0, locals := 0 } : Room) (pW D y ([.ref a, .int x1, .int x2] : List Value) [(a, .inr (3, [.int v_size, .ref a_values])), (a_values, .inl (y.1, 20, .inl v_values))] sz) (va_Qv K (bW D y A (fun u : ((Nat → Int32)) => [(a, .inr (3, [.int v_size, .ref a_values])), (a_values, .inl (y.1, 20, .inl u))])) A) 0 0 A := by
  refine Met.ofW (cc := cX6_put) (maxL := 3) (ret := none) (by decide) rfl ?_
  intro p e s m args below meth c s₁ B hml hv
  obtain ⟨rfl, hsz, hP, hK, hD0⟩ := hv
  have hx := B.exec
  have hb := B.bytes
  have hr := B.returns
  have hts := atoms_spec (ws := wsX6_put) B.pre
  have hown : s.vm.findClass RX6 = some m.cls := findClass_of_methodNamed B.named
  have hlocks := B.notSynchronized
  subst hsz
  have hD : va_D A [(a, .inr (3, [.int v_size, .ref a_values])), (a_values, .inl (y.1, 20, .inl v_values))] := hAe ▸ hD0.self
  have hA : ∀ q : Nat, s.heap.size ≤ q → A q := fun q h => hAe ▸ Or.inr h
  have hS : va_S A s.heap s.heap [] := va_S.rf
  have iX6 : ∀ w ∈ wsX60, w ∈ wsX6_put := by decide +kernel
  have fl9 := hts (.fieldLink RX6 9 "AlgebraLaws$Tables" "values" "[I") (by decide +kernel)
  have hl := lv_entry ([.ref a, .int x1, .int x2] : List Value) (n := 3) (Nat.le_of_ble_eq_true rfl)
  rw [lg_entry_eq]
  generalize (lg_sl ([.ref a, .int x1, .int x2] : List Value) ++ List.replicate (3 - (lg_sl ([.ref a, .int x1, .int x2] : List Value)).length) Slot.unset).toArray = ls at hl ⊢
  have hl : lv_has ls 3 [(0, .ref a), (1, .int x1), (2, .int x2)] := hl
  unfold m_X6_put at h
  refine lv_iload_n hx hb dX6_put_0 rfl (lv_at hl 1 rfl) ?_
  refine lv_if_lt (tgt := 17) hx hb dX6_put_1 (by decide) (fun c1 => ?_) (fun c1 => ?_)
  · have h := sat_t c1 h
    have h := sat_some h
    exact W.vret hx hb hr (fun t ht hW => ⟨⟨v_values, rfl, h, by rw [ht]; exact hP, va_K.moved hW.alike hK, hD⟩, hS.F ht⟩) hS.2.2 dX6_put_17
  · have h := sat_f c1 h
    refine lv_iload_n hx hb dX6_put_4 rfl (lv_at hl 1 rfl) ?_
    refine lv_bipush (v := 20) hx hb dX6_put_5 (by decide) ?_
    refine lv_icmp_ge (tgt := 17) hx hb dX6_put_7 (by decide) (fun c7 => ?_) (fun c7 => ?_)
    · have h := sat_t c7 h
      have h := sat_some h
      exact W.vret hx hb hr (fun t ht hW => ⟨⟨v_values, rfl, h, by rw [ht]; exact hP, va_K.moved hW.alike hK, hD⟩, hS.F ht⟩) hS.2.2 dX6_put_17
    · have h := sat_f c7 h
      refine lv_aload_n hx hb dX6_put_10 rfl (lv_at hl 0 rfl) ?_
      refine va_get (D := D) (ci := 3) (v := .ref a_values) (C := RX6) (T := TX6) (N := 2) hx hb hts iX6 hown hK hP 0 rfl rfl 1 (by decide) fl9 (fun _ h9 => h9) rfl dX6_put_11 ?_
      refine lv_iload_n hx hb dX6_put_14 rfl (lv_at hl 1 rfl) ?_
      refine lv_iload_n hx hb dX6_put_15 rfl (lv_at hl 2 rfl) ?_
      obtain ⟨f1, ef1, hin, h⟩ := sat_wrI h
      refine yi (wn := [(a, .inr (3, [.int v_size, .ref a_values])), (a_values, .inl (y.1, 20, .inl f1))]) hx hb hK hP hD hS 1 0 rfl rfl ef1 hin dX6_put_16 rfl (fun H locs hP hD hS => ?_)
      have h := sat_some h
      exact W.vret hx hb hr (fun t ht hW => ⟨⟨f1, rfl, h, by rw [ht]; exact hP, va_K.moved hW.alike hK, hD⟩, hS.F ht⟩) hS.2.2 dX6_put_17

/-! X6_copyFrom -/
def m_X6_copyFrom (v_size : Int32) (v_values : Nat → Int32) (v1_size : Int32) (v1_values : Nat → Int32)  : Option (Int32 × (Nat → Int32)) := nm (va_cpy v1_values v_values 0 0 20) (fun f1 => some (v1_size, f1))
set_option maxHeartbeats 4000000 in
set_option maxRecDepth 100000 in
theorem c_X6_copyFrom (l : Launch) (D : va_G) (y : ClassId × ClassId × ClassId × ClassId) (a a_values a1 a1_values : Nat) (v_size : Int32) (v_values : Nat → Int32) (v1_size : Int32) (v1_values : Nat → Int32) (sz : Nat) (A : Nat → Prop) (hAe : va_A [(a, .inr (3, [.int v_size, .ref a_values])), (a_values, .inl (y.1, 20, .inl v_values)), (a1, .inr (3, [.int v1_size, .ref a1_values])), (a1_values, .inl (y.1, 20, .inl v1_values))] sz = A) (K : (Int32 × (Nat → Int32)) → Prop) (h : sat (m_X6_copyFrom v_size v_values v1_size v1_values) K) : Met l yX6_copyFrom wsX6_copyFrom ({ frames := 1, cells := 0, slots := 0, locals := 40 } : Room) (pW D y ([.ref a, .ref a1] : List Value) [(a, .inr (3, [.int v_size, .ref a_values])), (a_values, .inl (y.1, 20, .inl v_values)), (a1, .inr (3, [.int v1_size, .ref a1_values])), (a1_values, .inl (y.1, 20, .inl v1_values))] sz) (va_Qv K (bW D y A (fun u : (Int32 × (Nat → Int32)) => [(a, .inr (3, [.int u.1, .ref a_values])), (a_values, .inl (y.1, 20, .inl u.2)), (a1, .inr (3, [.int v1_size, .ref a1_values])), (a1_values, .inl (y.1, 20, .inl v1_values))])) A) 0 0 A := by
  refine Met.ofW (cc := cX6_copyFrom) (maxL := 2) (ret := none) (by decide) rfl ?_
  intro p e s m args below meth c s₁ B hml hv
  obtain ⟨rfl, hsz, hP, hK, hD0⟩ := hv
  have hx := B.exec
  have hb := B.bytes
  have hr := B.returns
  have hts := atoms_spec (ws := wsX6_copyFrom) B.pre
  have hown : s.vm.findClass RX6 = some m.cls := findClass_of_methodNamed B.named
  have hlocks := B.notSynchronized
  subst hsz
  have hD : va_D A [(a, .inr (3, [.int v_size, .ref a_values])), (a_values, .inl (y.1, 20, .inl v_values)), (a1, .inr (3, [.int v1_size, .ref a1_values])), (a1_values, .inl (y.1, 20, .inl v1_values))] := hAe ▸ hD0.self
  have hA : ∀ q : Nat, s.heap.size ≤ q → A q := fun q h => hAe ▸ Or.inr h
  have hS : va_S A s.heap s.heap [] := va_S.rf
  have iX6 : ∀ w ∈ wsX60, w ∈ wsX6_copyFrom := by decide +kernel
  have fl13 := hts (.fieldLink RX6 13 "AlgebraLaws$Tables" "size" "I") (by decide +kernel)
  have fl9 := hts (.fieldLink RX6 9 "AlgebraLaws$Tables" "values" "[I") (by decide +kernel)
  have hl := lv_entry ([.ref a, .ref a1] : List Value) (n := 2) (Nat.le_of_ble_eq_true rfl)
  rw [lg_entry_eq]
  generalize (lg_sl ([.ref a, .ref a1] : List Value) ++ List.replicate (2 - (lg_sl ([.ref a, .ref a1] : List Value)).length) Slot.unset).toArray = ls at hl ⊢
  have hl : lv_has ls 2 [(0, .ref a), (1, .ref a1)] := hl
  unfold m_X6_copyFrom at h
  refine lv_aload_n hx hb dX6_copyFrom_0 rfl (lv_at hl 0 rfl) ?_
  refine lv_aload_n hx hb dX6_copyFrom_1 rfl (lv_at hl 1 rfl) ?_
  refine va_get (D := D) (ci := 3) (v := .int v1_size) (C := RX6) (T := TX6) (N := 2) hx hb hts iX6 hown hK hP 2 rfl rfl 0 (by decide) fl13 (fun _ h9 => h9) rfl dX6_copyFrom_2 ?_
  refine pf (D := D) (ci := 3) (v := .int v1_size) (ty := .int) (C := RX6) (T := TX6) (N := 2) (wn := [(a, .inr (3, [.int v1_size, .ref a_values])), (a_values, .inl (y.1, 20, .inl v_values)), (a1, .inr (3, [.int v1_size, .ref a1_values])), (a1_values, .inl (y.1, 20, .inl v1_values))]) hx hb hts iX6 tyX6 tyX6_ok nmX6 hown hK hP hD hS 0 rfl rfl 0 (by decide) fl13 (fun _ h9 => h9) rfl (by decide +kernel) rfl rfl (Nat.le_of_ble_eq_true rfl) dX6_copyFrom_5 rfl (fun H locs hP hD hS => ?_)
  refine lv_aload_n hx hb dX6_copyFrom_8 rfl (lv_at hl 1 rfl) ?_
  refine va_get (D := D) (ci := 3) (v := .ref a1_values) (C := RX6) (T := TX6) (N := 2) hx hb hts iX6 hown hK hP 2 rfl rfl 1 (by decide) fl9 (fun _ h9 => h9) rfl dX6_copyFrom_9 ?_
  refine lv_iconst (v := 0) hx hb dX6_copyFrom_12 (by decide) ?_
  refine lv_aload_n hx hb dX6_copyFrom_13 rfl (lv_at hl 0 rfl) ?_
  refine va_get (D := D) (ci := 3) (v := .ref a_values) (C := RX6) (T := TX6) (N := 2) hx hb hts iX6 hown hK hP 0 rfl rfl 1 (by decide) fl9 (fun _ h9 => h9) rfl dX6_copyFrom_14 ?_
  refine lv_iconst (v := 0) hx hb dX6_copyFrom_17 (by decide) ?_
  refine lv_bipush (v := 20) hx hb dX6_copyFrom_18 (by decide) ?_
  obtain ⟨f1, ef1, h⟩ := sat_nm h
  refine cpy (wn := [(a, .inr (3, [.int v1_size, .ref a_values])), (a_values, .inl (y.1, 20, .inl f1)), (a1, .inr (3, [.int v1_size, .ref a1_values])), (a1_values, .inl (y.1, 20, .inl v1_values))]) hx hb (by rw [hml]; exact hl.1.symm) hown (hts (.methodLink RX6 25 arraycopyName) (by decide +kernel)) (hts (.native arraycopyName) (by decide +kernel)) (hts (.static arraycopyName) (by decide +kernel)) (hts (.initialized "java/lang/System") (by decide +kernel)) hK hP hD hS 3 1 0 0 rfl rfl rfl rfl 0 0 20 ef1 (by decide) (Nat.le_of_ble_eq_true rfl) (Nat.le_of_ble_eq_true rfl) dX6_copyFrom_20 rfl (fun H locs hP hD hS => ?_)
  have h := sat_some h
  exact W.vret hx hb hr (fun t ht hW => ⟨⟨(v1_size, f1), rfl, h, by rw [ht]; exact hP, va_K.moved hW.alike hK, hD⟩, hS.F ht⟩) hS.2.2 dX6_copyFrom_23

/-! X0_valuesIn -/
def m_X0_valuesIn_s33 (v_size : Int32) (v_values : Nat → Int32) (x1 : Int32) (x3_4 : Int32) (x2_33 : Int32) (x4_33 : Int32) : Option ((Int32 × Int32) ⊕ Int32) := (if v_size ≤ x4_33 then some (.inr x2_33) else (if ((x1 >>> (x4_33 &&& 31)) &&& 1) = 0 then some (.inl (x2_33, x4_33 + 1)) else (m_X6_two v_values x3_4 x4_33).bind (fun r4 => some (.inl (x2_33 ||| (1 <<< (r4 &&& 31)), x4_33 + 1)))))
def m_X0_valuesIn_s4 (v_size : Int32) (v_values : Nat → Int32) (x1 : Int32) (x2_4 : Int32) (x3_4 : Int32) : Option ((Int32 × Int32) ⊕ Int32) := (if v_size ≤ x3_4 then some (.inr x2_4) else (if ((x1 >>> (x3_4 &&& 31)) &&& 1) = 0 then some (.inl (x2_4, x3_4 + 1)) else (m_X6_one v_values x3_4).bind (fun r2 => (lp (fun q : (Int32 × Int32) => m_X0_valuesIn_s33 v_size v_values x1 x3_4 q.1 q.2) 1000 (x2_4 ||| (1 <<< (r2 &&& 31)), 0)).bind (fun u33 => some (.inl (u33, x3_4 + 1))))))
def m_X0_valuesIn (v_size : Int32) (v_values : Nat → Int32) (x1 : Int32) : Option Int32 := (lp (fun q : (Int32 × Int32) => m_X0_valuesIn_s4 v_size v_values x1 q.1 q.2) 1000 (0, 0)).bind (fun u4 => some u4)
set_option maxHeartbeats 4000000 in
set_option maxRecDepth 100000 in
theorem c_X0_valuesIn (l : Launch) (D : va_G) (y : ClassId × ClassId × ClassId × ClassId) (a a_values : Nat) (v_size : Int32) (v_values : Nat → Int32) (x1 : Int32) (K : Int32 → Prop) (h : sat (m_X0_valuesIn v_size v_values x1) K) : Met l yX0_valuesIn wsX0_valuesIn ({ frames := 2, cells := 0, slots := 0, locals := 43 } : Room) (pR D y ([.ref a, .int x1] : List Value) [(a, .inr (3, [.int v_size, .ref a_values])), (a_values, .inl (y.1, 20, .inl v_values))]) (qSi K) 0 0 (fun _ => False) := by
  refine Met.ofW (cc := cX0_valuesIn) (maxL := 5) (ret := (some .int)) (by decide) rfl ?_
  intro p e s m args below meth c s₁ B hml hv
  obtain ⟨rfl, hP, hK⟩ := hv
  have hx := B.exec
  have hb := B.bytes
  have hr := B.returns
  have hts := atoms_spec (ws := wsX0_valuesIn) B.pre
  have hown : s.vm.findClass RX0 = some m.cls := findClass_of_methodNamed B.named
  have hlocks := B.notSynchronized
  have iX6 : ∀ w ∈ wsX60, w ∈ wsX0_valuesIn := by decide +kernel
  have fl25 := hts (.fieldLink RX0 25 "AlgebraLaws$Tables" "size" "I") (by decide +kernel)
  have hl := lv_entry ([.ref a, .int x1] : List Value) (n := 5) (Nat.le_of_ble_eq_true rfl)
  rw [lg_entry_eq]
  generalize (lg_sl ([.ref a, .int x1] : List Value) ++ List.replicate (5 - (lg_sl ([.ref a, .int x1] : List Value)).length) Slot.unset).toArray = ls at hl ⊢
  have hl : lv_has ls 5 [(0, .ref a), (1, .int x1)] := hl
  unfold m_X0_valuesIn at h
  refine lv_iconst (v := 0) hx hb dX0_valuesIn_0 (by decide) ?_
  refine lv_istore_n (lv' := [(2, .int 0), (0, .ref a), (1, .int x1)]) hx hb dX0_valuesIn_1 rfl hl (by decide) rfl (fun ls hl => ?_)
  refine lv_iconst (v := 0) hx hb dX0_valuesIn_2 (by decide) ?_
  refine lv_istore_n (lv' := [(3, .int 0), (2, .int 0), (0, .ref a), (1, .int x1)]) hx hb dX0_valuesIn_3 rfl hl (by decide) rfl (fun ls hl => ?_)
  have hL4 : ∀ (K4 : Int32 → Prop)
      (hE4 : ∀ (u4 : Int32) (ls : Array Slot), K4 u4 → lv_has ls 5 [(2, .int u4)] → W p l e (headSpec wsX0_valuesIn ({ frames := 2, cells := 0, slots := 0, locals := 43 } : Room)).room s m ([.ref a, .int x1] : List Value).toArray below meth c s.heap [] 0 0 (MQ below (qSi K) ([.ref a, .int x1] : List Value).toArray s 0 0 (fun _ => False)) (F0 m 75 ls []))
      (n : Nat) (x2_4 : Int32) (x3_4 : Int32) (ls : Array Slot), sat (lp (fun q : (Int32 × Int32) => m_X0_valuesIn_s4 v_size v_values x1 q.1 q.2) n (x2_4, x3_4)) K4 → lv_has ls 5 [(0, .ref a), (1, .int x1), (2, .int x2_4), (3, .int x3_4)] → W p l e (headSpec wsX0_valuesIn ({ frames := 2, cells := 0, slots := 0, locals := 43 } : Room)).room s m ([.ref a, .int x1] : List Value).toArray below meth c s.heap [] 0 0 (MQ below (qSi K) ([.ref a, .int x1] : List Value).toArray s 0 0 (fun _ => False)) (F0 m 4 ls []) := by
    intro K4 hE4 n
    induction n with
    | zero => intro x2_4 x3_4 ls h; exact (sat_lp0 h).elim
    | succ n ih =>
      intro x2_4 x3_4 ls h hl
      have h := sat_lp h
      have h : sat (m_X0_valuesIn_s4 v_size v_values x1 x2_4 x3_4) (lk (fun s' => sat (lp (fun q : (Int32 × Int32) => m_X0_valuesIn_s4 v_size v_values x1 q.1 q.2) n s') K4) K4) := h
      unfold m_X0_valuesIn_s4 at h
      refine lv_iload_n hx hb dX0_valuesIn_4 rfl (lv_at hl 3 rfl) ?_
      refine lv_aload_n hx hb dX0_valuesIn_5 rfl (lv_at hl 0 rfl) ?_
      refine va_get (D := D) (ci := 3) (v := .int v_size) (C := RX6) (T := TX6) (N := 2) hx hb hts iX6 hown hK hP 0 rfl rfl 0 (by decide) fl25 (fun _ h9 => h9) rfl dX0_valuesIn_6 ?_
      refine lv_icmp_ge (tgt := 75) hx hb dX0_valuesIn_9 (by decide) (fun c9 => ?_) (fun c9 => ?_)
      · have h := sat_t c9 h
        have h := lk_r (sat_some h)
        exact hE4 x2_4 ls h (lv_sub hl [2] rfl)
      · have h := sat_f c9 h
        refine lv_iload_n hx hb dX0_valuesIn_12 rfl (lv_at hl 1 rfl) ?_
        refine lv_iload_n hx hb dX0_valuesIn_13 rfl (lv_at hl 3 rfl) ?_
        refine lv_ishr hx hb dX0_valuesIn_14 ?_
        refine lv_iconst (v := 1) hx hb dX0_valuesIn_15 (by decide) ?_
        refine lv_iand hx hb dX0_valuesIn_16 ?_
        refine lv_if_eq (tgt := 69) hx hb dX0_valuesIn_17 (by decide) (fun c17 => ?_) (fun c17 => ?_)
        · have h := sat_t c17 h
          refine lv_iinc (v := x3_4 + 1) (lv' := [(3, .int (x3_4 + 1)), (0, .ref a), (1, .int x1), (2, .int x2_4)]) hx hb dX0_valuesIn_69 hl (k := 3) rfl rfl (by decide) rfl (fun ls hl => ?_)
          refine lv_goto (tgt := 4) hx hb dX0_valuesIn_72 (by decide) ?_
          have h := lk_l (sat_some h)
          exact ih x2_4 (x3_4 + 1) ls h (lv_sub hl [1, 2, 3, 0] rfl)
        · have h := sat_f c17 h
          refine lv_iload_n hx hb dX0_valuesIn_20 rfl (lv_at hl 2 rfl) ?_
          refine lv_iconst (v := 1) hx hb dX0_valuesIn_21 (by decide) ?_
          refine lv_aload_n hx hb dX0_valuesIn_22 rfl (lv_at hl 0 rfl) ?_
          refine lv_iload_n hx hb dX0_valuesIn_23 rfl (lv_at hl 3 rfl) ?_
          refine cr_i (rv (As := [.int x3_4]) (rest := [.int 1, .int x2_4]) ⟨hx, hb, hml, hown, hts⟩ (c_X6_one l D y a a_values v_size v_values x3_4 _ (sat_bind h)) (cwV 1 hts gX0_valuesIn_X6_one rfl rfl rfl (by decide +kernel) ⟨Nat.le_of_ble_eq_true rfl, Nat.le_of_ble_eq_true rfl⟩) hK hP [0, 1] rfl 0 3 rfl rfl rfl rfl hl.1 rfl (Nat.le_of_ble_eq_true rfl) dX0_valuesIn_24 ⟨Nat.zero_le _, Nat.zero_le _⟩) (fun r2 h => ?_)
          refine lv_ishl hx hb dX0_valuesIn_27 ?_
          refine lv_ior hx hb dX0_valuesIn_28 ?_
          refine lv_istore_n (lv' := [(2, .int (x2_4 ||| (1 <<< (r2 &&& 31)))), (0, .ref a), (1, .int x1), (3, .int x3_4)]) hx hb dX0_valuesIn_29 rfl hl (by decide) rfl (fun ls hl => ?_)
          refine lv_iconst (v := 0) hx hb dX0_valuesIn_30 (by decide) ?_
          refine lv_istore (lv' := [(4, .int 0), (2, .int (x2_4 ||| (1 <<< (r2 &&& 31)))), (0, .ref a), (1, .int x1), (3, .int x3_4)]) hx hb dX0_valuesIn_31 hl (by decide) rfl (fun ls hl => ?_)
          have hL33 : ∀ (K33 : Int32 → Prop)
              (hE33 : ∀ (u33 : Int32) (ls : Array Slot), K33 u33 → lv_has ls 5 [(0, .ref a), (1, .int x1), (2, .int u33), (3, .int x3_4)] → W p l e (headSpec wsX0_valuesIn ({ frames := 2, cells := 0, slots := 0, locals := 43 } : Room)).room s m ([.ref a, .int x1] : List Value).toArray below meth c s.heap [] 0 0 (MQ below (qSi K) ([.ref a, .int x1] : List Value).toArray s 0 0 (fun _ => False)) (F0 m 69 ls []))
              (n : Nat) (x2_33 : Int32) (x4_33 : Int32) (ls : Array Slot), sat (lp (fun q : (Int32 × Int32) => m_X0_valuesIn_s33 v_size v_values x1 x3_4 q.1 q.2) n (x2_33, x4_33)) K33 → lv_has ls 5 [(0, .ref a), (1, .int x1), (2, .int x2_33), (3, .int x3_4), (4, .int x4_33)] → W p l e (headSpec wsX0_valuesIn ({ frames := 2, cells := 0, slots := 0, locals := 43 } : Room)).room s m ([.ref a, .int x1] : List Value).toArray below meth c s.heap [] 0 0 (MQ below (qSi K) ([.ref a, .int x1] : List Value).toArray s 0 0 (fun _ => False)) (F0 m 33 ls []) := by
            intro K33 hE33 n
            induction n with
            | zero => intro x2_33 x4_33 ls h; exact (sat_lp0 h).elim
            | succ n ih =>
              intro x2_33 x4_33 ls h hl
              have h := sat_lp h
              have h : sat (m_X0_valuesIn_s33 v_size v_values x1 x3_4 x2_33 x4_33) (lk (fun s' => sat (lp (fun q : (Int32 × Int32) => m_X0_valuesIn_s33 v_size v_values x1 x3_4 q.1 q.2) n s') K33) K33) := h
              unfold m_X0_valuesIn_s33 at h
              refine lv_iload hx hb dX0_valuesIn_33 (lv_at hl 4 rfl) ?_
              refine lv_aload_n hx hb dX0_valuesIn_35 rfl (lv_at hl 0 rfl) ?_
              refine va_get (D := D) (ci := 3) (v := .int v_size) (C := RX6) (T := TX6) (N := 2) hx hb hts iX6 hown hK hP 0 rfl rfl 0 (by decide) fl25 (fun _ h9 => h9) rfl dX0_valuesIn_36 ?_
              refine lv_icmp_ge (tgt := 69) hx hb dX0_valuesIn_39 (by decide) (fun c39 => ?_) (fun c39 => ?_)
              · have h := sat_t c39 h
                have h := lk_r (sat_some h)
                exact hE33 x2_33 ls h (lv_sub hl [0, 1, 2, 3] rfl)
              · have h := sat_f c39 h
                refine lv_iload_n hx hb dX0_valuesIn_42 rfl (lv_at hl 1 rfl) ?_
                refine lv_iload hx hb dX0_valuesIn_43 (lv_at hl 4 rfl) ?_
                refine lv_ishr hx hb dX0_valuesIn_45 ?_
                refine lv_iconst (v := 1) hx hb dX0_valuesIn_46 (by decide) ?_
                refine lv_iand hx hb dX0_valuesIn_47 ?_
                refine lv_if_eq (tgt := 63) hx hb dX0_valuesIn_48 (by decide) (fun c48 => ?_) (fun c48 => ?_)
                · have h := sat_t c48 h
                  refine lv_iinc (v := x4_33 + 1) (lv' := [(4, .int (x4_33 + 1)), (0, .ref a), (1, .int x1), (2, .int x2_33), (3, .int x3_4)]) hx hb dX0_valuesIn_63 hl (k := 4) rfl rfl (by decide) rfl (fun ls hl => ?_)
                  refine lv_goto (tgt := 33) hx hb dX0_valuesIn_66 (by decide) ?_
                  have h := lk_l (sat_some h)
                  exact ih x2_33 (x4_33 + 1) ls h (lv_sub hl [1, 2, 3, 4, 0] rfl)
                · have h := sat_f c48 h
                  refine lv_iload_n hx hb dX0_valuesIn_51 rfl (lv_at hl 2 rfl) ?_
                  refine lv_iconst (v := 1) hx hb dX0_valuesIn_52 (by decide) ?_
                  refine lv_aload_n hx hb dX0_valuesIn_53 rfl (lv_at hl 0 rfl) ?_
                  refine lv_iload_n hx hb dX0_valuesIn_54 rfl (lv_at hl 3 rfl) ?_
                  refine lv_iload hx hb dX0_valuesIn_55 (lv_at hl 4 rfl) ?_
                  refine cr_i (rv (As := [.int x3_4, .int x4_33]) (rest := [.int 1, .int x2_33]) ⟨hx, hb, hml, hown, hts⟩ (c_X6_two l D y a a_values v_size v_values x3_4 x4_33 _ (sat_bind h)) (cwV 2 hts gX0_valuesIn_X6_two rfl rfl rfl (by decide +kernel) ⟨Nat.le_of_ble_eq_true rfl, Nat.le_of_ble_eq_true rfl⟩) hK hP [0, 1] rfl 0 3 rfl rfl rfl rfl hl.1 rfl (Nat.le_of_ble_eq_true rfl) dX0_valuesIn_57 ⟨Nat.zero_le _, Nat.zero_le _⟩) (fun r4 h => ?_)
                  refine lv_ishl hx hb dX0_valuesIn_60 ?_
                  refine lv_ior hx hb dX0_valuesIn_61 ?_
                  refine lv_istore_n (lv' := [(2, .int (x2_33 ||| (1 <<< (r4 &&& 31)))), (0, .ref a), (1, .int x1), (3, .int x3_4), (4, .int x4_33)]) hx hb dX0_valuesIn_62 rfl hl (by decide) rfl (fun ls hl => ?_)
                  refine lv_iinc (v := x4_33 + 1) (lv' := [(4, .int (x4_33 + 1)), (2, .int (x2_33 ||| (1 <<< (r4 &&& 31)))), (0, .ref a), (1, .int x1), (3, .int x3_4)]) hx hb dX0_valuesIn_63 hl (k := 4) rfl rfl (by decide) rfl (fun ls hl => ?_)
                  refine lv_goto (tgt := 33) hx hb dX0_valuesIn_66 (by decide) ?_
                  have h := lk_l (sat_some h)
                  exact ih (x2_33 ||| (1 <<< (r4 &&& 31))) (x4_33 + 1) ls h (lv_sub hl [2, 3, 1, 4, 0] rfl)
          have h := sat_bind h
          refine hL33 _ (fun u33 ls h hl => ?_) 1000 (x2_4 ||| (1 <<< (r2 &&& 31))) 0 ls h (lv_sub hl [2, 3, 1, 4, 0] rfl)
          refine lv_iinc (v := x3_4 + 1) (lv' := [(3, .int (x3_4 + 1)), (0, .ref a), (1, .int x1), (2, .int u33)]) hx hb dX0_valuesIn_69 hl (k := 3) rfl rfl (by decide) rfl (fun ls hl => ?_)
          refine lv_goto (tgt := 4) hx hb dX0_valuesIn_72 (by decide) ?_
          have h := lk_l (sat_some h)
          exact ih u33 (x3_4 + 1) ls h (lv_sub hl [1, 2, 3, 0] rfl)
  have h := sat_bind h
  refine hL4 _ (fun u4 ls h hl => ?_) 1000 0 0 ls h (lv_sub hl [2, 3, 1, 0] rfl)
  refine lv_iload_n hx hb dX0_valuesIn_75 rfl (lv_at hl 0 rfl) ?_
  have h := sat_some h
  exact W.iret (v := u4) hx hb hr (fun t ht _ => ⟨u4, rfl, h, ht⟩) (fun _ hq => by cases hq) dX0_valuesIn_76

/-! X0_leastAround -/
def m_X0_leastAround_s4 (v_size : Int32) (v_values : Nat → Int32) (x2_4 : Int32) (x3_4 : Int32) : Option ((Int32 × Int32) ⊕ Int32) := (if 4 ≤ x3_4 then some (.inr x2_4) else (m_X0_valuesIn v_size v_values x2_4).bind (fun r2 => some (.inl (x2_4 ||| r2, x3_4 + 1))))
def m_X0_leastAround (v_size : Int32) (v_values : Nat → Int32) (x1 : Int32) : Option Int32 := (lp (fun q : (Int32 × Int32) => m_X0_leastAround_s4 v_size v_values q.1 q.2) 1000 (x1, 0)).bind (fun u4 => some u4)
set_option maxHeartbeats 4000000 in
set_option maxRecDepth 100000 in
theorem c_X0_leastAround (l : Launch) (D : va_G) (y : ClassId × ClassId × ClassId × ClassId) (a a_values : Nat) (v_size : Int32) (v_values : Nat → Int32) (x1 : Int32) (K : Int32 → Prop) (h : sat (m_X0_leastAround v_size v_values x1) K) : Met l yX0_leastAround wsX0_leastAround ({ frames := 3, cells := 0, slots := 0, locals := 67 } : Room) (pR D y ([.ref a, .int x1] : List Value) [(a, .inr (3, [.int v_size, .ref a_values])), (a_values, .inl (y.1, 20, .inl v_values))]) (qSi K) 0 0 (fun _ => False) := by
  refine Met.ofW (cc := cX0_leastAround) (maxL := 4) (ret := (some .int)) (by decide) rfl ?_
  intro p e s m args below meth c s₁ B hml hv
  obtain ⟨rfl, hP, hK⟩ := hv
  have hx := B.exec
  have hb := B.bytes
  have hr := B.returns
  have hts := atoms_spec (ws := wsX0_leastAround) B.pre
  have hown : s.vm.findClass RX0 = some m.cls := findClass_of_methodNamed B.named
  have hlocks := B.notSynchronized
  have hl := lv_entry ([.ref a, .int x1] : List Value) (n := 4) (Nat.le_of_ble_eq_true rfl)
  rw [lg_entry_eq]
  generalize (lg_sl ([.ref a, .int x1] : List Value) ++ List.replicate (4 - (lg_sl ([.ref a, .int x1] : List Value)).length) Slot.unset).toArray = ls at hl ⊢
  have hl : lv_has ls 4 [(0, .ref a), (1, .int x1)] := hl
  unfold m_X0_leastAround at h
  refine lv_iload_n hx hb dX0_leastAround_0 rfl (lv_at hl 1 rfl) ?_
  refine lv_istore_n (lv' := [(2, .int x1), (0, .ref a), (1, .int x1)]) hx hb dX0_leastAround_1 rfl hl (by decide) rfl (fun ls hl => ?_)
  refine lv_iconst (v := 0) hx hb dX0_leastAround_2 (by decide) ?_
  refine lv_istore_n (lv' := [(3, .int 0), (2, .int x1), (0, .ref a), (1, .int x1)]) hx hb dX0_leastAround_3 rfl hl (by decide) rfl (fun ls hl => ?_)
  have hL4 : ∀ (K4 : Int32 → Prop)
      (hE4 : ∀ (u4 : Int32) (ls : Array Slot), K4 u4 → lv_has ls 4 [(2, .int u4)] → W p l e (headSpec wsX0_leastAround ({ frames := 3, cells := 0, slots := 0, locals := 67 } : Room)).room s m ([.ref a, .int x1] : List Value).toArray below meth c s.heap [] 0 0 (MQ below (qSi K) ([.ref a, .int x1] : List Value).toArray s 0 0 (fun _ => False)) (F0 m 23 ls []))
      (n : Nat) (x2_4 : Int32) (x3_4 : Int32) (ls : Array Slot), sat (lp (fun q : (Int32 × Int32) => m_X0_leastAround_s4 v_size v_values q.1 q.2) n (x2_4, x3_4)) K4 → lv_has ls 4 [(0, .ref a), (2, .int x2_4), (3, .int x3_4)] → W p l e (headSpec wsX0_leastAround ({ frames := 3, cells := 0, slots := 0, locals := 67 } : Room)).room s m ([.ref a, .int x1] : List Value).toArray below meth c s.heap [] 0 0 (MQ below (qSi K) ([.ref a, .int x1] : List Value).toArray s 0 0 (fun _ => False)) (F0 m 4 ls []) := by
    intro K4 hE4 n
    induction n with
    | zero => intro x2_4 x3_4 ls h; exact (sat_lp0 h).elim
    | succ n ih =>
      intro x2_4 x3_4 ls h hl
      have h := sat_lp h
      have h : sat (m_X0_leastAround_s4 v_size v_values x2_4 x3_4) (lk (fun s' => sat (lp (fun q : (Int32 × Int32) => m_X0_leastAround_s4 v_size v_values q.1 q.2) n s') K4) K4) := h
      unfold m_X0_leastAround_s4 at h
      refine lv_iload_n hx hb dX0_leastAround_4 rfl (lv_at hl 2 rfl) ?_
      refine lv_iconst (v := 4) hx hb dX0_leastAround_5 (by decide) ?_
      refine lv_icmp_ge (tgt := 23) hx hb dX0_leastAround_6 (by decide) (fun c6 => ?_) (fun c6 => ?_)
      · have h := sat_t c6 h
        have h := lk_r (sat_some h)
        exact hE4 x2_4 ls h (lv_sub hl [1] rfl)
      · have h := sat_f c6 h
        refine lv_iload_n hx hb dX0_leastAround_9 rfl (lv_at hl 1 rfl) ?_
        refine lv_aload_n hx hb dX0_leastAround_10 rfl (lv_at hl 0 rfl) ?_
        refine lv_iload_n hx hb dX0_leastAround_11 rfl (lv_at hl 1 rfl) ?_
        refine cr_i (rs (As := [.ref a, .int x2_4]) (rest := [.int x2_4]) ⟨hx, hb, hml, hown, hts⟩ (c_X0_valuesIn l D y a a_values v_size v_values x2_4 _ (sat_bind h)) (va_cwS 2 hts gX0_leastAround_X0_valuesIn rfl rfl rfl (by decide +kernel) ⟨Nat.le_of_ble_eq_true rfl, Nat.le_of_ble_eq_true rfl⟩) hK hP [0, 1] rfl rfl hl.1 rfl (Nat.le_of_ble_eq_true rfl) dX0_leastAround_12 ⟨Nat.zero_le _, Nat.zero_le _⟩) (fun r2 h => ?_)
        refine lv_ior hx hb dX0_leastAround_15 ?_
        refine lv_istore_n (lv' := [(2, .int (x2_4 ||| r2)), (0, .ref a), (3, .int x3_4)]) hx hb dX0_leastAround_16 rfl hl (by decide) rfl (fun ls hl => ?_)
        refine lv_iinc (v := x3_4 + 1) (lv' := [(3, .int (x3_4 + 1)), (2, .int (x2_4 ||| r2)), (0, .ref a)]) hx hb dX0_leastAround_17 hl (k := 2) rfl rfl (by decide) rfl (fun ls hl => ?_)
        refine lv_goto (tgt := 4) hx hb dX0_leastAround_20 (by decide) ?_
        have h := lk_l (sat_some h)
        exact ih (x2_4 ||| r2) (x3_4 + 1) ls h (lv_sub hl [2, 1, 0] rfl)
  have h := sat_bind h
  refine hL4 _ (fun u4 ls h hl => ?_) 1000 x1 0 ls h (lv_sub hl [2, 1, 0] rfl)
  refine lv_iload_n hx hb dX0_leastAround_23 rfl (lv_at hl 0 rfl) ?_
  have h := sat_some h
  exact W.iret (v := u4) hx hb hr (fun t ht _ => ⟨u4, rfl, h, ht⟩) (fun _ hq => by cases hq) dX0_leastAround_24

/-! X0_isClosed -/
def m_X0_isClosed (v_size : Int32) (v_values : Nat → Int32) (x1 : Int32) : Option Int32 := (m_X0_valuesIn v_size v_values x1).bind (fun r1 => (if (r1 &&& (x1 ^^^ (-1))) = 0 then some 1 else some 0))
set_option maxHeartbeats 4000000 in
set_option maxRecDepth 100000 in
theorem c_X0_isClosed (l : Launch) (D : va_G) (y : ClassId × ClassId × ClassId × ClassId) (a a_values : Nat) (v_size : Int32) (v_values : Nat → Int32) (x1 : Int32) (K : Int32 → Prop) (h : sat (m_X0_isClosed v_size v_values x1) K) : Met l yX0_isClosed wsX0_isClosed ({ frames := 3, cells := 0, slots := 0, locals := 67 } : Room) (pR D y ([.ref a, .int x1] : List Value) [(a, .inr (3, [.int v_size, .ref a_values])), (a_values, .inl (y.1, 20, .inl v_values))]) (qSi K) 0 0 (fun _ => False) := by
  refine Met.ofW (cc := cX0_isClosed) (maxL := 2) (ret := (some .boolean)) (by decide) rfl ?_
  intro p e s m args below meth c s₁ B hml hv
  obtain ⟨rfl, hP, hK⟩ := hv
  have hx := B.exec
  have hb := B.bytes
  have hr := B.returns
  have hts := atoms_spec (ws := wsX0_isClosed) B.pre
  have hown : s.vm.findClass RX0 = some m.cls := findClass_of_methodNamed B.named
  have hlocks := B.notSynchronized
  have hl := lv_entry ([.ref a, .int x1] : List Value) (n := 2) (Nat.le_of_ble_eq_true rfl)
  rw [lg_entry_eq]
  generalize (lg_sl ([.ref a, .int x1] : List Value) ++ List.replicate (2 - (lg_sl ([.ref a, .int x1] : List Value)).length) Slot.unset).toArray = ls at hl ⊢
  have hl : lv_has ls 2 [(0, .ref a), (1, .int x1)] := hl
  unfold m_X0_isClosed at h
  refine lv_aload_n hx hb dX0_isClosed_0 rfl (lv_at hl 0 rfl) ?_
  refine lv_iload_n hx hb dX0_isClosed_1 rfl (lv_at hl 1 rfl) ?_
  refine cr_i (rs (As := [.ref a, .int x1]) (rest := []) ⟨hx, hb, hml, hown, hts⟩ (c_X0_valuesIn l D y a a_values v_size v_values x1 _ (sat_bind h)) (va_cwS 2 hts gX0_isClosed_X0_valuesIn rfl rfl rfl (by decide +kernel) ⟨Nat.le_of_ble_eq_true rfl, Nat.le_of_ble_eq_true rfl⟩) hK hP [0, 1] rfl rfl hl.1 rfl (Nat.le_of_ble_eq_true rfl) dX0_isClosed_2 ⟨Nat.zero_le _, Nat.zero_le _⟩) (fun r1 h => ?_)
  refine lv_iload_n hx hb dX0_isClosed_5 rfl (lv_at hl 1 rfl) ?_
  refine lv_iconst (v := (-1)) hx hb dX0_isClosed_6 (by decide) ?_
  refine lv_ixor hx hb dX0_isClosed_7 ?_
  refine lv_iand hx hb dX0_isClosed_8 ?_
  refine lv_if_ne (tgt := 16) hx hb dX0_isClosed_9 (by decide) (fun c9 => ?_) (fun c9 => ?_)
  · have h := sat_f c9 h
    refine lv_iconst (v := 0) hx hb dX0_isClosed_16 (by decide) ?_
    have h := sat_some h
    exact W.zret (v := 0) hx hb hr rfl (fun t ht _ => ⟨0, rfl, h, ht⟩) (fun _ hq => by cases hq) dX0_isClosed_17
  · have h := sat_t c9 h
    refine lv_iconst (v := 1) hx hb dX0_isClosed_12 (by decide) ?_
    refine lv_goto (tgt := 17) hx hb dX0_isClosed_13 (by decide) ?_
    have h := sat_some h
    exact W.zret (v := 1) hx hb hr rfl (fun t ht _ => ⟨1, rfl, h, ht⟩) (fun _ hq => by cases hq) dX0_isClosed_17

/-! X0_byNumber -/
def m_X0_byNumber_s4 (v_size : Int32) (v_values : Nat → Int32) (x1 : Int32) (x2_4 : Int32) (x3_4 : Int32) : Option ((Int32 × Int32) ⊕ (Int32 ⊕ Unit)) := (m_X6_allElements v_size).bind (fun r2 => (if r2 < x3_4 then some (.inr (.inr ())) else (m_X0_isClosed v_size v_values x3_4).bind (fun r3 => (if r3 = 0 then some (.inl (x2_4, x3_4 + 1)) else (if x2_4 = x1 then some (.inr (.inl x3_4)) else some (.inl (x2_4 + 1, x3_4 + 1)))))))
def m_X0_byNumber (v_size : Int32) (v_values : Nat → Int32) (x1 : Int32) : Option Int32 := bdS (lp (fun q : (Int32 × Int32) => m_X0_byNumber_s4 v_size v_values x1 q.1 q.2) 1000 (0, 0)) (fun u => some u) (fun u4 => some (-9))
set_option maxHeartbeats 4000000 in
set_option maxRecDepth 100000 in
theorem c_X0_byNumber (l : Launch) (D : va_G) (y : ClassId × ClassId × ClassId × ClassId) (a a_values : Nat) (v_size : Int32) (v_values : Nat → Int32) (x1 : Int32) (K : Int32 → Prop) (h : sat (m_X0_byNumber v_size v_values x1) K) : Met l yX0_byNumber wsX0_byNumber ({ frames := 4, cells := 0, slots := 0, locals := 88 } : Room) (pR D y ([.ref a, .int x1] : List Value) [(a, .inr (3, [.int v_size, .ref a_values])), (a_values, .inl (y.1, 20, .inl v_values))]) (qSi K) 0 0 (fun _ => False) := by
  refine Met.ofW (cc := cX0_byNumber) (maxL := 4) (ret := (some .int)) (by decide) rfl ?_
  intro p e s m args below meth c s₁ B hml hv
  obtain ⟨rfl, hP, hK⟩ := hv
  have hx := B.exec
  have hb := B.bytes
  have hr := B.returns
  have hts := atoms_spec (ws := wsX0_byNumber) B.pre
  have hown : s.vm.findClass RX0 = some m.cls := findClass_of_methodNamed B.named
  have hlocks := B.notSynchronized
  have hl := lv_entry ([.ref a, .int x1] : List Value) (n := 4) (Nat.le_of_ble_eq_true rfl)
  rw [lg_entry_eq]
  generalize (lg_sl ([.ref a, .int x1] : List Value) ++ List.replicate (4 - (lg_sl ([.ref a, .int x1] : List Value)).length) Slot.unset).toArray = ls at hl ⊢
  have hl : lv_has ls 4 [(0, .ref a), (1, .int x1)] := hl
  unfold m_X0_byNumber at h
  refine lv_iconst (v := 0) hx hb dX0_byNumber_0 (by decide) ?_
  refine lv_istore_n (lv' := [(2, .int 0), (0, .ref a), (1, .int x1)]) hx hb dX0_byNumber_1 rfl hl (by decide) rfl (fun ls hl => ?_)
  refine lv_iconst (v := 0) hx hb dX0_byNumber_2 (by decide) ?_
  refine lv_istore_n (lv' := [(3, .int 0), (2, .int 0), (0, .ref a), (1, .int x1)]) hx hb dX0_byNumber_3 rfl hl (by decide) rfl (fun ls hl => ?_)
  have hL4 : ∀ (K4 : (Int32 ⊕ Unit) → Prop)
      (hR4 : ∀ (u : Int32), K4 (.inl u) → K u)
      (hE4 : ∀ (u4 : Unit) (ls : Array Slot), K4 (.inr u4) → lv_has ls 4 [] → W p l e (headSpec wsX0_byNumber ({ frames := 4, cells := 0, slots := 0, locals := 88 } : Room)).room s m ([.ref a, .int x1] : List Value).toArray below meth c s.heap [] 0 0 (MQ below (qSi K) ([.ref a, .int x1] : List Value).toArray s 0 0 (fun _ => False)) (F0 m 36 ls []))
      (n : Nat) (x2_4 : Int32) (x3_4 : Int32) (ls : Array Slot), sat (lp (fun q : (Int32 × Int32) => m_X0_byNumber_s4 v_size v_values x1 q.1 q.2) n (x2_4, x3_4)) K4 → lv_has ls 4 [(0, .ref a), (1, .int x1), (2, .int x2_4), (3, .int x3_4)] → W p l e (headSpec wsX0_byNumber ({ frames := 4, cells := 0, slots := 0, locals := 88 } : Room)).room s m ([.ref a, .int x1] : List Value).toArray below meth c s.heap [] 0 0 (MQ below (qSi K) ([.ref a, .int x1] : List Value).toArray s 0 0 (fun _ => False)) (F0 m 4 ls []) := by
    intro K4 hR4 hE4 n
    induction n with
    | zero => intro x2_4 x3_4 ls h; exact (sat_lp0 h).elim
    | succ n ih =>
      intro x2_4 x3_4 ls h hl
      have h := sat_lp h
      have h : sat (m_X0_byNumber_s4 v_size v_values x1 x2_4 x3_4) (lk (fun s' => sat (lp (fun q : (Int32 × Int32) => m_X0_byNumber_s4 v_size v_values x1 q.1 q.2) n s') K4) K4) := h
      unfold m_X0_byNumber_s4 at h
      refine lv_iload_n hx hb dX0_byNumber_4 rfl (lv_at hl 3 rfl) ?_
      refine lv_aload_n hx hb dX0_byNumber_5 rfl (lv_at hl 0 rfl) ?_
      refine cr_i (rv (As := []) (rest := [.int x3_4]) ⟨hx, hb, hml, hown, hts⟩ (c_X6_allElements l D y a a_values v_size _ (sat_bind h)) (cwV 0 hts gX0_byNumber_X6_allElements rfl rfl rfl (by decide +kernel) ⟨Nat.le_of_ble_eq_true rfl, Nat.le_of_ble_eq_true rfl⟩) hK hP [0] rfl 0 3 rfl rfl rfl rfl hl.1 rfl (Nat.le_of_ble_eq_true rfl) dX0_byNumber_6 ⟨Nat.zero_le _, Nat.zero_le _⟩) (fun r2 h => ?_)
      refine lv_icmp_gt (tgt := 36) hx hb dX0_byNumber_9 (by decide) (fun c9 => ?_) (fun c9 => ?_)
      · have h := sat_t c9 h
        have h := lk_r (sat_some h)
        exact hE4 () ls h (lv_sub hl [] rfl)
      · have h := sat_f c9 h
        refine lv_aload_n hx hb dX0_byNumber_12 rfl (lv_at hl 0 rfl) ?_
        refine lv_iload_n hx hb dX0_byNumber_13 rfl (lv_at hl 3 rfl) ?_
        refine cr_i (rs (As := [.ref a, .int x3_4]) (rest := []) ⟨hx, hb, hml, hown, hts⟩ (c_X0_isClosed l D y a a_values v_size v_values x3_4 _ (sat_bind h)) (va_cwS 2 hts gX0_byNumber_X0_isClosed rfl rfl rfl (by decide +kernel) ⟨Nat.le_of_ble_eq_true rfl, Nat.le_of_ble_eq_true rfl⟩) hK hP [0, 1] rfl rfl hl.1 rfl (Nat.le_of_ble_eq_true rfl) dX0_byNumber_14 ⟨Nat.zero_le _, Nat.zero_le _⟩) (fun r3 h => ?_)
        refine lv_if_eq (tgt := 30) hx hb dX0_byNumber_17 (by decide) (fun c17 => ?_) (fun c17 => ?_)
        · have h := sat_t c17 h
          refine lv_iinc (v := x3_4 + 1) (lv' := [(3, .int (x3_4 + 1)), (0, .ref a), (1, .int x1), (2, .int x2_4)]) hx hb dX0_byNumber_30 hl (k := 3) rfl rfl (by decide) rfl (fun ls hl => ?_)
          refine lv_goto (tgt := 4) hx hb dX0_byNumber_33 (by decide) ?_
          have h := lk_l (sat_some h)
          exact ih x2_4 (x3_4 + 1) ls h (lv_sub hl [1, 2, 3, 0] rfl)
        · have h := sat_f c17 h
          refine lv_iload_n hx hb dX0_byNumber_20 rfl (lv_at hl 2 rfl) ?_
          refine lv_iload_n hx hb dX0_byNumber_21 rfl (lv_at hl 1 rfl) ?_
          refine lv_icmp_ne (tgt := 27) hx hb dX0_byNumber_22 (by decide) (fun c22 => ?_) (fun c22 => ?_)
          · have h := sat_f c22 h
            refine lv_iinc (v := x2_4 + 1) (lv' := [(2, .int (x2_4 + 1)), (0, .ref a), (1, .int x1), (3, .int x3_4)]) hx hb dX0_byNumber_27 hl (k := 2) rfl rfl (by decide) rfl (fun ls hl => ?_)
            refine lv_iinc (v := x3_4 + 1) (lv' := [(3, .int (x3_4 + 1)), (2, .int (x2_4 + 1)), (0, .ref a), (1, .int x1)]) hx hb dX0_byNumber_30 hl (k := 3) rfl rfl (by decide) rfl (fun ls hl => ?_)
            refine lv_goto (tgt := 4) hx hb dX0_byNumber_33 (by decide) ?_
            have h := lk_l (sat_some h)
            exact ih (x2_4 + 1) (x3_4 + 1) ls h (lv_sub hl [2, 3, 1, 0] rfl)
          · have h := sat_t c22 h
            refine lv_iload_n hx hb dX0_byNumber_25 rfl (lv_at hl 3 rfl) ?_
            have h := hR4 _ (lk_r (sat_some h))
            exact W.iret (v := x3_4) hx hb hr (fun t ht _ => ⟨x3_4, rfl, h, ht⟩) (fun _ hq => by cases hq) dX0_byNumber_26
  have h := sat_bdS h
  refine hL4 _ (fun u h => ?_) (fun u4 ls h hl => ?_) 1000 0 0 ls h (lv_sub hl [2, 3, 1, 0] rfl)
  · have h := lk_l h
    exact sat_some h
  · have h := lk_r h
    refine lv_bipush (v := (-9)) hx hb dX0_byNumber_36 (by decide) ?_
    have h := sat_some h
    exact W.iret (v := (-9)) hx hb hr (fun t ht _ => ⟨(-9), rfl, h, ht⟩) (fun _ hq => by cases hq) dX0_byNumber_38

/-! X0_howMany -/
def m_X0_howMany_s4 (v_size : Int32) (v_values : Nat → Int32) (x1_4 : Int32) (x2_4 : Int32) : Option ((Int32 × Int32) ⊕ Int32) := (m_X6_allElements v_size).bind (fun r2 => (if r2 < x2_4 then some (.inr x1_4) else (m_X0_isClosed v_size v_values x2_4).bind (fun r3 => (if r3 = 0 then some (.inl (x1_4, x2_4 + 1)) else some (.inl (x1_4 + 1, x2_4 + 1))))))
def m_X0_howMany (v_size : Int32) (v_values : Nat → Int32)  : Option Int32 := (lp (fun q : (Int32 × Int32) => m_X0_howMany_s4 v_size v_values q.1 q.2) 1000 (0, 0)).bind (fun u4 => some u4)
set_option maxHeartbeats 4000000 in
set_option maxRecDepth 100000 in
theorem c_X0_howMany (l : Launch) (D : va_G) (y : ClassId × ClassId × ClassId × ClassId) (a a_values : Nat) (v_size : Int32) (v_values : Nat → Int32) (K : Int32 → Prop) (h : sat (m_X0_howMany v_size v_values) K) : Met l yX0_howMany wsX0_howMany ({ frames := 4, cells := 0, slots := 0, locals := 88 } : Room) (pR D y ([.ref a] : List Value) [(a, .inr (3, [.int v_size, .ref a_values])), (a_values, .inl (y.1, 20, .inl v_values))]) (qSi K) 0 0 (fun _ => False) := by
  refine Met.ofW (cc := cX0_howMany) (maxL := 3) (ret := (some .int)) (by decide) rfl ?_
  intro p e s m args below meth c s₁ B hml hv
  obtain ⟨rfl, hP, hK⟩ := hv
  have hx := B.exec
  have hb := B.bytes
  have hr := B.returns
  have hts := atoms_spec (ws := wsX0_howMany) B.pre
  have hown : s.vm.findClass RX0 = some m.cls := findClass_of_methodNamed B.named
  have hlocks := B.notSynchronized
  have hl := lv_entry ([.ref a] : List Value) (n := 3) (Nat.le_of_ble_eq_true rfl)
  rw [lg_entry_eq]
  generalize (lg_sl ([.ref a] : List Value) ++ List.replicate (3 - (lg_sl ([.ref a] : List Value)).length) Slot.unset).toArray = ls at hl ⊢
  have hl : lv_has ls 3 [(0, .ref a)] := hl
  unfold m_X0_howMany at h
  refine lv_iconst (v := 0) hx hb dX0_howMany_0 (by decide) ?_
  refine lv_istore_n (lv' := [(1, .int 0), (0, .ref a)]) hx hb dX0_howMany_1 rfl hl (by decide) rfl (fun ls hl => ?_)
  refine lv_iconst (v := 0) hx hb dX0_howMany_2 (by decide) ?_
  refine lv_istore_n (lv' := [(2, .int 0), (1, .int 0), (0, .ref a)]) hx hb dX0_howMany_3 rfl hl (by decide) rfl (fun ls hl => ?_)
  have hL4 : ∀ (K4 : Int32 → Prop)
      (hE4 : ∀ (u4 : Int32) (ls : Array Slot), K4 u4 → lv_has ls 3 [(1, .int u4)] → W p l e (headSpec wsX0_howMany ({ frames := 4, cells := 0, slots := 0, locals := 88 } : Room)).room s m ([.ref a] : List Value).toArray below meth c s.heap [] 0 0 (MQ below (qSi K) ([.ref a] : List Value).toArray s 0 0 (fun _ => False)) (F0 m 29 ls []))
      (n : Nat) (x1_4 : Int32) (x2_4 : Int32) (ls : Array Slot), sat (lp (fun q : (Int32 × Int32) => m_X0_howMany_s4 v_size v_values q.1 q.2) n (x1_4, x2_4)) K4 → lv_has ls 3 [(0, .ref a), (1, .int x1_4), (2, .int x2_4)] → W p l e (headSpec wsX0_howMany ({ frames := 4, cells := 0, slots := 0, locals := 88 } : Room)).room s m ([.ref a] : List Value).toArray below meth c s.heap [] 0 0 (MQ below (qSi K) ([.ref a] : List Value).toArray s 0 0 (fun _ => False)) (F0 m 4 ls []) := by
    intro K4 hE4 n
    induction n with
    | zero => intro x1_4 x2_4 ls h; exact (sat_lp0 h).elim
    | succ n ih =>
      intro x1_4 x2_4 ls h hl
      have h := sat_lp h
      have h : sat (m_X0_howMany_s4 v_size v_values x1_4 x2_4) (lk (fun s' => sat (lp (fun q : (Int32 × Int32) => m_X0_howMany_s4 v_size v_values q.1 q.2) n s') K4) K4) := h
      unfold m_X0_howMany_s4 at h
      refine lv_iload_n hx hb dX0_howMany_4 rfl (lv_at hl 2 rfl) ?_
      refine lv_aload_n hx hb dX0_howMany_5 rfl (lv_at hl 0 rfl) ?_
      refine cr_i (rv (As := []) (rest := [.int x2_4]) ⟨hx, hb, hml, hown, hts⟩ (c_X6_allElements l D y a a_values v_size _ (sat_bind h)) (cwV 0 hts gX0_howMany_X6_allElements rfl rfl rfl (by decide +kernel) ⟨Nat.le_of_ble_eq_true rfl, Nat.le_of_ble_eq_true rfl⟩) hK hP [0] rfl 0 3 rfl rfl rfl rfl hl.1 rfl (Nat.le_of_ble_eq_true rfl) dX0_howMany_6 ⟨Nat.zero_le _, Nat.zero_le _⟩) (fun r2 h => ?_)
      refine lv_icmp_gt (tgt := 29) hx hb dX0_howMany_9 (by decide) (fun c9 => ?_) (fun c9 => ?_)
      · have h := sat_t c9 h
        have h := lk_r (sat_some h)
        exact hE4 x1_4 ls h (lv_sub hl [1] rfl)
      · have h := sat_f c9 h
        refine lv_aload_n hx hb dX0_howMany_12 rfl (lv_at hl 0 rfl) ?_
        refine lv_iload_n hx hb dX0_howMany_13 rfl (lv_at hl 2 rfl) ?_
        refine cr_i (rs (As := [.ref a, .int x2_4]) (rest := []) ⟨hx, hb, hml, hown, hts⟩ (c_X0_isClosed l D y a a_values v_size v_values x2_4 _ (sat_bind h)) (va_cwS 2 hts gX0_howMany_X0_isClosed rfl rfl rfl (by decide +kernel) ⟨Nat.le_of_ble_eq_true rfl, Nat.le_of_ble_eq_true rfl⟩) hK hP [0, 1] rfl rfl hl.1 rfl (Nat.le_of_ble_eq_true rfl) dX0_howMany_14 ⟨Nat.zero_le _, Nat.zero_le _⟩) (fun r3 h => ?_)
        refine lv_if_eq (tgt := 23) hx hb dX0_howMany_17 (by decide) (fun c17 => ?_) (fun c17 => ?_)
        · have h := sat_t c17 h
          refine lv_iinc (v := x2_4 + 1) (lv' := [(2, .int (x2_4 + 1)), (0, .ref a), (1, .int x1_4)]) hx hb dX0_howMany_23 hl (k := 2) rfl rfl (by decide) rfl (fun ls hl => ?_)
          refine lv_goto (tgt := 4) hx hb dX0_howMany_26 (by decide) ?_
          have h := lk_l (sat_some h)
          exact ih x1_4 (x2_4 + 1) ls h (lv_sub hl [1, 2, 0] rfl)
        · have h := sat_f c17 h
          refine lv_iinc (v := x1_4 + 1) (lv' := [(1, .int (x1_4 + 1)), (0, .ref a), (2, .int x2_4)]) hx hb dX0_howMany_20 hl (k := 1) rfl rfl (by decide) rfl (fun ls hl => ?_)
          refine lv_iinc (v := x2_4 + 1) (lv' := [(2, .int (x2_4 + 1)), (1, .int (x1_4 + 1)), (0, .ref a)]) hx hb dX0_howMany_23 hl (k := 2) rfl rfl (by decide) rfl (fun ls hl => ?_)
          refine lv_goto (tgt := 4) hx hb dX0_howMany_26 (by decide) ?_
          have h := lk_l (sat_some h)
          exact ih (x1_4 + 1) (x2_4 + 1) ls h (lv_sub hl [2, 1, 0] rfl)
  have h := sat_bind h
  refine hL4 _ (fun u4 ls h hl => ?_) 1000 0 0 ls h (lv_sub hl [2, 1, 0] rfl)
  refine lv_iload_n hx hb dX0_howMany_29 rfl (lv_at hl 0 rfl) ?_
  have h := sat_some h
  exact W.iret (v := u4) hx hb hr (fun t ht _ => ⟨u4, rfl, h, ht⟩) (fun _ hq => by cases hq) dX0_howMany_30
