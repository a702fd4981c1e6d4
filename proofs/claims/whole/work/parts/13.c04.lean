/-! X7_joined -/
set_option maxHeartbeats 4000000 in
set_option maxRecDepth 100000 in
theorem c_X7_joined (l : Launch) (D : va_G) (y : ClassId × ClassId × ClassId × ClassId) (x0 : Int32) (x1 : Int32) (K : Int64 → Prop) (h : sat (m_X7_joined x0 x1) K) : Met l yX7_joined wsX7_joined ({ frames := 0, cells := 0, slots := 0, locals := 0 } : Room) (pR D y ([.int x0, .int x1] : List Value) []) (qSl K) 0 0 (fun _ => False) := by
  refine Met.ofW (cc := cX7_joined) (maxL := 2) (ret := (some .long)) (by decide) rfl ?_
  intro p e s m args below meth c s₁ B hml hv
  obtain ⟨rfl, hP, hK⟩ := hv
  have hx := B.exec
  have hb := B.bytes
  have hr := B.returns
  have hts := atoms_spec (ws := wsX7_joined) B.pre
  have hown : s.vm.findClass RX7 = some m.cls := findClass_of_methodNamed B.named
  have hlocks := B.notSynchronized
  have hl := lv_entry ([.int x0, .int x1] : List Value) (n := 2) (Nat.le_of_ble_eq_true rfl)
  rw [lg_entry_eq]
  generalize (lg_sl ([.int x0, .int x1] : List Value) ++ List.replicate (2 - (lg_sl ([.int x0, .int x1] : List Value)).length) Slot.unset).toArray = ls at hl ⊢
  have hl : lv_has ls 2 [(0, .int x0), (1, .int x1)] := hl
  unfold m_X7_joined at h
  refine lv_iload_n hx hb dX7_joined_0 rfl (lv_at hl 1 rfl) ?_
  refine lv_i2l (v := x1.toInt64) hx hb dX7_joined_1 rfl ?_
  refine lv_bipush (v := 32) hx hb dX7_joined_2 (by decide) ?_
  refine lv_lshl (v := x1.toInt64 <<< ((32 : Int32).toInt64 &&& 63)) hx hb dX7_joined_4 rfl ?_
  refine lv_iload_n hx hb dX7_joined_5 rfl (lv_at hl 0 rfl) ?_
  refine lv_i2l (v := x0.toInt64) hx hb dX7_joined_6 rfl ?_
  refine lv_lor hx hb dX7_joined_7 ?_
  have h := sat_some h
  exact W.lret (v := (x1.toInt64 <<< ((32 : Int32).toInt64 &&& 63)) ||| x0.toInt64) hx hb hr (fun t ht _ => ⟨(x1.toInt64 <<< ((32 : Int32).toInt64 &&& 63)) ||| x0.toInt64, rfl, h, ht⟩) (fun _ hq => by cases hq) dX7_joined_8

/-! X7_valueHere -/
set_option maxHeartbeats 4000000 in
set_option maxRecDepth 100000 in
theorem c_X7_valueHere (l : Launch) (D : va_G) (y : ClassId × ClassId × ClassId × ClassId) (a a_rows a_slots a_lowBehind a_highBehind : Nat) (v_howMany : Int32) (v_rounds : Int32) (v_isFound : Int32) (v_firstLetter : Int64) (v_secondLetter : Int64) (v_thirdLetter : Int64) (v_goal : Int64) (v_width : Int32) (x1 : Int32) (K : Int64 → Prop) (h : sat (m_X7_valueHere v_width x1) K) : Met l yX7_valueHere wsX7_valueHere ({ frames := 1, cells := 0, slots := 0, locals := 21 } : Room) (pR D y ([.ref a, .int x1] : List Value) [(a, .inr (4, [.int v_howMany, .int v_rounds, .int v_isFound, .ref a_rows, .ref a_slots, .long v_firstLetter, .long v_secondLetter, .long v_thirdLetter, .long v_goal, .int v_width, .ref a_lowBehind, .ref a_highBehind]))]) (qSl K) 0 0 (fun _ => False) := by
  refine Met.ofW (cc := cX7_valueHere) (maxL := 2) (ret := (some .long)) (by decide) rfl ?_
  intro p e s m args below meth c s₁ B hml hv
  obtain ⟨rfl, hP, hK⟩ := hv
  have hx := B.exec
  have hb := B.bytes
  have hr := B.returns
  have hts := atoms_spec (ws := wsX7_valueHere) B.pre
  have hown : s.vm.findClass RX7 = some m.cls := findClass_of_methodNamed B.named
  have hlocks := B.notSynchronized
  have iX7 : ∀ w ∈ wsX70, w ∈ wsX7_valueHere := by decide +kernel
  have fl67 := hts (.fieldLink RX7 67 "AlgebraLaws$Terms" "width" "I") (by decide +kernel)
  have hl := lv_entry ([.ref a, .int x1] : List Value) (n := 2) (Nat.le_of_ble_eq_true rfl)
  rw [lg_entry_eq]
  generalize (lg_sl ([.ref a, .int x1] : List Value) ++ List.replicate (2 - (lg_sl ([.ref a, .int x1] : List Value)).length) Slot.unset).toArray = ls at hl ⊢
  have hl : lv_has ls 2 [(0, .ref a), (1, .int x1)] := hl
  unfold m_X7_valueHere at h
  refine lv_iload_n hx hb dX7_valueHere_0 rfl (lv_at hl 1 rfl) ?_
  refine lv_iconst (v := 1) hx hb dX7_valueHere_1 (by decide) ?_
  refine lv_iand hx hb dX7_valueHere_2 ?_
  refine lv_aload_n hx hb dX7_valueHere_3 rfl (lv_at hl 0 rfl) ?_
  refine va_get (D := D) (ci := 4) (v := .int v_width) (C := RX7) (T := TX7) (N := 12) hx hb hts iX7 hown hK hP 0 rfl rfl 9 (by decide) fl67 (fun _ h9 => h9) rfl dX7_valueHere_4 ?_
  refine lv_ishl hx hb dX7_valueHere_7 ?_
  refine lv_iload_n hx hb dX7_valueHere_8 rfl (lv_at hl 1 rfl) ?_
  refine lv_iconst (v := 1) hx hb dX7_valueHere_9 (by decide) ?_
  refine lv_ishr hx hb dX7_valueHere_10 ?_
  refine lv_iconst (v := 1) hx hb dX7_valueHere_11 (by decide) ?_
  refine lv_iand hx hb dX7_valueHere_12 ?_
  refine lv_aload_n hx hb dX7_valueHere_13 rfl (lv_at hl 0 rfl) ?_
  refine va_get (D := D) (ci := 4) (v := .int v_width) (C := RX7) (T := TX7) (N := 12) hx hb hts iX7 hown hK hP 0 rfl rfl 9 (by decide) fl67 (fun _ h9 => h9) rfl dX7_valueHere_14 ?_
  refine lv_ishl hx hb dX7_valueHere_17 ?_
  refine cr_l (rs (As := [.int ((x1 &&& 1) <<< (v_width &&& 31)), .int (((x1 >>> (1 &&& 31)) &&& 1) <<< (v_width &&& 31))]) (rest := []) ⟨hx, hb, hml, hown, hts⟩ (c_X7_joined l D y ((x1 &&& 1) <<< (v_width &&& 31)) (((x1 >>> (1 &&& 31)) &&& 1) <<< (v_width &&& 31)) _ (sat_bind h)) (va_cwS 2 hts gX7_valueHere_X7_joined rfl rfl rfl (by decide +kernel) ⟨Nat.le_of_ble_eq_true rfl, Nat.le_of_ble_eq_true rfl⟩) hK hP [] rfl rfl hl.1 rfl (Nat.le_of_ble_eq_true rfl) dX7_valueHere_18 ⟨Nat.zero_le _, Nat.zero_le _⟩) (fun r1 h => ?_)
  have h := sat_some h
  exact W.lret (v := r1) hx hb hr (fun t ht _ => ⟨r1, rfl, h, ht⟩) (fun _ hq => by cases hq) dX7_valueHere_21

/-! X7_addWay -/
set_option maxHeartbeats 4000000 in
set_option maxRecDepth 100000 in
theorem c_X7_addWay (l : Launch) (D : va_G) (y : ClassId × ClassId × ClassId × ClassId) (a a_rows a_slots a_lowBehind a_highBehind : Nat) (v_howMany : Int32) (v_rounds : Int32) (v_isFound : Int32) (v_firstLetter : Int64) (v_secondLetter : Int64) (v_thirdLetter : Int64) (v_goal : Int64) (v_width : Int32) (x1 : Int32) (x2 : Int32) (x3 : Int32) (x4 : Int32) (sz : Nat) (A : Nat → Prop) (hAe : va_A [(a, .inr (4, [.int v_howMany, .int v_rounds, .int v_isFound, .ref a_rows, .ref a_slots, .long v_firstLetter, .long v_secondLetter, .long v_thirdLetter, .long v_goal, .int v_width, .ref a_lowBehind, .ref a_highBehind]))] sz = A) (K : (Int64 × Int64 × Int64 × Int64 × Int32) → Prop) (h : sat (m_X7_addWay v_firstLetter v_secondLetter v_thirdLetter v_goal v_width x1 x2 x3 x4) K) : Met l yX7_addWay wsX7_addWay ({ frames := 2, cells := 0, slots := 0, locals := 42 } : Room) (pW D y ([.ref a, .int x1, .int x2, .int x3, .int x4] : List Value) [(a, .inr (4, [.int v_howMany, .int v_rounds, .int v_isFound, .ref a_rows, .ref a_slots, .long v_firstLetter, .long v_secondLetter, .long v_thirdLetter, .long v_goal, .int v_width, .ref a_lowBehind, .ref a_highBehind]))] sz) (va_Qv K (bW D y A (fun u : (Int64 × Int64 × Int64 × Int64 × Int32) => [(a, .inr (4, [.int v_howMany, .int v_rounds, .int v_isFound, .ref a_rows, .ref a_slots, .long u.1, .long u.2.1, .long u.2.2.1, .long u.2.2.2.1, .int u.2.2.2.2, .ref a_lowBehind, .ref a_highBehind]))])) A) 0 0 A := by
  refine Met.ofW (cc := cX7_addWay) (maxL := 5) (ret := none) (by decide) rfl ?_
  intro p e s m args below meth c s₁ B hml hv
  obtain ⟨rfl, hsz, hP, hK, hD0⟩ := hv
  have hx := B.exec
  have hb := B.bytes
  have hr := B.returns
  have hts := atoms_spec (ws := wsX7_addWay) B.pre
  have hown : s.vm.findClass RX7 = some m.cls := findClass_of_methodNamed B.named
  have hlocks := B.notSynchronized
  subst hsz
  have hD : va_D A [(a, .inr (4, [.int v_howMany, .int v_rounds, .int v_isFound, .ref a_rows, .ref a_slots, .long v_firstLetter, .long v_secondLetter, .long v_thirdLetter, .long v_goal, .int v_width, .ref a_lowBehind, .ref a_highBehind]))] := hAe ▸ hD0.self
  have hA : ∀ q : Nat, s.heap.size ≤ q → A q := fun q h => hAe ▸ Or.inr h
  have hS : va_S A s.heap s.heap [] := va_S.rf
  have iX7 : ∀ w ∈ wsX70, w ∈ wsX7_addWay := by decide +kernel
  have fl58 := hts (.fieldLink RX7 58 "AlgebraLaws$Terms" "firstLetter" "J") (by decide +kernel)
  have fl61 := hts (.fieldLink RX7 61 "AlgebraLaws$Terms" "secondLetter" "J") (by decide +kernel)
  have fl64 := hts (.fieldLink RX7 64 "AlgebraLaws$Terms" "thirdLetter" "J") (by decide +kernel)
  have fl38 := hts (.fieldLink RX7 38 "AlgebraLaws$Terms" "goal" "J") (by decide +kernel)
  have fl67 := hts (.fieldLink RX7 67 "AlgebraLaws$Terms" "width" "I") (by decide +kernel)
  have hl := lv_entry ([.ref a, .int x1, .int x2, .int x3, .int x4] : List Value) (n := 5) (Nat.le_of_ble_eq_true rfl)
  rw [lg_entry_eq]
  generalize (lg_sl ([.ref a, .int x1, .int x2, .int x3, .int x4] : List Value) ++ List.replicate (5 - (lg_sl ([.ref a, .int x1, .int x2, .int x3, .int x4] : List Value)).length) Slot.unset).toArray = ls at hl ⊢
  have hl : lv_has ls 5 [(0, .ref a), (1, .int x1), (2, .int x2), (3, .int x3), (4, .int x4)] := hl
  unfold m_X7_addWay at h
  refine lv_aload_n hx hb dX7_addWay_0 rfl (lv_at hl 0 rfl) ?_
  refine lv_dup hx hb dX7_addWay_1 rfl ?_
  refine va_get (D := D) (ci := 4) (v := .long v_firstLetter) (C := RX7) (T := TX7) (N := 12) hx hb hts iX7 hown hK hP 0 rfl rfl 5 (by decide) fl58 (fun _ h9 => h9) rfl dX7_addWay_2 ?_
  refine lv_aload_n hx hb dX7_addWay_5 rfl (lv_at hl 0 rfl) ?_
  refine lv_iload_n hx hb dX7_addWay_6 rfl (lv_at hl 1 rfl) ?_
  refine cr_l (rv (As := [.int x1]) (rest := [.long v_firstLetter, .ref a]) ⟨hx, hb, hml, hown, hts⟩ (c_X7_valueHere l D y a a_rows a_slots a_lowBehind a_highBehind v_howMany v_rounds v_isFound v_firstLetter v_secondLetter v_thirdLetter v_goal v_width x1 _ (sat_bind h)) (cwV 1 hts gX7_addWay_X7_valueHere rfl rfl rfl (by decide +kernel) ⟨Nat.le_of_ble_eq_true rfl, Nat.le_of_ble_eq_true rfl⟩) hK hP [0] rfl 0 4 rfl rfl rfl rfl hl.1 rfl (Nat.le_of_ble_eq_true rfl) dX7_addWay_7 ⟨Nat.zero_le _, Nat.zero_le _⟩) (fun r1 h => ?_)
  refine lv_lor hx hb dX7_addWay_10 ?_
  refine pf (D := D) (ci := 4) (v := .long (v_firstLetter ||| r1)) (ty := .long) (C := RX7) (T := TX7) (N := 12) (wn := [(a, .inr (4, [.int v_howMany, .int v_rounds, .int v_isFound, .ref a_rows, .ref a_slots, .long (v_firstLetter ||| r1), .long v_secondLetter, .long v_thirdLetter, .long v_goal, .int v_width, .ref a_lowBehind, .ref a_highBehind]))]) hx hb hts iX7 tyX7 tyX7_ok nmX7 hown hK hP hD hS 0 rfl rfl 5 (by decide) fl58 (fun _ h9 => h9) rfl (by decide +kernel) rfl rfl (Nat.le_of_ble_eq_true rfl) dX7_addWay_11 rfl (fun H locs hP hD hS => ?_)
  refine lv_aload_n hx hb dX7_addWay_14 rfl (lv_at hl 0 rfl) ?_
  refine lv_dup hx hb dX7_addWay_15 rfl ?_
  refine va_get (D := D) (ci := 4) (v := .long v_secondLetter) (C := RX7) (T := TX7) (N := 12) hx hb hts iX7 hown hK hP 0 rfl rfl 6 (by decide) fl61 (fun _ h9 => h9) rfl dX7_addWay_16 ?_
  refine lv_aload_n hx hb dX7_addWay_19 rfl (lv_at hl 0 rfl) ?_
  refine lv_iload_n hx hb dX7_addWay_20 rfl (lv_at hl 2 rfl) ?_
  refine cr_l (rv (As := [.int x2]) (rest := [.long v_secondLetter, .ref a]) ⟨hx, hb, hml, hown, hts⟩ (c_X7_valueHere l D y a a_rows a_slots a_lowBehind a_highBehind v_howMany v_rounds v_isFound (v_firstLetter ||| r1) v_secondLetter v_thirdLetter v_goal v_width x2 _ (sat_bind h)) (cwV 1 hts gX7_addWay_X7_valueHere rfl rfl rfl (by decide +kernel) ⟨Nat.le_of_ble_eq_true rfl, Nat.le_of_ble_eq_true rfl⟩) hK hP [0] rfl 0 4 rfl rfl rfl rfl hl.1 rfl (Nat.le_of_ble_eq_true rfl) dX7_addWay_21 ⟨Nat.zero_le _, Nat.zero_le _⟩) (fun r2 h => ?_)
  refine lv_lor hx hb dX7_addWay_24 ?_
  refine pf (D := D) (ci := 4) (v := .long (v_secondLetter ||| r2)) (ty := .long) (C := RX7) (T := TX7) (N := 12) (wn := [(a, .inr (4, [.int v_howMany, .int v_rounds, .int v_isFound, .ref a_rows, .ref a_slots, .long (v_firstLetter ||| r1), .long (v_secondLetter ||| r2), .long v_thirdLetter, .long v_goal, .int v_width, .ref a_lowBehind, .ref a_highBehind]))]) hx hb hts iX7 tyX7 tyX7_ok nmX7 hown hK hP hD hS 0 rfl rfl 6 (by decide) fl61 (fun _ h9 => h9) rfl (by decide +kernel) rfl rfl (Nat.le_of_ble_eq_true rfl) dX7_addWay_25 rfl (fun H locs hP hD hS => ?_)
  refine lv_aload_n hx hb dX7_addWay_28 rfl (lv_at hl 0 rfl) ?_
  refine lv_dup hx hb dX7_addWay_29 rfl ?_
  refine va_get (D := D) (ci := 4) (v := .long v_thirdLetter) (C := RX7) (T := TX7) (N := 12) hx hb hts iX7 hown hK hP 0 rfl rfl 7 (by decide) fl64 (fun _ h9 => h9) rfl dX7_addWay_30 ?_
  refine lv_aload_n hx hb dX7_addWay_33 rfl (lv_at hl 0 rfl) ?_
  refine lv_iload_n hx hb dX7_addWay_34 rfl (lv_at hl 3 rfl) ?_
  refine cr_l (rv (As := [.int x3]) (rest := [.long v_thirdLetter, .ref a]) ⟨hx, hb, hml, hown, hts⟩ (c_X7_valueHere l D y a a_rows a_slots a_lowBehind a_highBehind v_howMany v_rounds v_isFound (v_firstLetter ||| r1) (v_secondLetter ||| r2) v_thirdLetter v_goal v_width x3 _ (sat_bind h)) (cwV 1 hts gX7_addWay_X7_valueHere rfl rfl rfl (by decide +kernel) ⟨Nat.le_of_ble_eq_true rfl, Nat.le_of_ble_eq_true rfl⟩) hK hP [0] rfl 0 4 rfl rfl rfl rfl hl.1 rfl (Nat.le_of_ble_eq_true rfl) dX7_addWay_35 ⟨Nat.zero_le _, Nat.zero_le _⟩) (fun r3 h => ?_)
  refine lv_lor hx hb dX7_addWay_38 ?_
  refine pf (D := D) (ci := 4) (v := .long (v_thirdLetter ||| r3)) (ty := .long) (C := RX7) (T := TX7) (N := 12) (wn := [(a, .inr (4, [.int v_howMany, .int v_rounds, .int v_isFound, .ref a_rows, .ref a_slots, .long (v_firstLetter ||| r1), .long (v_secondLetter ||| r2), .long (v_thirdLetter ||| r3), .long v_goal, .int v_width, .ref a_lowBehind, .ref a_highBehind]))]) hx hb hts iX7 tyX7 tyX7_ok nmX7 hown hK hP hD hS 0 rfl rfl 7 (by decide) fl64 (fun _ h9 => h9) rfl (by decide +kernel) rfl rfl (Nat.le_of_ble_eq_true rfl) dX7_addWay_39 rfl (fun H locs hP hD hS => ?_)
  refine lv_aload_n hx hb dX7_addWay_42 rfl (lv_at hl 0 rfl) ?_
  refine lv_dup hx hb dX7_addWay_43 rfl ?_
  refine va_get (D := D) (ci := 4) (v := .long v_goal) (C := RX7) (T := TX7) (N := 12) hx hb hts iX7 hown hK hP 0 rfl rfl 8 (by decide) fl38 (fun _ h9 => h9) rfl dX7_addWay_44 ?_
  refine lv_aload_n hx hb dX7_addWay_47 rfl (lv_at hl 0 rfl) ?_
  refine lv_iload hx hb dX7_addWay_48 (lv_at hl 4 rfl) ?_
  refine cr_l (rv (As := [.int x4]) (rest := [.long v_goal, .ref a]) ⟨hx, hb, hml, hown, hts⟩ (c_X7_valueHere l D y a a_rows a_slots a_lowBehind a_highBehind v_howMany v_rounds v_isFound (v_firstLetter ||| r1) (v_secondLetter ||| r2) (v_thirdLetter ||| r3) v_goal v_width x4 _ (sat_bind h)) (cwV 1 hts gX7_addWay_X7_valueHere rfl rfl rfl (by decide +kernel) ⟨Nat.le_of_ble_eq_true rfl, Nat.le_of_ble_eq_true rfl⟩) hK hP [0] rfl 0 4 rfl rfl rfl rfl hl.1 rfl (Nat.le_of_ble_eq_true rfl) dX7_addWay_50 ⟨Nat.zero_le _, Nat.zero_le _⟩) (fun r4 h => ?_)
  refine lv_lor hx hb dX7_addWay_53 ?_
  refine pf (D := D) (ci := 4) (v := .long (v_goal ||| r4)) (ty := .long) (C := RX7) (T := TX7) (N := 12) (wn := [(a, .inr (4, [.int v_howMany, .int v_rounds, .int v_isFound, .ref a_rows, .ref a_slots, .long (v_firstLetter ||| r1), .long (v_secondLetter ||| r2), .long (v_thirdLetter ||| r3), .long (v_goal ||| r4), .int v_width, .ref a_lowBehind, .ref a_highBehind]))]) hx hb hts iX7 tyX7 tyX7_ok nmX7 hown hK hP hD hS 0 rfl rfl 8 (by decide) fl38 (fun _ h9 => h9) rfl (by decide +kernel) rfl rfl (Nat.le_of_ble_eq_true rfl) dX7_addWay_54 rfl (fun H locs hP hD hS => ?_)
  refine lv_aload_n hx hb dX7_addWay_57 rfl (lv_at hl 0 rfl) ?_
  refine lv_dup hx hb dX7_addWay_58 rfl ?_
  refine va_get (D := D) (ci := 4) (v := .int v_width) (C := RX7) (T := TX7) (N := 12) hx hb hts iX7 hown hK hP 0 rfl rfl 9 (by decide) fl67 (fun _ h9 => h9) rfl dX7_addWay_59 ?_
  refine lv_iconst (v := 1) hx hb dX7_addWay_62 (by decide) ?_
  refine lv_iadd hx hb dX7_addWay_63 ?_
  refine pf (D := D) (ci := 4) (v := .int (v_width + 1)) (ty := .int) (C := RX7) (T := TX7) (N := 12) (wn := [(a, .inr (4, [.int v_howMany, .int v_rounds, .int v_isFound, .ref a_rows, .ref a_slots, .long (v_firstLetter ||| r1), .long (v_secondLetter ||| r2), .long (v_thirdLetter ||| r3), .long (v_goal ||| r4), .int (v_width + 1), .ref a_lowBehind, .ref a_highBehind]))]) hx hb hts iX7 tyX7 tyX7_ok nmX7 hown hK hP hD hS 0 rfl rfl 9 (by decide) fl67 (fun _ h9 => h9) rfl (by decide +kernel) rfl rfl (Nat.le_of_ble_eq_true rfl) dX7_addWay_64 rfl (fun H locs hP hD hS => ?_)
  have h := sat_some h
  exact W.vret hx hb hr (fun t ht hW => ⟨⟨(v_firstLetter ||| r1, v_secondLetter ||| r2, v_thirdLetter ||| r3, v_goal ||| r4, v_width + 1), rfl, h, by rw [ht]; exact hP, va_K.moved hW.alike hK, hD⟩, hS.F ht⟩) hS.2.2 dX7_addWay_67

/-! X7_slotOf -/
set_option maxHeartbeats 4000000 in
set_option maxRecDepth 100000 in
theorem c_X7_slotOf (l : Launch) (D : va_G) (y : ClassId × ClassId × ClassId × ClassId) (a a_rows a_slots a_lowBehind a_highBehind : Nat) (v_howMany : Int32) (v_rounds : Int32) (v_isFound : Int32) (v_firstLetter : Int64) (v_secondLetter : Int64) (v_thirdLetter : Int64) (v_goal : Int64) (v_width : Int32) (v_rows : Nat → Int64) (v_slots : Nat → Int32) (x1 : Int64) (K : Int32 → Prop) (h : sat (m_X7_slotOf v_rows v_slots x1) K) : Met l yX7_slotOf wsX7_slotOf ({ frames := 0, cells := 0, slots := 0, locals := 0 } : Room) (pR D y ([.ref a, .long x1] : List Value) [(a, .inr (4, [.int v_howMany, .int v_rounds, .int v_isFound, .ref a_rows, .ref a_slots, .long v_firstLetter, .long v_secondLetter, .long v_thirdLetter, .long v_goal, .int v_width, .ref a_lowBehind, .ref a_highBehind])), (a_rows, .inl (y.2.1, 200, .inr (.inl v_rows))), (a_slots, .inl (y.1, 512, .inl v_slots))]) (qSi K) 0 0 (fun _ => False) := by
  refine Met.ofW (cc := cX7_slotOf) (maxL := 7) (ret := (some .int)) (by decide) rfl ?_
  intro p e s m args below meth c s₁ B hml hv
  obtain ⟨rfl, hP, hK⟩ := hv
  have hx := B.exec
  have hb := B.bytes
  have hr := B.returns
  have hts := atoms_spec (ws := wsX7_slotOf) B.pre
  have hown : s.vm.findClass RX7 = some m.cls := findClass_of_methodNamed B.named
  have hlocks := B.notSynchronized
  have iX7 : ∀ w ∈ wsX70, w ∈ wsX7_slotOf := by decide +kernel
  have fl13 := hts (.fieldLink RX7 13 "AlgebraLaws$Terms" "slots" "[I") (by decide +kernel)
  have fl9 := hts (.fieldLink RX7 9 "AlgebraLaws$Terms" "rows" "[J") (by decide +kernel)
  have hl := lv_entry ([.ref a, .long x1] : List Value) (n := 7) (Nat.le_of_ble_eq_true rfl)
  rw [lg_entry_eq]
  generalize (lg_sl ([.ref a, .long x1] : List Value) ++ List.replicate (7 - (lg_sl ([.ref a, .long x1] : List Value)).length) Slot.unset).toArray = ls at hl ⊢
  have hl : lv_has ls 7 [(0, .ref a), (1, .long x1)] := hl
  unfold m_X7_slotOf at h
  refine lv_lload_n hx hb dX7_slotOf_0 rfl (lv_at hl 1 rfl) ?_
  refine lv_ldc2 (own := RX7) (v := (-7046029254386353131 : Int64)) hx hb hown (hts (.constantLong RX7 122 (-7046029254386353131 : Int64)) (by decide +kernel)) dX7_slotOf_1 ?_
  refine lv_lmul hx hb dX7_slotOf_4 ?_
  refine lv_bipush (v := 55) hx hb dX7_slotOf_5 (by decide) ?_
  refine lv_lushr (v := ((x1 * (-7046029254386353131 : Int64)).toUInt64 >>> ((55 : Int32).toInt64.toUInt64 &&& Int64.toUInt64 63)).toInt64) hx hb dX7_slotOf_7 rfl ?_
  refine lv_l2i (v := (((x1 * (-7046029254386353131 : Int64)).toUInt64 >>> ((55 : Int32).toInt64.toUInt64 &&& Int64.toUInt64 63)).toInt64).toInt32) hx hb dX7_slotOf_8 rfl ?_
  obtain ⟨w1, ew1, h⟩ := sat_nm h
  refine tI ew1 ?_
  refine lv_istore_n (lv' := [(3, .int w1), (0, .ref a), (1, .long x1)]) hx hb dX7_slotOf_9 rfl hl (by decide) rfl (fun ls hl => ?_)
  refine lv_iconst (v := 0) hx hb dX7_slotOf_10 (by decide) ?_
  refine lv_istore (lv' := [(4, .int 0), (3, .int w1), (0, .ref a), (1, .long x1)]) hx hb dX7_slotOf_11 hl (by decide) rfl (fun ls hl => ?_)
  have hL13 : ∀ (K13 : (Int32 ⊕ Unit) → Prop)
      (hR13 : ∀ (u : Int32), K13 (.inl u) → K u)
      (hE13 : ∀ (z13 : Unit) (ls : Array Slot), K13 (.inr z13) → lv_has ls 7 [] → W p l e (headSpec wsX7_slotOf ({ frames := 0, cells := 0, slots := 0, locals := 0 } : Room)).room s m ([.ref a, .long x1] : List Value).toArray below meth c s.heap [] 0 0 (MQ below (qSi K) ([.ref a, .long x1] : List Value).toArray s 0 0 (fun _ => False)) (F0 m 76 ls []))
      (n : Nat) (x4_13 : Int32) (ls : Array Slot), sat (lp (fun q : Int32 => m_X7_slotOf_s13 v_rows v_slots x1 w1 q) n x4_13) K13 → lv_has ls 7 [(0, .ref a), (1, .long x1), (3, .int w1), (4, .int x4_13)] → W p l e (headSpec wsX7_slotOf ({ frames := 0, cells := 0, slots := 0, locals := 0 } : Room)).room s m ([.ref a, .long x1] : List Value).toArray below meth c s.heap [] 0 0 (MQ below (qSi K) ([.ref a, .long x1] : List Value).toArray s 0 0 (fun _ => False)) (F0 m 13 ls []) := by
    intro K13 hR13 hE13 n
    induction n with
    | zero => intro x4_13 ls h; exact (sat_lp0 h).elim
    | succ n ih =>
      intro x4_13 ls h hl
      have h := sat_lp h
      have h : sat (m_X7_slotOf_s13 v_rows v_slots x1 w1 x4_13) (lk (fun s' => sat (lp (fun q : Int32 => m_X7_slotOf_s13 v_rows v_slots x1 w1 q) n s') K13) K13) := h
      unfold m_X7_slotOf_s13 at h
      refine lv_iload hx hb dX7_slotOf_13 (lv_at hl 3 rfl) ?_
      refine lv_sipush (v := 512) hx hb dX7_slotOf_15 (by decide) ?_
      refine lv_icmp_ge (tgt := 76) hx hb dX7_slotOf_18 (by decide) (fun c18 => ?_) (fun c18 => ?_)
      · have h := sat_t c18 h
        have h := lk_r (sat_some h)
        exact hE13 () ls h (lv_sub hl [] rfl)
      · have h := sat_f c18 h
        refine lv_iload_n hx hb dX7_slotOf_21 rfl (lv_at hl 2 rfl) ?_
        refine lv_iload hx hb dX7_slotOf_22 (lv_at hl 3 rfl) ?_
        refine lv_iadd hx hb dX7_slotOf_24 ?_
        refine lv_sipush (v := 511) hx hb dX7_slotOf_25 (by decide) ?_
        refine lv_iand hx hb dX7_slotOf_28 ?_
        refine lv_istore (lv' := [(5, .int ((w1 + x4_13) &&& 511)), (0, .ref a), (1, .long x1), (3, .int w1), (4, .int x4_13)]) hx hb dX7_slotOf_29 hl (by decide) rfl (fun ls hl => ?_)
        refine lv_aload_n hx hb dX7_slotOf_31 rfl (lv_at hl 1 rfl) ?_
        refine va_get (D := D) (ci := 4) (v := .ref a_slots) (C := RX7) (T := TX7) (N := 12) hx hb hts iX7 hown hK hP 0 rfl rfl 4 (by decide) fl13 (fun _ h9 => h9) rfl dX7_slotOf_32 ?_
        refine lv_iload hx hb dX7_slotOf_35 (lv_at hl 0 rfl) ?_
        obtain ⟨r3, er3, hin, h⟩ := sat_rd h
        refine xi hx hb hK hP 2 0 rfl rfl er3 hin dX7_slotOf_37 ?_
        refine lv_iconst (v := 1) hx hb dX7_slotOf_38 (by decide) ?_
        refine lv_isub hx hb dX7_slotOf_39 ?_
        refine lv_istore (lv' := [(6, .int (r3 - 1)), (5, .int ((w1 + x4_13) &&& 511)), (0, .ref a), (1, .long x1), (3, .int w1), (4, .int x4_13)]) hx hb dX7_slotOf_40 hl (by decide) rfl (fun ls hl => ?_)
        refine lv_iload hx hb dX7_slotOf_42 (lv_at hl 0 rfl) ?_
        refine lv_if_lt (tgt := 67) hx hb dX7_slotOf_44 (by decide) (fun c44 => ?_) (fun c44 => ?_)
        · have h := sat_t c44 h
          refine lv_iload hx hb dX7_slotOf_67 (lv_at hl 1 rfl) ?_
          have h := hR13 _ (lk_r (sat_some h))
          exact W.iret (v := (w1 + x4_13) &&& 511) hx hb hr (fun t ht _ => ⟨(w1 + x4_13) &&& 511, rfl, h, ht⟩) (fun _ hq => by cases hq) dX7_slotOf_69
        · have h := sat_f c44 h
          refine lv_iload hx hb dX7_slotOf_47 (lv_at hl 0 rfl) ?_
          refine lv_sipush (v := 200) hx hb dX7_slotOf_49 (by decide) ?_
          refine lv_icmp_ge (tgt := 67) hx hb dX7_slotOf_52 (by decide) (fun c52 => ?_) (fun c52 => ?_)
          · have h := sat_t c52 h
            refine lv_iload hx hb dX7_slotOf_67 (lv_at hl 1 rfl) ?_
            have h := hR13 _ (lk_r (sat_some h))
            exact W.iret (v := (w1 + x4_13) &&& 511) hx hb hr (fun t ht _ => ⟨(w1 + x4_13) &&& 511, rfl, h, ht⟩) (fun _ hq => by cases hq) dX7_slotOf_69
          · have h := sat_f c52 h
            refine lv_aload_n hx hb dX7_slotOf_55 rfl (lv_at hl 2 rfl) ?_
            refine va_get (D := D) (ci := 4) (v := .ref a_rows) (C := RX7) (T := TX7) (N := 12) hx hb hts iX7 hown hK hP 0 rfl rfl 3 (by decide) fl9 (fun _ h9 => h9) rfl dX7_slotOf_56 ?_
            refine lv_iload hx hb dX7_slotOf_59 (lv_at hl 0 rfl) ?_
            obtain ⟨r4, er4, hin, h⟩ := sat_rd h
            refine xl hx hb hK hP 1 1 rfl rfl er4 hin dX7_slotOf_61 ?_
            refine lv_lload_n hx hb dX7_slotOf_62 rfl (lv_at hl 3 rfl) ?_
            refine W.lcmp hx hb dX7_slotOf_63 ?_
            refine lv_if_ne (tgt := 70) hx hb dX7_slotOf_64 (by decide) (fun c64 => ?_) (fun c64 => ?_)
            · have h := sat_f c64 h
              refine lv_iinc (v := x4_13 + 1) (lv' := [(4, .int (x4_13 + 1)), (6, .int (r3 - 1)), (5, .int ((w1 + x4_13) &&& 511)), (0, .ref a), (1, .long x1), (3, .int w1)]) hx hb dX7_slotOf_70 hl (k := 5) rfl rfl (by decide) rfl (fun ls hl => ?_)
              refine lv_goto (tgt := 13) hx hb dX7_slotOf_73 (by decide) ?_
              have h := lk_l (sat_some h)
              exact ih (x4_13 + 1) ls h (lv_sub hl [3, 4, 5, 0] rfl)
            · have h := sat_t c64 h
              refine lv_iload hx hb dX7_slotOf_67 (lv_at hl 1 rfl) ?_
              have h := hR13 _ (lk_r (sat_some h))
              exact W.iret (v := (w1 + x4_13) &&& 511) hx hb hr (fun t ht _ => ⟨(w1 + x4_13) &&& 511, rfl, h, ht⟩) (fun _ hq => by cases hq) dX7_slotOf_69
  have h := sat_bdS h
  refine hL13 _ (fun u h => ?_) (fun z13 ls h hl => ?_) 1000 0 ls h (lv_sub hl [2, 3, 1, 0] rfl)
  · have h := lk_l h
    exact sat_some h
  · have h := lk_r h
    refine lv_iconst (v := 0) hx hb dX7_slotOf_76 (by decide) ?_
    have h := sat_some h
    exact W.iret (v := 0) hx hb hr (fun t ht _ => ⟨0, rfl, h, ht⟩) (fun _ hq => by cases hq) dX7_slotOf_77

/-! X7_add -/
set_option maxHeartbeats 4000000 in
set_option maxRecDepth 100000 in
theorem c_X7_add (l : Launch) (D : va_G) (y : ClassId × ClassId × ClassId × ClassId) (a a_rows a_slots a_lowBehind a_highBehind : Nat) (v_howMany : Int32) (v_rounds : Int32) (v_isFound : Int32) (v_firstLetter : Int64) (v_secondLetter : Int64) (v_thirdLetter : Int64) (v_goal : Int64) (v_width : Int32) (v_rows : Nat → Int64) (v_slots : Nat → Int32) (x1 : Int64) (sz : Nat) (A : Nat → Prop) (hAe : va_A [(a, .inr (4, [.int v_howMany, .int v_rounds, .int v_isFound, .ref a_rows, .ref a_slots, .long v_firstLetter, .long v_secondLetter, .long v_thirdLetter, .long v_goal, .int v_width, .ref a_lowBehind, .ref a_highBehind])), (a_rows, .inl (y.2.1, 200, .inr (.inl v_rows))), (a_slots, .inl (y.1, 512, .inl v_slots))] sz = A) (K : Int32 → (Int32 × (Nat → Int64) × (Nat → Int32)) → Prop) (h : sat (m_X7_add v_howMany v_rows v_slots x1) (pK K)) : Met l yX7_add wsX7_add ({ frames := 1, cells := 0, slots := 0, locals := 26 } : Room) (pW D y ([.ref a, .long x1] : List Value) [(a, .inr (4, [.int v_howMany, .int v_rounds, .int v_isFound, .ref a_rows, .ref a_slots, .long v_firstLetter, .long v_secondLetter, .long v_thirdLetter, .long v_goal, .int v_width, .ref a_lowBehind, .ref a_highBehind])), (a_rows, .inl (y.2.1, 200, .inr (.inl v_rows))), (a_slots, .inl (y.1, 512, .inl v_slots))] sz) (va_Qi K (bW D y A (fun u : (Int32 × (Nat → Int64) × (Nat → Int32)) => [(a, .inr (4, [.int u.1, .int v_rounds, .int v_isFound, .ref a_rows, .ref a_slots, .long v_firstLetter, .long v_secondLetter, .long v_thirdLetter, .long v_goal, .int v_width, .ref a_lowBehind, .ref a_highBehind])), (a_rows, .inl (y.2.1, 200, .inr (.inl u.2.1))), (a_slots, .inl (y.1, 512, .inl u.2.2))])) A) 0 0 A := by
  refine Met.ofW (cc := cX7_add) (maxL := 4) (ret := (some .boolean)) (by decide) rfl ?_
  intro p e s m args below meth c s₁ B hml hv
  obtain ⟨rfl, hsz, hP, hK, hD0⟩ := hv
  have hx := B.exec
  have hb := B.bytes
  have hr := B.returns
  have hts := atoms_spec (ws := wsX7_add) B.pre
  have hown : s.vm.findClass RX7 = some m.cls := findClass_of_methodNamed B.named
  have hlocks := B.notSynchronized
  subst hsz
  have hD : va_D A [(a, .inr (4, [.int v_howMany, .int v_rounds, .int v_isFound, .ref a_rows, .ref a_slots, .long v_firstLetter, .long v_secondLetter, .long v_thirdLetter, .long v_goal, .int v_width, .ref a_lowBehind, .ref a_highBehind])), (a_rows, .inl (y.2.1, 200, .inr (.inl v_rows))), (a_slots, .inl (y.1, 512, .inl v_slots))] := hAe ▸ hD0.self
  have hA : ∀ q : Nat, s.heap.size ≤ q → A q := fun q h => hAe ▸ Or.inr h
  have hS : va_S A s.heap s.heap [] := va_S.rf
  have iX7 : ∀ w ∈ wsX70, w ∈ wsX7_add := by decide +kernel
  have fl13 := hts (.fieldLink RX7 13 "AlgebraLaws$Terms" "slots" "[I") (by decide +kernel)
  have fl46 := hts (.fieldLink RX7 46 "AlgebraLaws$Terms" "howMany" "I") (by decide +kernel)
  have fl9 := hts (.fieldLink RX7 9 "AlgebraLaws$Terms" "rows" "[J") (by decide +kernel)
  have hl := lv_entry ([.ref a, .long x1] : List Value) (n := 4) (Nat.le_of_ble_eq_true rfl)
  rw [lg_entry_eq]
  generalize (lg_sl ([.ref a, .long x1] : List Value) ++ List.replicate (4 - (lg_sl ([.ref a, .long x1] : List Value)).length) Slot.unset).toArray = ls at hl ⊢
  have hl : lv_has ls 4 [(0, .ref a), (1, .long x1)] := hl
  unfold m_X7_add at h
  refine lv_aload_n hx hb dX7_add_0 rfl (lv_at hl 0 rfl) ?_
  refine lv_lload_n hx hb dX7_add_1 rfl (lv_at hl 1 rfl) ?_
  refine cr_i (rv (As := [.long x1]) (rest := []) ⟨hx, hb, hml, hown, hts⟩ (c_X7_slotOf l D y a a_rows a_slots a_lowBehind a_highBehind v_howMany v_rounds v_isFound v_firstLetter v_secondLetter v_thirdLetter v_goal v_width v_rows v_slots x1 _ (sat_bind h)) (cwV 1 hts gX7_add_X7_slotOf rfl rfl rfl (by decide +kernel) ⟨Nat.le_of_ble_eq_true rfl, Nat.le_of_ble_eq_true rfl⟩) hK hP [0, 1, 2] rfl 0 4 rfl rfl rfl rfl hl.1 rfl (Nat.le_of_ble_eq_true rfl) dX7_add_2 ⟨Nat.zero_le _, Nat.zero_le _⟩) (fun r1 h => ?_)
  refine lv_istore_n (lv' := [(3, .int r1), (0, .ref a), (1, .long x1)]) hx hb dX7_add_5 rfl hl (by decide) rfl (fun ls hl => ?_)
  refine lv_aload_n hx hb dX7_add_6 rfl (lv_at hl 1 rfl) ?_
  refine va_get (D := D) (ci := 4) (v := .ref a_slots) (C := RX7) (T := TX7) (N := 12) hx hb hts iX7 hown hK hP 0 rfl rfl 4 (by decide) fl13 (fun _ h9 => h9) rfl dX7_add_7 ?_
  refine lv_iload_n hx hb dX7_add_10 rfl (lv_at hl 0 rfl) ?_
  obtain ⟨r2, er2, hin, h⟩ := sat_rd h
  refine xi hx hb hK hP 2 0 rfl rfl er2 hin dX7_add_11 ?_
  refine lv_if_eq (tgt := 17) hx hb dX7_add_12 (by decide) (fun c12 => ?_) (fun c12 => ?_)
  · have h := sat_t c12 h
    refine lv_aload_n hx hb dX7_add_17 rfl (lv_at hl 1 rfl) ?_
    refine va_get (D := D) (ci := 4) (v := .int v_howMany) (C := RX7) (T := TX7) (N := 12) hx hb hts iX7 hown hK hP 0 rfl rfl 0 (by decide) fl46 (fun _ h9 => h9) rfl dX7_add_18 ?_
    refine lv_sipush (v := 200) hx hb dX7_add_21 (by decide) ?_
    refine lv_icmp_lt (tgt := 29) hx hb dX7_add_24 (by decide) (fun c24 => ?_) (fun c24 => ?_)
    · have h := sat_t c24 h
      refine lv_aload_n hx hb dX7_add_29 rfl (lv_at hl 1 rfl) ?_
      refine va_get (D := D) (ci := 4) (v := .ref a_rows) (C := RX7) (T := TX7) (N := 12) hx hb hts iX7 hown hK hP 0 rfl rfl 3 (by decide) fl9 (fun _ h9 => h9) rfl dX7_add_30 ?_
      refine lv_aload_n hx hb dX7_add_33 rfl (lv_at hl 1 rfl) ?_
      refine va_get (D := D) (ci := 4) (v := .int v_howMany) (C := RX7) (T := TX7) (N := 12) hx hb hts iX7 hown hK hP 0 rfl rfl 0 (by decide) fl46 (fun _ h9 => h9) rfl dX7_add_34 ?_
      refine lv_lload_n hx hb dX7_add_37 rfl (lv_at hl 2 rfl) ?_
      obtain ⟨f3, ef3, hin, h⟩ := sat_wrL h
      refine yl (wn := [(a, .inr (4, [.int v_howMany, .int v_rounds, .int v_isFound, .ref a_rows, .ref a_slots, .long v_firstLetter, .long v_secondLetter, .long v_thirdLetter, .long v_goal, .int v_width, .ref a_lowBehind, .ref a_highBehind])), (a_rows, .inl (y.2.1, 200, .inr (.inl f3))), (a_slots, .inl (y.1, 512, .inl v_slots))]) hx hb hK hP hD hS 1 1 rfl rfl ef3 hin dX7_add_38 rfl (fun H locs hP hD hS => ?_)
      refine lv_aload_n hx hb dX7_add_39 rfl (lv_at hl 1 rfl) ?_
      refine lv_dup hx hb dX7_add_40 rfl ?_
      refine va_get (D := D) (ci := 4) (v := .int v_howMany) (C := RX7) (T := TX7) (N := 12) hx hb hts iX7 hown hK hP 0 rfl rfl 0 (by decide) fl46 (fun _ h9 => h9) rfl dX7_add_41 ?_
      refine lv_iconst (v := 1) hx hb dX7_add_44 (by decide) ?_
      refine lv_iadd hx hb dX7_add_45 ?_
      refine pf (D := D) (ci := 4) (v := .int (v_howMany + 1)) (ty := .int) (C := RX7) (T := TX7) (N := 12) (wn := [(a, .inr (4, [.int (v_howMany + 1), .int v_rounds, .int v_isFound, .ref a_rows, .ref a_slots, .long v_firstLetter, .long v_secondLetter, .long v_thirdLetter, .long v_goal, .int v_width, .ref a_lowBehind, .ref a_highBehind])), (a_rows, .inl (y.2.1, 200, .inr (.inl f3))), (a_slots, .inl (y.1, 512, .inl v_slots))]) hx hb hts iX7 tyX7 tyX7_ok nmX7 hown hK hP hD hS 0 rfl rfl 0 (by decide) fl46 (fun _ h9 => h9) rfl (by decide +kernel) rfl rfl (Nat.le_of_ble_eq_true rfl) dX7_add_46 rfl (fun H locs hP hD hS => ?_)
      refine lv_aload_n hx hb dX7_add_49 rfl (lv_at hl 1 rfl) ?_
      refine va_get (D := D) (ci := 4) (v := .ref a_slots) (C := RX7) (T := TX7) (N := 12) hx hb hts iX7 hown hK hP 0 rfl rfl 4 (by decide) fl13 (fun _ h9 => h9) rfl dX7_add_50 ?_
      refine lv_iload_n hx hb dX7_add_53 rfl (lv_at hl 0 rfl) ?_
      refine lv_aload_n hx hb dX7_add_54 rfl (lv_at hl 1 rfl) ?_
      refine va_get (D := D) (ci := 4) (v := .int (v_howMany + 1)) (C := RX7) (T := TX7) (N := 12) hx hb hts iX7 hown hK hP 0 rfl rfl 0 (by decide) fl46 (fun _ h9 => h9) rfl dX7_add_55 ?_
      obtain ⟨f4, ef4, hin, h⟩ := sat_wrI h
      refine yi (wn := [(a, .inr (4, [.int (v_howMany + 1), .int v_rounds, .int v_isFound, .ref a_rows, .ref a_slots, .long v_firstLetter, .long v_secondLetter, .long v_thirdLetter, .long v_goal, .int v_width, .ref a_lowBehind, .ref a_highBehind])), (a_rows, .inl (y.2.1, 200, .inr (.inl f3))), (a_slots, .inl (y.1, 512, .inl f4))]) hx hb hK hP hD hS 2 0 rfl rfl ef4 hin dX7_add_58 rfl (fun H locs hP hD hS => ?_)
      refine lv_iconst (v := 1) hx hb dX7_add_59 (by decide) ?_
      have h := sat_some h
      exact W.zret (v := 1) hx hb hr rfl (fun t ht hW => ⟨⟨1, (v_howMany + 1, f3, f4), rfl, h, by rw [ht]; exact hP, va_K.moved hW.alike hK, hD⟩, hS.F ht⟩) hS.2.2 dX7_add_60
    · have h := sat_f c24 h
      refine lv_iconst (v := 0) hx hb dX7_add_27 (by decide) ?_
      have h := sat_some h
      exact W.zret (v := 0) hx hb hr rfl (fun t ht hW => ⟨⟨0, (v_howMany, v_rows, v_slots), rfl, h, by rw [ht]; exact hP, va_K.moved hW.alike hK, hD⟩, hS.F ht⟩) hS.2.2 dX7_add_28
  · have h := sat_f c12 h
    refine lv_iconst (v := 1) hx hb dX7_add_15 (by decide) ?_
    have h := sat_some h
    exact W.zret (v := 1) hx hb hr rfl (fun t ht hW => ⟨⟨1, (v_howMany, v_rows, v_slots), rfl, h, by rw [ht]; exact hP, va_K.moved hW.alike hK, hD⟩, hS.F ht⟩) hS.2.2 dX7_add_16

/-! X7_whereIs -/
set_option maxHeartbeats 4000000 in
set_option maxRecDepth 100000 in
theorem c_X7_whereIs (l : Launch) (D : va_G) (y : ClassId × ClassId × ClassId × ClassId) (a a_rows a_slots a_lowBehind a_highBehind : Nat) (v_howMany : Int32) (v_rounds : Int32) (v_isFound : Int32) (v_firstLetter : Int64) (v_secondLetter : Int64) (v_thirdLetter : Int64) (v_goal : Int64) (v_width : Int32) (x1 : Int64) (x3 : Int32) (K : Int32 → Prop) (h : sat (m_X7_whereIs v_width x1 x3) K) : Met l yX7_whereIs wsX7_whereIs ({ frames := 0, cells := 0, slots := 0, locals := 0 } : Room) (pR D y ([.ref a, .long x1, .int x3] : List Value) [(a, .inr (4, [.int v_howMany, .int v_rounds, .int v_isFound, .ref a_rows, .ref a_slots, .long v_firstLetter, .long v_secondLetter, .long v_thirdLetter, .long v_goal, .int v_width, .ref a_lowBehind, .ref a_highBehind]))]) (qSi K) 0 0 (fun _ => False) := by
  refine Met.ofW (cc := cX7_whereIs) (maxL := 6) (ret := (some .int)) (by decide) rfl ?_
  intro p e s m args below meth c s₁ B hml hv
  obtain ⟨rfl, hP, hK⟩ := hv
  have hx := B.exec
  have hb := B.bytes
  have hr := B.returns
  have hts := atoms_spec (ws := wsX7_whereIs) B.pre
  have hown : s.vm.findClass RX7 = some m.cls := findClass_of_methodNamed B.named
  have hlocks := B.notSynchronized
  have iX7 : ∀ w ∈ wsX70, w ∈ wsX7_whereIs := by decide +kernel
  have fl67 := hts (.fieldLink RX7 67 "AlgebraLaws$Terms" "width" "I") (by decide +kernel)
  have hl := lv_entry ([.ref a, .long x1, .int x3] : List Value) (n := 6) (Nat.le_of_ble_eq_true rfl)
  rw [lg_entry_eq]
  generalize (lg_sl ([.ref a, .long x1, .int x3] : List Value) ++ List.replicate (6 - (lg_sl ([.ref a, .long x1, .int x3] : List Value)).length) Slot.unset).toArray = ls at hl ⊢
  have hl : lv_has ls 6 [(0, .ref a), (1, .long x1), (3, .int x3)] := hl
  have hJ41 : ∀ (t0_41 : Int32) (t1_41 : Int32) (ls : Array Slot), sat (m_X7_whereIs_j41 v_width t0_41 t1_41) K → lv_has ls 6 [(0, .ref a)] → W p l e (headSpec wsX7_whereIs ({ frames := 0, cells := 0, slots := 0, locals := 0 } : Room)).room s m ([.ref a, .long x1, .int x3] : List Value).toArray below meth c s.heap [] 0 0 (MQ below (qSi K) ([.ref a, .long x1, .int x3] : List Value).toArray s 0 0 (fun _ => False)) (F0 m 41 ls [.int t1_41, .int t0_41]) := by
    intro t0_41 t1_41 ls h hl
    unfold m_X7_whereIs_j41 at h
    refine lv_iand hx hb dX7_whereIs_41 ?_
    refine lv_iconst (v := 1) hx hb dX7_whereIs_42 (by decide) ?_
    refine lv_aload_n hx hb dX7_whereIs_43 rfl (lv_at hl 0 rfl) ?_
    refine va_get (D := D) (ci := 4) (v := .int v_width) (C := RX7) (T := TX7) (N := 12) hx hb hts iX7 hown hK hP 0 rfl rfl 9 (by decide) fl67 (fun _ h9 => h9) rfl dX7_whereIs_44 ?_
    refine lv_ishl hx hb dX7_whereIs_47 ?_
    refine lv_iconst (v := 1) hx hb dX7_whereIs_48 (by decide) ?_
    refine lv_isub hx hb dX7_whereIs_49 ?_
    refine lv_iand hx hb dX7_whereIs_50 ?_
    have h := sat_some h
    exact W.iret (v := (t0_41 &&& t1_41) &&& ((1 <<< (v_width &&& 31)) - 1)) hx hb hr (fun t ht _ => ⟨(t0_41 &&& t1_41) &&& ((1 <<< (v_width &&& 31)) - 1), rfl, h, ht⟩) (fun _ hq => by cases hq) dX7_whereIs_51
  have hJ26 : ∀ (x5_26 : Int32) (t0_26 : Int32) (ls : Array Slot), sat (m_X7_whereIs_j26 v_width x3 x5_26 t0_26) K → lv_has ls 6 [(0, .ref a), (3, .int x3), (5, .int x5_26)] → W p l e (headSpec wsX7_whereIs ({ frames := 0, cells := 0, slots := 0, locals := 0 } : Room)).room s m ([.ref a, .long x1, .int x3] : List Value).toArray below meth c s.heap [] 0 0 (MQ below (qSi K) ([.ref a, .long x1, .int x3] : List Value).toArray s 0 0 (fun _ => False)) (F0 m 26 ls [.int t0_26]) := by
    intro x5_26 t0_26 ls h hl
    unfold m_X7_whereIs_j26 at h
    refine lv_iload_n hx hb dX7_whereIs_26 rfl (lv_at hl 1 rfl) ?_
    refine lv_iconst (v := 2) hx hb dX7_whereIs_27 (by decide) ?_
    refine lv_iand hx hb dX7_whereIs_28 ?_
    refine lv_if_eq (tgt := 37) hx hb dX7_whereIs_29 (by decide) (fun c29 => ?_) (fun c29 => ?_)
    · have h := sat_t c29 h
      refine lv_iload hx hb dX7_whereIs_37 (lv_at hl 2 rfl) ?_
      refine lv_iconst (v := (-1)) hx hb dX7_whereIs_39 (by decide) ?_
      refine lv_ixor hx hb dX7_whereIs_40 ?_
      exact hJ41 t0_26 (x5_26 ^^^ (-1)) ls h (lv_sub hl [0] rfl)
    · have h := sat_f c29 h
      refine lv_iload hx hb dX7_whereIs_32 (lv_at hl 2 rfl) ?_
      refine lv_goto (tgt := 41) hx hb dX7_whereIs_34 (by decide) ?_
      exact hJ41 t0_26 x5_26 ls h (lv_sub hl [0] rfl)
  unfold m_X7_whereIs at h
  refine lv_lload_n hx hb dX7_whereIs_0 rfl (lv_at hl 1 rfl) ?_
  refine lv_l2i (v := x1.toInt32) hx hb dX7_whereIs_1 rfl ?_
  refine lv_istore (lv' := [(4, .int x1.toInt32), (0, .ref a), (1, .long x1), (3, .int x3)]) hx hb dX7_whereIs_2 hl (by decide) rfl (fun ls hl => ?_)
  refine lv_lload_n hx hb dX7_whereIs_4 rfl (lv_at hl 2 rfl) ?_
  refine lv_bipush (v := 32) hx hb dX7_whereIs_5 (by decide) ?_
  refine lv_lushr (v := (x1.toUInt64 >>> ((32 : Int32).toInt64.toUInt64 &&& Int64.toUInt64 63)).toInt64) hx hb dX7_whereIs_7 rfl ?_
  refine lv_l2i (v := ((x1.toUInt64 >>> ((32 : Int32).toInt64.toUInt64 &&& Int64.toUInt64 63)).toInt64).toInt32) hx hb dX7_whereIs_8 rfl ?_
  obtain ⟨w1, ew1, h⟩ := sat_nm h
  refine tI ew1 ?_
  refine lv_istore (lv' := [(5, .int w1), (4, .int x1.toInt32), (0, .ref a), (1, .long x1), (3, .int x3)]) hx hb dX7_whereIs_9 hl (by decide) rfl (fun ls hl => ?_)
  refine lv_iload_n hx hb dX7_whereIs_11 rfl (lv_at hl 4 rfl) ?_
  refine lv_iconst (v := 1) hx hb dX7_whereIs_12 (by decide) ?_
  refine lv_iand hx hb dX7_whereIs_13 ?_
  refine lv_if_eq (tgt := 22) hx hb dX7_whereIs_14 (by decide) (fun c14 => ?_) (fun c14 => ?_)
  · have h := sat_t c14 h
    refine lv_iload hx hb dX7_whereIs_22 (lv_at hl 1 rfl) ?_
    refine lv_iconst (v := (-1)) hx hb dX7_whereIs_24 (by decide) ?_
    refine lv_ixor hx hb dX7_whereIs_25 ?_
    exact hJ26 w1 (x1.toInt32 ^^^ (-1)) ls h (lv_sub hl [2, 4, 0] rfl)
  · have h := sat_f c14 h
    refine lv_iload hx hb dX7_whereIs_17 (lv_at hl 1 rfl) ?_
    refine lv_goto (tgt := 26) hx hb dX7_whereIs_19 (by decide) ?_
    exact hJ26 w1 x1.toInt32 ls h (lv_sub hl [2, 4, 0] rfl)

/-! X7_layBehind -/
set_option maxHeartbeats 4000000 in
set_option maxRecDepth 100000 in
theorem c_X7_layBehind (l : Launch) (D : va_G) (y : ClassId × ClassId × ClassId × ClassId) (a a_highBehind a_lowBehind a1 a1_values a_rows a_slots : Nat) (v_howMany : Int32) (v_rounds : Int32) (v_isFound : Int32) (v_firstLetter : Int64) (v_secondLetter : Int64) (v_thirdLetter : Int64) (v_goal : Int64) (v_width : Int32) (v_highBehind : Nat → Int32) (v_lowBehind : Nat → Int32) (v1_size : Int32) (v1_values : Nat → Int32) (x2 : Int64) (sz : Nat) (A : Nat → Prop) (hAe : va_A [(a, .inr (4, [.int v_howMany, .int v_rounds, .int v_isFound, .ref a_rows, .ref a_slots, .long v_firstLetter, .long v_secondLetter, .long v_thirdLetter, .long v_goal, .int v_width, .ref a_lowBehind, .ref a_highBehind])), (a_highBehind, .inl (y.1, 4, .inl v_highBehind)), (a_lowBehind, .inl (y.1, 4, .inl v_lowBehind)), (a1, .inr (3, [.int v1_size, .ref a1_values])), (a1_values, .inl (y.1, 20, .inl v1_values))] sz = A) (K : ((Nat → Int32) × (Nat → Int32)) → Prop) (h : sat (m_X7_layBehind v_width v_highBehind v_lowBehind v1_size v1_values x2) K) : Met l yX7_layBehind wsX7_layBehind ({ frames := 2, cells := 0, slots := 0, locals := 43 } : Room) (pW D y ([.ref a, .ref a1, .long x2] : List Value) [(a, .inr (4, [.int v_howMany, .int v_rounds, .int v_isFound, .ref a_rows, .ref a_slots, .long v_firstLetter, .long v_secondLetter, .long v_thirdLetter, .long v_goal, .int v_width, .ref a_lowBehind, .ref a_highBehind])), (a_highBehind, .inl (y.1, 4, .inl v_highBehind)), (a_lowBehind, .inl (y.1, 4, .inl v_lowBehind)), (a1, .inr (3, [.int v1_size, .ref a1_values])), (a1_values, .inl (y.1, 20, .inl v1_values))] sz) (va_Qv K (bW D y A (fun u : ((Nat → Int32) × (Nat → Int32)) => [(a, .inr (4, [.int v_howMany, .int v_rounds, .int v_isFound, .ref a_rows, .ref a_slots, .long v_firstLetter, .long v_secondLetter, .long v_thirdLetter, .long v_goal, .int v_width, .ref a_lowBehind, .ref a_highBehind])), (a_highBehind, .inl (y.1, 4, .inl u.1)), (a_lowBehind, .inl (y.1, 4, .inl u.2)), (a1, .inr (3, [.int v1_size, .ref a1_values])), (a1_values, .inl (y.1, 20, .inl v1_values))])) A) 0 0 A := by
  refine Met.ofW (cc := cX7_layBehind) (maxL := 9) (ret := none) (by decide) rfl ?_
  intro p e s m args below meth c s₁ B hml hv
  obtain ⟨rfl, hsz, hP, hK, hD0⟩ := hv
  have hx := B.exec
  have hb := B.bytes
  have hr := B.returns
  have hts := atoms_spec (ws := wsX7_layBehind) B.pre
  have hown : s.vm.findClass RX7 = some m.cls := findClass_of_methodNamed B.named
  have hlocks := B.notSynchronized
  subst hsz
  have hD : va_D A [(a, .inr (4, [.int v_howMany, .int v_rounds, .int v_isFound, .ref a_rows, .ref a_slots, .long v_firstLetter, .long v_secondLetter, .long v_thirdLetter, .long v_goal, .int v_width, .ref a_lowBehind, .ref a_highBehind])), (a_highBehind, .inl (y.1, 4, .inl v_highBehind)), (a_lowBehind, .inl (y.1, 4, .inl v_lowBehind)), (a1, .inr (3, [.int v1_size, .ref a1_values])), (a1_values, .inl (y.1, 20, .inl v1_values))] := hAe ▸ hD0.self
  have hA : ∀ q : Nat, s.heap.size ≤ q → A q := fun q h => hAe ▸ Or.inr h
  have hS : va_S A s.heap s.heap [] := va_S.rf
  have iX6 : ∀ w ∈ wsX60, w ∈ wsX7_layBehind := by decide +kernel
  have iX7 : ∀ w ∈ wsX70, w ∈ wsX7_layBehind := by decide +kernel
  have fl28 := hts (.fieldLink RX7 28 "AlgebraLaws$Tables" "size" "I") (by decide +kernel)
  have fl19 := hts (.fieldLink RX7 19 "AlgebraLaws$Terms" "lowBehind" "[I") (by decide +kernel)
  have fl22 := hts (.fieldLink RX7 22 "AlgebraLaws$Terms" "highBehind" "[I") (by decide +kernel)
  have hl := lv_entry ([.ref a, .ref a1, .long x2] : List Value) (n := 9) (Nat.le_of_ble_eq_true rfl)
  rw [lg_entry_eq]
  generalize (lg_sl ([.ref a, .ref a1, .long x2] : List Value) ++ List.replicate (9 - (lg_sl ([.ref a, .ref a1, .long x2] : List Value)).length) Slot.unset).toArray = ls at hl ⊢
  have hl : lv_has ls 9 [(0, .ref a), (1, .ref a1), (2, .long x2)] := hl
  unfold m_X7_layBehind at h
  refine lv_iconst (v := 0) hx hb dX7_layBehind_0 (by decide) ?_
  refine lv_istore (lv' := [(4, .int 0), (0, .ref a), (1, .ref a1), (2, .long x2)]) hx hb dX7_layBehind_1 hl (by decide) rfl (fun ls hl => ?_)
  have hL3 : ∀ (K3 : ((Nat → Int32) × (Nat → Int32)) → Prop)
      (hE3 : ∀ (z3 : ((Nat → Int32) × (Nat → Int32))) (ls : Array Slot) (H : Heap) (locs : List Loc), K3 z3 → lv_has ls 9 [] → va_P D vwCl [(a, .inr (4, [.int v_howMany, .int v_rounds, .int v_isFound, .ref a_rows, .ref a_slots, .long v_firstLetter, .long v_secondLetter, .long v_thirdLetter, .long v_goal, .int v_width, .ref a_lowBehind, .ref a_highBehind])), (a_highBehind, .inl (y.1, 4, .inl z3.1)), (a_lowBehind, .inl (y.1, 4, .inl z3.2)), (a1, .inr (3, [.int v1_size, .ref a1_values])), (a1_values, .inl (y.1, 20, .inl v1_values))] H → va_D A [(a, .inr (4, [.int v_howMany, .int v_rounds, .int v_isFound, .ref a_rows, .ref a_slots, .long v_firstLetter, .long v_secondLetter, .long v_thirdLetter, .long v_goal, .int v_width, .ref a_lowBehind, .ref a_highBehind])), (a_highBehind, .inl (y.1, 4, .inl z3.1)), (a_lowBehind, .inl (y.1, 4, .inl z3.2)), (a1, .inr (3, [.int v1_size, .ref a1_values])), (a1_values, .inl (y.1, 20, .inl v1_values))] → va_S A s.heap H locs → W p l e (headSpec wsX7_layBehind ({ frames := 2, cells := 0, slots := 0, locals := 43 } : Room)).room s m ([.ref a, .ref a1, .long x2] : List Value).toArray below meth c H locs 0 0 (MQ below (va_Qv K (bW D y A (fun u : ((Nat → Int32) × (Nat → Int32)) => [(a, .inr (4, [.int v_howMany, .int v_rounds, .int v_isFound, .ref a_rows, .ref a_slots, .long v_firstLetter, .long v_secondLetter, .long v_thirdLetter, .long v_goal, .int v_width, .ref a_lowBehind, .ref a_highBehind])), (a_highBehind, .inl (y.1, 4, .inl u.1)), (a_lowBehind, .inl (y.1, 4, .inl u.2)), (a1, .inr (3, [.int v1_size, .ref a1_values])), (a1_values, .inl (y.1, 20, .inl v1_values))])) A) ([.ref a, .ref a1, .long x2] : List Value).toArray s 0 0 A) (F0 m 114 ls []))
      (n : Nat) (x4_3 : Int32) (v_highBehind_3 : Nat → Int32) (v_lowBehind_3 : Nat → Int32) (ls : Array Slot) (H : Heap) (locs : List Loc), sat (lp (fun q : (Int32 × (Nat → Int32) × (Nat → Int32)) => m_X7_layBehind_s3 v_width v1_size v1_values x2 q.1 q.2.1 q.2.2) n (x4_3, v_highBehind_3, v_lowBehind_3)) K3 → lv_has ls 9 [(0, .ref a), (1, .ref a1), (2, .long x2), (4, .int x4_3)] → va_P D vwCl [(a, .inr (4, [.int v_howMany, .int v_rounds, .int v_isFound, .ref a_rows, .ref a_slots, .long v_firstLetter, .long v_secondLetter, .long v_thirdLetter, .long v_goal, .int v_width, .ref a_lowBehind, .ref a_highBehind])), (a_highBehind, .inl (y.1, 4, .inl v_highBehind_3)), (a_lowBehind, .inl (y.1, 4, .inl v_lowBehind_3)), (a1, .inr (3, [.int v1_size, .ref a1_values])), (a1_values, .inl (y.1, 20, .inl v1_values))] H → va_D A [(a, .inr (4, [.int v_howMany, .int v_rounds, .int v_isFound, .ref a_rows, .ref a_slots, .long v_firstLetter, .long v_secondLetter, .long v_thirdLetter, .long v_goal, .int v_width, .ref a_lowBehind, .ref a_highBehind])), (a_highBehind, .inl (y.1, 4, .inl v_highBehind_3)), (a_lowBehind, .inl (y.1, 4, .inl v_lowBehind_3)), (a1, .inr (3, [.int v1_size, .ref a1_values])), (a1_values, .inl (y.1, 20, .inl v1_values))] → va_S A s.heap H locs → W p l e (headSpec wsX7_layBehind ({ frames := 2, cells := 0, slots := 0, locals := 43 } : Room)).room s m ([.ref a, .ref a1, .long x2] : List Value).toArray below meth c H locs 0 0 (MQ below (va_Qv K (bW D y A (fun u : ((Nat → Int32) × (Nat → Int32)) => [(a, .inr (4, [.int v_howMany, .int v_rounds, .int v_isFound, .ref a_rows, .ref a_slots, .long v_firstLetter, .long v_secondLetter, .long v_thirdLetter, .long v_goal, .int v_width, .ref a_lowBehind, .ref a_highBehind])), (a_highBehind, .inl (y.1, 4, .inl u.1)), (a_lowBehind, .inl (y.1, 4, .inl u.2)), (a1, .inr (3, [.int v1_size, .ref a1_values])), (a1_values, .inl (y.1, 20, .inl v1_values))])) A) ([.ref a, .ref a1, .long x2] : List Value).toArray s 0 0 A) (F0 m 3 ls []) := by
    intro K3 hE3 n
    induction n with
    | zero => intro x4_3 v_highBehind_3 v_lowBehind_3 ls H locs h; exact (sat_lp0 h).elim
    | succ n ih =>
      intro x4_3 v_highBehind_3 v_lowBehind_3 ls H locs h hl hP hD hS
      have h := sat_lp h
      have h : sat (m_X7_layBehind_s3 v_width v1_size v1_values x2 x4_3 v_highBehind_3 v_lowBehind_3) (lk (fun s' => sat (lp (fun q : (Int32 × (Nat → Int32) × (Nat → Int32)) => m_X7_layBehind_s3 v_width v1_size v1_values x2 q.1 q.2.1 q.2.2) n s') K3) K3) := h
      unfold m_X7_layBehind_s3 at h
      refine lv_iload hx hb dX7_layBehind_3 (lv_at hl 3 rfl) ?_
      refine lv_iconst (v := 4) hx hb dX7_layBehind_5 (by decide) ?_
      refine lv_icmp_ge (tgt := 114) hx hb dX7_layBehind_6 (by decide) (fun c6 => ?_) (fun c6 => ?_)
      · have h := sat_t c6 h
        have h := lk_r (sat_some h)
        exact hE3 (v_highBehind_3, v_lowBehind_3) ls H locs h (lv_sub hl [] rfl) hP hD hS
      · have h := sat_f c6 h
        refine lv_iconst (v := 0) hx hb dX7_layBehind_9 (by decide) ?_
        refine lv_istore (lv' := [(5, .int 0), (0, .ref a), (1, .ref a1), (2, .long x2), (4, .int x4_3)]) hx hb dX7_layBehind_10 hl (by decide) rfl (fun ls hl => ?_)
        refine lv_iconst (v := 0) hx hb dX7_layBehind_12 (by decide) ?_
        refine lv_istore (lv' := [(6, .int 0), (5, .int 0), (0, .ref a), (1, .ref a1), (2, .long x2), (4, .int x4_3)]) hx hb dX7_layBehind_13 hl (by decide) rfl (fun ls hl => ?_)
        refine lv_iconst (v := 0) hx hb dX7_layBehind_15 (by decide) ?_
        refine lv_istore (lv' := [(7, .int 0), (6, .int 0), (5, .int 0), (0, .ref a), (1, .ref a1), (2, .long x2), (4, .int x4_3)]) hx hb dX7_layBehind_16 hl (by decide) rfl (fun ls hl => ?_)
        have hL18 : ∀ (K18 : (Int32 × Int32) → Prop)
            (hE18 : ∀ (z18 : (Int32 × Int32)) (ls : Array Slot) (H : Heap) (locs : List Loc), K18 z18 → lv_has ls 9 [(0, .ref a), (1, .ref a1), (2, .long x2), (4, .int x4_3), (5, .int z18.1), (6, .int z18.2)] → va_P D vwCl [(a, .inr (4, [.int v_howMany, .int v_rounds, .int v_isFound, .ref a_rows, .ref a_slots, .long v_firstLetter, .long v_secondLetter, .long v_thirdLetter, .long v_goal, .int v_width, .ref a_lowBehind, .ref a_highBehind])), (a_highBehind, .inl (y.1, 4, .inl v_highBehind_3)), (a_lowBehind, .inl (y.1, 4, .inl v_lowBehind_3)), (a1, .inr (3, [.int v1_size, .ref a1_values])), (a1_values, .inl (y.1, 20, .inl v1_values))] H → va_D A [(a, .inr (4, [.int v_howMany, .int v_rounds, .int v_isFound, .ref a_rows, .ref a_slots, .long v_firstLetter, .long v_secondLetter, .long v_thirdLetter, .long v_goal, .int v_width, .ref a_lowBehind, .ref a_highBehind])), (a_highBehind, .inl (y.1, 4, .inl v_highBehind_3)), (a_lowBehind, .inl (y.1, 4, .inl v_lowBehind_3)), (a1, .inr (3, [.int v1_size, .ref a1_values])), (a1_values, .inl (y.1, 20, .inl v1_values))] → va_S A s.heap H locs → W p l e (headSpec wsX7_layBehind ({ frames := 2, cells := 0, slots := 0, locals := 43 } : Room)).room s m ([.ref a, .ref a1, .long x2] : List Value).toArray below meth c H locs 0 0 (MQ below (va_Qv K (bW D y A (fun u : ((Nat → Int32) × (Nat → Int32)) => [(a, .inr (4, [.int v_howMany, .int v_rounds, .int v_isFound, .ref a_rows, .ref a_slots, .long v_firstLetter, .long v_secondLetter, .long v_thirdLetter, .long v_goal, .int v_width, .ref a_lowBehind, .ref a_highBehind])), (a_highBehind, .inl (y.1, 4, .inl u.1)), (a_lowBehind, .inl (y.1, 4, .inl u.2)), (a1, .inr (3, [.int v1_size, .ref a1_values])), (a1_values, .inl (y.1, 20, .inl v1_values))])) A) ([.ref a, .ref a1, .long x2] : List Value).toArray s 0 0 A) (F0 m 90 ls []))
            (n : Nat) (x5_18 : Int32) (x6_18 : Int32) (x7_18 : Int32) (ls : Array Slot) (H : Heap) (locs : List Loc), sat (lp (fun q : (Int32 × Int32 × Int32) => m_X7_layBehind_s18 v_width v1_size v1_values x2 x4_3 q.1 q.2.1 q.2.2) n (x5_18, x6_18, x7_18)) K18 → lv_has ls 9 [(0, .ref a), (1, .ref a1), (2, .long x2), (4, .int x4_3), (5, .int x5_18), (6, .int x6_18), (7, .int x7_18)] → va_P D vwCl [(a, .inr (4, [.int v_howMany, .int v_rounds, .int v_isFound, .ref a_rows, .ref a_slots, .long v_firstLetter, .long v_secondLetter, .long v_thirdLetter, .long v_goal, .int v_width, .ref a_lowBehind, .ref a_highBehind])), (a_highBehind, .inl (y.1, 4, .inl v_highBehind_3)), (a_lowBehind, .inl (y.1, 4, .inl v_lowBehind_3)), (a1, .inr (3, [.int v1_size, .ref a1_values])), (a1_values, .inl (y.1, 20, .inl v1_values))] H → va_D A [(a, .inr (4, [.int v_howMany, .int v_rounds, .int v_isFound, .ref a_rows, .ref a_slots, .long v_firstLetter, .long v_secondLetter, .long v_thirdLetter, .long v_goal, .int v_width, .ref a_lowBehind, .ref a_highBehind])), (a_highBehind, .inl (y.1, 4, .inl v_highBehind_3)), (a_lowBehind, .inl (y.1, 4, .inl v_lowBehind_3)), (a1, .inr (3, [.int v1_size, .ref a1_values])), (a1_values, .inl (y.1, 20, .inl v1_values))] → va_S A s.heap H locs → W p l e (headSpec wsX7_layBehind ({ frames := 2, cells := 0, slots := 0, locals := 43 } : Room)).room s m ([.ref a, .ref a1, .long x2] : List Value).toArray below meth c H locs 0 0 (MQ below (va_Qv K (bW D y A (fun u : ((Nat → Int32) × (Nat → Int32)) => [(a, .inr (4, [.int v_howMany, .int v_rounds, .int v_isFound, .ref a_rows, .ref a_slots, .long v_firstLetter, .long v_secondLetter, .long v_thirdLetter, .long v_goal, .int v_width, .ref a_lowBehind, .ref a_highBehind])), (a_highBehind, .inl (y.1, 4, .inl u.1)), (a_lowBehind, .inl (y.1, 4, .inl u.2)), (a1, .inr (3, [.int v1_size, .ref a1_values])), (a1_values, .inl (y.1, 20, .inl v1_values))])) A) ([.ref a, .ref a1, .long x2] : List Value).toArray s 0 0 A) (F0 m 18 ls []) := by
          intro K18 hE18 n
          induction n with
          | zero => intro x5_18 x6_18 x7_18 ls H locs h; exact (sat_lp0 h).elim
          | succ n ih =>
            intro x5_18 x6_18 x7_18 ls H locs h hl hP hD hS
            have h := sat_lp h
            have h : sat (m_X7_layBehind_s18 v_width v1_size v1_values x2 x4_3 x5_18 x6_18 x7_18) (lk (fun s' => sat (lp (fun q : (Int32 × Int32 × Int32) => m_X7_layBehind_s18 v_width v1_size v1_values x2 x4_3 q.1 q.2.1 q.2.2) n s') K18) K18) := h
            have hJ57 : ∀ (x6_57 : Int32) (x7_57 : Int32) (x8_57 : Int32) (t0_57 : Int32) (t1_57 : Int32) (ls : Array Slot) (H : Heap) (locs : List Loc), sat (m_X7_layBehind_j57 v1_values x4_3 x6_57 x7_57 x8_57 t0_57 t1_57) (lk (fun s' => sat (lp (fun q : (Int32 × Int32 × Int32) => m_X7_layBehind_s18 v_width v1_size v1_values x2 x4_3 q.1 q.2.1 q.2.2) n s') K18) K18) → lv_has ls 9 [(0, .ref a), (1, .ref a1), (2, .long x2), (4, .int x4_3), (6, .int x6_57), (7, .int x7_57), (8, .int x8_57)] → va_P D vwCl [(a, .inr (4, [.int v_howMany, .int v_rounds, .int v_isFound, .ref a_rows, .ref a_slots, .long v_firstLetter, .long v_secondLetter, .long v_thirdLetter, .long v_goal, .int v_width, .ref a_lowBehind, .ref a_highBehind])), (a_highBehind, .inl (y.1, 4, .inl v_highBehind_3)), (a_lowBehind, .inl (y.1, 4, .inl v_lowBehind_3)), (a1, .inr (3, [.int v1_size, .ref a1_values])), (a1_values, .inl (y.1, 20, .inl v1_values))] H → va_D A [(a, .inr (4, [.int v_howMany, .int v_rounds, .int v_isFound, .ref a_rows, .ref a_slots, .long v_firstLetter, .long v_secondLetter, .long v_thirdLetter, .long v_goal, .int v_width, .ref a_lowBehind, .ref a_highBehind])), (a_highBehind, .inl (y.1, 4, .inl v_highBehind_3)), (a_lowBehind, .inl (y.1, 4, .inl v_lowBehind_3)), (a1, .inr (3, [.int v1_size, .ref a1_values])), (a1_values, .inl (y.1, 20, .inl v1_values))] → va_S A s.heap H locs → W p l e (headSpec wsX7_layBehind ({ frames := 2, cells := 0, slots := 0, locals := 43 } : Room)).room s m ([.ref a, .ref a1, .long x2] : List Value).toArray below meth c H locs 0 0 (MQ below (va_Qv K (bW D y A (fun u : ((Nat → Int32) × (Nat → Int32)) => [(a, .inr (4, [.int v_howMany, .int v_rounds, .int v_isFound, .ref a_rows, .ref a_slots, .long v_firstLetter, .long v_secondLetter, .long v_thirdLetter, .long v_goal, .int v_width, .ref a_lowBehind, .ref a_highBehind])), (a_highBehind, .inl (y.1, 4, .inl u.1)), (a_lowBehind, .inl (y.1, 4, .inl u.2)), (a1, .inr (3, [.int v1_size, .ref a1_values])), (a1_values, .inl (y.1, 20, .inl v1_values))])) A) ([.ref a, .ref a1, .long x2] : List Value).toArray s 0 0 A) (F0 m 57 ls [.int t1_57, .int t0_57]) := by
              intro x6_57 x7_57 x8_57 t0_57 t1_57 ls H locs h hl hP hD hS
              unfold m_X7_layBehind_j57 at h
              refine lv_ior hx hb dX7_layBehind_57 ?_
              refine lv_istore (lv' := [(5, .int (t0_57 ||| t1_57)), (0, .ref a), (1, .ref a1), (2, .long x2), (4, .int x4_3), (6, .int x6_57), (7, .int x7_57), (8, .int x8_57)]) hx hb dX7_layBehind_58 hl (by decide) rfl (fun ls hl => ?_)
              refine lv_iload hx hb dX7_layBehind_60 (lv_at hl 5 rfl) ?_
              refine lv_aload_n hx hb dX7_layBehind_62 rfl (lv_at hl 2 rfl) ?_
              refine lv_iload hx hb dX7_layBehind_63 (lv_at hl 6 rfl) ?_
              refine lv_iload hx hb dX7_layBehind_65 (lv_at hl 4 rfl) ?_
              refine cr_i (rv (As := [.int x7_57, .int x4_3]) (rest := [.int x6_57]) ⟨hx, hb, hml, hown, hts⟩ (c_X6_two l D y a1 a1_values v1_size v1_values x7_57 x4_3 _ (sat_bind h)) (cwV 2 hts gX7_layBehind_X6_two rfl rfl rfl (by decide +kernel) ⟨Nat.le_of_ble_eq_true rfl, Nat.le_of_ble_eq_true rfl⟩) hK hP [3, 4] rfl 3 3 rfl rfl rfl rfl hl.1 rfl (Nat.le_of_ble_eq_true rfl) dX7_layBehind_67 ⟨Nat.zero_le _, Nat.zero_le _⟩) (fun r3 h => ?_)
              refine lv_iconst (v := 2) hx hb dX7_layBehind_70 (by decide) ?_
              refine lv_iand hx hb dX7_layBehind_71 ?_
              refine lv_if_eq (tgt := 80) hx hb dX7_layBehind_72 (by decide) (fun c72 => ?_) (fun c72 => ?_)
              · have h := sat_t c72 h
                refine lv_iconst (v := 0) hx hb dX7_layBehind_80 (by decide) ?_
                refine lv_ior hx hb dX7_layBehind_81 ?_
                refine lv_istore (lv' := [(6, .int (x6_57 ||| 0)), (5, .int (t0_57 ||| t1_57)), (0, .ref a), (1, .ref a1), (2, .long x2), (4, .int x4_3), (7, .int x7_57), (8, .int x8_57)]) hx hb dX7_layBehind_82 hl (by decide) rfl (fun ls hl => ?_)
                refine lv_iinc (v := x7_57 + 1) (lv' := [(7, .int (x7_57 + 1)), (6, .int (x6_57 ||| 0)), (5, .int (t0_57 ||| t1_57)), (0, .ref a), (1, .ref a1), (2, .long x2), (4, .int x4_3), (8, .int x8_57)]) hx hb dX7_layBehind_84 hl (k := 6) rfl rfl (by decide) rfl (fun ls hl => ?_)
                refine lv_goto (tgt := 18) hx hb dX7_layBehind_87 (by decide) ?_
                have h := lk_l (sat_some h)
                exact ih (t0_57 ||| t1_57) (x6_57 ||| 0) (x7_57 + 1) ls H locs h (lv_sub hl [3, 4, 5, 6, 2, 1, 0] rfl) hP hD hS
              · have h := sat_f c72 h
                refine lv_iload hx hb dX7_layBehind_75 (lv_at hl 7 rfl) ?_
                refine lv_goto (tgt := 81) hx hb dX7_layBehind_77 (by decide) ?_
                refine lv_ior hx hb dX7_layBehind_81 ?_
                refine lv_istore (lv' := [(6, .int (x6_57 ||| x8_57)), (5, .int (t0_57 ||| t1_57)), (0, .ref a), (1, .ref a1), (2, .long x2), (4, .int x4_3), (7, .int x7_57), (8, .int x8_57)]) hx hb dX7_layBehind_82 hl (by decide) rfl (fun ls hl => ?_)
                refine lv_iinc (v := x7_57 + 1) (lv' := [(7, .int (x7_57 + 1)), (6, .int (x6_57 ||| x8_57)), (5, .int (t0_57 ||| t1_57)), (0, .ref a), (1, .ref a1), (2, .long x2), (4, .int x4_3), (8, .int x8_57)]) hx hb dX7_layBehind_84 hl (k := 6) rfl rfl (by decide) rfl (fun ls hl => ?_)
                refine lv_goto (tgt := 18) hx hb dX7_layBehind_87 (by decide) ?_
                have h := lk_l (sat_some h)
                exact ih (t0_57 ||| t1_57) (x6_57 ||| x8_57) (x7_57 + 1) ls H locs h (lv_sub hl [3, 4, 5, 6, 2, 1, 0] rfl) hP hD hS
            unfold m_X7_layBehind_s18 at h
            refine lv_iload hx hb dX7_layBehind_18 (lv_at hl 6 rfl) ?_
            refine lv_aload_n hx hb dX7_layBehind_20 rfl (lv_at hl 1 rfl) ?_
            refine va_get (D := D) (ci := 3) (v := .int v1_size) (C := RX6) (T := TX6) (N := 2) hx hb hts iX6 hown hK hP 3 rfl rfl 0 (by decide) fl28 (fun _ h9 => h9) rfl dX7_layBehind_21 ?_
            refine lv_icmp_ge (tgt := 90) hx hb dX7_layBehind_24 (by decide) (fun c24 => ?_) (fun c24 => ?_)
            · have h := sat_t c24 h
              have h := lk_r (sat_some h)
              exact hE18 (x5_18, x6_18) ls H locs h (lv_sub hl [0, 1, 2, 3, 4, 5] rfl) hP hD hS
            · have h := sat_f c24 h
              refine lv_aload_n hx hb dX7_layBehind_27 rfl (lv_at hl 0 rfl) ?_
              refine lv_lload_n hx hb dX7_layBehind_28 rfl (lv_at hl 2 rfl) ?_
              refine lv_iload hx hb dX7_layBehind_29 (lv_at hl 6 rfl) ?_
              refine cr_i (rv (As := [.long x2, .int x7_18]) (rest := []) ⟨hx, hb, hml, hown, hts⟩ (c_X7_whereIs l D y a a_rows a_slots a_lowBehind a_highBehind v_howMany v_rounds v_isFound v_firstLetter v_secondLetter v_thirdLetter v_goal v_width x2 x7_18 _ (sat_bind h)) (cwV 2 hts gX7_layBehind_X7_whereIs rfl rfl rfl (by decide +kernel) ⟨Nat.le_of_ble_eq_true rfl, Nat.le_of_ble_eq_true rfl⟩) hK hP [0] rfl 0 4 rfl rfl rfl rfl hl.1 rfl (Nat.le_of_ble_eq_true rfl) dX7_layBehind_31 ⟨Nat.zero_le _, Nat.zero_le _⟩) (fun r4 h => ?_)
              refine lv_istore (lv' := [(8, .int r4), (0, .ref a), (1, .ref a1), (2, .long x2), (4, .int x4_3), (5, .int x5_18), (6, .int x6_18), (7, .int x7_18)]) hx hb dX7_layBehind_34 hl (by decide) rfl (fun ls hl => ?_)
              refine lv_iload hx hb dX7_layBehind_36 (lv_at hl 5 rfl) ?_
              refine lv_aload_n hx hb dX7_layBehind_38 rfl (lv_at hl 2 rfl) ?_
              refine lv_iload hx hb dX7_layBehind_39 (lv_at hl 7 rfl) ?_
              refine lv_iload hx hb dX7_layBehind_41 (lv_at hl 4 rfl) ?_
              refine cr_i (rv (As := [.int x7_18, .int x4_3]) (rest := [.int x5_18]) ⟨hx, hb, hml, hown, hts⟩ (c_X6_two l D y a1 a1_values v1_size v1_values x7_18 x4_3 _ (sat_bind h)) (cwV 2 hts gX7_layBehind_X6_two rfl rfl rfl (by decide +kernel) ⟨Nat.le_of_ble_eq_true rfl, Nat.le_of_ble_eq_true rfl⟩) hK hP [3, 4] rfl 3 3 rfl rfl rfl rfl hl.1 rfl (Nat.le_of_ble_eq_true rfl) dX7_layBehind_43 ⟨Nat.zero_le _, Nat.zero_le _⟩) (fun r5 h => ?_)
              refine lv_iconst (v := 1) hx hb dX7_layBehind_46 (by decide) ?_
              refine lv_iand hx hb dX7_layBehind_47 ?_
              refine lv_if_eq (tgt := 56) hx hb dX7_layBehind_48 (by decide) (fun c48 => ?_) (fun c48 => ?_)
              · have h := sat_t c48 h
                refine lv_iconst (v := 0) hx hb dX7_layBehind_56 (by decide) ?_
                exact hJ57 x6_18 x7_18 r4 x5_18 0 ls H locs h (lv_sub hl [1, 2, 3, 4, 6, 7, 0] rfl) hP hD hS
              · have h := sat_f c48 h
                refine lv_iload hx hb dX7_layBehind_51 (lv_at hl 0 rfl) ?_
                refine lv_goto (tgt := 57) hx hb dX7_layBehind_53 (by decide) ?_
                exact hJ57 x6_18 x7_18 r4 x5_18 r4 ls H locs h (lv_sub hl [1, 2, 3, 4, 6, 7, 0] rfl) hP hD hS
        have h := sat_bind h
        refine hL18 _ (fun z18 ls H locs h hl hP hD hS => ?_) 1000 0 0 0 ls H locs h (lv_sub hl [3, 4, 5, 6, 2, 1, 0] rfl) hP hD hS
        refine lv_aload_n hx hb dX7_layBehind_90 rfl (lv_at hl 0 rfl) ?_
        refine va_get (D := D) (ci := 4) (v := .ref a_lowBehind) (C := RX7) (T := TX7) (N := 12) hx hb hts iX7 hown hK hP 0 rfl rfl 10 (by decide) fl19 (fun _ h9 => h9) rfl dX7_layBehind_91 ?_
        refine lv_iload hx hb dX7_layBehind_94 (lv_at hl 3 rfl) ?_
        refine lv_iload hx hb dX7_layBehind_96 (lv_at hl 4 rfl) ?_
        obtain ⟨f6, ef6, hin, h⟩ := sat_wrI h
        refine yi (wn := [(a, .inr (4, [.int v_howMany, .int v_rounds, .int v_isFound, .ref a_rows, .ref a_slots, .long v_firstLetter, .long v_secondLetter, .long v_thirdLetter, .long v_goal, .int v_width, .ref a_lowBehind, .ref a_highBehind])), (a_highBehind, .inl (y.1, 4, .inl v_highBehind_3)), (a_lowBehind, .inl (y.1, 4, .inl f6)), (a1, .inr (3, [.int v1_size, .ref a1_values])), (a1_values, .inl (y.1, 20, .inl v1_values))]) hx hb hK hP hD hS 2 0 rfl rfl ef6 hin dX7_layBehind_98 rfl (fun H locs hP hD hS => ?_)
        refine lv_aload_n hx hb dX7_layBehind_99 rfl (lv_at hl 0 rfl) ?_
        refine va_get (D := D) (ci := 4) (v := .ref a_highBehind) (C := RX7) (T := TX7) (N := 12) hx hb hts iX7 hown hK hP 0 rfl rfl 11 (by decide) fl22 (fun _ h9 => h9) rfl dX7_layBehind_100 ?_
        refine lv_iload hx hb dX7_layBehind_103 (lv_at hl 3 rfl) ?_
        refine lv_iload hx hb dX7_layBehind_105 (lv_at hl 5 rfl) ?_
        obtain ⟨f7, ef7, hin, h⟩ := sat_wrI h
        refine yi (wn := [(a, .inr (4, [.int v_howMany, .int v_rounds, .int v_isFound, .ref a_rows, .ref a_slots, .long v_firstLetter, .long v_secondLetter, .long v_thirdLetter, .long v_goal, .int v_width, .ref a_lowBehind, .ref a_highBehind])), (a_highBehind, .inl (y.1, 4, .inl f7)), (a_lowBehind, .inl (y.1, 4, .inl f6)), (a1, .inr (3, [.int v1_size, .ref a1_values])), (a1_values, .inl (y.1, 20, .inl v1_values))]) hx hb hK hP hD hS 1 0 rfl rfl ef7 hin dX7_layBehind_107 rfl (fun H locs hP hD hS => ?_)
        refine lv_iinc (v := x4_3 + 1) (lv' := [(4, .int (x4_3 + 1)), (0, .ref a), (1, .ref a1), (2, .long x2), (5, .int z18.1), (6, .int z18.2)]) hx hb dX7_layBehind_108 hl (k := 3) rfl rfl (by decide) rfl (fun ls hl => ?_)
        refine lv_goto (tgt := 3) hx hb dX7_layBehind_111 (by decide) ?_
        have h := lk_l (sat_some h)
        exact ih (x4_3 + 1) f7 f6 ls H locs h (lv_sub hl [1, 2, 3, 0] rfl) hP hD hS
  have h := sat_bind h
  refine hL3 _ (fun z3 ls H locs h hl hP hD hS => ?_) 1000 0 v_highBehind v_lowBehind ls s.heap [] h (lv_sub hl [1, 2, 3, 0] rfl) hP hD hS
  have h := sat_some h
  exact W.vret hx hb hr (fun t ht hW => ⟨⟨(z3.1, z3.2), rfl, h, by rw [ht]; exact hP, va_K.moved hW.alike hK, hD⟩, hS.F ht⟩) hS.2.2 dX7_layBehind_114

/-! X7_ofOne -/
set_option maxHeartbeats 4000000 in
set_option maxRecDepth 100000 in
theorem c_X7_ofOne (l : Launch) (D : va_G) (y : ClassId × ClassId × ClassId × ClassId) (a a1 a1_values a_rows a_slots a_lowBehind a_highBehind : Nat) (v_howMany : Int32) (v_rounds : Int32) (v_isFound : Int32) (v_firstLetter : Int64) (v_secondLetter : Int64) (v_thirdLetter : Int64) (v_goal : Int64) (v_width : Int32) (v1_size : Int32) (v1_values : Nat → Int32) (x2 : Int64) (K : Int64 → Prop) (h : sat (m_X7_ofOne v_width v1_size v1_values x2) K) : Met l yX7_ofOne wsX7_ofOne ({ frames := 2, cells := 0, slots := 0, locals := 41 } : Room) (pR D y ([.ref a, .ref a1, .long x2] : List Value) [(a, .inr (4, [.int v_howMany, .int v_rounds, .int v_isFound, .ref a_rows, .ref a_slots, .long v_firstLetter, .long v_secondLetter, .long v_thirdLetter, .long v_goal, .int v_width, .ref a_lowBehind, .ref a_highBehind])), (a1, .inr (3, [.int v1_size, .ref a1_values])), (a1_values, .inl (y.1, 20, .inl v1_values))]) (qSl K) 0 0 (fun _ => False) := by
  refine Met.ofW (cc := cX7_ofOne) (maxL := 8) (ret := (some .long)) (by decide) rfl ?_
  intro p e s m args below meth c s₁ B hml hv
  obtain ⟨rfl, hP, hK⟩ := hv
  have hx := B.exec
  have hb := B.bytes
  have hr := B.returns
  have hts := atoms_spec (ws := wsX7_ofOne) B.pre
  have hown : s.vm.findClass RX7 = some m.cls := findClass_of_methodNamed B.named
  have hlocks := B.notSynchronized
  have iX6 : ∀ w ∈ wsX60, w ∈ wsX7_ofOne := by decide +kernel
  have fl28 := hts (.fieldLink RX7 28 "AlgebraLaws$Tables" "size" "I") (by decide +kernel)
  have hl := lv_entry ([.ref a, .ref a1, .long x2] : List Value) (n := 8) (Nat.le_of_ble_eq_true rfl)
  rw [lg_entry_eq]
  generalize (lg_sl ([.ref a, .ref a1, .long x2] : List Value) ++ List.replicate (8 - (lg_sl ([.ref a, .ref a1, .long x2] : List Value)).length) Slot.unset).toArray = ls at hl ⊢
  have hl : lv_has ls 8 [(0, .ref a), (1, .ref a1), (2, .long x2)] := hl
  unfold m_X7_ofOne at h
  refine lv_iconst (v := 0) hx hb dX7_ofOne_0 (by decide) ?_
  refine lv_istore (lv' := [(4, .int 0), (0, .ref a), (1, .ref a1), (2, .long x2)]) hx hb dX7_ofOne_1 hl (by decide) rfl (fun ls hl => ?_)
  refine lv_iconst (v := 0) hx hb dX7_ofOne_3 (by decide) ?_
  refine lv_istore (lv' := [(5, .int 0), (4, .int 0), (0, .ref a), (1, .ref a1), (2, .long x2)]) hx hb dX7_ofOne_4 hl (by decide) rfl (fun ls hl => ?_)
  refine lv_iconst (v := 0) hx hb dX7_ofOne_6 (by decide) ?_
  refine lv_istore (lv' := [(6, .int 0), (5, .int 0), (4, .int 0), (0, .ref a), (1, .ref a1), (2, .long x2)]) hx hb dX7_ofOne_7 hl (by decide) rfl (fun ls hl => ?_)
  have hL9 : ∀ (K9 : (Int32 × Int32) → Prop)
      (hE9 : ∀ (z9 : (Int32 × Int32)) (ls : Array Slot), K9 z9 → lv_has ls 8 [(4, .int z9.1), (5, .int z9.2)] → W p l e (headSpec wsX7_ofOne ({ frames := 2, cells := 0, slots := 0, locals := 41 } : Room)).room s m ([.ref a, .ref a1, .long x2] : List Value).toArray below meth c s.heap [] 0 0 (MQ below (qSl K) ([.ref a, .ref a1, .long x2] : List Value).toArray s 0 0 (fun _ => False)) (F0 m 77 ls []))
      (n : Nat) (x4_9 : Int32) (x5_9 : Int32) (x6_9 : Int32) (ls : Array Slot), sat (lp (fun q : (Int32 × Int32 × Int32) => m_X7_ofOne_s9 v_width v1_size v1_values x2 q.1 q.2.1 q.2.2) n (x4_9, x5_9, x6_9)) K9 → lv_has ls 8 [(0, .ref a), (1, .ref a1), (2, .long x2), (4, .int x4_9), (5, .int x5_9), (6, .int x6_9)] → W p l e (headSpec wsX7_ofOne ({ frames := 2, cells := 0, slots := 0, locals := 41 } : Room)).room s m ([.ref a, .ref a1, .long x2] : List Value).toArray below meth c s.heap [] 0 0 (MQ below (qSl K) ([.ref a, .ref a1, .long x2] : List Value).toArray s 0 0 (fun _ => False)) (F0 m 9 ls []) := by
    intro K9 hE9 n
    induction n with
    | zero => intro x4_9 x5_9 x6_9 ls h; exact (sat_lp0 h).elim
    | succ n ih =>
      intro x4_9 x5_9 x6_9 ls h hl
      have h := sat_lp h
      have h : sat (m_X7_ofOne_s9 v_width v1_size v1_values x2 x4_9 x5_9 x6_9) (lk (fun s' => sat (lp (fun q : (Int32 × Int32 × Int32) => m_X7_ofOne_s9 v_width v1_size v1_values x2 q.1 q.2.1 q.2.2) n s') K9) K9) := h
      have hJ46 : ∀ (x5_46 : Int32) (x6_46 : Int32) (x7_46 : Int32) (t0_46 : Int32) (t1_46 : Int32) (ls : Array Slot), sat (m_X7_ofOne_j46 v1_values x5_46 x6_46 x7_46 t0_46 t1_46) (lk (fun s' => sat (lp (fun q : (Int32 × Int32 × Int32) => m_X7_ofOne_s9 v_width v1_size v1_values x2 q.1 q.2.1 q.2.2) n s') K9) K9) → lv_has ls 8 [(0, .ref a), (1, .ref a1), (2, .long x2), (5, .int x5_46), (6, .int x6_46), (7, .int x7_46)] → W p l e (headSpec wsX7_ofOne ({ frames := 2, cells := 0, slots := 0, locals := 41 } : Room)).room s m ([.ref a, .ref a1, .long x2] : List Value).toArray below meth c s.heap [] 0 0 (MQ below (qSl K) ([.ref a, .ref a1, .long x2] : List Value).toArray s 0 0 (fun _ => False)) (F0 m 46 ls [.int t1_46, .int t0_46]) := by
        intro x5_46 x6_46 x7_46 t0_46 t1_46 ls h hl
        unfold m_X7_ofOne_j46 at h
        refine lv_ior hx hb dX7_ofOne_46 ?_
        refine lv_istore (lv' := [(4, .int (t0_46 ||| t1_46)), (0, .ref a), (1, .ref a1), (2, .long x2), (5, .int x5_46), (6, .int x6_46), (7, .int x7_46)]) hx hb dX7_ofOne_47 hl (by decide) rfl (fun ls hl => ?_)
        refine lv_iload hx hb dX7_ofOne_49 (lv_at hl 4 rfl) ?_
        refine lv_aload_n hx hb dX7_ofOne_51 rfl (lv_at hl 2 rfl) ?_
        refine lv_iload hx hb dX7_ofOne_52 (lv_at hl 5 rfl) ?_
        refine cr_i (rv (As := [.int x6_46]) (rest := [.int x5_46]) ⟨hx, hb, hml, hown, hts⟩ (c_X6_one l D y a1 a1_values v1_size v1_values x6_46 _ (sat_bind h)) (cwV 1 hts gX7_ofOne_X6_one rfl rfl rfl (by decide +kernel) ⟨Nat.le_of_ble_eq_true rfl, Nat.le_of_ble_eq_true rfl⟩) hK hP [1, 2] rfl 1 3 rfl rfl rfl rfl hl.1 rfl (Nat.le_of_ble_eq_true rfl) dX7_ofOne_54 ⟨Nat.zero_le _, Nat.zero_le _⟩) (fun r2 h => ?_)
        refine lv_iconst (v := 2) hx hb dX7_ofOne_57 (by decide) ?_
        refine lv_iand hx hb dX7_ofOne_58 ?_
        refine lv_if_eq (tgt := 67) hx hb dX7_ofOne_59 (by decide) (fun c59 => ?_) (fun c59 => ?_)
        · have h := sat_t c59 h
          refine lv_iconst (v := 0) hx hb dX7_ofOne_67 (by decide) ?_
          refine lv_ior hx hb dX7_ofOne_68 ?_
          refine lv_istore (lv' := [(5, .int (x5_46 ||| 0)), (4, .int (t0_46 ||| t1_46)), (0, .ref a), (1, .ref a1), (2, .long x2), (6, .int x6_46), (7, .int x7_46)]) hx hb dX7_ofOne_69 hl (by decide) rfl (fun ls hl => ?_)
          refine lv_iinc (v := x6_46 + 1) (lv' := [(6, .int (x6_46 + 1)), (5, .int (x5_46 ||| 0)), (4, .int (t0_46 ||| t1_46)), (0, .ref a), (1, .ref a1), (2, .long x2), (7, .int x7_46)]) hx hb dX7_ofOne_71 hl (k := 5) rfl rfl (by decide) rfl (fun ls hl => ?_)
          refine lv_goto (tgt := 9) hx hb dX7_ofOne_74 (by decide) ?_
          have h := lk_l (sat_some h)
          exact ih (t0_46 ||| t1_46) (x5_46 ||| 0) (x6_46 + 1) ls h (lv_sub hl [3, 4, 5, 2, 1, 0] rfl)
        · have h := sat_f c59 h
          refine lv_iload hx hb dX7_ofOne_62 (lv_at hl 6 rfl) ?_
          refine lv_goto (tgt := 68) hx hb dX7_ofOne_64 (by decide) ?_
          refine lv_ior hx hb dX7_ofOne_68 ?_
          refine lv_istore (lv' := [(5, .int (x5_46 ||| x7_46)), (4, .int (t0_46 ||| t1_46)), (0, .ref a), (1, .ref a1), (2, .long x2), (6, .int x6_46), (7, .int x7_46)]) hx hb dX7_ofOne_69 hl (by decide) rfl (fun ls hl => ?_)
          refine lv_iinc (v := x6_46 + 1) (lv' := [(6, .int (x6_46 + 1)), (5, .int (x5_46 ||| x7_46)), (4, .int (t0_46 ||| t1_46)), (0, .ref a), (1, .ref a1), (2, .long x2), (7, .int x7_46)]) hx hb dX7_ofOne_71 hl (k := 5) rfl rfl (by decide) rfl (fun ls hl => ?_)
          refine lv_goto (tgt := 9) hx hb dX7_ofOne_74 (by decide) ?_
          have h := lk_l (sat_some h)
          exact ih (t0_46 ||| t1_46) (x5_46 ||| x7_46) (x6_46 + 1) ls h (lv_sub hl [3, 4, 5, 2, 1, 0] rfl)
      unfold m_X7_ofOne_s9 at h
      refine lv_iload hx hb dX7_ofOne_9 (lv_at hl 5 rfl) ?_
      refine lv_aload_n hx hb dX7_ofOne_11 rfl (lv_at hl 1 rfl) ?_
      refine va_get (D := D) (ci := 3) (v := .int v1_size) (C := RX6) (T := TX6) (N := 2) hx hb hts iX6 hown hK hP 1 rfl rfl 0 (by decide) fl28 (fun _ h9 => h9) rfl dX7_ofOne_12 ?_
      refine lv_icmp_ge (tgt := 77) hx hb dX7_ofOne_15 (by decide) (fun c15 => ?_) (fun c15 => ?_)
      · have h := sat_t c15 h
        have h := lk_r (sat_some h)
        exact hE9 (x4_9, x5_9) ls h (lv_sub hl [3, 4] rfl)
      · have h := sat_f c15 h
        refine lv_aload_n hx hb dX7_ofOne_18 rfl (lv_at hl 0 rfl) ?_
        refine lv_lload_n hx hb dX7_ofOne_19 rfl (lv_at hl 2 rfl) ?_
        refine lv_iload hx hb dX7_ofOne_20 (lv_at hl 5 rfl) ?_
        refine cr_i (rv (As := [.long x2, .int x6_9]) (rest := []) ⟨hx, hb, hml, hown, hts⟩ (c_X7_whereIs l D y a a_rows a_slots a_lowBehind a_highBehind v_howMany v_rounds v_isFound v_firstLetter v_secondLetter v_thirdLetter v_goal v_width x2 x6_9 _ (sat_bind h)) (cwV 2 hts gX7_ofOne_X7_whereIs rfl rfl rfl (by decide +kernel) ⟨Nat.le_of_ble_eq_true rfl, Nat.le_of_ble_eq_true rfl⟩) hK hP [0] rfl 0 4 rfl rfl rfl rfl hl.1 rfl (Nat.le_of_ble_eq_true rfl) dX7_ofOne_22 ⟨Nat.zero_le _, Nat.zero_le _⟩) (fun r3 h => ?_)
        refine lv_istore (lv' := [(7, .int r3), (0, .ref a), (1, .ref a1), (2, .long x2), (4, .int x4_9), (5, .int x5_9), (6, .int x6_9)]) hx hb dX7_ofOne_25 hl (by decide) rfl (fun ls hl => ?_)
        refine lv_iload hx hb dX7_ofOne_27 (lv_at hl 4 rfl) ?_
        refine lv_aload_n hx hb dX7_ofOne_29 rfl (lv_at hl 2 rfl) ?_
        refine lv_iload hx hb dX7_ofOne_30 (lv_at hl 6 rfl) ?_
        refine cr_i (rv (As := [.int x6_9]) (rest := [.int x4_9]) ⟨hx, hb, hml, hown, hts⟩ (c_X6_one l D y a1 a1_values v1_size v1_values x6_9 _ (sat_bind h)) (cwV 1 hts gX7_ofOne_X6_one rfl rfl rfl (by decide +kernel) ⟨Nat.le_of_ble_eq_true rfl, Nat.le_of_ble_eq_true rfl⟩) hK hP [1, 2] rfl 1 3 rfl rfl rfl rfl hl.1 rfl (Nat.le_of_ble_eq_true rfl) dX7_ofOne_32 ⟨Nat.zero_le _, Nat.zero_le _⟩) (fun r4 h => ?_)
        refine lv_iconst (v := 1) hx hb dX7_ofOne_35 (by decide) ?_
        refine lv_iand hx hb dX7_ofOne_36 ?_
        refine lv_if_eq (tgt := 45) hx hb dX7_ofOne_37 (by decide) (fun c37 => ?_) (fun c37 => ?_)
        · have h := sat_t c37 h
          refine lv_iconst (v := 0) hx hb dX7_ofOne_45 (by decide) ?_
          exact hJ46 x5_9 x6_9 r3 x4_9 0 ls h (lv_sub hl [1, 2, 3, 5, 6, 0] rfl)
        · have h := sat_f c37 h
          refine lv_iload hx hb dX7_ofOne_40 (lv_at hl 0 rfl) ?_
          refine lv_goto (tgt := 46) hx hb dX7_ofOne_42 (by decide) ?_
          exact hJ46 x5_9 x6_9 r3 x4_9 r3 ls h (lv_sub hl [1, 2, 3, 5, 6, 0] rfl)
  have h := sat_bind h
  refine hL9 _ (fun z9 ls h hl => ?_) 1000 0 0 0 ls h (lv_sub hl [3, 4, 5, 2, 1, 0] rfl)
  refine lv_iload hx hb dX7_ofOne_77 (lv_at hl 0 rfl) ?_
  refine lv_iload hx hb dX7_ofOne_79 (lv_at hl 1 rfl) ?_
  refine cr_l (rs (As := [.int z9.1, .int z9.2]) (rest := []) ⟨hx, hb, hml, hown, hts⟩ (c_X7_joined l D y z9.1 z9.2 _ (sat_bind h)) (va_cwS 2 hts gX7_ofOne_X7_joined rfl rfl rfl (by decide +kernel) ⟨Nat.le_of_ble_eq_true rfl, Nat.le_of_ble_eq_true rfl⟩) hK hP [] rfl rfl hl.1 rfl (Nat.le_of_ble_eq_true rfl) dX7_ofOne_81 ⟨Nat.zero_le _, Nat.zero_le _⟩) (fun r5 h => ?_)
  have h := sat_some h
  exact W.lret (v := r5) hx hb hr (fun t ht _ => ⟨r5, rfl, h, ht⟩) (fun _ hq => by cases hq) dX7_ofOne_84

/-! X7_ofTwo -/
set_option maxHeartbeats 4000000 in
set_option maxRecDepth 100000 in
theorem c_X7_ofTwo (l : Launch) (D : va_G) (y : ClassId × ClassId × ClassId × ClassId) (a a_highBehind a_lowBehind a_rows a_slots : Nat) (v_howMany : Int32) (v_rounds : Int32) (v_isFound : Int32) (v_firstLetter : Int64) (v_secondLetter : Int64) (v_thirdLetter : Int64) (v_goal : Int64) (v_width : Int32) (v_highBehind : Nat → Int32) (v_lowBehind : Nat → Int32) (x1 : Int64) (K : Int64 → Prop) (h : sat (m_X7_ofTwo v_highBehind v_lowBehind x1) K) : Met l yX7_ofTwo wsX7_ofTwo ({ frames := 1, cells := 0, slots := 0, locals := 21 } : Room) (pR D y ([.ref a, .long x1] : List Value) [(a, .inr (4, [.int v_howMany, .int v_rounds, .int v_isFound, .ref a_rows, .ref a_slots, .long v_firstLetter, .long v_secondLetter, .long v_thirdLetter, .long v_goal, .int v_width, .ref a_lowBehind, .ref a_highBehind])), (a_highBehind, .inl (y.1, 4, .inl v_highBehind)), (a_lowBehind, .inl (y.1, 4, .inl v_lowBehind))]) (qSl K) 0 0 (fun _ => False) := by
  refine Met.ofW (cc := cX7_ofTwo) (maxL := 9) (ret := (some .long)) (by decide) rfl ?_
  intro p e s m args below meth c s₁ B hml hv
  obtain ⟨rfl, hP, hK⟩ := hv
  have hx := B.exec
  have hb := B.bytes
  have hr := B.returns
  have hts := atoms_spec (ws := wsX7_ofTwo) B.pre
  have hown : s.vm.findClass RX7 = some m.cls := findClass_of_methodNamed B.named
  have hlocks := B.notSynchronized
  have iX7 : ∀ w ∈ wsX70, w ∈ wsX7_ofTwo := by decide +kernel
  have fl19 := hts (.fieldLink RX7 19 "AlgebraLaws$Terms" "lowBehind" "[I") (by decide +kernel)
  have fl22 := hts (.fieldLink RX7 22 "AlgebraLaws$Terms" "highBehind" "[I") (by decide +kernel)
  have hl := lv_entry ([.ref a, .long x1] : List Value) (n := 9) (Nat.le_of_ble_eq_true rfl)
  rw [lg_entry_eq]
  generalize (lg_sl ([.ref a, .long x1] : List Value) ++ List.replicate (9 - (lg_sl ([.ref a, .long x1] : List Value)).length) Slot.unset).toArray = ls at hl ⊢
  have hl : lv_has ls 9 [(0, .ref a), (1, .long x1)] := hl
  unfold m_X7_ofTwo at h
  refine lv_lload_n hx hb dX7_ofTwo_0 rfl (lv_at hl 1 rfl) ?_
  refine lv_l2i (v := x1.toInt32) hx hb dX7_ofTwo_1 rfl ?_
  refine lv_istore_n (lv' := [(3, .int x1.toInt32), (0, .ref a), (1, .long x1)]) hx hb dX7_ofTwo_2 rfl hl (by decide) rfl (fun ls hl => ?_)
  refine lv_lload_n hx hb dX7_ofTwo_3 rfl (lv_at hl 2 rfl) ?_
  refine lv_bipush (v := 32) hx hb dX7_ofTwo_4 (by decide) ?_
  refine lv_lushr (v := (x1.toUInt64 >>> ((32 : Int32).toInt64.toUInt64 &&& Int64.toUInt64 63)).toInt64) hx hb dX7_ofTwo_6 rfl ?_
  refine lv_l2i (v := ((x1.toUInt64 >>> ((32 : Int32).toInt64.toUInt64 &&& Int64.toUInt64 63)).toInt64).toInt32) hx hb dX7_ofTwo_7 rfl ?_
  obtain ⟨w1, ew1, h⟩ := sat_nm h
  refine tI ew1 ?_
  refine lv_istore (lv' := [(4, .int w1), (3, .int x1.toInt32), (0, .ref a), (1, .long x1)]) hx hb dX7_ofTwo_8 hl (by decide) rfl (fun ls hl => ?_)
  refine lv_iload_n hx hb dX7_ofTwo_10 rfl (lv_at hl 1 rfl) ?_
  refine lv_iconst (v := (-1)) hx hb dX7_ofTwo_11 (by decide) ?_
  refine lv_ixor hx hb dX7_ofTwo_12 ?_
  refine lv_iload hx hb dX7_ofTwo_13 (lv_at hl 0 rfl) ?_
  refine lv_iconst (v := (-1)) hx hb dX7_ofTwo_15 (by decide) ?_
  refine lv_ixor hx hb dX7_ofTwo_16 ?_
  refine lv_iand hx hb dX7_ofTwo_17 ?_
  refine lv_istore (lv' := [(5, .int ((x1.toInt32 ^^^ (-1)) &&& (w1 ^^^ (-1)))), (4, .int w1), (3, .int x1.toInt32), (0, .ref a), (1, .long x1)]) hx hb dX7_ofTwo_18 hl (by decide) rfl (fun ls hl => ?_)
  refine lv_iload_n hx hb dX7_ofTwo_20 rfl (lv_at hl 2 rfl) ?_
  refine lv_iload hx hb dX7_ofTwo_21 (lv_at hl 1 rfl) ?_
  refine lv_iconst (v := (-1)) hx hb dX7_ofTwo_23 (by decide) ?_
  refine lv_ixor hx hb dX7_ofTwo_24 ?_
  refine lv_iand hx hb dX7_ofTwo_25 ?_
  refine lv_istore (lv' := [(6, .int (x1.toInt32 &&& (w1 ^^^ (-1)))), (5, .int ((x1.toInt32 ^^^ (-1)) &&& (w1 ^^^ (-1)))), (4, .int w1), (3, .int x1.toInt32), (0, .ref a), (1, .long x1)]) hx hb dX7_ofTwo_26 hl (by decide) rfl (fun ls hl => ?_)
  refine lv_iload_n hx hb dX7_ofTwo_28 rfl (lv_at hl 3 rfl) ?_
  refine lv_iconst (v := (-1)) hx hb dX7_ofTwo_29 (by decide) ?_
  refine lv_ixor hx hb dX7_ofTwo_30 ?_
  refine lv_iload hx hb dX7_ofTwo_31 (lv_at hl 2 rfl) ?_
  refine lv_iand hx hb dX7_ofTwo_33 ?_
  refine lv_istore (lv' := [(7, .int ((x1.toInt32 ^^^ (-1)) &&& w1)), (6, .int (x1.toInt32 &&& (w1 ^^^ (-1)))), (5, .int ((x1.toInt32 ^^^ (-1)) &&& (w1 ^^^ (-1)))), (4, .int w1), (3, .int x1.toInt32), (0, .ref a), (1, .long x1)]) hx hb dX7_ofTwo_34 hl (by decide) rfl (fun ls hl => ?_)
  refine lv_iload_n hx hb dX7_ofTwo_36 rfl (lv_at hl 4 rfl) ?_
  refine lv_iload hx hb dX7_ofTwo_37 (lv_at hl 3 rfl) ?_
  refine lv_iand hx hb dX7_ofTwo_39 ?_
  refine lv_istore (lv' := [(8, .int (x1.toInt32 &&& w1)), (7, .int ((x1.toInt32 ^^^ (-1)) &&& w1)), (6, .int (x1.toInt32 &&& (w1 ^^^ (-1)))), (5, .int ((x1.toInt32 ^^^ (-1)) &&& (w1 ^^^ (-1)))), (4, .int w1), (3, .int x1.toInt32), (0, .ref a), (1, .long x1)]) hx hb dX7_ofTwo_40 hl (by decide) rfl (fun ls hl => ?_)
  refine lv_iload hx hb dX7_ofTwo_42 (lv_at hl 3 rfl) ?_
  refine lv_aload_n hx hb dX7_ofTwo_44 rfl (lv_at hl 6 rfl) ?_
  refine va_get (D := D) (ci := 4) (v := .ref a_lowBehind) (C := RX7) (T := TX7) (N := 12) hx hb hts iX7 hown hK hP 0 rfl rfl 10 (by decide) fl19 (fun _ h9 => h9) rfl dX7_ofTwo_45 ?_
  refine lv_iconst (v := 0) hx hb dX7_ofTwo_48 (by decide) ?_
  obtain ⟨r2, er2, hin, h⟩ := sat_rd h
  refine xi hx hb hK hP 2 0 rfl rfl er2 hin dX7_ofTwo_49 ?_
  refine lv_iand hx hb dX7_ofTwo_50 ?_
  refine lv_iload hx hb dX7_ofTwo_51 (lv_at hl 2 rfl) ?_
  refine lv_aload_n hx hb dX7_ofTwo_53 rfl (lv_at hl 6 rfl) ?_
  refine va_get (D := D) (ci := 4) (v := .ref a_lowBehind) (C := RX7) (T := TX7) (N := 12) hx hb hts iX7 hown hK hP 0 rfl rfl 10 (by decide) fl19 (fun _ h9 => h9) rfl dX7_ofTwo_54 ?_
  refine lv_iconst (v := 1) hx hb dX7_ofTwo_57 (by decide) ?_
  obtain ⟨r3, er3, hin, h⟩ := sat_rd h
  refine xi hx hb hK hP 2 0 rfl rfl er3 hin dX7_ofTwo_58 ?_
  refine lv_iand hx hb dX7_ofTwo_59 ?_
  refine lv_ior hx hb dX7_ofTwo_60 ?_
  refine lv_iload hx hb dX7_ofTwo_61 (lv_at hl 1 rfl) ?_
  refine lv_aload_n hx hb dX7_ofTwo_63 rfl (lv_at hl 6 rfl) ?_
  refine va_get (D := D) (ci := 4) (v := .ref a_lowBehind) (C := RX7) (T := TX7) (N := 12) hx hb hts iX7 hown hK hP 0 rfl rfl 10 (by decide) fl19 (fun _ h9 => h9) rfl dX7_ofTwo_64 ?_
  refine lv_iconst (v := 2) hx hb dX7_ofTwo_67 (by decide) ?_
  obtain ⟨r4, er4, hin, h⟩ := sat_rd h
  refine xi hx hb hK hP 2 0 rfl rfl er4 hin dX7_ofTwo_68 ?_
  refine lv_iand hx hb dX7_ofTwo_69 ?_
  refine lv_ior hx hb dX7_ofTwo_70 ?_
  refine lv_iload hx hb dX7_ofTwo_71 (lv_at hl 0 rfl) ?_
  refine lv_aload_n hx hb dX7_ofTwo_73 rfl (lv_at hl 6 rfl) ?_
  refine va_get (D := D) (ci := 4) (v := .ref a_lowBehind) (C := RX7) (T := TX7) (N := 12) hx hb hts iX7 hown hK hP 0 rfl rfl 10 (by decide) fl19 (fun _ h9 => h9) rfl dX7_ofTwo_74 ?_
  refine lv_iconst (v := 3) hx hb dX7_ofTwo_77 (by decide) ?_
  obtain ⟨r5, er5, hin, h⟩ := sat_rd h
  refine xi hx hb hK hP 2 0 rfl rfl er5 hin dX7_ofTwo_78 ?_
  refine lv_iand hx hb dX7_ofTwo_79 ?_
  refine lv_ior hx hb dX7_ofTwo_80 ?_
  refine lv_iload hx hb dX7_ofTwo_81 (lv_at hl 3 rfl) ?_
  refine lv_aload_n hx hb dX7_ofTwo_83 rfl (lv_at hl 6 rfl) ?_
  refine va_get (D := D) (ci := 4) (v := .ref a_highBehind) (C := RX7) (T := TX7) (N := 12) hx hb hts iX7 hown hK hP 0 rfl rfl 11 (by decide) fl22 (fun _ h9 => h9) rfl dX7_ofTwo_84 ?_
  refine lv_iconst (v := 0) hx hb dX7_ofTwo_87 (by decide) ?_
  obtain ⟨r6, er6, hin, h⟩ := sat_rd h
  refine xi hx hb hK hP 1 0 rfl rfl er6 hin dX7_ofTwo_88 ?_
  refine lv_iand hx hb dX7_ofTwo_89 ?_
  refine lv_iload hx hb dX7_ofTwo_90 (lv_at hl 2 rfl) ?_
  refine lv_aload_n hx hb dX7_ofTwo_92 rfl (lv_at hl 6 rfl) ?_
  refine va_get (D := D) (ci := 4) (v := .ref a_highBehind) (C := RX7) (T := TX7) (N := 12) hx hb hts iX7 hown hK hP 0 rfl rfl 11 (by decide) fl22 (fun _ h9 => h9) rfl dX7_ofTwo_93 ?_
  refine lv_iconst (v := 1) hx hb dX7_ofTwo_96 (by decide) ?_
  obtain ⟨r7, er7, hin, h⟩ := sat_rd h
  refine xi hx hb hK hP 1 0 rfl rfl er7 hin dX7_ofTwo_97 ?_
  refine lv_iand hx hb dX7_ofTwo_98 ?_
  refine lv_ior hx hb dX7_ofTwo_99 ?_
  refine lv_iload hx hb dX7_ofTwo_100 (lv_at hl 1 rfl) ?_
  refine lv_aload_n hx hb dX7_ofTwo_102 rfl (lv_at hl 6 rfl) ?_
  refine va_get (D := D) (ci := 4) (v := .ref a_highBehind) (C := RX7) (T := TX7) (N := 12) hx hb hts iX7 hown hK hP 0 rfl rfl 11 (by decide) fl22 (fun _ h9 => h9) rfl dX7_ofTwo_103 ?_
  refine lv_iconst (v := 2) hx hb dX7_ofTwo_106 (by decide) ?_
  obtain ⟨r8, er8, hin, h⟩ := sat_rd h
  refine xi hx hb hK hP 1 0 rfl rfl er8 hin dX7_ofTwo_107 ?_
  refine lv_iand hx hb dX7_ofTwo_108 ?_
  refine lv_ior hx hb dX7_ofTwo_109 ?_
  refine lv_iload hx hb dX7_ofTwo_110 (lv_at hl 0 rfl) ?_
  refine lv_aload_n hx hb dX7_ofTwo_112 rfl (lv_at hl 6 rfl) ?_
  refine va_get (D := D) (ci := 4) (v := .ref a_highBehind) (C := RX7) (T := TX7) (N := 12) hx hb hts iX7 hown hK hP 0 rfl rfl 11 (by decide) fl22 (fun _ h9 => h9) rfl dX7_ofTwo_113 ?_
  refine lv_iconst (v := 3) hx hb dX7_ofTwo_116 (by decide) ?_
  obtain ⟨r9, er9, hin, h⟩ := sat_rd h
  refine xi hx hb hK hP 1 0 rfl rfl er9 hin dX7_ofTwo_117 ?_
  refine lv_iand hx hb dX7_ofTwo_118 ?_
  refine lv_ior hx hb dX7_ofTwo_119 ?_
  refine cr_l (rs (As := [.int ((((((x1.toInt32 ^^^ (-1)) &&& (w1 ^^^ (-1))) &&& r2) ||| ((x1.toInt32 &&& (w1 ^^^ (-1))) &&& r3)) ||| (((x1.toInt32 ^^^ (-1)) &&& w1) &&& r4)) ||| ((x1.toInt32 &&& w1) &&& r5)), .int ((((((x1.toInt32 ^^^ (-1)) &&& (w1 ^^^ (-1))) &&& r6) ||| ((x1.toInt32 &&& (w1 ^^^ (-1))) &&& r7)) ||| (((x1.toInt32 ^^^ (-1)) &&& w1) &&& r8)) ||| ((x1.toInt32 &&& w1) &&& r9))]) (rest := []) ⟨hx, hb, hml, hown, hts⟩ (c_X7_joined l D y ((((((x1.toInt32 ^^^ (-1)) &&& (w1 ^^^ (-1))) &&& r2) ||| ((x1.toInt32 &&& (w1 ^^^ (-1))) &&& r3)) ||| (((x1.toInt32 ^^^ (-1)) &&& w1) &&& r4)) ||| ((x1.toInt32 &&& w1) &&& r5)) ((((((x1.toInt32 ^^^ (-1)) &&& (w1 ^^^ (-1))) &&& r6) ||| ((x1.toInt32 &&& (w1 ^^^ (-1))) &&& r7)) ||| (((x1.toInt32 ^^^ (-1)) &&& w1) &&& r8)) ||| ((x1.toInt32 &&& w1) &&& r9)) _ (sat_bind h)) (va_cwS 2 hts gX7_ofTwo_X7_joined rfl rfl rfl (by decide +kernel) ⟨Nat.le_of_ble_eq_true rfl, Nat.le_of_ble_eq_true rfl⟩) hK hP [] rfl rfl hl.1 rfl (Nat.le_of_ble_eq_true rfl) dX7_ofTwo_120 ⟨Nat.zero_le _, Nat.zero_le _⟩) (fun r10 h => ?_)
  have h := sat_some h
  exact W.lret (v := r10) hx hb hr (fun t ht _ => ⟨r10, rfl, h, ht⟩) (fun _ hq => by cases hq) dX7_ofTwo_123

/-! X7_makeRound -/
set_option maxHeartbeats 4000000 in
set_option maxRecDepth 100000 in
theorem c_X7_makeRound (l : Launch) (D : va_G) (y : ClassId × ClassId × ClassId × ClassId) (a a_highBehind a_lowBehind a_rows a_slots a1 a1_values : Nat) (v_howMany : Int32) (v_rounds : Int32) (v_isFound : Int32) (v_firstLetter : Int64) (v_secondLetter : Int64) (v_thirdLetter : Int64) (v_goal : Int64) (v_width : Int32) (v_highBehind : Nat → Int32) (v_lowBehind : Nat → Int32) (v_rows : Nat → Int64) (v_slots : Nat → Int32) (v1_size : Int32) (v1_values : Nat → Int32) (x2 : Int32) (sz : Nat) (A : Nat → Prop) (hAe : va_A [(a, .inr (4, [.int v_howMany, .int v_rounds, .int v_isFound, .ref a_rows, .ref a_slots, .long v_firstLetter, .long v_secondLetter, .long v_thirdLetter, .long v_goal, .int v_width, .ref a_lowBehind, .ref a_highBehind])), (a_highBehind, .inl (y.1, 4, .inl v_highBehind)), (a_lowBehind, .inl (y.1, 4, .inl v_lowBehind)), (a_rows, .inl (y.2.1, 200, .inr (.inl v_rows))), (a_slots, .inl (y.1, 512, .inl v_slots)), (a1, .inr (3, [.int v1_size, .ref a1_values])), (a1_values, .inl (y.1, 20, .inl v1_values))] sz = A) (K : Int32 → (Int32 × (Nat → Int32) × (Nat → Int32) × (Nat → Int64) × (Nat → Int32)) → Prop) (h : sat (m_X7_makeRound v_howMany v_width v_highBehind v_lowBehind v_rows v_slots v1_size v1_values x2) (pK K)) : Met l yX7_makeRound wsX7_makeRound ({ frames := 3, cells := 0, slots := 0, locals := 71 } : Room) (pW D y ([.ref a, .ref a1, .int x2] : List Value) [(a, .inr (4, [.int v_howMany, .int v_rounds, .int v_isFound, .ref a_rows, .ref a_slots, .long v_firstLetter, .long v_secondLetter, .long v_thirdLetter, .long v_goal, .int v_width, .ref a_lowBehind, .ref a_highBehind])), (a_highBehind, .inl (y.1, 4, .inl v_highBehind)), (a_lowBehind, .inl (y.1, 4, .inl v_lowBehind)), (a_rows, .inl (y.2.1, 200, .inr (.inl v_rows))), (a_slots, .inl (y.1, 512, .inl v_slots)), (a1, .inr (3, [.int v1_size, .ref a1_values])), (a1_values, .inl (y.1, 20, .inl v1_values))] sz) (va_Qi K (bW D y A (fun u : (Int32 × (Nat → Int32) × (Nat → Int32) × (Nat → Int64) × (Nat → Int32)) => [(a, .inr (4, [.int u.1, .int v_rounds, .int v_isFound, .ref a_rows, .ref a_slots, .long v_firstLetter, .long v_secondLetter, .long v_thirdLetter, .long v_goal, .int v_width, .ref a_lowBehind, .ref a_highBehind])), (a_highBehind, .inl (y.1, 4, .inl u.2.1)), (a_lowBehind, .inl (y.1, 4, .inl u.2.2.1)), (a_rows, .inl (y.2.1, 200, .inr (.inl u.2.2.2.1))), (a_slots, .inl (y.1, 512, .inl u.2.2.2.2)), (a1, .inr (3, [.int v1_size, .ref a1_values])), (a1_values, .inl (y.1, 20, .inl v1_values))])) A) 0 0 A := by
  refine Met.ofW (cc := cX7_makeRound) (maxL := 6) (ret := (some .boolean)) (by decide) rfl ?_
  intro p e s m args below meth c s₁ B hml hv
  obtain ⟨rfl, hsz, hP, hK, hD0⟩ := hv
  have hx := B.exec
  have hb := B.bytes
  have hr := B.returns
  have hts := atoms_spec (ws := wsX7_makeRound) B.pre
  have hown : s.vm.findClass RX7 = some m.cls := findClass_of_methodNamed B.named
  have hlocks := B.notSynchronized
  subst hsz
  have hD : va_D A [(a, .inr (4, [.int v_howMany, .int v_rounds, .int v_isFound, .ref a_rows, .ref a_slots, .long v_firstLetter, .long v_secondLetter, .long v_thirdLetter, .long v_goal, .int v_width, .ref a_lowBehind, .ref a_highBehind])), (a_highBehind, .inl (y.1, 4, .inl v_highBehind)), (a_lowBehind, .inl (y.1, 4, .inl v_lowBehind)), (a_rows, .inl (y.2.1, 200, .inr (.inl v_rows))), (a_slots, .inl (y.1, 512, .inl v_slots)), (a1, .inr (3, [.int v1_size, .ref a1_values])), (a1_values, .inl (y.1, 20, .inl v1_values))] := hAe ▸ hD0.self
  have hA : ∀ q : Nat, s.heap.size ≤ q → A q := fun q h => hAe ▸ Or.inr h
  have hS : va_S A s.heap s.heap [] := va_S.rf
  have iX7 : ∀ w ∈ wsX70, w ∈ wsX7_makeRound := by decide +kernel
  have fl46 := hts (.fieldLink RX7 46 "AlgebraLaws$Terms" "howMany" "I") (by decide +kernel)
  have fl9 := hts (.fieldLink RX7 9 "AlgebraLaws$Terms" "rows" "[J") (by decide +kernel)
  have hl := lv_entry ([.ref a, .ref a1, .int x2] : List Value) (n := 6) (Nat.le_of_ble_eq_true rfl)
  rw [lg_entry_eq]
  generalize (lg_sl ([.ref a, .ref a1, .int x2] : List Value) ++ List.replicate (6 - (lg_sl ([.ref a, .ref a1, .int x2] : List Value)).length) Slot.unset).toArray = ls at hl ⊢
  have hl : lv_has ls 6 [(0, .ref a), (1, .ref a1), (2, .int x2)] := hl
  unfold m_X7_makeRound at h
  refine lv_aload_n hx hb dX7_makeRound_0 rfl (lv_at hl 0 rfl) ?_
  refine va_get (D := D) (ci := 4) (v := .int v_howMany) (C := RX7) (T := TX7) (N := 12) hx hb hts iX7 hown hK hP 0 rfl rfl 0 (by decide) fl46 (fun _ h9 => h9) rfl dX7_makeRound_1 ?_
  refine lv_sipush (v := 200) hx hb dX7_makeRound_4 (by decide) ?_
  obtain ⟨r1, er1, h⟩ := sat_nm h
  refine va_mmin hx hb (by rw [hml]; exact hl.1.symm) hown (hts (.methodLink RX7 93 Lib.Math.min.name) (by decide +kernel)) (hts (.static Lib.Math.min.name) (by decide +kernel)) (hts (.initialized "java/lang/Math") (by decide +kernel)) (hts (.code Lib.Math.min.name Lib.Math.min.code 2 (some .int)) (by decide +kernel)) (Nat.le_of_ble_eq_true rfl) (Nat.le_of_ble_eq_true rfl) (Nat.zero_le _) (Nat.zero_le _) dX7_makeRound_7 ?_
  refine tI er1 ?_
  refine lv_istore_n (lv' := [(3, .int r1), (0, .ref a), (1, .ref a1), (2, .int x2)]) hx hb dX7_makeRound_10 rfl hl (by decide) rfl (fun ls hl => ?_)
  refine lv_iconst (v := 0) hx hb dX7_makeRound_11 (by decide) ?_
  refine lv_istore (lv' := [(4, .int 0), (3, .int r1), (0, .ref a), (1, .ref a1), (2, .int x2)]) hx hb dX7_makeRound_12 hl (by decide) rfl (fun ls hl => ?_)
  have hL14 : ∀ (K14 : ((Int32 × (Int32 × (Nat → Int32) × (Nat → Int32) × (Nat → Int64) × (Nat → Int32))) ⊕ (Int32 × (Nat → Int32) × (Nat → Int32) × (Nat → Int64) × (Nat → Int32))) → Prop)
      (hR14 : ∀ (u : (Int32 × (Int32 × (Nat → Int32) × (Nat → Int32) × (Nat → Int64) × (Nat → Int32)))), K14 (.inl u) → pK K u)
      (hE14 : ∀ (z14 : (Int32 × (Nat → Int32) × (Nat → Int32) × (Nat → Int64) × (Nat → Int32))) (ls : Array Slot) (H : Heap) (locs : List Loc), K14 (.inr z14) → lv_has ls 6 [] → va_P D vwCl [(a, .inr (4, [.int z14.1, .int v_rounds, .int v_isFound, .ref a_rows, .ref a_slots, .long v_firstLetter, .long v_secondLetter, .long v_thirdLetter, .long v_goal, .int v_width, .ref a_lowBehind, .ref a_highBehind])), (a_highBehind, .inl (y.1, 4, .inl z14.2.1)), (a_lowBehind, .inl (y.1, 4, .inl z14.2.2.1)), (a_rows, .inl (y.2.1, 200, .inr (.inl z14.2.2.2.1))), (a_slots, .inl (y.1, 512, .inl z14.2.2.2.2)), (a1, .inr (3, [.int v1_size, .ref a1_values])), (a1_values, .inl (y.1, 20, .inl v1_values))] H → va_D A [(a, .inr (4, [.int z14.1, .int v_rounds, .int v_isFound, .ref a_rows, .ref a_slots, .long v_firstLetter, .long v_secondLetter, .long v_thirdLetter, .long v_goal, .int v_width, .ref a_lowBehind, .ref a_highBehind])), (a_highBehind, .inl (y.1, 4, .inl z14.2.1)), (a_lowBehind, .inl (y.1, 4, .inl z14.2.2.1)), (a_rows, .inl (y.2.1, 200, .inr (.inl z14.2.2.2.1))), (a_slots, .inl (y.1, 512, .inl z14.2.2.2.2)), (a1, .inr (3, [.int v1_size, .ref a1_values])), (a1_values, .inl (y.1, 20, .inl v1_values))] → va_S A s.heap H locs → W p l e (headSpec wsX7_makeRound ({ frames := 3, cells := 0, slots := 0, locals := 71 } : Room)).room s m ([.ref a, .ref a1, .int x2] : List Value).toArray below meth c H locs 0 0 (MQ below (va_Qi K (bW D y A (fun u : (Int32 × (Nat → Int32) × (Nat → Int32) × (Nat → Int64) × (Nat → Int32)) => [(a, .inr (4, [.int u.1, .int v_rounds, .int v_isFound, .ref a_rows, .ref a_slots, .long v_firstLetter, .long v_secondLetter, .long v_thirdLetter, .long v_goal, .int v_width, .ref a_lowBehind, .ref a_highBehind])), (a_highBehind, .inl (y.1, 4, .inl u.2.1)), (a_lowBehind, .inl (y.1, 4, .inl u.2.2.1)), (a_rows, .inl (y.2.1, 200, .inr (.inl u.2.2.2.1))), (a_slots, .inl (y.1, 512, .inl u.2.2.2.2)), (a1, .inr (3, [.int v1_size, .ref a1_values])), (a1_values, .inl (y.1, 20, .inl v1_values))])) A) ([.ref a, .ref a1, .int x2] : List Value).toArray s 0 0 A) (F0 m 110 ls []))
      (n : Nat) (x4_14 : Int32) (v_howMany_14 : Int32) (v_highBehind_14 : Nat → Int32) (v_lowBehind_14 : Nat → Int32) (v_rows_14 : Nat → Int64) (v_slots_14 : Nat → Int32) (ls : Array Slot) (H : Heap) (locs : List Loc), sat (lp (fun q : (Int32 × Int32 × (Nat → Int32) × (Nat → Int32) × (Nat → Int64) × (Nat → Int32)) => m_X7_makeRound_s14 v_width v1_size v1_values x2 r1 q.1 q.2.1 q.2.2.1 q.2.2.2.1 q.2.2.2.2.1 q.2.2.2.2.2) n (x4_14, v_howMany_14, v_highBehind_14, v_lowBehind_14, v_rows_14, v_slots_14)) K14 → lv_has ls 6 [(0, .ref a), (1, .ref a1), (2, .int x2), (3, .int r1), (4, .int x4_14)] → va_P D vwCl [(a, .inr (4, [.int v_howMany_14, .int v_rounds, .int v_isFound, .ref a_rows, .ref a_slots, .long v_firstLetter, .long v_secondLetter, .long v_thirdLetter, .long v_goal, .int v_width, .ref a_lowBehind, .ref a_highBehind])), (a_highBehind, .inl (y.1, 4, .inl v_highBehind_14)), (a_lowBehind, .inl (y.1, 4, .inl v_lowBehind_14)), (a_rows, .inl (y.2.1, 200, .inr (.inl v_rows_14))), (a_slots, .inl (y.1, 512, .inl v_slots_14)), (a1, .inr (3, [.int v1_size, .ref a1_values])), (a1_values, .inl (y.1, 20, .inl v1_values))] H → va_D A [(a, .inr (4, [.int v_howMany_14, .int v_rounds, .int v_isFound, .ref a_rows, .ref a_slots, .long v_firstLetter, .long v_secondLetter, .long v_thirdLetter, .long v_goal, .int v_width, .ref a_lowBehind, .ref a_highBehind])), (a_highBehind, .inl (y.1, 4, .inl v_highBehind_14)), (a_lowBehind, .inl (y.1, 4, .inl v_lowBehind_14)), (a_rows, .inl (y.2.1, 200, .inr (.inl v_rows_14))), (a_slots, .inl (y.1, 512, .inl v_slots_14)), (a1, .inr (3, [.int v1_size, .ref a1_values])), (a1_values, .inl (y.1, 20, .inl v1_values))] → va_S A s.heap H locs → W p l e (headSpec wsX7_makeRound ({ frames := 3, cells := 0, slots := 0, locals := 71 } : Room)).room s m ([.ref a, .ref a1, .int x2] : List Value).toArray below meth c H locs 0 0 (MQ below (va_Qi K (bW D y A (fun u : (Int32 × (Nat → Int32) × (Nat → Int32) × (Nat → Int64) × (Nat → Int32)) => [(a, .inr (4, [.int u.1, .int v_rounds, .int v_isFound, .ref a_rows, .ref a_slots, .long v_firstLetter, .long v_secondLetter, .long v_thirdLetter, .long v_goal, .int v_width, .ref a_lowBehind, .ref a_highBehind])), (a_highBehind, .inl (y.1, 4, .inl u.2.1)), (a_lowBehind, .inl (y.1, 4, .inl u.2.2.1)), (a_rows, .inl (y.2.1, 200, .inr (.inl u.2.2.2.1))), (a_slots, .inl (y.1, 512, .inl u.2.2.2.2)), (a1, .inr (3, [.int v1_size, .ref a1_values])), (a1_values, .inl (y.1, 20, .inl v1_values))])) A) ([.ref a, .ref a1, .int x2] : List Value).toArray s 0 0 A) (F0 m 14 ls []) := by
    intro K14 hR14 hE14 n
    induction n with
    | zero => intro x4_14 v_howMany_14 v_highBehind_14 v_lowBehind_14 v_rows_14 v_slots_14 ls H locs h; exact (sat_lp0 h).elim
    | succ n ih =>
      intro x4_14 v_howMany_14 v_highBehind_14 v_lowBehind_14 v_rows_14 v_slots_14 ls H locs h hl hP hD hS
      have h := sat_lp h
      have h : sat (m_X7_makeRound_s14 v_width v1_size v1_values x2 r1 x4_14 v_howMany_14 v_highBehind_14 v_lowBehind_14 v_rows_14 v_slots_14) (lk (fun s' => sat (lp (fun q : (Int32 × Int32 × (Nat → Int32) × (Nat → Int32) × (Nat → Int64) × (Nat → Int32)) => m_X7_makeRound_s14 v_width v1_size v1_values x2 r1 q.1 q.2.1 q.2.2.1 q.2.2.2.1 q.2.2.2.2.1 q.2.2.2.2.2) n s') K14) K14) := h
      have hJ70 : ∀ (x4_70 : Int32) (t0_70 : Int32) (v_howMany_70 : Int32) (v_highBehind_70 : Nat → Int32) (v_lowBehind_70 : Nat → Int32) (v_rows_70 : Nat → Int64) (v_slots_70 : Nat → Int32) (ls : Array Slot) (H : Heap) (locs : List Loc), sat (m_X7_makeRound_j70 r1 x4_70 t0_70 v_howMany_70 v_highBehind_70 v_lowBehind_70 v_rows_70 v_slots_70) (lk (fun s' => sat (lp (fun q : (Int32 × Int32 × (Nat → Int32) × (Nat → Int32) × (Nat → Int64) × (Nat → Int32)) => m_X7_makeRound_s14 v_width v1_size v1_values x2 r1 q.1 q.2.1 q.2.2.1 q.2.2.2.1 q.2.2.2.2.1 q.2.2.2.2.2) n s') K14) K14) → lv_has ls 6 [(0, .ref a), (1, .ref a1), (2, .int x2), (3, .int r1), (4, .int x4_70)] → va_P D vwCl [(a, .inr (4, [.int v_howMany_70, .int v_rounds, .int v_isFound, .ref a_rows, .ref a_slots, .long v_firstLetter, .long v_secondLetter, .long v_thirdLetter, .long v_goal, .int v_width, .ref a_lowBehind, .ref a_highBehind])), (a_highBehind, .inl (y.1, 4, .inl v_highBehind_70)), (a_lowBehind, .inl (y.1, 4, .inl v_lowBehind_70)), (a_rows, .inl (y.2.1, 200, .inr (.inl v_rows_70))), (a_slots, .inl (y.1, 512, .inl v_slots_70)), (a1, .inr (3, [.int v1_size, .ref a1_values])), (a1_values, .inl (y.1, 20, .inl v1_values))] H → va_D A [(a, .inr (4, [.int v_howMany_70, .int v_rounds, .int v_isFound, .ref a_rows, .ref a_slots, .long v_firstLetter, .long v_secondLetter, .long v_thirdLetter, .long v_goal, .int v_width, .ref a_lowBehind, .ref a_highBehind])), (a_highBehind, .inl (y.1, 4, .inl v_highBehind_70)), (a_lowBehind, .inl (y.1, 4, .inl v_lowBehind_70)), (a_rows, .inl (y.2.1, 200, .inr (.inl v_rows_70))), (a_slots, .inl (y.1, 512, .inl v_slots_70)), (a1, .inr (3, [.int v1_size, .ref a1_values])), (a1_values, .inl (y.1, 20, .inl v1_values))] → va_S A s.heap H locs → W p l e (headSpec wsX7_makeRound ({ frames := 3, cells := 0, slots := 0, locals := 71 } : Room)).room s m ([.ref a, .ref a1, .int x2] : List Value).toArray below meth c H locs 0 0 (MQ below (va_Qi K (bW D y A (fun u : (Int32 × (Nat → Int32) × (Nat → Int32) × (Nat → Int64) × (Nat → Int32)) => [(a, .inr (4, [.int u.1, .int v_rounds, .int v_isFound, .ref a_rows, .ref a_slots, .long v_firstLetter, .long v_secondLetter, .long v_thirdLetter, .long v_goal, .int v_width, .ref a_lowBehind, .ref a_highBehind])), (a_highBehind, .inl (y.1, 4, .inl u.2.1)), (a_lowBehind, .inl (y.1, 4, .inl u.2.2.1)), (a_rows, .inl (y.2.1, 200, .inr (.inl u.2.2.2.1))), (a_slots, .inl (y.1, 512, .inl u.2.2.2.2)), (a1, .inr (3, [.int v1_size, .ref a1_values])), (a1_values, .inl (y.1, 20, .inl v1_values))])) A) ([.ref a, .ref a1, .int x2] : List Value).toArray s 0 0 A) (F0 m 70 ls [.int t0_70]) := by
        intro x4_70 t0_70 v_howMany_70 v_highBehind_70 v_lowBehind_70 v_rows_70 v_slots_70 ls H locs h hl hP hD hS
        unfold m_X7_makeRound_j70 at h
        refine lv_istore (lv' := [(5, .int t0_70), (0, .ref a), (1, .ref a1), (2, .int x2), (3, .int r1), (4, .int x4_70)]) hx hb dX7_makeRound_70 hl (by decide) rfl (fun ls hl => ?_)
        have hL72 : ∀ (K72 : ((Int32 × (Int32 × (Nat → Int32) × (Nat → Int32) × (Nat → Int64) × (Nat → Int32))) ⊕ (Int32 × (Nat → Int64) × (Nat → Int32))) → Prop)
            (hR72 : ∀ (u : (Int32 × (Int32 × (Nat → Int32) × (Nat → Int32) × (Nat → Int64) × (Nat → Int32)))), K72 (.inl u) → pK K u)
            (hE72 : ∀ (z72 : (Int32 × (Nat → Int64) × (Nat → Int32))) (ls : Array Slot) (H : Heap) (locs : List Loc), K72 (.inr z72) → lv_has ls 6 [(0, .ref a), (1, .ref a1), (2, .int x2), (3, .int r1), (4, .int x4_70)] → va_P D vwCl [(a, .inr (4, [.int z72.1, .int v_rounds, .int v_isFound, .ref a_rows, .ref a_slots, .long v_firstLetter, .long v_secondLetter, .long v_thirdLetter, .long v_goal, .int v_width, .ref a_lowBehind, .ref a_highBehind])), (a_highBehind, .inl (y.1, 4, .inl v_highBehind_70)), (a_lowBehind, .inl (y.1, 4, .inl v_lowBehind_70)), (a_rows, .inl (y.2.1, 200, .inr (.inl z72.2.1))), (a_slots, .inl (y.1, 512, .inl z72.2.2)), (a1, .inr (3, [.int v1_size, .ref a1_values])), (a1_values, .inl (y.1, 20, .inl v1_values))] H → va_D A [(a, .inr (4, [.int z72.1, .int v_rounds, .int v_isFound, .ref a_rows, .ref a_slots, .long v_firstLetter, .long v_secondLetter, .long v_thirdLetter, .long v_goal, .int v_width, .ref a_lowBehind, .ref a_highBehind])), (a_highBehind, .inl (y.1, 4, .inl v_highBehind_70)), (a_lowBehind, .inl (y.1, 4, .inl v_lowBehind_70)), (a_rows, .inl (y.2.1, 200, .inr (.inl z72.2.1))), (a_slots, .inl (y.1, 512, .inl z72.2.2)), (a1, .inr (3, [.int v1_size, .ref a1_values])), (a1_values, .inl (y.1, 20, .inl v1_values))] → va_S A s.heap H locs → W p l e (headSpec wsX7_makeRound ({ frames := 3, cells := 0, slots := 0, locals := 71 } : Room)).room s m ([.ref a, .ref a1, .int x2] : List Value).toArray below meth c H locs 0 0 (MQ below (va_Qi K (bW D y A (fun u : (Int32 × (Nat → Int32) × (Nat → Int32) × (Nat → Int64) × (Nat → Int32)) => [(a, .inr (4, [.int u.1, .int v_rounds, .int v_isFound, .ref a_rows, .ref a_slots, .long v_firstLetter, .long v_secondLetter, .long v_thirdLetter, .long v_goal, .int v_width, .ref a_lowBehind, .ref a_highBehind])), (a_highBehind, .inl (y.1, 4, .inl u.2.1)), (a_lowBehind, .inl (y.1, 4, .inl u.2.2.1)), (a_rows, .inl (y.2.1, 200, .inr (.inl u.2.2.2.1))), (a_slots, .inl (y.1, 512, .inl u.2.2.2.2)), (a1, .inr (3, [.int v1_size, .ref a1_values])), (a1_values, .inl (y.1, 20, .inl v1_values))])) A) ([.ref a, .ref a1, .int x2] : List Value).toArray s 0 0 A) (F0 m 104 ls []))
            (n : Nat) (x5_72 : Int32) (v_howMany_72 : Int32) (v_rows_72 : Nat → Int64) (v_slots_72 : Nat → Int32) (ls : Array Slot) (H : Heap) (locs : List Loc), sat (lp (fun q : (Int32 × Int32 × (Nat → Int64) × (Nat → Int32)) => m_X7_makeRound_s72 r1 v_highBehind_70 v_lowBehind_70 q.1 q.2.1 q.2.2.1 q.2.2.2) n (x5_72, v_howMany_72, v_rows_72, v_slots_72)) K72 → lv_has ls 6 [(0, .ref a), (1, .ref a1), (2, .int x2), (3, .int r1), (4, .int x4_70), (5, .int x5_72)] → va_P D vwCl [(a, .inr (4, [.int v_howMany_72, .int v_rounds, .int v_isFound, .ref a_rows, .ref a_slots, .long v_firstLetter, .long v_secondLetter, .long v_thirdLetter, .long v_goal, .int v_width, .ref a_lowBehind, .ref a_highBehind])), (a_highBehind, .inl (y.1, 4, .inl v_highBehind_70)), (a_lowBehind, .inl (y.1, 4, .inl v_lowBehind_70)), (a_rows, .inl (y.2.1, 200, .inr (.inl v_rows_72))), (a_slots, .inl (y.1, 512, .inl v_slots_72)), (a1, .inr (3, [.int v1_size, .ref a1_values])), (a1_values, .inl (y.1, 20, .inl v1_values))] H → va_D A [(a, .inr (4, [.int v_howMany_72, .int v_rounds, .int v_isFound, .ref a_rows, .ref a_slots, .long v_firstLetter, .long v_secondLetter, .long v_thirdLetter, .long v_goal, .int v_width, .ref a_lowBehind, .ref a_highBehind])), (a_highBehind, .inl (y.1, 4, .inl v_highBehind_70)), (a_lowBehind, .inl (y.1, 4, .inl v_lowBehind_70)), (a_rows, .inl (y.2.1, 200, .inr (.inl v_rows_72))), (a_slots, .inl (y.1, 512, .inl v_slots_72)), (a1, .inr (3, [.int v1_size, .ref a1_values])), (a1_values, .inl (y.1, 20, .inl v1_values))] → va_S A s.heap H locs → W p l e (headSpec wsX7_makeRound ({ frames := 3, cells := 0, slots := 0, locals := 71 } : Room)).room s m ([.ref a, .ref a1, .int x2] : List Value).toArray below meth c H locs 0 0 (MQ below (va_Qi K (bW D y A (fun u : (Int32 × (Nat → Int32) × (Nat → Int32) × (Nat → Int64) × (Nat → Int32)) => [(a, .inr (4, [.int u.1, .int v_rounds, .int v_isFound, .ref a_rows, .ref a_slots, .long v_firstLetter, .long v_secondLetter, .long v_thirdLetter, .long v_goal, .int v_width, .ref a_lowBehind, .ref a_highBehind])), (a_highBehind, .inl (y.1, 4, .inl u.2.1)), (a_lowBehind, .inl (y.1, 4, .inl u.2.2.1)), (a_rows, .inl (y.2.1, 200, .inr (.inl u.2.2.2.1))), (a_slots, .inl (y.1, 512, .inl u.2.2.2.2)), (a1, .inr (3, [.int v1_size, .ref a1_values])), (a1_values, .inl (y.1, 20, .inl v1_values))])) A) ([.ref a, .ref a1, .int x2] : List Value).toArray s 0 0 A) (F0 m 72 ls []) := by
          intro K72 hR72 hE72 n
          induction n with
          | zero => intro x5_72 v_howMany_72 v_rows_72 v_slots_72 ls H locs h; exact (sat_lp0 h).elim
          | succ n ih =>
            intro x5_72 v_howMany_72 v_rows_72 v_slots_72 ls H locs h hl hP hD hS
            have h := sat_lp h
            have h : sat (m_X7_makeRound_s72 r1 v_highBehind_70 v_lowBehind_70 x5_72 v_howMany_72 v_rows_72 v_slots_72) (lk (fun s' => sat (lp (fun q : (Int32 × Int32 × (Nat → Int64) × (Nat → Int32)) => m_X7_makeRound_s72 r1 v_highBehind_70 v_lowBehind_70 q.1 q.2.1 q.2.2.1 q.2.2.2) n s') K72) K72) := h
            unfold m_X7_makeRound_s72 at h
            refine lv_iload hx hb dX7_makeRound_72 (lv_at hl 5 rfl) ?_
            refine lv_iload_n hx hb dX7_makeRound_74 rfl (lv_at hl 3 rfl) ?_
            refine lv_icmp_ge (tgt := 104) hx hb dX7_makeRound_75 (by decide) (fun c75 => ?_) (fun c75 => ?_)
            · have h := sat_t c75 h
              have h := lk_r (sat_some h)
              exact hE72 (v_howMany_72, v_rows_72, v_slots_72) ls H locs h (lv_sub hl [0, 1, 2, 3, 4] rfl) hP hD hS
            · have h := sat_f c75 h
              refine lv_aload_n hx hb dX7_makeRound_78 rfl (lv_at hl 0 rfl) ?_
              refine lv_aload_n hx hb dX7_makeRound_79 rfl (lv_at hl 0 rfl) ?_
              refine lv_aload_n hx hb dX7_makeRound_80 rfl (lv_at hl 0 rfl) ?_
              refine va_get (D := D) (ci := 4) (v := .ref a_rows) (C := RX7) (T := TX7) (N := 12) hx hb hts iX7 hown hK hP 0 rfl rfl 3 (by decide) fl9 (fun _ h9 => h9) rfl dX7_makeRound_81 ?_
              refine lv_iload hx hb dX7_makeRound_84 (lv_at hl 5 rfl) ?_
              obtain ⟨r4, er4, hin, h⟩ := sat_rd h
              refine xl hx hb hK hP 3 1 rfl rfl er4 hin dX7_makeRound_86 ?_
              refine cr_l (rv (As := [.long r4]) (rest := [.ref a]) ⟨hx, hb, hml, hown, hts⟩ (c_X7_ofTwo l D y a a_highBehind a_lowBehind a_rows a_slots v_howMany_72 v_rounds v_isFound v_firstLetter v_secondLetter v_thirdLetter v_goal v_width v_highBehind_70 v_lowBehind_70 r4 _ (sat_bind h)) (cwV 1 hts gX7_makeRound_X7_ofTwo rfl rfl rfl (by decide +kernel) ⟨Nat.le_of_ble_eq_true rfl, Nat.le_of_ble_eq_true rfl⟩) hK hP [0, 1, 2] rfl 0 4 rfl rfl rfl rfl hl.1 rfl (Nat.le_of_ble_eq_true rfl) dX7_makeRound_87 ⟨Nat.zero_le _, Nat.zero_le _⟩) (fun r5 h => ?_)
              refine cw_i (wn := fun u6 => [(a, .inr (4, [.int u6.1, .int v_rounds, .int v_isFound, .ref a_rows, .ref a_slots, .long v_firstLetter, .long v_secondLetter, .long v_thirdLetter, .long v_goal, .int v_width, .ref a_lowBehind, .ref a_highBehind])), (a_highBehind, .inl (y.1, 4, .inl v_highBehind_70)), (a_lowBehind, .inl (y.1, 4, .inl v_lowBehind_70)), (a_rows, .inl (y.2.1, 200, .inr (.inl u6.2.1))), (a_slots, .inl (y.1, 512, .inl u6.2.2)), (a1, .inr (3, [.int v1_size, .ref a1_values])), (a1_values, .inl (y.1, 20, .inl v1_values))]) (wr := [(a_highBehind, .inl (y.1, 4, .inl v_highBehind_70)), (a_lowBehind, .inl (y.1, 4, .inl v_lowBehind_70)), (a1, .inr (3, [.int v1_size, .ref a1_values])), (a1_values, .inl (y.1, 20, .inl v1_values))]) (wv (As := [.long r5]) (rest := []) ⟨hx, hb, hml, hown, hts⟩ (c_X7_add l D y a a_rows a_slots a_lowBehind a_highBehind v_howMany_72 v_rounds v_isFound v_firstLetter v_secondLetter v_thirdLetter v_goal v_width v_rows_72 v_slots_72 r5 _ _ rfl _ (sat_bd2 h)) (cwV 1 hts gX7_makeRound_X7_add rfl rfl rfl (by decide +kernel) ⟨Nat.le_of_ble_eq_true rfl, Nat.le_of_ble_eq_true rfl⟩) hK hP hD [0, 3, 4] rfl rfl rfl 0 4 rfl rfl rfl rfl hl.1 rfl (Nat.le_of_ble_eq_true rfl) dX7_makeRound_90 ⟨Nat.zero_le _, Nat.zero_le _⟩) hS hP hD hA [0, 3, 4] [1, 2, 5, 6] [4, 0, 1, 5, 6, 2, 3] rfl rfl rfl (by decide) (fun _ => rfl) rfl (fun _ => rfl) (fun r7 u6 H locs h hP hD hS => ?_)
              refine lv_if_ne (tgt := 98) hx hb dX7_makeRound_93 (by decide) (fun c93 => ?_) (fun c93 => ?_)
              · have h := sat_f c93 h
                refine lv_iinc (v := x5_72 + 1) (lv' := [(5, .int (x5_72 + 1)), (0, .ref a), (1, .ref a1), (2, .int x2), (3, .int r1), (4, .int x4_70)]) hx hb dX7_makeRound_98 hl (k := 5) rfl rfl (by decide) rfl (fun ls hl => ?_)
                refine lv_goto (tgt := 72) hx hb dX7_makeRound_101 (by decide) ?_
                have h := lk_l (sat_some h)
                exact ih (x5_72 + 1) u6.1 u6.2.1 u6.2.2 ls H locs h (lv_sub hl [1, 2, 3, 4, 5, 0] rfl) hP hD hS
              · have h := sat_t c93 h
                refine lv_iconst (v := 0) hx hb dX7_makeRound_96 (by decide) ?_
                have h := hR72 _ (lk_r (sat_some h))
                exact W.zret (v := 0) hx hb hr rfl (fun t ht hW => ⟨⟨0, (u6.1, v_highBehind_70, v_lowBehind_70, u6.2.1, u6.2.2), rfl, h, by rw [ht]; exact hP, va_K.moved hW.alike hK, hD⟩, hS.F ht⟩) hS.2.2 dX7_makeRound_97
        have h := sat_bdS h
        refine hL72 _ (fun u h => ?_) (fun z72 ls H locs h hl hP hD hS => ?_) 1000 t0_70 v_howMany_70 v_rows_70 v_slots_70 ls H locs h (lv_sub hl [1, 2, 3, 4, 5, 0] rfl) hP hD hS
        · have h := lk_l h
          exact hR14 _ (lk_r (sat_some h))
        · have h := lk_r h
          refine lv_iinc (v := x4_70 + 1) (lv' := [(4, .int (x4_70 + 1)), (0, .ref a), (1, .ref a1), (2, .int x2), (3, .int r1)]) hx hb dX7_makeRound_104 hl (k := 4) rfl rfl (by decide) rfl (fun ls hl => ?_)
          refine lv_goto (tgt := 14) hx hb dX7_makeRound_107 (by decide) ?_
          have h := lk_l (sat_some h)
          exact ih (x4_70 + 1) z72.1 v_highBehind_70 v_lowBehind_70 z72.2.1 z72.2.2 ls H locs h (lv_sub hl [1, 2, 3, 4, 0] rfl) hP hD hS
      have hJ59 : ∀ (x4_59 : Int32) (v_howMany_59 : Int32) (v_highBehind_59 : Nat → Int32) (v_lowBehind_59 : Nat → Int32) (v_rows_59 : Nat → Int64) (v_slots_59 : Nat → Int32) (ls : Array Slot) (H : Heap) (locs : List Loc), sat (m_X7_makeRound_j59 x2 r1 x4_59 v_howMany_59 v_highBehind_59 v_lowBehind_59 v_rows_59 v_slots_59) (lk (fun s' => sat (lp (fun q : (Int32 × Int32 × (Nat → Int32) × (Nat → Int32) × (Nat → Int64) × (Nat → Int32)) => m_X7_makeRound_s14 v_width v1_size v1_values x2 r1 q.1 q.2.1 q.2.2.1 q.2.2.2.1 q.2.2.2.2.1 q.2.2.2.2.2) n s') K14) K14) → lv_has ls 6 [(0, .ref a), (1, .ref a1), (2, .int x2), (3, .int r1), (4, .int x4_59)] → va_P D vwCl [(a, .inr (4, [.int v_howMany_59, .int v_rounds, .int v_isFound, .ref a_rows, .ref a_slots, .long v_firstLetter, .long v_secondLetter, .long v_thirdLetter, .long v_goal, .int v_width, .ref a_lowBehind, .ref a_highBehind])), (a_highBehind, .inl (y.1, 4, .inl v_highBehind_59)), (a_lowBehind, .inl (y.1, 4, .inl v_lowBehind_59)), (a_rows, .inl (y.2.1, 200, .inr (.inl v_rows_59))), (a_slots, .inl (y.1, 512, .inl v_slots_59)), (a1, .inr (3, [.int v1_size, .ref a1_values])), (a1_values, .inl (y.1, 20, .inl v1_values))] H → va_D A [(a, .inr (4, [.int v_howMany_59, .int v_rounds, .int v_isFound, .ref a_rows, .ref a_slots, .long v_firstLetter, .long v_secondLetter, .long v_thirdLetter, .long v_goal, .int v_width, .ref a_lowBehind, .ref a_highBehind])), (a_highBehind, .inl (y.1, 4, .inl v_highBehind_59)), (a_lowBehind, .inl (y.1, 4, .inl v_lowBehind_59)), (a_rows, .inl (y.2.1, 200, .inr (.inl v_rows_59))), (a_slots, .inl (y.1, 512, .inl v_slots_59)), (a1, .inr (3, [.int v1_size, .ref a1_values])), (a1_values, .inl (y.1, 20, .inl v1_values))] → va_S A s.heap H locs → W p l e (headSpec wsX7_makeRound ({ frames := 3, cells := 0, slots := 0, locals := 71 } : Room)).room s m ([.ref a, .ref a1, .int x2] : List Value).toArray below meth c H locs 0 0 (MQ below (va_Qi K (bW D y A (fun u : (Int32 × (Nat → Int32) × (Nat → Int32) × (Nat → Int64) × (Nat → Int32)) => [(a, .inr (4, [.int u.1, .int v_rounds, .int v_isFound, .ref a_rows, .ref a_slots, .long v_firstLetter, .long v_secondLetter, .long v_thirdLetter, .long v_goal, .int v_width, .ref a_lowBehind, .ref a_highBehind])), (a_highBehind, .inl (y.1, 4, .inl u.2.1)), (a_lowBehind, .inl (y.1, 4, .inl u.2.2.1)), (a_rows, .inl (y.2.1, 200, .inr (.inl u.2.2.2.1))), (a_slots, .inl (y.1, 512, .inl u.2.2.2.2)), (a1, .inr (3, [.int v1_size, .ref a1_values])), (a1_values, .inl (y.1, 20, .inl v1_values))])) A) ([.ref a, .ref a1, .int x2] : List Value).toArray s 0 0 A) (F0 m 59 ls []) := by
        intro x4_59 v_howMany_59 v_highBehind_59 v_lowBehind_59 v_rows_59 v_slots_59 ls H locs h hl hP hD hS
        unfold m_X7_makeRound_j59 at h
        refine lv_iload hx hb dX7_makeRound_59 (lv_at hl 4 rfl) ?_
        refine lv_iload_n hx hb dX7_makeRound_61 rfl (lv_at hl 2 rfl) ?_
        refine lv_icmp_ge (tgt := 69) hx hb dX7_makeRound_62 (by decide) (fun c62 => ?_) (fun c62 => ?_)
        · have h := sat_t c62 h
          refine lv_iconst (v := 0) hx hb dX7_makeRound_69 (by decide) ?_
          exact hJ70 x4_59 0 v_howMany_59 v_highBehind_59 v_lowBehind_59 v_rows_59 v_slots_59 ls H locs h hl hP hD hS
        · have h := sat_f c62 h
          refine lv_iload_n hx hb dX7_makeRound_65 rfl (lv_at hl 2 rfl) ?_
          refine lv_goto (tgt := 70) hx hb dX7_makeRound_66 (by decide) ?_
          exact hJ70 x4_59 x2 v_howMany_59 v_highBehind_59 v_lowBehind_59 v_rows_59 v_slots_59 ls H locs h hl hP hD hS
      unfold m_X7_makeRound_s14 at h
      refine lv_iload hx hb dX7_makeRound_14 (lv_at hl 4 rfl) ?_
      refine lv_iload_n hx hb dX7_makeRound_16 rfl (lv_at hl 3 rfl) ?_
      refine lv_icmp_ge (tgt := 110) hx hb dX7_makeRound_17 (by decide) (fun c17 => ?_) (fun c17 => ?_)
      · have h := sat_t c17 h
        have h := lk_r (sat_some h)
        exact hE14 (v_howMany_14, v_highBehind_14, v_lowBehind_14, v_rows_14, v_slots_14) ls H locs h (lv_sub hl [] rfl) hP hD hS
      · have h := sat_f c17 h
        refine lv_aload_n hx hb dX7_makeRound_20 rfl (lv_at hl 0 rfl) ?_
        refine lv_aload_n hx hb dX7_makeRound_21 rfl (lv_at hl 1 rfl) ?_
        refine lv_aload_n hx hb dX7_makeRound_22 rfl (lv_at hl 0 rfl) ?_
        refine va_get (D := D) (ci := 4) (v := .ref a_rows) (C := RX7) (T := TX7) (N := 12) hx hb hts iX7 hown hK hP 0 rfl rfl 3 (by decide) fl9 (fun _ h9 => h9) rfl dX7_makeRound_23 ?_
        refine lv_iload hx hb dX7_makeRound_26 (lv_at hl 4 rfl) ?_
        obtain ⟨r8, er8, hin, h⟩ := sat_rd h
        refine xl hx hb hK hP 3 1 rfl rfl er8 hin dX7_makeRound_28 ?_
        refine cw_v (wn := fun u9 => [(a, .inr (4, [.int v_howMany_14, .int v_rounds, .int v_isFound, .ref a_rows, .ref a_slots, .long v_firstLetter, .long v_secondLetter, .long v_thirdLetter, .long v_goal, .int v_width, .ref a_lowBehind, .ref a_highBehind])), (a_highBehind, .inl (y.1, 4, .inl u9.1)), (a_lowBehind, .inl (y.1, 4, .inl u9.2)), (a_rows, .inl (y.2.1, 200, .inr (.inl v_rows_14))), (a_slots, .inl (y.1, 512, .inl v_slots_14)), (a1, .inr (3, [.int v1_size, .ref a1_values])), (a1_values, .inl (y.1, 20, .inl v1_values))]) (wr := [(a_rows, .inl (y.2.1, 200, .inr (.inl v_rows_14))), (a_slots, .inl (y.1, 512, .inl v_slots_14))]) (wv (As := [.ref a1, .long r8]) (rest := []) ⟨hx, hb, hml, hown, hts⟩ (c_X7_layBehind l D y a a_highBehind a_lowBehind a1 a1_values a_rows a_slots v_howMany_14 v_rounds v_isFound v_firstLetter v_secondLetter v_thirdLetter v_goal v_width v_highBehind_14 v_lowBehind_14 v1_size v1_values r8 _ _ rfl _ (sat_bind h)) (cwV 2 hts gX7_makeRound_X7_layBehind rfl rfl rfl (by decide +kernel) ⟨Nat.le_of_ble_eq_true rfl, Nat.le_of_ble_eq_true rfl⟩) hK hP hD [0, 1, 2, 5, 6] rfl rfl rfl 0 4 rfl rfl rfl rfl hl.1 rfl (Nat.le_of_ble_eq_true rfl) dX7_makeRound_29 ⟨Nat.zero_le _, Nat.zero_le _⟩) hS hP hD hA [0, 1, 2, 5, 6] [3, 4] [2, 3, 4, 0, 1, 5, 6] rfl rfl rfl (by decide) (fun _ => rfl) rfl (fun _ => rfl) (fun u9 H locs h hP hD hS => ?_)
        refine lv_iload hx hb dX7_makeRound_32 (lv_at hl 4 rfl) ?_
        refine lv_iload_n hx hb dX7_makeRound_34 rfl (lv_at hl 2 rfl) ?_
        refine lv_icmp_lt (tgt := 59) hx hb dX7_makeRound_35 (by decide) (fun c35 => ?_) (fun c35 => ?_)
        · have h := sat_t c35 h
          exact hJ59 x4_14 v_howMany_14 u9.1 u9.2 v_rows_14 v_slots_14 ls H locs h hl hP hD hS
        · have h := sat_f c35 h
          refine lv_aload_n hx hb dX7_makeRound_38 rfl (lv_at hl 0 rfl) ?_
          refine lv_aload_n hx hb dX7_makeRound_39 rfl (lv_at hl 0 rfl) ?_
          refine lv_aload_n hx hb dX7_makeRound_40 rfl (lv_at hl 1 rfl) ?_
          refine lv_aload_n hx hb dX7_makeRound_41 rfl (lv_at hl 0 rfl) ?_
          refine va_get (D := D) (ci := 4) (v := .ref a_rows) (C := RX7) (T := TX7) (N := 12) hx hb hts iX7 hown hK hP 0 rfl rfl 3 (by decide) fl9 (fun _ h9 => h9) rfl dX7_makeRound_42 ?_
          refine lv_iload hx hb dX7_makeRound_45 (lv_at hl 4 rfl) ?_
          obtain ⟨r10, er10, hin, h⟩ := sat_rd h
          refine xl hx hb hK hP 3 1 rfl rfl er10 hin dX7_makeRound_47 ?_
          refine cr_l (rv (As := [.ref a1, .long r10]) (rest := [.ref a]) ⟨hx, hb, hml, hown, hts⟩ (c_X7_ofOne l D y a a1 a1_values a_rows a_slots a_lowBehind a_highBehind v_howMany_14 v_rounds v_isFound v_firstLetter v_secondLetter v_thirdLetter v_goal v_width v1_size v1_values r10 _ (sat_bind h)) (cwV 2 hts gX7_makeRound_X7_ofOne rfl rfl rfl (by decide +kernel) ⟨Nat.le_of_ble_eq_true rfl, Nat.le_of_ble_eq_true rfl⟩) hK hP [0, 5, 6] rfl 0 4 rfl rfl rfl rfl hl.1 rfl (Nat.le_of_ble_eq_true rfl) dX7_makeRound_48 ⟨Nat.zero_le _, Nat.zero_le _⟩) (fun r11 h => ?_)
          refine cw_i (wn := fun u12 => [(a, .inr (4, [.int u12.1, .int v_rounds, .int v_isFound, .ref a_rows, .ref a_slots, .long v_firstLetter, .long v_secondLetter, .long v_thirdLetter, .long v_goal, .int v_width, .ref a_lowBehind, .ref a_highBehind])), (a_highBehind, .inl (y.1, 4, .inl u9.1)), (a_lowBehind, .inl (y.1, 4, .inl u9.2)), (a_rows, .inl (y.2.1, 200, .inr (.inl u12.2.1))), (a_slots, .inl (y.1, 512, .inl u12.2.2)), (a1, .inr (3, [.int v1_size, .ref a1_values])), (a1_values, .inl (y.1, 20, .inl v1_values))]) (wr := [(a_highBehind, .inl (y.1, 4, .inl u9.1)), (a_lowBehind, .inl (y.1, 4, .inl u9.2)), (a1, .inr (3, [.int v1_size, .ref a1_values])), (a1_values, .inl (y.1, 20, .inl v1_values))]) (wv (As := [.long r11]) (rest := []) ⟨hx, hb, hml, hown, hts⟩ (c_X7_add l D y a a_rows a_slots a_lowBehind a_highBehind v_howMany_14 v_rounds v_isFound v_firstLetter v_secondLetter v_thirdLetter v_goal v_width v_rows_14 v_slots_14 r11 _ _ rfl _ (sat_bd2 h)) (cwV 1 hts gX7_makeRound_X7_add rfl rfl rfl (by decide +kernel) ⟨Nat.le_of_ble_eq_true rfl, Nat.le_of_ble_eq_true rfl⟩) hK hP hD [0, 3, 4] rfl rfl rfl 0 4 rfl rfl rfl rfl hl.1 rfl (Nat.le_of_ble_eq_true rfl) dX7_makeRound_51 ⟨Nat.zero_le _, Nat.zero_le _⟩) hS hP hD hA [0, 3, 4] [1, 2, 5, 6] [4, 0, 1, 5, 6, 2, 3] rfl rfl rfl (by decide) (fun _ => rfl) rfl (fun _ => rfl) (fun r13 u12 H locs h hP hD hS => ?_)
          refine lv_if_ne (tgt := 59) hx hb dX7_makeRound_54 (by decide) (fun c54 => ?_) (fun c54 => ?_)
          · have h := sat_f c54 h
            exact hJ59 x4_14 u12.1 u9.1 u9.2 u12.2.1 u12.2.2 ls H locs h hl hP hD hS
          · have h := sat_t c54 h
            refine lv_iconst (v := 0) hx hb dX7_makeRound_57 (by decide) ?_
            have h := hR14 _ (lk_r (sat_some h))
            exact W.zret (v := 0) hx hb hr rfl (fun t ht hW => ⟨⟨0, (u12.1, u9.1, u9.2, u12.2.1, u12.2.2), rfl, h, by rw [ht]; exact hP, va_K.moved hW.alike hK, hD⟩, hS.F ht⟩) hS.2.2 dX7_makeRound_58
  have h := sat_bdS h
  refine hL14 _ (fun u h => ?_) (fun z14 ls H locs h hl hP hD hS => ?_) 1000 0 v_howMany v_highBehind v_lowBehind v_rows v_slots ls s.heap [] h (lv_sub hl [2, 3, 4, 1, 0] rfl) hP hD hS
  · have h := lk_l h
    exact sat_some h
  · have h := lk_r h
    refine lv_iconst (v := 1) hx hb dX7_makeRound_110 (by decide) ?_
    have h := sat_some h
    exact W.zret (v := 1) hx hb hr rfl (fun t ht hW => ⟨⟨1, (z14.1, z14.2.1, z14.2.2.1, z14.2.2.2.1, z14.2.2.2.2), rfl, h, by rw [ht]; exact hP, va_K.moved hW.alike hK, hD⟩, hS.F ht⟩) hS.2.2 dX7_makeRound_111
