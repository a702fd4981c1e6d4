/-! X9_isSo -/
set_option maxHeartbeats 4000000 in
set_option maxRecDepth 100000 in
theorem c_X9_isSo (l : Launch) (D : va_G) (y : ClassId × ClassId × ClassId × ClassId) (a a_now a_undos a_seen a_isKept a_kept a_text a_read a_congruences a_terms : Nat) (v_undoMany : Int32) (v_undoAt : Int32) (v_seenMany : Int32) (v_letterMany : Int32) (v_readAt : Int32) (v_tokenAt : Int32) (v_token : Int32) (v_faultAt : Int32) (v_readItems : Int32) (v_congruenceMany : Int32) (v_termMany : Int32) (v_rounds : Int32) (v_now : Nat → Int32) (x1 : Int32) (x2 : Int32) (x3 : Int32) (x4 : Int32) (K : Int32 → Prop) (h : sat (m_X9_isSo v_now x1 x2 x3 x4) K) : Met l yX9_isSo wsX9_isSo ({ frames := 1, cells := 0, slots := 0, locals := 22 } : Room) (pR D y ([.ref a, .int x1, .int x2, .int x3, .int x4] : List Value) [(a, .inr (6, [.ref a_now, .int v_undoMany, .int v_undoAt, .ref a_undos, .int v_seenMany, .ref a_seen, .ref a_isKept, .ref a_kept, .int v_letterMany, .ref a_text, .int v_readAt, .int v_tokenAt, .int v_token, .int v_faultAt, .int v_readItems, .ref a_read, .int v_congruenceMany, .ref a_congruences, .int v_termMany, .int v_rounds, .ref a_terms])), (a_now, .inl (y.1, 21, .inl v_now))]) (qSi K) 0 0 (fun _ => False) := by
  refine Met.ofW (cc := cX9_isSo) (maxL := 5) (ret := (some .boolean)) (by decide) rfl ?_
  intro p e s m args below meth c s₁ B hml hv
  obtain ⟨rfl, hP, hK⟩ := hv
  have hx := B.exec
  have hb := B.bytes
  have hr := B.returns
  have hts := atoms_spec (ws := wsX9_isSo) B.pre
  have hown : s.vm.findClass RX9 = some m.cls := findClass_of_methodNamed B.named
  have hlocks := B.notSynchronized
  have hl := lv_entry ([.ref a, .int x1, .int x2, .int x3, .int x4] : List Value) (n := 5) (Nat.le_of_ble_eq_true rfl)
  rw [lg_entry_eq]
  generalize (lg_sl ([.ref a, .int x1, .int x2, .int x3, .int x4] : List Value) ++ List.replicate (5 - (lg_sl ([.ref a, .int x1, .int x2, .int x3, .int x4] : List Value)).length) Slot.unset).toArray = ls at hl ⊢
  have hl : lv_has ls 5 [(0, .ref a), (1, .int x1), (2, .int x2), (3, .int x3), (4, .int x4)] := hl
  unfold m_X9_isSo at h
  refine lv_iload_n hx hb dX9_isSo_0 rfl (lv_at hl 1 rfl) ?_
  by_cases c1_0 : x1 = 0
  · have h := sat_t c1_0 h
    refine lv_tableIn (tgt := 40) (off := 39) hx hb dX9_isSo_1 (by rw [c1_0]; decide) (by rw [c1_0]; decide) (by rw [c1_0]; rfl) (by decide) ?_
    refine lv_aload_n hx hb dX9_isSo_40 rfl (lv_at hl 0 rfl) ?_
    refine lv_iload_n hx hb dX9_isSo_41 rfl (lv_at hl 2 rfl) ?_
    refine lv_iload_n hx hb dX9_isSo_42 rfl (lv_at hl 2 rfl) ?_
    refine cr_i (rv (As := [.int x2, .int x2]) (rest := []) ⟨hx, hb, hml, hown, hts⟩ (c_X9_ff l D y a a_now a_undos a_seen a_isKept a_kept a_text a_read a_congruences a_terms v_undoMany v_undoAt v_seenMany v_letterMany v_readAt v_tokenAt v_token v_faultAt v_readItems v_congruenceMany v_termMany v_rounds v_now x2 x2 _ (sat_bind h)) (cwV 2 hts gX9_isSo_X9_ff rfl rfl rfl (by decide +kernel) ⟨Nat.le_of_ble_eq_true rfl, Nat.le_of_ble_eq_true rfl⟩) hK hP [0, 1] rfl 0 6 rfl rfl rfl rfl hl.1 rfl (Nat.le_of_ble_eq_true rfl) dX9_isSo_43 ⟨Nat.zero_le _, Nat.zero_le _⟩) (fun r1 h => ?_)
    refine lv_iload_n hx hb dX9_isSo_46 rfl (lv_at hl 2 rfl) ?_
    refine lv_icmp_ne (tgt := 54) hx hb dX9_isSo_47 (by decide) (fun c47 => ?_) (fun c47 => ?_)
    · have h := sat_f c47 h
      refine lv_iconst (v := 0) hx hb dX9_isSo_54 (by decide) ?_
      have h := sat_some h
      exact W.zret (v := 0) hx hb hr rfl (fun t ht _ => ⟨0, rfl, h, ht⟩) (fun _ hq => by cases hq) dX9_isSo_55
    · have h := sat_t c47 h
      refine lv_iconst (v := 1) hx hb dX9_isSo_50 (by decide) ?_
      refine lv_goto (tgt := 55) hx hb dX9_isSo_51 (by decide) ?_
      have h := sat_some h
      exact W.zret (v := 1) hx hb hr rfl (fun t ht _ => ⟨1, rfl, h, ht⟩) (fun _ hq => by cases hq) dX9_isSo_55
  have h := sat_f c1_0 h
  by_cases c1_1 : x1 = 1
  · have h := sat_t c1_1 h
    refine lv_tableIn (tgt := 56) (off := 55) hx hb dX9_isSo_1 (by rw [c1_1]; decide) (by rw [c1_1]; decide) (by rw [c1_1]; rfl) (by decide) ?_
    refine lv_aload_n hx hb dX9_isSo_56 rfl (lv_at hl 0 rfl) ?_
    refine lv_iload_n hx hb dX9_isSo_57 rfl (lv_at hl 2 rfl) ?_
    refine lv_iload_n hx hb dX9_isSo_58 rfl (lv_at hl 3 rfl) ?_
    refine cr_i (rv (As := [.int x2, .int x3]) (rest := []) ⟨hx, hb, hml, hown, hts⟩ (c_X9_ff l D y a a_now a_undos a_seen a_isKept a_kept a_text a_read a_congruences a_terms v_undoMany v_undoAt v_seenMany v_letterMany v_readAt v_tokenAt v_token v_faultAt v_readItems v_congruenceMany v_termMany v_rounds v_now x2 x3 _ (sat_bind h)) (cwV 2 hts gX9_isSo_X9_ff rfl rfl rfl (by decide +kernel) ⟨Nat.le_of_ble_eq_true rfl, Nat.le_of_ble_eq_true rfl⟩) hK hP [0, 1] rfl 0 6 rfl rfl rfl rfl hl.1 rfl (Nat.le_of_ble_eq_true rfl) dX9_isSo_59 ⟨Nat.zero_le _, Nat.zero_le _⟩) (fun r2 h => ?_)
    refine lv_aload_n hx hb dX9_isSo_62 rfl (lv_at hl 0 rfl) ?_
    refine lv_iload_n hx hb dX9_isSo_63 rfl (lv_at hl 3 rfl) ?_
    refine lv_iload_n hx hb dX9_isSo_64 rfl (lv_at hl 2 rfl) ?_
    refine cr_i (rv (As := [.int x3, .int x2]) (rest := [.int r2]) ⟨hx, hb, hml, hown, hts⟩ (c_X9_ff l D y a a_now a_undos a_seen a_isKept a_kept a_text a_read a_congruences a_terms v_undoMany v_undoAt v_seenMany v_letterMany v_readAt v_tokenAt v_token v_faultAt v_readItems v_congruenceMany v_termMany v_rounds v_now x3 x2 _ (sat_bind h)) (cwV 2 hts gX9_isSo_X9_ff rfl rfl rfl (by decide +kernel) ⟨Nat.le_of_ble_eq_true rfl, Nat.le_of_ble_eq_true rfl⟩) hK hP [0, 1] rfl 0 6 rfl rfl rfl rfl hl.1 rfl (Nat.le_of_ble_eq_true rfl) dX9_isSo_65 ⟨Nat.zero_le _, Nat.zero_le _⟩) (fun r3 h => ?_)
    refine lv_icmp_ne (tgt := 75) hx hb dX9_isSo_68 (by decide) (fun c68 => ?_) (fun c68 => ?_)
    · have h := sat_f c68 h
      refine lv_iconst (v := 0) hx hb dX9_isSo_75 (by decide) ?_
      have h := sat_some h
      exact W.zret (v := 0) hx hb hr rfl (fun t ht _ => ⟨0, rfl, h, ht⟩) (fun _ hq => by cases hq) dX9_isSo_76
    · have h := sat_t c68 h
      refine lv_iconst (v := 1) hx hb dX9_isSo_71 (by decide) ?_
      refine lv_goto (tgt := 76) hx hb dX9_isSo_72 (by decide) ?_
      have h := sat_some h
      exact W.zret (v := 1) hx hb hr rfl (fun t ht _ => ⟨1, rfl, h, ht⟩) (fun _ hq => by cases hq) dX9_isSo_76
  have h := sat_f c1_1 h
  by_cases c1_2 : x1 = 2
  · have h := sat_t c1_2 h
    refine lv_tableIn (tgt := 77) (off := 76) hx hb dX9_isSo_1 (by rw [c1_2]; decide) (by rw [c1_2]; decide) (by rw [c1_2]; rfl) (by decide) ?_
    refine lv_aload_n hx hb dX9_isSo_77 rfl (lv_at hl 0 rfl) ?_
    refine lv_aload_n hx hb dX9_isSo_78 rfl (lv_at hl 0 rfl) ?_
    refine lv_iload_n hx hb dX9_isSo_79 rfl (lv_at hl 2 rfl) ?_
    refine lv_iload_n hx hb dX9_isSo_80 rfl (lv_at hl 3 rfl) ?_
    refine cr_i (rv (As := [.int x2, .int x3]) (rest := [.ref a]) ⟨hx, hb, hml, hown, hts⟩ (c_X9_ff l D y a a_now a_undos a_seen a_isKept a_kept a_text a_read a_congruences a_terms v_undoMany v_undoAt v_seenMany v_letterMany v_readAt v_tokenAt v_token v_faultAt v_readItems v_congruenceMany v_termMany v_rounds v_now x2 x3 _ (sat_bind h)) (cwV 2 hts gX9_isSo_X9_ff rfl rfl rfl (by decide +kernel) ⟨Nat.le_of_ble_eq_true rfl, Nat.le_of_ble_eq_true rfl⟩) hK hP [0, 1] rfl 0 6 rfl rfl rfl rfl hl.1 rfl (Nat.le_of_ble_eq_true rfl) dX9_isSo_81 ⟨Nat.zero_le _, Nat.zero_le _⟩) (fun r4 h => ?_)
    refine lv_iload hx hb dX9_isSo_84 (lv_at hl 4 rfl) ?_
    refine cr_i (rv (As := [.int r4, .int x4]) (rest := []) ⟨hx, hb, hml, hown, hts⟩ (c_X9_ff l D y a a_now a_undos a_seen a_isKept a_kept a_text a_read a_congruences a_terms v_undoMany v_undoAt v_seenMany v_letterMany v_readAt v_tokenAt v_token v_faultAt v_readItems v_congruenceMany v_termMany v_rounds v_now r4 x4 _ (sat_bind h)) (cwV 2 hts gX9_isSo_X9_ff rfl rfl rfl (by decide +kernel) ⟨Nat.le_of_ble_eq_true rfl, Nat.le_of_ble_eq_true rfl⟩) hK hP [0, 1] rfl 0 6 rfl rfl rfl rfl hl.1 rfl (Nat.le_of_ble_eq_true rfl) dX9_isSo_86 ⟨Nat.zero_le _, Nat.zero_le _⟩) (fun r5 h => ?_)
    refine lv_aload_n hx hb dX9_isSo_89 rfl (lv_at hl 0 rfl) ?_
    refine lv_iload_n hx hb dX9_isSo_90 rfl (lv_at hl 2 rfl) ?_
    refine lv_aload_n hx hb dX9_isSo_91 rfl (lv_at hl 0 rfl) ?_
    refine lv_iload_n hx hb dX9_isSo_92 rfl (lv_at hl 3 rfl) ?_
    refine lv_iload hx hb dX9_isSo_93 (lv_at hl 4 rfl) ?_
    refine cr_i (rv (As := [.int x3, .int x4]) (rest := [.int x2, .ref a, .int r5]) ⟨hx, hb, hml, hown, hts⟩ (c_X9_ff l D y a a_now a_undos a_seen a_isKept a_kept a_text a_read a_congruences a_terms v_undoMany v_undoAt v_seenMany v_letterMany v_readAt v_tokenAt v_token v_faultAt v_readItems v_congruenceMany v_termMany v_rounds v_now x3 x4 _ (sat_bind h)) (cwV 2 hts gX9_isSo_X9_ff rfl rfl rfl (by decide +kernel) ⟨Nat.le_of_ble_eq_true rfl, Nat.le_of_ble_eq_true rfl⟩) hK hP [0, 1] rfl 0 6 rfl rfl rfl rfl hl.1 rfl (Nat.le_of_ble_eq_true rfl) dX9_isSo_95 ⟨Nat.zero_le _, Nat.zero_le _⟩) (fun r6 h => ?_)
    refine cr_i (rv (As := [.int x2, .int r6]) (rest := [.int r5]) ⟨hx, hb, hml, hown, hts⟩ (c_X9_ff l D y a a_now a_undos a_seen a_isKept a_kept a_text a_read a_congruences a_terms v_undoMany v_undoAt v_seenMany v_letterMany v_readAt v_tokenAt v_token v_faultAt v_readItems v_congruenceMany v_termMany v_rounds v_now x2 r6 _ (sat_bind h)) (cwV 2 hts gX9_isSo_X9_ff rfl rfl rfl (by decide +kernel) ⟨Nat.le_of_ble_eq_true rfl, Nat.le_of_ble_eq_true rfl⟩) hK hP [0, 1] rfl 0 6 rfl rfl rfl rfl hl.1 rfl (Nat.le_of_ble_eq_true rfl) dX9_isSo_98 ⟨Nat.zero_le _, Nat.zero_le _⟩) (fun r7 h => ?_)
    refine lv_icmp_ne (tgt := 108) hx hb dX9_isSo_101 (by decide) (fun c101 => ?_) (fun c101 => ?_)
    · have h := sat_f c101 h
      refine lv_iconst (v := 0) hx hb dX9_isSo_108 (by decide) ?_
      have h := sat_some h
      exact W.zret (v := 0) hx hb hr rfl (fun t ht _ => ⟨0, rfl, h, ht⟩) (fun _ hq => by cases hq) dX9_isSo_109
    · have h := sat_t c101 h
      refine lv_iconst (v := 1) hx hb dX9_isSo_104 (by decide) ?_
      refine lv_goto (tgt := 109) hx hb dX9_isSo_105 (by decide) ?_
      have h := sat_some h
      exact W.zret (v := 1) hx hb hr rfl (fun t ht _ => ⟨1, rfl, h, ht⟩) (fun _ hq => by cases hq) dX9_isSo_109
  have h := sat_f c1_2 h
  by_cases c1_3 : x1 = 3
  · have h := sat_t c1_3 h
    refine lv_tableIn (tgt := 110) (off := 109) hx hb dX9_isSo_1 (by rw [c1_3]; decide) (by rw [c1_3]; decide) (by rw [c1_3]; rfl) (by decide) ?_
    refine lv_aload_n hx hb dX9_isSo_110 rfl (lv_at hl 0 rfl) ?_
    refine lv_aload_n hx hb dX9_isSo_111 rfl (lv_at hl 0 rfl) ?_
    refine lv_iload_n hx hb dX9_isSo_112 rfl (lv_at hl 2 rfl) ?_
    refine cr_i (rv (As := [.int x2]) (rest := [.ref a]) ⟨hx, hb, hml, hown, hts⟩ (c_X9_gg l D y a a_now a_undos a_seen a_isKept a_kept a_text a_read a_congruences a_terms v_undoMany v_undoAt v_seenMany v_letterMany v_readAt v_tokenAt v_token v_faultAt v_readItems v_congruenceMany v_termMany v_rounds v_now x2 _ (sat_bind h)) (cwV 1 hts gX9_isSo_X9_gg rfl rfl rfl (by decide +kernel) ⟨Nat.le_of_ble_eq_true rfl, Nat.le_of_ble_eq_true rfl⟩) hK hP [0, 1] rfl 0 6 rfl rfl rfl rfl hl.1 rfl (Nat.le_of_ble_eq_true rfl) dX9_isSo_113 ⟨Nat.zero_le _, Nat.zero_le _⟩) (fun r8 h => ?_)
    refine cr_i (rv (As := [.int r8]) (rest := []) ⟨hx, hb, hml, hown, hts⟩ (c_X9_gg l D y a a_now a_undos a_seen a_isKept a_kept a_text a_read a_congruences a_terms v_undoMany v_undoAt v_seenMany v_letterMany v_readAt v_tokenAt v_token v_faultAt v_readItems v_congruenceMany v_termMany v_rounds v_now r8 _ (sat_bind h)) (cwV 1 hts gX9_isSo_X9_gg rfl rfl rfl (by decide +kernel) ⟨Nat.le_of_ble_eq_true rfl, Nat.le_of_ble_eq_true rfl⟩) hK hP [0, 1] rfl 0 6 rfl rfl rfl rfl hl.1 rfl (Nat.le_of_ble_eq_true rfl) dX9_isSo_116 ⟨Nat.zero_le _, Nat.zero_le _⟩) (fun r9 h => ?_)
    refine lv_iload_n hx hb dX9_isSo_119 rfl (lv_at hl 2 rfl) ?_
    refine lv_icmp_ne (tgt := 127) hx hb dX9_isSo_120 (by decide) (fun c120 => ?_) (fun c120 => ?_)
    · have h := sat_f c120 h
      refine lv_iconst (v := 0) hx hb dX9_isSo_127 (by decide) ?_
      have h := sat_some h
      exact W.zret (v := 0) hx hb hr rfl (fun t ht _ => ⟨0, rfl, h, ht⟩) (fun _ hq => by cases hq) dX9_isSo_128
    · have h := sat_t c120 h
      refine lv_iconst (v := 1) hx hb dX9_isSo_123 (by decide) ?_
      refine lv_goto (tgt := 128) hx hb dX9_isSo_124 (by decide) ?_
      have h := sat_some h
      exact W.zret (v := 1) hx hb hr rfl (fun t ht _ => ⟨1, rfl, h, ht⟩) (fun _ hq => by cases hq) dX9_isSo_128
  have h := sat_f c1_3 h
  by_cases c1_4 : x1 = 4
  · have h := sat_t c1_4 h
    refine lv_tableIn (tgt := 129) (off := 128) hx hb dX9_isSo_1 (by rw [c1_4]; decide) (by rw [c1_4]; decide) (by rw [c1_4]; rfl) (by decide) ?_
    refine lv_aload_n hx hb dX9_isSo_129 rfl (lv_at hl 0 rfl) ?_
    refine lv_aload_n hx hb dX9_isSo_130 rfl (lv_at hl 0 rfl) ?_
    refine lv_iload_n hx hb dX9_isSo_131 rfl (lv_at hl 2 rfl) ?_
    refine lv_iload_n hx hb dX9_isSo_132 rfl (lv_at hl 3 rfl) ?_
    refine cr_i (rv (As := [.int x2, .int x3]) (rest := [.ref a]) ⟨hx, hb, hml, hown, hts⟩ (c_X9_ff l D y a a_now a_undos a_seen a_isKept a_kept a_text a_read a_congruences a_terms v_undoMany v_undoAt v_seenMany v_letterMany v_readAt v_tokenAt v_token v_faultAt v_readItems v_congruenceMany v_termMany v_rounds v_now x2 x3 _ (sat_bind h)) (cwV 2 hts gX9_isSo_X9_ff rfl rfl rfl (by decide +kernel) ⟨Nat.le_of_ble_eq_true rfl, Nat.le_of_ble_eq_true rfl⟩) hK hP [0, 1] rfl 0 6 rfl rfl rfl rfl hl.1 rfl (Nat.le_of_ble_eq_true rfl) dX9_isSo_133 ⟨Nat.zero_le _, Nat.zero_le _⟩) (fun r10 h => ?_)
    refine cr_i (rv (As := [.int r10]) (rest := []) ⟨hx, hb, hml, hown, hts⟩ (c_X9_gg l D y a a_now a_undos a_seen a_isKept a_kept a_text a_read a_congruences a_terms v_undoMany v_undoAt v_seenMany v_letterMany v_readAt v_tokenAt v_token v_faultAt v_readItems v_congruenceMany v_termMany v_rounds v_now r10 _ (sat_bind h)) (cwV 1 hts gX9_isSo_X9_gg rfl rfl rfl (by decide +kernel) ⟨Nat.le_of_ble_eq_true rfl, Nat.le_of_ble_eq_true rfl⟩) hK hP [0, 1] rfl 0 6 rfl rfl rfl rfl hl.1 rfl (Nat.le_of_ble_eq_true rfl) dX9_isSo_136 ⟨Nat.zero_le _, Nat.zero_le _⟩) (fun r11 h => ?_)
    refine lv_aload_n hx hb dX9_isSo_139 rfl (lv_at hl 0 rfl) ?_
    refine lv_aload_n hx hb dX9_isSo_140 rfl (lv_at hl 0 rfl) ?_
    refine lv_iload_n hx hb dX9_isSo_141 rfl (lv_at hl 3 rfl) ?_
    refine cr_i (rv (As := [.int x3]) (rest := [.ref a, .int r11]) ⟨hx, hb, hml, hown, hts⟩ (c_X9_gg l D y a a_now a_undos a_seen a_isKept a_kept a_text a_read a_congruences a_terms v_undoMany v_undoAt v_seenMany v_letterMany v_readAt v_tokenAt v_token v_faultAt v_readItems v_congruenceMany v_termMany v_rounds v_now x3 _ (sat_bind h)) (cwV 1 hts gX9_isSo_X9_gg rfl rfl rfl (by decide +kernel) ⟨Nat.le_of_ble_eq_true rfl, Nat.le_of_ble_eq_true rfl⟩) hK hP [0, 1] rfl 0 6 rfl rfl rfl rfl hl.1 rfl (Nat.le_of_ble_eq_true rfl) dX9_isSo_142 ⟨Nat.zero_le _, Nat.zero_le _⟩) (fun r12 h => ?_)
    refine lv_aload_n hx hb dX9_isSo_145 rfl (lv_at hl 0 rfl) ?_
    refine lv_iload_n hx hb dX9_isSo_146 rfl (lv_at hl 2 rfl) ?_
    refine cr_i (rv (As := [.int x2]) (rest := [.int r12, .ref a, .int r11]) ⟨hx, hb, hml, hown, hts⟩ (c_X9_gg l D y a a_now a_undos a_seen a_isKept a_kept a_text a_read a_congruences a_terms v_undoMany v_undoAt v_seenMany v_letterMany v_readAt v_tokenAt v_token v_faultAt v_readItems v_congruenceMany v_termMany v_rounds v_now x2 _ (sat_bind h)) (cwV 1 hts gX9_isSo_X9_gg rfl rfl rfl (by decide +kernel) ⟨Nat.le_of_ble_eq_true rfl, Nat.le_of_ble_eq_true rfl⟩) hK hP [0, 1] rfl 0 6 rfl rfl rfl rfl hl.1 rfl (Nat.le_of_ble_eq_true rfl) dX9_isSo_147 ⟨Nat.zero_le _, Nat.zero_le _⟩) (fun r13 h => ?_)
    refine cr_i (rv (As := [.int r12, .int r13]) (rest := [.int r11]) ⟨hx, hb, hml, hown, hts⟩ (c_X9_ff l D y a a_now a_undos a_seen a_isKept a_kept a_text a_read a_congruences a_terms v_undoMany v_undoAt v_seenMany v_letterMany v_readAt v_tokenAt v_token v_faultAt v_readItems v_congruenceMany v_termMany v_rounds v_now r12 r13 _ (sat_bind h)) (cwV 2 hts gX9_isSo_X9_ff rfl rfl rfl (by decide +kernel) ⟨Nat.le_of_ble_eq_true rfl, Nat.le_of_ble_eq_true rfl⟩) hK hP [0, 1] rfl 0 6 rfl rfl rfl rfl hl.1 rfl (Nat.le_of_ble_eq_true rfl) dX9_isSo_150 ⟨Nat.zero_le _, Nat.zero_le _⟩) (fun r14 h => ?_)
    refine lv_icmp_ne (tgt := 160) hx hb dX9_isSo_153 (by decide) (fun c153 => ?_) (fun c153 => ?_)
    · have h := sat_f c153 h
      refine lv_iconst (v := 0) hx hb dX9_isSo_160 (by decide) ?_
      have h := sat_some h
      exact W.zret (v := 0) hx hb hr rfl (fun t ht _ => ⟨0, rfl, h, ht⟩) (fun _ hq => by cases hq) dX9_isSo_161
    · have h := sat_t c153 h
      refine lv_iconst (v := 1) hx hb dX9_isSo_156 (by decide) ?_
      refine lv_goto (tgt := 161) hx hb dX9_isSo_157 (by decide) ?_
      have h := sat_some h
      exact W.zret (v := 1) hx hb hr rfl (fun t ht _ => ⟨1, rfl, h, ht⟩) (fun _ hq => by cases hq) dX9_isSo_161
  have h := sat_f c1_4 h
  by_cases c1_5 : x1 = 5
  · have h := sat_t c1_5 h
    refine lv_tableIn (tgt := 162) (off := 161) hx hb dX9_isSo_1 (by rw [c1_5]; decide) (by rw [c1_5]; decide) (by rw [c1_5]; rfl) (by decide) ?_
    refine lv_aload_n hx hb dX9_isSo_162 rfl (lv_at hl 0 rfl) ?_
    refine lv_iload_n hx hb dX9_isSo_163 rfl (lv_at hl 2 rfl) ?_
    refine lv_aload_n hx hb dX9_isSo_164 rfl (lv_at hl 0 rfl) ?_
    refine lv_iload_n hx hb dX9_isSo_165 rfl (lv_at hl 2 rfl) ?_
    refine lv_iload_n hx hb dX9_isSo_166 rfl (lv_at hl 3 rfl) ?_
    refine cr_i (rv (As := [.int x2, .int x3]) (rest := [.int x2, .ref a]) ⟨hx, hb, hml, hown, hts⟩ (c_X9_ff l D y a a_now a_undos a_seen a_isKept a_kept a_text a_read a_congruences a_terms v_undoMany v_undoAt v_seenMany v_letterMany v_readAt v_tokenAt v_token v_faultAt v_readItems v_congruenceMany v_termMany v_rounds v_now x2 x3 _ (sat_bind h)) (cwV 2 hts gX9_isSo_X9_ff rfl rfl rfl (by decide +kernel) ⟨Nat.le_of_ble_eq_true rfl, Nat.le_of_ble_eq_true rfl⟩) hK hP [0, 1] rfl 0 6 rfl rfl rfl rfl hl.1 rfl (Nat.le_of_ble_eq_true rfl) dX9_isSo_167 ⟨Nat.zero_le _, Nat.zero_le _⟩) (fun r15 h => ?_)
    refine cr_i (rv (As := [.int x2, .int r15]) (rest := []) ⟨hx, hb, hml, hown, hts⟩ (c_X9_ff l D y a a_now a_undos a_seen a_isKept a_kept a_text a_read a_congruences a_terms v_undoMany v_undoAt v_seenMany v_letterMany v_readAt v_tokenAt v_token v_faultAt v_readItems v_congruenceMany v_termMany v_rounds v_now x2 r15 _ (sat_bind h)) (cwV 2 hts gX9_isSo_X9_ff rfl rfl rfl (by decide +kernel) ⟨Nat.le_of_ble_eq_true rfl, Nat.le_of_ble_eq_true rfl⟩) hK hP [0, 1] rfl 0 6 rfl rfl rfl rfl hl.1 rfl (Nat.le_of_ble_eq_true rfl) dX9_isSo_170 ⟨Nat.zero_le _, Nat.zero_le _⟩) (fun r16 h => ?_)
    refine lv_aload_n hx hb dX9_isSo_173 rfl (lv_at hl 0 rfl) ?_
    refine lv_iload_n hx hb dX9_isSo_174 rfl (lv_at hl 2 rfl) ?_
    refine lv_iload_n hx hb dX9_isSo_175 rfl (lv_at hl 3 rfl) ?_
    refine cr_i (rv (As := [.int x2, .int x3]) (rest := [.int r16]) ⟨hx, hb, hml, hown, hts⟩ (c_X9_ff l D y a a_now a_undos a_seen a_isKept a_kept a_text a_read a_congruences a_terms v_undoMany v_undoAt v_seenMany v_letterMany v_readAt v_tokenAt v_token v_faultAt v_readItems v_congruenceMany v_termMany v_rounds v_now x2 x3 _ (sat_bind h)) (cwV 2 hts gX9_isSo_X9_ff rfl rfl rfl (by decide +kernel) ⟨Nat.le_of_ble_eq_true rfl, Nat.le_of_ble_eq_true rfl⟩) hK hP [0, 1] rfl 0 6 rfl rfl rfl rfl hl.1 rfl (Nat.le_of_ble_eq_true rfl) dX9_isSo_176 ⟨Nat.zero_le _, Nat.zero_le _⟩) (fun r17 h => ?_)
    refine lv_icmp_ne (tgt := 186) hx hb dX9_isSo_179 (by decide) (fun c179 => ?_) (fun c179 => ?_)
    · have h := sat_f c179 h
      refine lv_iconst (v := 0) hx hb dX9_isSo_186 (by decide) ?_
      have h := sat_some h
      exact W.zret (v := 0) hx hb hr rfl (fun t ht _ => ⟨0, rfl, h, ht⟩) (fun _ hq => by cases hq) dX9_isSo_187
    · have h := sat_t c179 h
      refine lv_iconst (v := 1) hx hb dX9_isSo_182 (by decide) ?_
      refine lv_goto (tgt := 187) hx hb dX9_isSo_183 (by decide) ?_
      have h := sat_some h
      exact W.zret (v := 1) hx hb hr rfl (fun t ht _ => ⟨1, rfl, h, ht⟩) (fun _ hq => by cases hq) dX9_isSo_187
  have h := sat_f c1_5 h
  have e1_0 : (x1).toInt ≠ 0 := fun q => c1_0 (Int32.toInt_inj.mp (q.trans rfl))
  have e1_1 : (x1).toInt ≠ 1 := fun q => c1_1 (Int32.toInt_inj.mp (q.trans rfl))
  have e1_2 : (x1).toInt ≠ 2 := fun q => c1_2 (Int32.toInt_inj.mp (q.trans rfl))
  have e1_3 : (x1).toInt ≠ 3 := fun q => c1_3 (Int32.toInt_inj.mp (q.trans rfl))
  have e1_4 : (x1).toInt ≠ 4 := fun q => c1_4 (Int32.toInt_inj.mp (q.trans rfl))
  have e1_5 : (x1).toInt ≠ 5 := fun q => c1_5 (Int32.toInt_inj.mp (q.trans rfl))
  refine lv_tableOut (tgt := 188) hx hb dX9_isSo_1 (by omega) (by decide) ?_
  refine lv_aload_n hx hb dX9_isSo_188 rfl (lv_at hl 0 rfl) ?_
  refine lv_iload_n hx hb dX9_isSo_189 rfl (lv_at hl 2 rfl) ?_
  refine lv_aload_n hx hb dX9_isSo_190 rfl (lv_at hl 0 rfl) ?_
  refine lv_iload_n hx hb dX9_isSo_191 rfl (lv_at hl 2 rfl) ?_
  refine cr_i (rv (As := [.int x2]) (rest := [.int x2, .ref a]) ⟨hx, hb, hml, hown, hts⟩ (c_X9_gg l D y a a_now a_undos a_seen a_isKept a_kept a_text a_read a_congruences a_terms v_undoMany v_undoAt v_seenMany v_letterMany v_readAt v_tokenAt v_token v_faultAt v_readItems v_congruenceMany v_termMany v_rounds v_now x2 _ (sat_bind h)) (cwV 1 hts gX9_isSo_X9_gg rfl rfl rfl (by decide +kernel) ⟨Nat.le_of_ble_eq_true rfl, Nat.le_of_ble_eq_true rfl⟩) hK hP [0, 1] rfl 0 6 rfl rfl rfl rfl hl.1 rfl (Nat.le_of_ble_eq_true rfl) dX9_isSo_192 ⟨Nat.zero_le _, Nat.zero_le _⟩) (fun r18 h => ?_)
  refine cr_i (rv (As := [.int x2, .int r18]) (rest := []) ⟨hx, hb, hml, hown, hts⟩ (c_X9_ff l D y a a_now a_undos a_seen a_isKept a_kept a_text a_read a_congruences a_terms v_undoMany v_undoAt v_seenMany v_letterMany v_readAt v_tokenAt v_token v_faultAt v_readItems v_congruenceMany v_termMany v_rounds v_now x2 r18 _ (sat_bind h)) (cwV 2 hts gX9_isSo_X9_ff rfl rfl rfl (by decide +kernel) ⟨Nat.le_of_ble_eq_true rfl, Nat.le_of_ble_eq_true rfl⟩) hK hP [0, 1] rfl 0 6 rfl rfl rfl rfl hl.1 rfl (Nat.le_of_ble_eq_true rfl) dX9_isSo_195 ⟨Nat.zero_le _, Nat.zero_le _⟩) (fun r19 h => ?_)
  refine lv_aload_n hx hb dX9_isSo_198 rfl (lv_at hl 0 rfl) ?_
  refine lv_iload_n hx hb dX9_isSo_199 rfl (lv_at hl 3 rfl) ?_
  refine lv_aload_n hx hb dX9_isSo_200 rfl (lv_at hl 0 rfl) ?_
  refine lv_iload_n hx hb dX9_isSo_201 rfl (lv_at hl 3 rfl) ?_
  refine cr_i (rv (As := [.int x3]) (rest := [.int x3, .ref a, .int r19]) ⟨hx, hb, hml, hown, hts⟩ (c_X9_gg l D y a a_now a_undos a_seen a_isKept a_kept a_text a_read a_congruences a_terms v_undoMany v_undoAt v_seenMany v_letterMany v_readAt v_tokenAt v_token v_faultAt v_readItems v_congruenceMany v_termMany v_rounds v_now x3 _ (sat_bind h)) (cwV 1 hts gX9_isSo_X9_gg rfl rfl rfl (by decide +kernel) ⟨Nat.le_of_ble_eq_true rfl, Nat.le_of_ble_eq_true rfl⟩) hK hP [0, 1] rfl 0 6 rfl rfl rfl rfl hl.1 rfl (Nat.le_of_ble_eq_true rfl) dX9_isSo_202 ⟨Nat.zero_le _, Nat.zero_le _⟩) (fun r20 h => ?_)
  refine cr_i (rv (As := [.int x3, .int r20]) (rest := [.int r19]) ⟨hx, hb, hml, hown, hts⟩ (c_X9_ff l D y a a_now a_undos a_seen a_isKept a_kept a_text a_read a_congruences a_terms v_undoMany v_undoAt v_seenMany v_letterMany v_readAt v_tokenAt v_token v_faultAt v_readItems v_congruenceMany v_termMany v_rounds v_now x3 r20 _ (sat_bind h)) (cwV 2 hts gX9_isSo_X9_ff rfl rfl rfl (by decide +kernel) ⟨Nat.le_of_ble_eq_true rfl, Nat.le_of_ble_eq_true rfl⟩) hK hP [0, 1] rfl 0 6 rfl rfl rfl rfl hl.1 rfl (Nat.le_of_ble_eq_true rfl) dX9_isSo_205 ⟨Nat.zero_le _, Nat.zero_le _⟩) (fun r21 h => ?_)
  refine lv_icmp_ne (tgt := 215) hx hb dX9_isSo_208 (by decide) (fun c208 => ?_) (fun c208 => ?_)
  · have h := sat_f c208 h
    refine lv_iconst (v := 0) hx hb dX9_isSo_215 (by decide) ?_
    have h := sat_some h
    exact W.zret (v := 0) hx hb hr rfl (fun t ht _ => ⟨0, rfl, h, ht⟩) (fun _ hq => by cases hq) dX9_isSo_216
  · have h := sat_t c208 h
    refine lv_iconst (v := 1) hx hb dX9_isSo_211 (by decide) ?_
    refine lv_goto (tgt := 216) hx hb dX9_isSo_212 (by decide) ?_
    have h := sat_some h
    exact W.zret (v := 1) hx hb hr rfl (fun t ht _ => ⟨1, rfl, h, ht⟩) (fun _ hq => by cases hq) dX9_isSo_216

/-! X9_named -/
set_option maxHeartbeats 4000000 in
set_option maxRecDepth 100000 in
theorem c_X9_named (l : Launch) (D : va_G) (y : ClassId × ClassId × ClassId × ClassId) (x0 : Int32) (K : Int32 → Prop) (h : sat (m_X9_named x0) K) : Met l yX9_named wsX9_named ({ frames := 0, cells := 0, slots := 0, locals := 0 } : Room) (pR D y ([.int x0] : List Value) []) (qSi K) 0 0 (fun _ => False) := by
  refine Met.ofW (cc := cX9_named) (maxL := 1) (ret := (some .int)) (by decide) rfl ?_
  intro p e s m args below meth c s₁ B hml hv
  obtain ⟨rfl, hP, hK⟩ := hv
  have hx := B.exec
  have hb := B.bytes
  have hr := B.returns
  have hts := atoms_spec (ws := wsX9_named) B.pre
  have hown : s.vm.findClass RX9 = some m.cls := findClass_of_methodNamed B.named
  have hlocks := B.notSynchronized
  have hl := lv_entry ([.int x0] : List Value) (n := 1) (Nat.le_of_ble_eq_true rfl)
  rw [lg_entry_eq]
  generalize (lg_sl ([.int x0] : List Value) ++ List.replicate (1 - (lg_sl ([.int x0] : List Value)).length) Slot.unset).toArray = ls at hl ⊢
  have hl : lv_has ls 1 [(0, .int x0)] := hl
  unfold m_X9_named at h
  refine lv_iload_n hx hb dX9_named_0 rfl (lv_at hl 0 rfl) ?_
  refine lv_if_eq (tgt := 9) hx hb dX9_named_1 (by decide) (fun c1 => ?_) (fun c1 => ?_)
  · have h := sat_t c1 h
    refine lv_iconst (v := 1) hx hb dX9_named_9 (by decide) ?_
    refine lv_goto (tgt := 23) hx hb dX9_named_10 (by decide) ?_
    have h := sat_some h
    exact W.iret (v := 1) hx hb hr (fun t ht _ => ⟨1, rfl, h, ht⟩) (fun _ hq => by cases hq) dX9_named_23
  · have h := sat_f c1 h
    refine lv_iload_n hx hb dX9_named_4 rfl (lv_at hl 0 rfl) ?_
    refine lv_iconst (v := 3) hx hb dX9_named_5 (by decide) ?_
    refine lv_icmp_ne (tgt := 13) hx hb dX9_named_6 (by decide) (fun c6 => ?_) (fun c6 => ?_)
    · have h := sat_f c6 h
      refine lv_iload_n hx hb dX9_named_13 rfl (lv_at hl 0 rfl) ?_
      refine lv_iconst (v := 2) hx hb dX9_named_14 (by decide) ?_
      refine lv_icmp_ne (tgt := 22) hx hb dX9_named_15 (by decide) (fun c15 => ?_) (fun c15 => ?_)
      · have h := sat_f c15 h
        refine lv_iconst (v := 2) hx hb dX9_named_22 (by decide) ?_
        have h := sat_some h
        exact W.iret (v := 2) hx hb hr (fun t ht _ => ⟨2, rfl, h, ht⟩) (fun _ hq => by cases hq) dX9_named_23
      · have h := sat_t c15 h
        refine lv_iconst (v := 3) hx hb dX9_named_18 (by decide) ?_
        refine lv_goto (tgt := 23) hx hb dX9_named_19 (by decide) ?_
        have h := sat_some h
        exact W.iret (v := 3) hx hb hr (fun t ht _ => ⟨3, rfl, h, ht⟩) (fun _ hq => by cases hq) dX9_named_23
    · have h := sat_t c6 h
      refine lv_iconst (v := 1) hx hb dX9_named_9 (by decide) ?_
      refine lv_goto (tgt := 23) hx hb dX9_named_10 (by decide) ?_
      have h := sat_some h
      exact W.iret (v := 1) hx hb hr (fun t ht _ => ⟨1, rfl, h, ht⟩) (fun _ hq => by cases hq) dX9_named_23

/-! X9_firstOf -/
set_option maxHeartbeats 4000000 in
set_option maxRecDepth 100000 in
theorem c_X9_firstOf (l : Launch) (D : va_G) (y : ClassId × ClassId × ClassId × ClassId) (a a_now a_undos a_seen a_isKept a_kept a_text a_read a_congruences a_terms : Nat) (v_undoMany : Int32) (v_undoAt : Int32) (v_seenMany : Int32) (v_letterMany : Int32) (v_readAt : Int32) (v_tokenAt : Int32) (v_token : Int32) (v_faultAt : Int32) (v_readItems : Int32) (v_congruenceMany : Int32) (v_termMany : Int32) (v_rounds : Int32) (v_now : Nat → Int32) (x1 : Int32) (K : Int32 → Prop) (h : sat (m_X9_firstOf v_now x1) K) : Met l yX9_firstOf wsX9_firstOf ({ frames := 2, cells := 0, slots := 0, locals := 46 } : Room) (pR D y ([.ref a, .int x1] : List Value) [(a, .inr (6, [.ref a_now, .int v_undoMany, .int v_undoAt, .ref a_undos, .int v_seenMany, .ref a_seen, .ref a_isKept, .ref a_kept, .int v_letterMany, .ref a_text, .int v_readAt, .int v_tokenAt, .int v_token, .int v_faultAt, .int v_readItems, .ref a_read, .int v_congruenceMany, .ref a_congruences, .int v_termMany, .int v_rounds, .ref a_terms])), (a_now, .inl (y.1, 21, .inl v_now))]) (qSi K) 0 0 (fun _ => False) := by
  refine Met.ofW (cc := cX9_firstOf) (maxL := 6) (ret := (some .int)) (by decide) rfl ?_
  intro p e s m args below meth c s₁ B hml hv
  obtain ⟨rfl, hP, hK⟩ := hv
  have hx := B.exec
  have hb := B.bytes
  have hr := B.returns
  have hts := atoms_spec (ws := wsX9_firstOf) B.pre
  have hown : s.vm.findClass RX9 = some m.cls := findClass_of_methodNamed B.named
  have hlocks := B.notSynchronized
  have hl := lv_entry ([.ref a, .int x1] : List Value) (n := 6) (Nat.le_of_ble_eq_true rfl)
  rw [lg_entry_eq]
  generalize (lg_sl ([.ref a, .int x1] : List Value) ++ List.replicate (6 - (lg_sl ([.ref a, .int x1] : List Value)).length) Slot.unset).toArray = ls at hl ⊢
  have hl : lv_has ls 6 [(0, .ref a), (1, .int x1)] := hl
  unfold m_X9_firstOf at h
  refine lv_iload_n hx hb dX9_firstOf_0 rfl (lv_at hl 1 rfl) ?_
  refine cr_i (rs (As := [.int x1]) (rest := []) ⟨hx, hb, hml, hown, hts⟩ (c_X9_named l D y x1 _ (sat_bind h)) (va_cwS 1 hts gX9_firstOf_X9_named rfl rfl rfl (by decide +kernel) ⟨Nat.le_of_ble_eq_true rfl, Nat.le_of_ble_eq_true rfl⟩) hK hP [] rfl rfl hl.1 rfl (Nat.le_of_ble_eq_true rfl) dX9_firstOf_1 ⟨Nat.zero_le _, Nat.zero_le _⟩) (fun r1 h => ?_)
  refine lv_istore_n (lv' := [(2, .int r1), (0, .ref a), (1, .int x1)]) hx hb dX9_firstOf_4 rfl hl (by decide) rfl (fun ls hl => ?_)
  refine lv_iconst (v := 0) hx hb dX9_firstOf_5 (by decide) ?_
  refine lv_istore_n (lv' := [(3, .int 0), (2, .int r1), (0, .ref a), (1, .int x1)]) hx hb dX9_firstOf_6 rfl hl (by decide) rfl (fun ls hl => ?_)
  have hL7 : ∀ (K7 : (Int32 ⊕ Unit) → Prop)
      (hR7 : ∀ (u : Int32), K7 (.inl u) → K u)
      (hE7 : ∀ (z7 : Unit) (ls : Array Slot), K7 (.inr z7) → lv_has ls 6 [] → W p l e (headSpec wsX9_firstOf ({ frames := 2, cells := 0, slots := 0, locals := 46 } : Room)).room s m ([.ref a, .int x1] : List Value).toArray below meth c s.heap [] 0 0 (MQ below (qSi K) ([.ref a, .int x1] : List Value).toArray s 0 0 (fun _ => False)) (F0 m 102 ls []))
      (n : Nat) (x3_7 : Int32) (ls : Array Slot), sat (lp (fun q : Int32 => m_X9_firstOf_s7 v_now x1 r1 q) n x3_7) K7 → lv_has ls 6 [(0, .ref a), (1, .int x1), (2, .int r1), (3, .int x3_7)] → W p l e (headSpec wsX9_firstOf ({ frames := 2, cells := 0, slots := 0, locals := 46 } : Room)).room s m ([.ref a, .int x1] : List Value).toArray below meth c s.heap [] 0 0 (MQ below (qSi K) ([.ref a, .int x1] : List Value).toArray s 0 0 (fun _ => False)) (F0 m 7 ls []) := by
    intro K7 hR7 hE7 n
    induction n with
    | zero => intro x3_7 ls h; exact (sat_lp0 h).elim
    | succ n ih =>
      intro x3_7 ls h hl
      have h := sat_lp h
      have h : sat (m_X9_firstOf_s7 v_now x1 r1 x3_7) (lk (fun s' => sat (lp (fun q : Int32 => m_X9_firstOf_s7 v_now x1 r1 q) n s') K7) K7) := h
      unfold m_X9_firstOf_s7 at h
      refine lv_iload_n hx hb dX9_firstOf_7 rfl (lv_at hl 3 rfl) ?_
      refine lv_aload_n hx hb dX9_firstOf_8 rfl (lv_at hl 0 rfl) ?_
      refine cr_i (rv (As := []) (rest := [.int x3_7]) ⟨hx, hb, hml, hown, hts⟩ (c_X9_size l D y a a_now a_undos a_seen a_isKept a_kept a_text a_read a_congruences a_terms v_undoMany v_undoAt v_seenMany v_letterMany v_readAt v_tokenAt v_token v_faultAt v_readItems v_congruenceMany v_termMany v_rounds v_now _ (sat_bind h)) (cwV 0 hts gX9_firstOf_X9_size rfl rfl rfl (by decide +kernel) ⟨Nat.le_of_ble_eq_true rfl, Nat.le_of_ble_eq_true rfl⟩) hK hP [0, 1] rfl 0 6 rfl rfl rfl rfl hl.1 rfl (Nat.le_of_ble_eq_true rfl) dX9_firstOf_9 ⟨Nat.zero_le _, Nat.zero_le _⟩) (fun r3 h => ?_)
      refine lv_icmp_ge (tgt := 102) hx hb dX9_firstOf_12 (by decide) (fun c12 => ?_) (fun c12 => ?_)
      · have h := sat_t c12 h
        have h := lk_r (sat_some h)
        exact hE7 () ls h (lv_sub hl [] rfl)
      · have h := sat_f c12 h
        refine lv_iconst (v := 0) hx hb dX9_firstOf_15 (by decide) ?_
        refine lv_istore (lv' := [(4, .int 0), (0, .ref a), (1, .int x1), (2, .int r1), (3, .int x3_7)]) hx hb dX9_firstOf_16 hl (by decide) rfl (fun ls hl => ?_)
        have hL18 : ∀ (K18 : (Int32 ⊕ Unit) → Prop)
            (hR18 : ∀ (u : Int32), K18 (.inl u) → K u)
            (hE18 : ∀ (z18 : Unit) (ls : Array Slot), K18 (.inr z18) → lv_has ls 6 [(0, .ref a), (1, .int x1), (2, .int r1), (3, .int x3_7)] → W p l e (headSpec wsX9_firstOf ({ frames := 2, cells := 0, slots := 0, locals := 46 } : Room)).room s m ([.ref a, .int x1] : List Value).toArray below meth c s.heap [] 0 0 (MQ below (qSi K) ([.ref a, .int x1] : List Value).toArray s 0 0 (fun _ => False)) (F0 m 96 ls []))
            (n : Nat) (x4_18 : Int32) (ls : Array Slot), sat (lp (fun q : Int32 => m_X9_firstOf_s18 v_now x1 r1 x3_7 q) n x4_18) K18 → lv_has ls 6 [(0, .ref a), (1, .int x1), (2, .int r1), (3, .int x3_7), (4, .int x4_18)] → W p l e (headSpec wsX9_firstOf ({ frames := 2, cells := 0, slots := 0, locals := 46 } : Room)).room s m ([.ref a, .int x1] : List Value).toArray below meth c s.heap [] 0 0 (MQ below (qSi K) ([.ref a, .int x1] : List Value).toArray s 0 0 (fun _ => False)) (F0 m 18 ls []) := by
          intro K18 hR18 hE18 n
          induction n with
          | zero => intro x4_18 ls h; exact (sat_lp0 h).elim
          | succ n ih =>
            intro x4_18 ls h hl
            have h := sat_lp h
            have h : sat (m_X9_firstOf_s18 v_now x1 r1 x3_7 x4_18) (lk (fun s' => sat (lp (fun q : Int32 => m_X9_firstOf_s18 v_now x1 r1 x3_7 q) n s') K18) K18) := h
            have hJ33 : ∀ (x4_33 : Int32) (t0_33 : Int32) (t1_33 : Int32) (ls : Array Slot), sat (m_X9_firstOf_j33 v_now x1 r1 x3_7 x4_33 t0_33 t1_33) (lk (fun s' => sat (lp (fun q : Int32 => m_X9_firstOf_s18 v_now x1 r1 x3_7 q) n s') K18) K18) → lv_has ls 6 [(0, .ref a), (1, .int x1), (2, .int r1), (3, .int x3_7), (4, .int x4_33)] → W p l e (headSpec wsX9_firstOf ({ frames := 2, cells := 0, slots := 0, locals := 46 } : Room)).room s m ([.ref a, .int x1] : List Value).toArray below meth c s.heap [] 0 0 (MQ below (qSi K) ([.ref a, .int x1] : List Value).toArray s 0 0 (fun _ => False)) (F0 m 33 ls [.int t1_33, .int t0_33]) := by
              intro x4_33 t0_33 t1_33 ls h hl
              unfold m_X9_firstOf_j33 at h
              refine lv_icmp_ge (tgt := 96) hx hb dX9_firstOf_33 (by decide) (fun c33 => ?_) (fun c33 => ?_)
              · have h := sat_t c33 h
                have h := lk_r (sat_some h)
                exact hE18 () ls h (lv_sub hl [0, 1, 2, 3] rfl)
              · have h := sat_f c33 h
                refine lv_iconst (v := 0) hx hb dX9_firstOf_36 (by decide) ?_
                refine lv_istore (lv' := [(5, .int 0), (0, .ref a), (1, .int x1), (2, .int r1), (3, .int x3_7), (4, .int x4_33)]) hx hb dX9_firstOf_37 hl (by decide) rfl (fun ls hl => ?_)
                have hL39 : ∀ (K39 : (Int32 ⊕ Unit) → Prop)
                    (hR39 : ∀ (u : Int32), K39 (.inl u) → K u)
                    (hE39 : ∀ (z39 : Unit) (ls : Array Slot), K39 (.inr z39) → lv_has ls 6 [(0, .ref a), (1, .int x1), (2, .int r1), (3, .int x3_7), (4, .int x4_33)] → W p l e (headSpec wsX9_firstOf ({ frames := 2, cells := 0, slots := 0, locals := 46 } : Room)).room s m ([.ref a, .int x1] : List Value).toArray below meth c s.heap [] 0 0 (MQ below (qSi K) ([.ref a, .int x1] : List Value).toArray s 0 0 (fun _ => False)) (F0 m 90 ls []))
                    (n : Nat) (x5_39 : Int32) (ls : Array Slot), sat (lp (fun q : Int32 => m_X9_firstOf_s39 v_now x1 r1 x3_7 x4_33 q) n x5_39) K39 → lv_has ls 6 [(0, .ref a), (1, .int x1), (2, .int r1), (3, .int x3_7), (4, .int x4_33), (5, .int x5_39)] → W p l e (headSpec wsX9_firstOf ({ frames := 2, cells := 0, slots := 0, locals := 46 } : Room)).room s m ([.ref a, .int x1] : List Value).toArray below meth c s.heap [] 0 0 (MQ below (qSi K) ([.ref a, .int x1] : List Value).toArray s 0 0 (fun _ => False)) (F0 m 39 ls []) := by
                  intro K39 hR39 hE39 n
                  induction n with
                  | zero => intro x5_39 ls h; exact (sat_lp0 h).elim
                  | succ n ih =>
                    intro x5_39 ls h hl
                    have h := sat_lp h
                    have h : sat (m_X9_firstOf_s39 v_now x1 r1 x3_7 x4_33 x5_39) (lk (fun s' => sat (lp (fun q : Int32 => m_X9_firstOf_s39 v_now x1 r1 x3_7 x4_33 q) n s') K39) K39) := h
                    have hJ54 : ∀ (x5_54 : Int32) (t0_54 : Int32) (t1_54 : Int32) (ls : Array Slot), sat (m_X9_firstOf_j54 v_now x1 x3_7 x4_33 x5_54 t0_54 t1_54) (lk (fun s' => sat (lp (fun q : Int32 => m_X9_firstOf_s39 v_now x1 r1 x3_7 x4_33 q) n s') K39) K39) → lv_has ls 6 [(0, .ref a), (1, .int x1), (2, .int r1), (3, .int x3_7), (4, .int x4_33), (5, .int x5_54)] → W p l e (headSpec wsX9_firstOf ({ frames := 2, cells := 0, slots := 0, locals := 46 } : Room)).room s m ([.ref a, .int x1] : List Value).toArray below meth c s.heap [] 0 0 (MQ below (qSi K) ([.ref a, .int x1] : List Value).toArray s 0 0 (fun _ => False)) (F0 m 54 ls [.int t1_54, .int t0_54]) := by
                      intro x5_54 t0_54 t1_54 ls h hl
                      unfold m_X9_firstOf_j54 at h
                      refine lv_icmp_ge (tgt := 90) hx hb dX9_firstOf_54 (by decide) (fun c54 => ?_) (fun c54 => ?_)
                      · have h := sat_t c54 h
                        have h := lk_r (sat_some h)
                        exact hE39 () ls h (lv_sub hl [0, 1, 2, 3, 4] rfl)
                      · have h := sat_f c54 h
                        refine lv_aload_n hx hb dX9_firstOf_57 rfl (lv_at hl 0 rfl) ?_
                        refine lv_iload_n hx hb dX9_firstOf_58 rfl (lv_at hl 1 rfl) ?_
                        refine lv_iload_n hx hb dX9_firstOf_59 rfl (lv_at hl 3 rfl) ?_
                        refine lv_iload hx hb dX9_firstOf_60 (lv_at hl 4 rfl) ?_
                        refine lv_iload hx hb dX9_firstOf_62 (lv_at hl 5 rfl) ?_
                        refine cr_i (rv (As := [.int x1, .int x3_7, .int x4_33, .int x5_54]) (rest := []) ⟨hx, hb, hml, hown, hts⟩ (c_X9_isSo l D y a a_now a_undos a_seen a_isKept a_kept a_text a_read a_congruences a_terms v_undoMany v_undoAt v_seenMany v_letterMany v_readAt v_tokenAt v_token v_faultAt v_readItems v_congruenceMany v_termMany v_rounds v_now x1 x3_7 x4_33 x5_54 _ (sat_bind h)) (cwV 4 hts gX9_firstOf_X9_isSo rfl rfl rfl (by decide +kernel) ⟨Nat.le_of_ble_eq_true rfl, Nat.le_of_ble_eq_true rfl⟩) hK hP [0, 1] rfl 0 6 rfl rfl rfl rfl hl.1 rfl (Nat.le_of_ble_eq_true rfl) dX9_firstOf_64 ⟨Nat.zero_le _, Nat.zero_le _⟩) (fun r6 h => ?_)
                        refine lv_if_ne (tgt := 84) hx hb dX9_firstOf_67 (by decide) (fun c67 => ?_) (fun c67 => ?_)
                        · have h := sat_f c67 h
                          refine lv_iinc (v := x5_54 + 1) (lv' := [(5, .int (x5_54 + 1)), (0, .ref a), (1, .int x1), (2, .int r1), (3, .int x3_7), (4, .int x4_33)]) hx hb dX9_firstOf_84 hl (k := 5) rfl rfl (by decide) rfl (fun ls hl => ?_)
                          refine lv_goto (tgt := 39) hx hb dX9_firstOf_87 (by decide) ?_
                          have h := lk_l (sat_some h)
                          exact ih (x5_54 + 1) ls h (lv_sub hl [1, 2, 3, 4, 5, 0] rfl)
                        · have h := sat_t c67 h
                          refine lv_bipush (v := 100) hx hb dX9_firstOf_70 (by decide) ?_
                          refine lv_iload_n hx hb dX9_firstOf_72 rfl (lv_at hl 3 rfl) ?_
                          refine lv_imul hx hb dX9_firstOf_73 ?_
                          refine lv_bipush (v := 10) hx hb dX9_firstOf_74 (by decide) ?_
                          refine lv_iload hx hb dX9_firstOf_76 (lv_at hl 4 rfl) ?_
                          refine lv_imul hx hb dX9_firstOf_78 ?_
                          refine lv_iadd hx hb dX9_firstOf_79 ?_
                          refine lv_iload hx hb dX9_firstOf_80 (lv_at hl 5 rfl) ?_
                          refine lv_iadd hx hb dX9_firstOf_82 ?_
                          have h := hR39 _ (lk_r (sat_some h))
                          exact W.iret (v := ((100 * x3_7) + (10 * x4_33)) + x5_54) hx hb hr (fun t ht _ => ⟨((100 * x3_7) + (10 * x4_33)) + x5_54, rfl, h, ht⟩) (fun _ hq => by cases hq) dX9_firstOf_83
                    unfold m_X9_firstOf_s39 at h
                    refine lv_iload hx hb dX9_firstOf_39 (lv_at hl 5 rfl) ?_
                    refine lv_iload_n hx hb dX9_firstOf_41 rfl (lv_at hl 2 rfl) ?_
                    refine lv_iconst (v := 2) hx hb dX9_firstOf_42 (by decide) ?_
                    refine lv_icmp_le (tgt := 53) hx hb dX9_firstOf_43 (by decide) (fun c43 => ?_) (fun c43 => ?_)
                    · have h := sat_t c43 h
                      refine lv_iconst (v := 1) hx hb dX9_firstOf_53 (by decide) ?_
                      exact hJ54 x5_39 x5_39 1 ls h hl
                    · have h := sat_f c43 h
                      refine lv_aload_n hx hb dX9_firstOf_46 rfl (lv_at hl 0 rfl) ?_
                      refine cr_i (rv (As := []) (rest := [.int x5_39]) ⟨hx, hb, hml, hown, hts⟩ (c_X9_size l D y a a_now a_undos a_seen a_isKept a_kept a_text a_read a_congruences a_terms v_undoMany v_undoAt v_seenMany v_letterMany v_readAt v_tokenAt v_token v_faultAt v_readItems v_congruenceMany v_termMany v_rounds v_now _ (sat_bind h)) (cwV 0 hts gX9_firstOf_X9_size rfl rfl rfl (by decide +kernel) ⟨Nat.le_of_ble_eq_true rfl, Nat.le_of_ble_eq_true rfl⟩) hK hP [0, 1] rfl 0 6 rfl rfl rfl rfl hl.1 rfl (Nat.le_of_ble_eq_true rfl) dX9_firstOf_47 ⟨Nat.zero_le _, Nat.zero_le _⟩) (fun r7 h => ?_)
                      refine lv_goto (tgt := 54) hx hb dX9_firstOf_50 (by decide) ?_
                      exact hJ54 x5_39 x5_39 r7 ls h hl
                have h := sat_bdS h
                refine hL39 _ (fun u h => ?_) (fun z39 ls h hl => ?_) 1000 0 ls h (lv_sub hl [1, 2, 3, 4, 5, 0] rfl)
                · have h := lk_l h
                  exact hR18 _ (lk_r (sat_some h))
                · have h := lk_r h
                  refine lv_iinc (v := x4_33 + 1) (lv' := [(4, .int (x4_33 + 1)), (0, .ref a), (1, .int x1), (2, .int r1), (3, .int x3_7)]) hx hb dX9_firstOf_90 hl (k := 4) rfl rfl (by decide) rfl (fun ls hl => ?_)
                  refine lv_goto (tgt := 18) hx hb dX9_firstOf_93 (by decide) ?_
                  have h := lk_l (sat_some h)
                  exact ih (x4_33 + 1) ls h (lv_sub hl [1, 2, 3, 4, 0] rfl)
            unfold m_X9_firstOf_s18 at h
            refine lv_iload hx hb dX9_firstOf_18 (lv_at hl 4 rfl) ?_
            refine lv_iload_n hx hb dX9_firstOf_20 rfl (lv_at hl 2 rfl) ?_
            refine lv_iconst (v := 1) hx hb dX9_firstOf_21 (by decide) ?_
            refine lv_icmp_le (tgt := 32) hx hb dX9_firstOf_22 (by decide) (fun c22 => ?_) (fun c22 => ?_)
            · have h := sat_t c22 h
              refine lv_iconst (v := 1) hx hb dX9_firstOf_32 (by decide) ?_
              exact hJ33 x4_18 x4_18 1 ls h hl
            · have h := sat_f c22 h
              refine lv_aload_n hx hb dX9_firstOf_25 rfl (lv_at hl 0 rfl) ?_
              refine cr_i (rv (As := []) (rest := [.int x4_18]) ⟨hx, hb, hml, hown, hts⟩ (c_X9_size l D y a a_now a_undos a_seen a_isKept a_kept a_text a_read a_congruences a_terms v_undoMany v_undoAt v_seenMany v_letterMany v_readAt v_tokenAt v_token v_faultAt v_readItems v_congruenceMany v_termMany v_rounds v_now _ (sat_bind h)) (cwV 0 hts gX9_firstOf_X9_size rfl rfl rfl (by decide +kernel) ⟨Nat.le_of_ble_eq_true rfl, Nat.le_of_ble_eq_true rfl⟩) hK hP [0, 1] rfl 0 6 rfl rfl rfl rfl hl.1 rfl (Nat.le_of_ble_eq_true rfl) dX9_firstOf_26 ⟨Nat.zero_le _, Nat.zero_le _⟩) (fun r8 h => ?_)
              refine lv_goto (tgt := 33) hx hb dX9_firstOf_29 (by decide) ?_
              exact hJ33 x4_18 x4_18 r8 ls h hl
        have h := sat_bdS h
        refine hL18 _ (fun u h => ?_) (fun z18 ls h hl => ?_) 1000 0 ls h (lv_sub hl [1, 2, 3, 4, 0] rfl)
        · have h := lk_l h
          exact hR7 _ (lk_r (sat_some h))
        · have h := lk_r h
          refine lv_iinc (v := x3_7 + 1) (lv' := [(3, .int (x3_7 + 1)), (0, .ref a), (1, .int x1), (2, .int r1)]) hx hb dX9_firstOf_96 hl (k := 3) rfl rfl (by decide) rfl (fun ls hl => ?_)
          refine lv_goto (tgt := 7) hx hb dX9_firstOf_99 (by decide) ?_
          have h := lk_l (sat_some h)
          exact ih (x3_7 + 1) ls h (lv_sub hl [1, 2, 3, 0] rfl)
  have h := sat_bdS h
  refine hL7 _ (fun u h => ?_) (fun z7 ls h hl => ?_) 1000 0 ls h (lv_sub hl [2, 3, 1, 0] rfl)
  · have h := lk_l h
    exact sat_some h
  · have h := lk_r h
    refine lv_bipush (v := (-9)) hx hb dX9_firstOf_102 (by decide) ?_
    have h := sat_some h
    exact W.iret (v := (-9)) hx hb hr (fun t ht _ => ⟨(-9), rfl, h, ht⟩) (fun _ hq => by cases hq) dX9_firstOf_104

/-! X9_law -/
set_option maxHeartbeats 4000000 in
set_option maxRecDepth 100000 in
theorem c_X9_law (l : Launch) (D : va_G) (y : ClassId × ClassId × ClassId × ClassId) (a a_now a_undos a_seen a_isKept a_kept a_text a_read a_congruences a_terms : Nat) (v_undoMany : Int32) (v_undoAt : Int32) (v_seenMany : Int32) (v_letterMany : Int32) (v_readAt : Int32) (v_tokenAt : Int32) (v_token : Int32) (v_faultAt : Int32) (v_readItems : Int32) (v_congruenceMany : Int32) (v_termMany : Int32) (v_rounds : Int32) (v_now : Nat → Int32) (x1 : Int32) (K : Int32 → Prop) (h : sat (m_X9_law v_now x1) K) : Met l yX9_law wsX9_law ({ frames := 3, cells := 0, slots := 0, locals := 71 } : Room) (pR D y ([.ref a, .int x1] : List Value) [(a, .inr (6, [.ref a_now, .int v_undoMany, .int v_undoAt, .ref a_undos, .int v_seenMany, .ref a_seen, .ref a_isKept, .ref a_kept, .int v_letterMany, .ref a_text, .int v_readAt, .int v_tokenAt, .int v_token, .int v_faultAt, .int v_readItems, .ref a_read, .int v_congruenceMany, .ref a_congruences, .int v_termMany, .int v_rounds, .ref a_terms])), (a_now, .inl (y.1, 21, .inl v_now))]) (qSi K) 0 0 (fun _ => False) := by
  refine Met.ofW (cc := cX9_law) (maxL := 2) (ret := (some .int)) (by decide) rfl ?_
  intro p e s m args below meth c s₁ B hml hv
  obtain ⟨rfl, hP, hK⟩ := hv
  have hx := B.exec
  have hb := B.bytes
  have hr := B.returns
  have hts := atoms_spec (ws := wsX9_law) B.pre
  have hown : s.vm.findClass RX9 = some m.cls := findClass_of_methodNamed B.named
  have hlocks := B.notSynchronized
  have hl := lv_entry ([.ref a, .int x1] : List Value) (n := 2) (Nat.le_of_ble_eq_true rfl)
  rw [lg_entry_eq]
  generalize (lg_sl ([.ref a, .int x1] : List Value) ++ List.replicate (2 - (lg_sl ([.ref a, .int x1] : List Value)).length) Slot.unset).toArray = ls at hl ⊢
  have hl : lv_has ls 2 [(0, .ref a), (1, .int x1)] := hl
  unfold m_X9_law at h
  refine lv_iload_n hx hb dX9_law_0 rfl (lv_at hl 1 rfl) ?_
  refine lv_iconst (v := 0) hx hb dX9_law_1 (by decide) ?_
  refine lv_bipush (v := 6) hx hb dX9_law_2 (by decide) ?_
  refine cr_i (rs (As := [.int x1, .int 0, .int 6]) (rest := []) ⟨hx, hb, hml, hown, hts⟩ (c_X9_in l D y x1 0 6 _ (sat_bind h)) (va_cwS 3 hts gX9_law_X9_in rfl rfl rfl (by decide +kernel) ⟨Nat.le_of_ble_eq_true rfl, Nat.le_of_ble_eq_true rfl⟩) hK hP [] rfl rfl hl.1 rfl (Nat.le_of_ble_eq_true rfl) dX9_law_4 ⟨Nat.zero_le _, Nat.zero_le _⟩) (fun r1 h => ?_)
  refine lv_if_eq (tgt := 18) hx hb dX9_law_7 (by decide) (fun c7 => ?_) (fun c7 => ?_)
  · have h := sat_t c7 h
    refine lv_bipush (v := (-2)) hx hb dX9_law_18 (by decide) ?_
    have h := sat_some h
    exact W.iret (v := (-2)) hx hb hr (fun t ht _ => ⟨(-2), rfl, h, ht⟩) (fun _ hq => by cases hq) dX9_law_20
  · have h := sat_f c7 h
    refine lv_aload_n hx hb dX9_law_10 rfl (lv_at hl 0 rfl) ?_
    refine lv_iload_n hx hb dX9_law_11 rfl (lv_at hl 1 rfl) ?_
    refine cr_i (rv (As := [.int x1]) (rest := []) ⟨hx, hb, hml, hown, hts⟩ (c_X9_firstOf l D y a a_now a_undos a_seen a_isKept a_kept a_text a_read a_congruences a_terms v_undoMany v_undoAt v_seenMany v_letterMany v_readAt v_tokenAt v_token v_faultAt v_readItems v_congruenceMany v_termMany v_rounds v_now x1 _ (sat_bind h)) (cwV 1 hts gX9_law_X9_firstOf rfl rfl rfl (by decide +kernel) ⟨Nat.le_of_ble_eq_true rfl, Nat.le_of_ble_eq_true rfl⟩) hK hP [0, 1] rfl 0 6 rfl rfl rfl rfl hl.1 rfl (Nat.le_of_ble_eq_true rfl) dX9_law_12 ⟨Nat.zero_le _, Nat.zero_le _⟩) (fun r2 h => ?_)
    refine lv_goto (tgt := 20) hx hb dX9_law_15 (by decide) ?_
    have h := sat_some h
    exact W.iret (v := r2) hx hb hr (fun t ht _ => ⟨r2, rfl, h, ht⟩) (fun _ hq => by cases hq) dX9_law_20

/-! X9_change -/
set_option maxHeartbeats 4000000 in
set_option maxRecDepth 100000 in
theorem c_X9_change (l : Launch) (D : va_G) (y : ClassId × ClassId × ClassId × ClassId) (a a_now a_undos a_seen a_isKept a_kept a_text a_read a_congruences a_terms : Nat) (v_undoMany : Int32) (v_undoAt : Int32) (v_seenMany : Int32) (v_letterMany : Int32) (v_readAt : Int32) (v_tokenAt : Int32) (v_token : Int32) (v_faultAt : Int32) (v_readItems : Int32) (v_congruenceMany : Int32) (v_termMany : Int32) (v_rounds : Int32) (v_now : Nat → Int32) (x1 : Int32) (sz : Nat) (A : Nat → Prop) (hAe : va_A [(a, .inr (6, [.ref a_now, .int v_undoMany, .int v_undoAt, .ref a_undos, .int v_seenMany, .ref a_seen, .ref a_isKept, .ref a_kept, .int v_letterMany, .ref a_text, .int v_readAt, .int v_tokenAt, .int v_token, .int v_faultAt, .int v_readItems, .ref a_read, .int v_congruenceMany, .ref a_congruences, .int v_termMany, .int v_rounds, .ref a_terms])), (a_now, .inl (y.1, 21, .inl v_now))] sz = A) (K : Int32 → ((Nat → Int32)) → Prop) (h : sat (m_X9_change v_now x1) (pK K)) : Met l yX9_change wsX9_change ({ frames := 3, cells := 0, slots := 0, locals := 71 } : Room) (pW D y ([.ref a, .int x1] : List Value) [(a, .inr (6, [.ref a_now, .int v_undoMany, .int v_undoAt, .ref a_undos, .int v_seenMany, .ref a_seen, .ref a_isKept, .ref a_kept, .int v_letterMany, .ref a_text, .int v_readAt, .int v_tokenAt, .int v_token, .int v_faultAt, .int v_readItems, .ref a_read, .int v_congruenceMany, .ref a_congruences, .int v_termMany, .int v_rounds, .ref a_terms])), (a_now, .inl (y.1, 21, .inl v_now))] sz) (va_Qi K (bW D y A (fun u : ((Nat → Int32)) => [(a, .inr (6, [.ref a_now, .int v_undoMany, .int v_undoAt, .ref a_undos, .int v_seenMany, .ref a_seen, .ref a_isKept, .ref a_kept, .int v_letterMany, .ref a_text, .int v_readAt, .int v_tokenAt, .int v_token, .int v_faultAt, .int v_readItems, .ref a_read, .int v_congruenceMany, .ref a_congruences, .int v_termMany, .int v_rounds, .ref a_terms])), (a_now, .inl (y.1, 21, .inl u))])) A) 0 0 A := by
  refine Met.ofW (cc := cX9_change) (maxL := 7) (ret := (some .int)) (by decide) rfl ?_
  intro p e s m args below meth c s₁ B hml hv
  obtain ⟨rfl, hsz, hP, hK, hD0⟩ := hv
  have hx := B.exec
  have hb := B.bytes
  have hr := B.returns
  have hts := atoms_spec (ws := wsX9_change) B.pre
  have hown : s.vm.findClass RX9 = some m.cls := findClass_of_methodNamed B.named
  have hlocks := B.notSynchronized
  subst hsz
  have hD : va_D A [(a, .inr (6, [.ref a_now, .int v_undoMany, .int v_undoAt, .ref a_undos, .int v_seenMany, .ref a_seen, .ref a_isKept, .ref a_kept, .int v_letterMany, .ref a_text, .int v_readAt, .int v_tokenAt, .int v_token, .int v_faultAt, .int v_readItems, .ref a_read, .int v_congruenceMany, .ref a_congruences, .int v_termMany, .int v_rounds, .ref a_terms])), (a_now, .inl (y.1, 21, .inl v_now))] := hAe ▸ hD0.self
  have hA : ∀ q : Nat, s.heap.size ≤ q → A q := fun q h => hAe ▸ Or.inr h
  have hS : va_S A s.heap s.heap [] := va_S.rf
  have iX9 : ∀ w ∈ wsX90, w ∈ wsX9_change := by decide +kernel
  have fl7 := hts (.fieldLink RX9 7 "AlgebraLawsModel" "now" "[I") (by decide +kernel)
  have hl := lv_entry ([.ref a, .int x1] : List Value) (n := 7) (Nat.le_of_ble_eq_true rfl)
  rw [lg_entry_eq]
  generalize (lg_sl ([.ref a, .int x1] : List Value) ++ List.replicate (7 - (lg_sl ([.ref a, .int x1] : List Value)).length) Slot.unset).toArray = ls at hl ⊢
  have hl : lv_has ls 7 [(0, .ref a), (1, .int x1)] := hl
  unfold m_X9_change at h
  refine lv_iload_n hx hb dX9_change_0 rfl (lv_at hl 1 rfl) ?_
  refine lv_iconst (v := 0) hx hb dX9_change_1 (by decide) ?_
  refine lv_bipush (v := 6) hx hb dX9_change_2 (by decide) ?_
  refine cr_i (rs (As := [.int x1, .int 0, .int 6]) (rest := []) ⟨hx, hb, hml, hown, hts⟩ (c_X9_in l D y x1 0 6 _ (sat_bind h)) (va_cwS 3 hts gX9_change_X9_in rfl rfl rfl (by decide +kernel) ⟨Nat.le_of_ble_eq_true rfl, Nat.le_of_ble_eq_true rfl⟩) hK hP [] rfl rfl hl.1 rfl (Nat.le_of_ble_eq_true rfl) dX9_change_4 ⟨Nat.zero_le _, Nat.zero_le _⟩) (fun r1 h => ?_)
  refine lv_if_ne (tgt := 13) hx hb dX9_change_7 (by decide) (fun c7 => ?_) (fun c7 => ?_)
  · have h := sat_f c7 h
    refine lv_aload_n hx hb dX9_change_13 rfl (lv_at hl 0 rfl) ?_
    refine lv_iload_n hx hb dX9_change_14 rfl (lv_at hl 1 rfl) ?_
    refine cr_i (rv (As := [.int x1]) (rest := []) ⟨hx, hb, hml, hown, hts⟩ (c_X9_firstOf l D y a a_now a_undos a_seen a_isKept a_kept a_text a_read a_congruences a_terms v_undoMany v_undoAt v_seenMany v_letterMany v_readAt v_tokenAt v_token v_faultAt v_readItems v_congruenceMany v_termMany v_rounds v_now x1 _ (sat_bind h)) (cwV 1 hts gX9_change_X9_firstOf rfl rfl rfl (by decide +kernel) ⟨Nat.le_of_ble_eq_true rfl, Nat.le_of_ble_eq_true rfl⟩) hK hP [0, 1] rfl 0 6 rfl rfl rfl rfl hl.1 rfl (Nat.le_of_ble_eq_true rfl) dX9_change_15 ⟨Nat.zero_le _, Nat.zero_le _⟩) (fun r2 h => ?_)
    refine lv_bipush (v := (-9)) hx hb dX9_change_18 (by decide) ?_
    refine lv_icmp_ne (tgt := 25) hx hb dX9_change_20 (by decide) (fun c20 => ?_) (fun c20 => ?_)
    · have h := sat_f c20 h
      refine lv_bipush (v := (-9)) hx hb dX9_change_25 (by decide) ?_
      refine lv_istore_n (lv' := [(2, .int (-9)), (0, .ref a), (1, .int x1)]) hx hb dX9_change_27 rfl hl (by decide) rfl (fun ls hl => ?_)
      refine lv_iconst (v := 0) hx hb dX9_change_28 (by decide) ?_
      refine lv_istore_n (lv' := [(3, .int 0), (2, .int (-9)), (0, .ref a), (1, .int x1)]) hx hb dX9_change_29 rfl hl (by decide) rfl (fun ls hl => ?_)
      have hL30 : ∀ (K30 : (Int32 × (Nat → Int32)) → Prop)
          (hE30 : ∀ (z30 : (Int32 × (Nat → Int32))) (ls : Array Slot) (H : Heap) (locs : List Loc), K30 z30 → lv_has ls 7 [(2, .int z30.1)] → va_P D vwCl [(a, .inr (6, [.ref a_now, .int v_undoMany, .int v_undoAt, .ref a_undos, .int v_seenMany, .ref a_seen, .ref a_isKept, .ref a_kept, .int v_letterMany, .ref a_text, .int v_readAt, .int v_tokenAt, .int v_token, .int v_faultAt, .int v_readItems, .ref a_read, .int v_congruenceMany, .ref a_congruences, .int v_termMany, .int v_rounds, .ref a_terms])), (a_now, .inl (y.1, 21, .inl z30.2))] H → va_D A [(a, .inr (6, [.ref a_now, .int v_undoMany, .int v_undoAt, .ref a_undos, .int v_seenMany, .ref a_seen, .ref a_isKept, .ref a_kept, .int v_letterMany, .ref a_text, .int v_readAt, .int v_tokenAt, .int v_token, .int v_faultAt, .int v_readItems, .ref a_read, .int v_congruenceMany, .ref a_congruences, .int v_termMany, .int v_rounds, .ref a_terms])), (a_now, .inl (y.1, 21, .inl z30.2))] → va_S A s.heap H locs → W p l e (headSpec wsX9_change ({ frames := 3, cells := 0, slots := 0, locals := 71 } : Room)).room s m ([.ref a, .int x1] : List Value).toArray below meth c H locs 0 0 (MQ below (va_Qi K (bW D y A (fun u : ((Nat → Int32)) => [(a, .inr (6, [.ref a_now, .int v_undoMany, .int v_undoAt, .ref a_undos, .int v_seenMany, .ref a_seen, .ref a_isKept, .ref a_kept, .int v_letterMany, .ref a_text, .int v_readAt, .int v_tokenAt, .int v_token, .int v_faultAt, .int v_readItems, .ref a_read, .int v_congruenceMany, .ref a_congruences, .int v_termMany, .int v_rounds, .ref a_terms])), (a_now, .inl (y.1, 21, .inl u))])) A) ([.ref a, .int x1] : List Value).toArray s 0 0 A) (F0 m 149 ls []))
          (n : Nat) (x2_30 : Int32) (x3_30 : Int32) (v_now_30 : Nat → Int32) (ls : Array Slot) (H : Heap) (locs : List Loc), sat (lp (fun q : (Int32 × Int32 × (Nat → Int32)) => m_X9_change_s30 x1 q.1 q.2.1 q.2.2) n (x2_30, x3_30, v_now_30)) K30 → lv_has ls 7 [(0, .ref a), (1, .int x1), (2, .int x2_30), (3, .int x3_30)] → va_P D vwCl [(a, .inr (6, [.ref a_now, .int v_undoMany, .int v_undoAt, .ref a_undos, .int v_seenMany, .ref a_seen, .ref a_isKept, .ref a_kept, .int v_letterMany, .ref a_text, .int v_readAt, .int v_tokenAt, .int v_token, .int v_faultAt, .int v_readItems, .ref a_read, .int v_congruenceMany, .ref a_congruences, .int v_termMany, .int v_rounds, .ref a_terms])), (a_now, .inl (y.1, 21, .inl v_now_30))] H → va_D A [(a, .inr (6, [.ref a_now, .int v_undoMany, .int v_undoAt, .ref a_undos, .int v_seenMany, .ref a_seen, .ref a_isKept, .ref a_kept, .int v_letterMany, .ref a_text, .int v_readAt, .int v_tokenAt, .int v_token, .int v_faultAt, .int v_readItems, .ref a_read, .int v_congruenceMany, .ref a_congruences, .int v_termMany, .int v_rounds, .ref a_terms])), (a_now, .inl (y.1, 21, .inl v_now_30))] → va_S A s.heap H locs → W p l e (headSpec wsX9_change ({ frames := 3, cells := 0, slots := 0, locals := 71 } : Room)).room s m ([.ref a, .int x1] : List Value).toArray below meth c H locs 0 0 (MQ below (va_Qi K (bW D y A (fun u : ((Nat → Int32)) => [(a, .inr (6, [.ref a_now, .int v_undoMany, .int v_undoAt, .ref a_undos, .int v_seenMany, .ref a_seen, .ref a_isKept, .ref a_kept, .int v_letterMany, .ref a_text, .int v_readAt, .int v_tokenAt, .int v_token, .int v_faultAt, .int v_readItems, .ref a_read, .int v_congruenceMany, .ref a_congruences, .int v_termMany, .int v_rounds, .ref a_terms])), (a_now, .inl (y.1, 21, .inl u))])) A) ([.ref a, .int x1] : List Value).toArray s 0 0 A) (F0 m 30 ls []) := by
        intro K30 hE30 n
        induction n with
        | zero => intro x2_30 x3_30 v_now_30 ls H locs h; exact (sat_lp0 h).elim
        | succ n ih =>
          intro x2_30 x3_30 v_now_30 ls H locs h hl hP hD hS
          have h := sat_lp h
          have h : sat (m_X9_change_s30 x1 x2_30 x3_30 v_now_30) (lk (fun s' => sat (lp (fun q : (Int32 × Int32 × (Nat → Int32)) => m_X9_change_s30 x1 q.1 q.2.1 q.2.2) n s') K30) K30) := h
          unfold m_X9_change_s30 at h
          refine lv_iload_n hx hb dX9_change_30 rfl (lv_at hl 3 rfl) ?_
          refine lv_aload_n hx hb dX9_change_31 rfl (lv_at hl 0 rfl) ?_
          refine cr_i (rv (As := []) (rest := [.int x3_30]) ⟨hx, hb, hml, hown, hts⟩ (c_X9_size l D y a a_now a_undos a_seen a_isKept a_kept a_text a_read a_congruences a_terms v_undoMany v_undoAt v_seenMany v_letterMany v_readAt v_tokenAt v_token v_faultAt v_readItems v_congruenceMany v_termMany v_rounds v_now_30 _ (sat_bind h)) (cwV 0 hts gX9_change_X9_size rfl rfl rfl (by decide +kernel) ⟨Nat.le_of_ble_eq_true rfl, Nat.le_of_ble_eq_true rfl⟩) hK hP [0, 1] rfl 0 6 rfl rfl rfl rfl hl.1 rfl (Nat.le_of_ble_eq_true rfl) dX9_change_32 ⟨Nat.zero_le _, Nat.zero_le _⟩) (fun r4 h => ?_)
          refine lv_icmp_ge (tgt := 149) hx hb dX9_change_35 (by decide) (fun c35 => ?_) (fun c35 => ?_)
          · have h := sat_t c35 h
            have h := lk_r (sat_some h)
            exact hE30 (x2_30, v_now_30) ls H locs h (lv_sub hl [2] rfl) hP hD hS
          · have h := sat_f c35 h
            refine lv_iconst (v := 0) hx hb dX9_change_38 (by decide) ?_
            refine lv_istore (lv' := [(4, .int 0), (0, .ref a), (1, .int x1), (2, .int x2_30), (3, .int x3_30)]) hx hb dX9_change_39 hl (by decide) rfl (fun ls hl => ?_)
            have hL41 : ∀ (K41 : (Int32 × (Nat → Int32)) → Prop)
                (hE41 : ∀ (z41 : (Int32 × (Nat → Int32))) (ls : Array Slot) (H : Heap) (locs : List Loc), K41 z41 → lv_has ls 7 [(0, .ref a), (1, .int x1), (2, .int z41.1), (3, .int x3_30)] → va_P D vwCl [(a, .inr (6, [.ref a_now, .int v_undoMany, .int v_undoAt, .ref a_undos, .int v_seenMany, .ref a_seen, .ref a_isKept, .ref a_kept, .int v_letterMany, .ref a_text, .int v_readAt, .int v_tokenAt, .int v_token, .int v_faultAt, .int v_readItems, .ref a_read, .int v_congruenceMany, .ref a_congruences, .int v_termMany, .int v_rounds, .ref a_terms])), (a_now, .inl (y.1, 21, .inl z41.2))] H → va_D A [(a, .inr (6, [.ref a_now, .int v_undoMany, .int v_undoAt, .ref a_undos, .int v_seenMany, .ref a_seen, .ref a_isKept, .ref a_kept, .int v_letterMany, .ref a_text, .int v_readAt, .int v_tokenAt, .int v_token, .int v_faultAt, .int v_readItems, .ref a_read, .int v_congruenceMany, .ref a_congruences, .int v_termMany, .int v_rounds, .ref a_terms])), (a_now, .inl (y.1, 21, .inl z41.2))] → va_S A s.heap H locs → W p l e (headSpec wsX9_change ({ frames := 3, cells := 0, slots := 0, locals := 71 } : Room)).room s m ([.ref a, .int x1] : List Value).toArray below meth c H locs 0 0 (MQ below (va_Qi K (bW D y A (fun u : ((Nat → Int32)) => [(a, .inr (6, [.ref a_now, .int v_undoMany, .int v_undoAt, .ref a_undos, .int v_seenMany, .ref a_seen, .ref a_isKept, .ref a_kept, .int v_letterMany, .ref a_text, .int v_readAt, .int v_tokenAt, .int v_token, .int v_faultAt, .int v_readItems, .ref a_read, .int v_congruenceMany, .ref a_congruences, .int v_termMany, .int v_rounds, .ref a_terms])), (a_now, .inl (y.1, 21, .inl u))])) A) ([.ref a, .int x1] : List Value).toArray s 0 0 A) (F0 m 143 ls []))
                (n : Nat) (x2_41 : Int32) (x4_41 : Int32) (v_now_41 : Nat → Int32) (ls : Array Slot) (H : Heap) (locs : List Loc), sat (lp (fun q : (Int32 × Int32 × (Nat → Int32)) => m_X9_change_s41 x1 x3_30 q.1 q.2.1 q.2.2) n (x2_41, x4_41, v_now_41)) K41 → lv_has ls 7 [(0, .ref a), (1, .int x1), (2, .int x2_41), (3, .int x3_30), (4, .int x4_41)] → va_P D vwCl [(a, .inr (6, [.ref a_now, .int v_undoMany, .int v_undoAt, .ref a_undos, .int v_seenMany, .ref a_seen, .ref a_isKept, .ref a_kept, .int v_letterMany, .ref a_text, .int v_readAt, .int v_tokenAt, .int v_token, .int v_faultAt, .int v_readItems, .ref a_read, .int v_congruenceMany, .ref a_congruences, .int v_termMany, .int v_rounds, .ref a_terms])), (a_now, .inl (y.1, 21, .inl v_now_41))] H → va_D A [(a, .inr (6, [.ref a_now, .int v_undoMany, .int v_undoAt, .ref a_undos, .int v_seenMany, .ref a_seen, .ref a_isKept, .ref a_kept, .int v_letterMany, .ref a_text, .int v_readAt, .int v_tokenAt, .int v_token, .int v_faultAt, .int v_readItems, .ref a_read, .int v_congruenceMany, .ref a_congruences, .int v_termMany, .int v_rounds, .ref a_terms])), (a_now, .inl (y.1, 21, .inl v_now_41))] → va_S A s.heap H locs → W p l e (headSpec wsX9_change ({ frames := 3, cells := 0, slots := 0, locals := 71 } : Room)).room s m ([.ref a, .int x1] : List Value).toArray below meth c H locs 0 0 (MQ below (va_Qi K (bW D y A (fun u : ((Nat → Int32)) => [(a, .inr (6, [.ref a_now, .int v_undoMany, .int v_undoAt, .ref a_undos, .int v_seenMany, .ref a_seen, .ref a_isKept, .ref a_kept, .int v_letterMany, .ref a_text, .int v_readAt, .int v_tokenAt, .int v_token, .int v_faultAt, .int v_readItems, .ref a_read, .int v_congruenceMany, .ref a_congruences, .int v_termMany, .int v_rounds, .ref a_terms])), (a_now, .inl (y.1, 21, .inl u))])) A) ([.ref a, .int x1] : List Value).toArray s 0 0 A) (F0 m 41 ls []) := by
              intro K41 hE41 n
              induction n with
              | zero => intro x2_41 x4_41 v_now_41 ls H locs h; exact (sat_lp0 h).elim
              | succ n ih =>
                intro x2_41 x4_41 v_now_41 ls H locs h hl hP hD hS
                have h := sat_lp h
                have h : sat (m_X9_change_s41 x1 x3_30 x2_41 x4_41 v_now_41) (lk (fun s' => sat (lp (fun q : (Int32 × Int32 × (Nat → Int32)) => m_X9_change_s41 x1 x3_30 q.1 q.2.1 q.2.2) n s') K41) K41) := h
                unfold m_X9_change_s41 at h
                refine lv_iload hx hb dX9_change_41 (lv_at hl 4 rfl) ?_
                refine lv_aload_n hx hb dX9_change_43 rfl (lv_at hl 0 rfl) ?_
                refine cr_i (rv (As := []) (rest := [.int x4_41]) ⟨hx, hb, hml, hown, hts⟩ (c_X9_size l D y a a_now a_undos a_seen a_isKept a_kept a_text a_read a_congruences a_terms v_undoMany v_undoAt v_seenMany v_letterMany v_readAt v_tokenAt v_token v_faultAt v_readItems v_congruenceMany v_termMany v_rounds v_now_41 _ (sat_bind h)) (cwV 0 hts gX9_change_X9_size rfl rfl rfl (by decide +kernel) ⟨Nat.le_of_ble_eq_true rfl, Nat.le_of_ble_eq_true rfl⟩) hK hP [0, 1] rfl 0 6 rfl rfl rfl rfl hl.1 rfl (Nat.le_of_ble_eq_true rfl) dX9_change_44 ⟨Nat.zero_le _, Nat.zero_le _⟩) (fun r6 h => ?_)
                refine lv_icmp_ge (tgt := 143) hx hb dX9_change_47 (by decide) (fun c47 => ?_) (fun c47 => ?_)
                · have h := sat_t c47 h
                  have h := lk_r (sat_some h)
                  exact hE41 (x2_41, v_now_41) ls H locs h (lv_sub hl [0, 1, 2, 3] rfl) hP hD hS
                · have h := sat_f c47 h
                  refine lv_aload_n hx hb dX9_change_50 rfl (lv_at hl 0 rfl) ?_
                  refine lv_iload_n hx hb dX9_change_51 rfl (lv_at hl 3 rfl) ?_
                  refine lv_iload hx hb dX9_change_52 (lv_at hl 4 rfl) ?_
                  refine cr_i (rv (As := [.int x3_30, .int x4_41]) (rest := []) ⟨hx, hb, hml, hown, hts⟩ (c_X9_ff l D y a a_now a_undos a_seen a_isKept a_kept a_text a_read a_congruences a_terms v_undoMany v_undoAt v_seenMany v_letterMany v_readAt v_tokenAt v_token v_faultAt v_readItems v_congruenceMany v_termMany v_rounds v_now_41 x3_30 x4_41 _ (sat_bind h)) (cwV 2 hts gX9_change_X9_ff rfl rfl rfl (by decide +kernel) ⟨Nat.le_of_ble_eq_true rfl, Nat.le_of_ble_eq_true rfl⟩) hK hP [0, 1] rfl 0 6 rfl rfl rfl rfl hl.1 rfl (Nat.le_of_ble_eq_true rfl) dX9_change_54 ⟨Nat.zero_le _, Nat.zero_le _⟩) (fun r7 h => ?_)
                  refine lv_istore (lv' := [(5, .int r7), (0, .ref a), (1, .int x1), (2, .int x2_41), (3, .int x3_30), (4, .int x4_41)]) hx hb dX9_change_57 hl (by decide) rfl (fun ls hl => ?_)
                  refine lv_iconst (v := 0) hx hb dX9_change_59 (by decide) ?_
                  refine lv_istore (lv' := [(6, .int 0), (5, .int r7), (0, .ref a), (1, .int x1), (2, .int x2_41), (3, .int x3_30), (4, .int x4_41)]) hx hb dX9_change_60 hl (by decide) rfl (fun ls hl => ?_)
                  have hL62 : ∀ (K62 : (Int32 × (Nat → Int32)) → Prop)
                      (hE62 : ∀ (z62 : (Int32 × (Nat → Int32))) (ls : Array Slot) (H : Heap) (locs : List Loc), K62 z62 → lv_has ls 7 [(0, .ref a), (1, .int x1), (2, .int z62.1), (3, .int x3_30), (4, .int x4_41), (5, .int r7)] → va_P D vwCl [(a, .inr (6, [.ref a_now, .int v_undoMany, .int v_undoAt, .ref a_undos, .int v_seenMany, .ref a_seen, .ref a_isKept, .ref a_kept, .int v_letterMany, .ref a_text, .int v_readAt, .int v_tokenAt, .int v_token, .int v_faultAt, .int v_readItems, .ref a_read, .int v_congruenceMany, .ref a_congruences, .int v_termMany, .int v_rounds, .ref a_terms])), (a_now, .inl (y.1, 21, .inl z62.2))] H → va_D A [(a, .inr (6, [.ref a_now, .int v_undoMany, .int v_undoAt, .ref a_undos, .int v_seenMany, .ref a_seen, .ref a_isKept, .ref a_kept, .int v_letterMany, .ref a_text, .int v_readAt, .int v_tokenAt, .int v_token, .int v_faultAt, .int v_readItems, .ref a_read, .int v_congruenceMany, .ref a_congruences, .int v_termMany, .int v_rounds, .ref a_terms])), (a_now, .inl (y.1, 21, .inl z62.2))] → va_S A s.heap H locs → W p l e (headSpec wsX9_change ({ frames := 3, cells := 0, slots := 0, locals := 71 } : Room)).room s m ([.ref a, .int x1] : List Value).toArray below meth c H locs 0 0 (MQ below (va_Qi K (bW D y A (fun u : ((Nat → Int32)) => [(a, .inr (6, [.ref a_now, .int v_undoMany, .int v_undoAt, .ref a_undos, .int v_seenMany, .ref a_seen, .ref a_isKept, .ref a_kept, .int v_letterMany, .ref a_text, .int v_readAt, .int v_tokenAt, .int v_token, .int v_faultAt, .int v_readItems, .ref a_read, .int v_congruenceMany, .ref a_congruences, .int v_termMany, .int v_rounds, .ref a_terms])), (a_now, .inl (y.1, 21, .inl u))])) A) ([.ref a, .int x1] : List Value).toArray s 0 0 A) (F0 m 124 ls []))
                      (n : Nat) (x2_62 : Int32) (x6_62 : Int32) (v_now_62 : Nat → Int32) (ls : Array Slot) (H : Heap) (locs : List Loc), sat (lp (fun q : (Int32 × Int32 × (Nat → Int32)) => m_X9_change_s62 x1 x3_30 x4_41 q.1 q.2.1 q.2.2) n (x2_62, x6_62, v_now_62)) K62 → lv_has ls 7 [(0, .ref a), (1, .int x1), (2, .int x2_62), (3, .int x3_30), (4, .int x4_41), (5, .int r7), (6, .int x6_62)] → va_P D vwCl [(a, .inr (6, [.ref a_now, .int v_undoMany, .int v_undoAt, .ref a_undos, .int v_seenMany, .ref a_seen, .ref a_isKept, .ref a_kept, .int v_letterMany, .ref a_text, .int v_readAt, .int v_tokenAt, .int v_token, .int v_faultAt, .int v_readItems, .ref a_read, .int v_congruenceMany, .ref a_congruences, .int v_termMany, .int v_rounds, .ref a_terms])), (a_now, .inl (y.1, 21, .inl v_now_62))] H → va_D A [(a, .inr (6, [.ref a_now, .int v_undoMany, .int v_undoAt, .ref a_undos, .int v_seenMany, .ref a_seen, .ref a_isKept, .ref a_kept, .int v_letterMany, .ref a_text, .int v_readAt, .int v_tokenAt, .int v_token, .int v_faultAt, .int v_readItems, .ref a_read, .int v_congruenceMany, .ref a_congruences, .int v_termMany, .int v_rounds, .ref a_terms])), (a_now, .inl (y.1, 21, .inl v_now_62))] → va_S A s.heap H locs → W p l e (headSpec wsX9_change ({ frames := 3, cells := 0, slots := 0, locals := 71 } : Room)).room s m ([.ref a, .int x1] : List Value).toArray below meth c H locs 0 0 (MQ below (va_Qi K (bW D y A (fun u : ((Nat → Int32)) => [(a, .inr (6, [.ref a_now, .int v_undoMany, .int v_undoAt, .ref a_undos, .int v_seenMany, .ref a_seen, .ref a_isKept, .ref a_kept, .int v_letterMany, .ref a_text, .int v_readAt, .int v_tokenAt, .int v_token, .int v_faultAt, .int v_readItems, .ref a_read, .int v_congruenceMany, .ref a_congruences, .int v_termMany, .int v_rounds, .ref a_terms])), (a_now, .inl (y.1, 21, .inl u))])) A) ([.ref a, .int x1] : List Value).toArray s 0 0 A) (F0 m 62 ls []) := by
                    intro K62 hE62 n
                    induction n with
                    | zero => intro x2_62 x6_62 v_now_62 ls H locs h; exact (sat_lp0 h).elim
                    | succ n ih =>
                      intro x2_62 x6_62 v_now_62 ls H locs h hl hP hD hS
                      have h := sat_lp h
                      have h : sat (m_X9_change_s62 x1 x3_30 x4_41 x2_62 x6_62 v_now_62) (lk (fun s' => sat (lp (fun q : (Int32 × Int32 × (Nat → Int32)) => m_X9_change_s62 x1 x3_30 x4_41 q.1 q.2.1 q.2.2) n s') K62) K62) := h
                      unfold m_X9_change_s62 at h
                      refine lv_iload hx hb dX9_change_62 (lv_at hl 6 rfl) ?_
                      refine lv_aload_n hx hb dX9_change_64 rfl (lv_at hl 0 rfl) ?_
                      refine cr_i (rv (As := []) (rest := [.int x6_62]) ⟨hx, hb, hml, hown, hts⟩ (c_X9_size l D y a a_now a_undos a_seen a_isKept a_kept a_text a_read a_congruences a_terms v_undoMany v_undoAt v_seenMany v_letterMany v_readAt v_tokenAt v_token v_faultAt v_readItems v_congruenceMany v_termMany v_rounds v_now_62 _ (sat_bind h)) (cwV 0 hts gX9_change_X9_size rfl rfl rfl (by decide +kernel) ⟨Nat.le_of_ble_eq_true rfl, Nat.le_of_ble_eq_true rfl⟩) hK hP [0, 1] rfl 0 6 rfl rfl rfl rfl hl.1 rfl (Nat.le_of_ble_eq_true rfl) dX9_change_65 ⟨Nat.zero_le _, Nat.zero_le _⟩) (fun r9 h => ?_)
                      refine lv_icmp_ge (tgt := 124) hx hb dX9_change_68 (by decide) (fun c68 => ?_) (fun c68 => ?_)
                      · have h := sat_t c68 h
                        have h := lk_r (sat_some h)
                        exact hE62 (x2_62, v_now_62) ls H locs h (lv_sub hl [0, 1, 2, 3, 4, 5] rfl) hP hD hS
                      · have h := sat_f c68 h
                        refine lv_aload_n hx hb dX9_change_71 rfl (lv_at hl 0 rfl) ?_
                        refine va_get (D := D) (ci := 6) (v := .ref a_now) (C := RX9) (T := TX9) (N := 21) hx hb hts iX9 hown hK hP 0 rfl rfl 0 (by decide) fl7 (fun _ h9 => h9) rfl dX9_change_72 ?_
                        refine lv_iconst (v := 4) hx hb dX9_change_75 (by decide) ?_
                        refine lv_iload_n hx hb dX9_change_76 rfl (lv_at hl 3 rfl) ?_
                        refine lv_imul hx hb dX9_change_77 ?_
                        refine lv_iload hx hb dX9_change_78 (lv_at hl 4 rfl) ?_
                        refine lv_iadd hx hb dX9_change_80 ?_
                        refine lv_iload hx hb dX9_change_81 (lv_at hl 6 rfl) ?_
                        obtain ⟨f10, ef10, hin, h⟩ := sat_wrI h
                        refine yi (wn := [(a, .inr (6, [.ref a_now, .int v_undoMany, .int v_undoAt, .ref a_undos, .int v_seenMany, .ref a_seen, .ref a_isKept, .ref a_kept, .int v_letterMany, .ref a_text, .int v_readAt, .int v_tokenAt, .int v_token, .int v_faultAt, .int v_readItems, .ref a_read, .int v_congruenceMany, .ref a_congruences, .int v_termMany, .int v_rounds, .ref a_terms])), (a_now, .inl (y.1, 21, .inl f10))]) hx hb hK hP hD hS 1 0 rfl rfl ef10 hin dX9_change_83 rfl (fun H locs hP hD hS => ?_)
                        refine lv_iload_n hx hb dX9_change_84 rfl (lv_at hl 2 rfl) ?_
                        refine lv_bipush (v := (-9)) hx hb dX9_change_85 (by decide) ?_
                        refine lv_icmp_ne (tgt := 116) hx hb dX9_change_87 (by decide) (fun c87 => ?_) (fun c87 => ?_)
                        · have h := sat_f c87 h
                          refine lv_iload_n hx hb dX9_change_116 rfl (lv_at hl 2 rfl) ?_
                          refine lv_istore_n (lv' := [(2, .int x2_62), (0, .ref a), (1, .int x1), (3, .int x3_30), (4, .int x4_41), (5, .int r7), (6, .int x6_62)]) hx hb dX9_change_117 rfl hl (by decide) rfl (fun ls hl => ?_)
                          refine lv_iinc (v := x6_62 + 1) (lv' := [(6, .int (x6_62 + 1)), (2, .int x2_62), (0, .ref a), (1, .int x1), (3, .int x3_30), (4, .int x4_41), (5, .int r7)]) hx hb dX9_change_118 hl (k := 6) rfl rfl (by decide) rfl (fun ls hl => ?_)
                          refine lv_goto (tgt := 62) hx hb dX9_change_121 (by decide) ?_
                          have h := lk_l (sat_some h)
                          exact ih x2_62 (x6_62 + 1) f10 ls H locs h (lv_sub hl [2, 3, 1, 4, 5, 6, 0] rfl) hP hD hS
                        · have h := sat_t c87 h
                          refine lv_aload_n hx hb dX9_change_90 rfl (lv_at hl 0 rfl) ?_
                          refine lv_iload_n hx hb dX9_change_91 rfl (lv_at hl 1 rfl) ?_
                          refine cr_i (rv (As := [.int x1]) (rest := []) ⟨hx, hb, hml, hown, hts⟩ (c_X9_firstOf l D y a a_now a_undos a_seen a_isKept a_kept a_text a_read a_congruences a_terms v_undoMany v_undoAt v_seenMany v_letterMany v_readAt v_tokenAt v_token v_faultAt v_readItems v_congruenceMany v_termMany v_rounds f10 x1 _ (sat_bind h)) (cwV 1 hts gX9_change_X9_firstOf rfl rfl rfl (by decide +kernel) ⟨Nat.le_of_ble_eq_true rfl, Nat.le_of_ble_eq_true rfl⟩) hK hP [0, 1] rfl 0 6 rfl rfl rfl rfl hl.1 rfl (Nat.le_of_ble_eq_true rfl) dX9_change_92 ⟨Nat.zero_le _, Nat.zero_le _⟩) (fun r11 h => ?_)
                          refine lv_bipush (v := (-9)) hx hb dX9_change_95 (by decide) ?_
                          refine lv_icmp_ne (tgt := 116) hx hb dX9_change_97 (by decide) (fun c97 => ?_) (fun c97 => ?_)
                          · have h := sat_f c97 h
                            refine lv_iload_n hx hb dX9_change_116 rfl (lv_at hl 2 rfl) ?_
                            refine lv_istore_n (lv' := [(2, .int x2_62), (0, .ref a), (1, .int x1), (3, .int x3_30), (4, .int x4_41), (5, .int r7), (6, .int x6_62)]) hx hb dX9_change_117 rfl hl (by decide) rfl (fun ls hl => ?_)
                            refine lv_iinc (v := x6_62 + 1) (lv' := [(6, .int (x6_62 + 1)), (2, .int x2_62), (0, .ref a), (1, .int x1), (3, .int x3_30), (4, .int x4_41), (5, .int r7)]) hx hb dX9_change_118 hl (k := 6) rfl rfl (by decide) rfl (fun ls hl => ?_)
                            refine lv_goto (tgt := 62) hx hb dX9_change_121 (by decide) ?_
                            have h := lk_l (sat_some h)
                            exact ih x2_62 (x6_62 + 1) f10 ls H locs h (lv_sub hl [2, 3, 1, 4, 5, 6, 0] rfl) hP hD hS
                          · have h := sat_t c97 h
                            refine lv_bipush (v := 100) hx hb dX9_change_100 (by decide) ?_
                            refine lv_iload_n hx hb dX9_change_102 rfl (lv_at hl 3 rfl) ?_
                            refine lv_imul hx hb dX9_change_103 ?_
                            refine lv_bipush (v := 10) hx hb dX9_change_104 (by decide) ?_
                            refine lv_iload hx hb dX9_change_106 (lv_at hl 4 rfl) ?_
                            refine lv_imul hx hb dX9_change_108 ?_
                            refine lv_iadd hx hb dX9_change_109 ?_
                            refine lv_iload hx hb dX9_change_110 (lv_at hl 6 rfl) ?_
                            refine lv_iadd hx hb dX9_change_112 ?_
                            refine lv_goto (tgt := 117) hx hb dX9_change_113 (by decide) ?_
                            refine lv_istore_n (lv' := [(2, .int (((100 * x3_30) + (10 * x4_41)) + x6_62)), (0, .ref a), (1, .int x1), (3, .int x3_30), (4, .int x4_41), (5, .int r7), (6, .int x6_62)]) hx hb dX9_change_117 rfl hl (by decide) rfl (fun ls hl => ?_)
                            refine lv_iinc (v := x6_62 + 1) (lv' := [(6, .int (x6_62 + 1)), (2, .int (((100 * x3_30) + (10 * x4_41)) + x6_62)), (0, .ref a), (1, .int x1), (3, .int x3_30), (4, .int x4_41), (5, .int r7)]) hx hb dX9_change_118 hl (k := 6) rfl rfl (by decide) rfl (fun ls hl => ?_)
                            refine lv_goto (tgt := 62) hx hb dX9_change_121 (by decide) ?_
                            have h := lk_l (sat_some h)
                            exact ih (((100 * x3_30) + (10 * x4_41)) + x6_62) (x6_62 + 1) f10 ls H locs h (lv_sub hl [2, 3, 1, 4, 5, 6, 0] rfl) hP hD hS
                  have h := sat_bind h
                  refine hL62 _ (fun z62 ls H locs h hl hP hD hS => ?_) 1000 x2_41 0 v_now_41 ls H locs h (lv_sub hl [2, 3, 4, 5, 6, 1, 0] rfl) hP hD hS
                  refine lv_aload_n hx hb dX9_change_124 rfl (lv_at hl 0 rfl) ?_
                  refine va_get (D := D) (ci := 6) (v := .ref a_now) (C := RX9) (T := TX9) (N := 21) hx hb hts iX9 hown hK hP 0 rfl rfl 0 (by decide) fl7 (fun _ h9 => h9) rfl dX9_change_125 ?_
                  refine lv_iconst (v := 4) hx hb dX9_change_128 (by decide) ?_
                  refine lv_iload_n hx hb dX9_change_129 rfl (lv_at hl 3 rfl) ?_
                  refine lv_imul hx hb dX9_change_130 ?_
                  refine lv_iload hx hb dX9_change_131 (lv_at hl 4 rfl) ?_
                  refine lv_iadd hx hb dX9_change_133 ?_
                  refine lv_iload hx hb dX9_change_134 (lv_at hl 5 rfl) ?_
                  obtain ⟨f12, ef12, hin, h⟩ := sat_wrI h
                  refine yi (wn := [(a, .inr (6, [.ref a_now, .int v_undoMany, .int v_undoAt, .ref a_undos, .int v_seenMany, .ref a_seen, .ref a_isKept, .ref a_kept, .int v_letterMany, .ref a_text, .int v_readAt, .int v_tokenAt, .int v_token, .int v_faultAt, .int v_readItems, .ref a_read, .int v_congruenceMany, .ref a_congruences, .int v_termMany, .int v_rounds, .ref a_terms])), (a_now, .inl (y.1, 21, .inl f12))]) hx hb hK hP hD hS 1 0 rfl rfl ef12 hin dX9_change_136 rfl (fun H locs hP hD hS => ?_)
                  refine lv_iinc (v := x4_41 + 1) (lv' := [(4, .int (x4_41 + 1)), (0, .ref a), (1, .int x1), (2, .int z62.1), (3, .int x3_30), (5, .int r7)]) hx hb dX9_change_137 hl (k := 4) rfl rfl (by decide) rfl (fun ls hl => ?_)
                  refine lv_goto (tgt := 41) hx hb dX9_change_140 (by decide) ?_
                  have h := lk_l (sat_some h)
                  exact ih z62.1 (x4_41 + 1) f12 ls H locs h (lv_sub hl [1, 2, 3, 4, 0] rfl) hP hD hS
            have h := sat_bind h
            refine hL41 _ (fun z41 ls H locs h hl hP hD hS => ?_) 1000 x2_30 0 v_now_30 ls H locs h (lv_sub hl [1, 2, 3, 4, 0] rfl) hP hD hS
            refine lv_iinc (v := x3_30 + 1) (lv' := [(3, .int (x3_30 + 1)), (0, .ref a), (1, .int x1), (2, .int z41.1)]) hx hb dX9_change_143 hl (k := 3) rfl rfl (by decide) rfl (fun ls hl => ?_)
            refine lv_goto (tgt := 30) hx hb dX9_change_146 (by decide) ?_
            have h := lk_l (sat_some h)
            exact ih z41.1 (x3_30 + 1) z41.2 ls H locs h (lv_sub hl [1, 2, 3, 0] rfl) hP hD hS
      have h := sat_bind h
      refine hL30 _ (fun z30 ls H locs h hl hP hD hS => ?_) 1000 (-9) 0 v_now ls s.heap [] h (lv_sub hl [2, 3, 1, 0] rfl) hP hD hS
      refine lv_iload_n hx hb dX9_change_149 rfl (lv_at hl 0 rfl) ?_
      have h := sat_some h
      exact W.iret (v := z30.1) hx hb hr (fun t ht hW => ⟨⟨z30.1, z30.2, rfl, h, by rw [ht]; exact hP, va_K.moved hW.alike hK, hD⟩, hS.F ht⟩) hS.2.2 dX9_change_150
    · have h := sat_t c20 h
      refine lv_iconst (v := (-1)) hx hb dX9_change_23 (by decide) ?_
      have h := sat_some h
      exact W.iret (v := (-1)) hx hb hr (fun t ht hW => ⟨⟨(-1), v_now, rfl, h, by rw [ht]; exact hP, va_K.moved hW.alike hK, hD⟩, hS.F ht⟩) hS.2.2 dX9_change_24
  · have h := sat_t c7 h
    refine lv_bipush (v := (-2)) hx hb dX9_change_10 (by decide) ?_
    have h := sat_some h
    exact W.iret (v := (-2)) hx hb hr (fun t ht hW => ⟨⟨(-2), v_now, rfl, h, by rw [ht]; exact hP, va_K.moved hW.alike hK, hD⟩, hS.F ht⟩) hS.2.2 dX9_change_12

/-! X9_figureOf -/
set_option maxHeartbeats 4000000 in
set_option maxRecDepth 100000 in
theorem c_X9_figureOf (l : Launch) (D : va_G) (y : ClassId × ClassId × ClassId × ClassId) (x0 : Int32) (x1 : Int32) (K : Int32 → Prop) (h : sat (m_X9_figureOf x0 x1) K) : Met l yX9_figureOf wsX9_figureOf ({ frames := 0, cells := 0, slots := 0, locals := 0 } : Room) (pR D y ([.int x0, .int x1] : List Value) []) (qSi K) 0 0 (fun _ => False) := by
  refine Met.ofW (cc := cX9_figureOf) (maxL := 2) (ret := (some .int)) (by decide) rfl ?_
  intro p e s m args below meth c s₁ B hml hv
  obtain ⟨rfl, hP, hK⟩ := hv
  have hx := B.exec
  have hb := B.bytes
  have hr := B.returns
  have hts := atoms_spec (ws := wsX9_figureOf) B.pre
  have hown : s.vm.findClass RX9 = some m.cls := findClass_of_methodNamed B.named
  have hlocks := B.notSynchronized
  have hl := lv_entry ([.int x0, .int x1] : List Value) (n := 2) (Nat.le_of_ble_eq_true rfl)
  rw [lg_entry_eq]
  generalize (lg_sl ([.int x0, .int x1] : List Value) ++ List.replicate (2 - (lg_sl ([.int x0, .int x1] : List Value)).length) Slot.unset).toArray = ls at hl ⊢
  have hl : lv_has ls 2 [(0, .int x0), (1, .int x1)] := hl
  unfold m_X9_figureOf at h
  refine lv_iload_n hx hb dX9_figureOf_0 rfl (lv_at hl 0 rfl) ?_
  refine lv_iconst (v := 2) hx hb dX9_figureOf_1 (by decide) ?_
  refine lv_iconst (v := 3) hx hb dX9_figureOf_2 (by decide) ?_
  refine lv_iload_n hx hb dX9_figureOf_3 rfl (lv_at hl 1 rfl) ?_
  refine lv_isub hx hb dX9_figureOf_4 ?_
  refine lv_imul hx hb dX9_figureOf_5 ?_
  refine lv_ishr hx hb dX9_figureOf_6 ?_
  refine lv_iconst (v := 3) hx hb dX9_figureOf_7 (by decide) ?_
  refine lv_iand hx hb dX9_figureOf_8 ?_
  have h := sat_some h
  exact W.iret (v := (x0 >>> ((2 * (3 - x1)) &&& 31)) &&& 3) hx hb hr (fun t ht _ => ⟨(x0 >>> ((2 * (3 - x1)) &&& 31)) &&& 3, rfl, h, ht⟩) (fun _ hq => by cases hq) dX9_figureOf_9

/-! X9_isWith -/
set_option maxHeartbeats 4000000 in
set_option maxRecDepth 100000 in
theorem c_X9_isWith (l : Launch) (D : va_G) (y : ClassId × ClassId × ClassId × ClassId) (a : Nat) (x1 : Int32) (x2 : Int32) (x3 : Int32) (K : Int32 → Prop) (h : sat (m_X9_isWith x1 x2 x3) K) : Met l yX9_isWith wsX9_isWith ({ frames := 1, cells := 0, slots := 0, locals := 21 } : Room) (pR D y ([.ref a, .int x1, .int x2, .int x3] : List Value) []) (qSi K) 0 0 (fun _ => False) := by
  refine Met.ofW (cc := cX9_isWith) (maxL := 4) (ret := (some .boolean)) (by decide) rfl ?_
  intro p e s m args below meth c s₁ B hml hv
  obtain ⟨rfl, hP, hK⟩ := hv
  have hx := B.exec
  have hb := B.bytes
  have hr := B.returns
  have hts := atoms_spec (ws := wsX9_isWith) B.pre
  have hown : s.vm.findClass RX9 = some m.cls := findClass_of_methodNamed B.named
  have hlocks := B.notSynchronized
  have hl := lv_entry ([.ref a, .int x1, .int x2, .int x3] : List Value) (n := 4) (Nat.le_of_ble_eq_true rfl)
  rw [lg_entry_eq]
  generalize (lg_sl ([.ref a, .int x1, .int x2, .int x3] : List Value) ++ List.replicate (4 - (lg_sl ([.ref a, .int x1, .int x2, .int x3] : List Value)).length) Slot.unset).toArray = ls at hl ⊢
  have hl : lv_has ls 4 [(0, .ref a), (1, .int x1), (2, .int x2), (3, .int x3)] := hl
  unfold m_X9_isWith at h
  refine lv_iload_n hx hb dX9_isWith_0 rfl (lv_at hl 1 rfl) ?_
  refine lv_iload_n hx hb dX9_isWith_1 rfl (lv_at hl 2 rfl) ?_
  refine cr_i (rs (As := [.int x1, .int x2]) (rest := []) ⟨hx, hb, hml, hown, hts⟩ (c_X9_figureOf l D y x1 x2 _ (sat_bind h)) (va_cwS 2 hts gX9_isWith_X9_figureOf rfl rfl rfl (by decide +kernel) ⟨Nat.le_of_ble_eq_true rfl, Nat.le_of_ble_eq_true rfl⟩) hK hP [] rfl rfl hl.1 rfl (Nat.le_of_ble_eq_true rfl) dX9_isWith_2 ⟨Nat.zero_le _, Nat.zero_le _⟩) (fun r1 h => ?_)
  refine lv_iload_n hx hb dX9_isWith_5 rfl (lv_at hl 1 rfl) ?_
  refine lv_iload_n hx hb dX9_isWith_6 rfl (lv_at hl 3 rfl) ?_
  refine cr_i (rs (As := [.int x1, .int x3]) (rest := [.int r1]) ⟨hx, hb, hml, hown, hts⟩ (c_X9_figureOf l D y x1 x3 _ (sat_bind h)) (va_cwS 2 hts gX9_isWith_X9_figureOf rfl rfl rfl (by decide +kernel) ⟨Nat.le_of_ble_eq_true rfl, Nat.le_of_ble_eq_true rfl⟩) hK hP [] rfl rfl hl.1 rfl (Nat.le_of_ble_eq_true rfl) dX9_isWith_7 ⟨Nat.zero_le _, Nat.zero_le _⟩) (fun r2 h => ?_)
  refine lv_icmp_ne (tgt := 17) hx hb dX9_isWith_10 (by decide) (fun c10 => ?_) (fun c10 => ?_)
  · have h := sat_f c10 h
    refine lv_iconst (v := 0) hx hb dX9_isWith_17 (by decide) ?_
    have h := sat_some h
    exact W.zret (v := 0) hx hb hr rfl (fun t ht _ => ⟨0, rfl, h, ht⟩) (fun _ hq => by cases hq) dX9_isWith_18
  · have h := sat_t c10 h
    refine lv_iconst (v := 1) hx hb dX9_isWith_13 (by decide) ?_
    refine lv_goto (tgt := 18) hx hb dX9_isWith_14 (by decide) ?_
    have h := sat_some h
    exact W.zret (v := 1) hx hb hr rfl (fun t ht _ => ⟨1, rfl, h, ht⟩) (fun _ hq => by cases hq) dX9_isWith_18

/-! X9_isPartition -/
set_option maxHeartbeats 4000000 in
set_option maxRecDepth 100000 in
theorem c_X9_isPartition (l : Launch) (D : va_G) (y : ClassId × ClassId × ClassId × ClassId) (a a_now a_undos a_seen a_isKept a_kept a_text a_read a_congruences a_terms : Nat) (v_undoMany : Int32) (v_undoAt : Int32) (v_seenMany : Int32) (v_letterMany : Int32) (v_readAt : Int32) (v_tokenAt : Int32) (v_token : Int32) (v_faultAt : Int32) (v_readItems : Int32) (v_congruenceMany : Int32) (v_termMany : Int32) (v_rounds : Int32) (v_now : Nat → Int32) (x1 : Int32) (K : Int32 → Prop) (h : sat (m_X9_isPartition v_now x1) K) : Met l yX9_isPartition wsX9_isPartition ({ frames := 1, cells := 0, slots := 0, locals := 21 } : Room) (pR D y ([.ref a, .int x1] : List Value) [(a, .inr (6, [.ref a_now, .int v_undoMany, .int v_undoAt, .ref a_undos, .int v_seenMany, .ref a_seen, .ref a_isKept, .ref a_kept, .int v_letterMany, .ref a_text, .int v_readAt, .int v_tokenAt, .int v_token, .int v_faultAt, .int v_readItems, .ref a_read, .int v_congruenceMany, .ref a_congruences, .int v_termMany, .int v_rounds, .ref a_terms])), (a_now, .inl (y.1, 21, .inl v_now))]) (qSi K) 0 0 (fun _ => False) := by
  refine Met.ofW (cc := cX9_isPartition) (maxL := 5) (ret := (some .boolean)) (by decide) rfl ?_
  intro p e s m args below meth c s₁ B hml hv
  obtain ⟨rfl, hP, hK⟩ := hv
  have hx := B.exec
  have hb := B.bytes
  have hr := B.returns
  have hts := atoms_spec (ws := wsX9_isPartition) B.pre
  have hown : s.vm.findClass RX9 = some m.cls := findClass_of_methodNamed B.named
  have hlocks := B.notSynchronized
  have hl := lv_entry ([.ref a, .int x1] : List Value) (n := 5) (Nat.le_of_ble_eq_true rfl)
  rw [lg_entry_eq]
  generalize (lg_sl ([.ref a, .int x1] : List Value) ++ List.replicate (5 - (lg_sl ([.ref a, .int x1] : List Value)).length) Slot.unset).toArray = ls at hl ⊢
  have hl : lv_has ls 5 [(0, .ref a), (1, .int x1)] := hl
  unfold m_X9_isPartition at h
  refine lv_iconst (v := 1) hx hb dX9_isPartition_0 (by decide) ?_
  refine lv_istore_n (lv' := [(2, .int 1), (0, .ref a), (1, .int x1)]) hx hb dX9_isPartition_1 rfl hl (by decide) rfl (fun ls hl => ?_)
  refine lv_iconst (v := 0) hx hb dX9_isPartition_2 (by decide) ?_
  refine lv_istore_n (lv' := [(3, .int 0), (2, .int 1), (0, .ref a), (1, .int x1)]) hx hb dX9_isPartition_3 rfl hl (by decide) rfl (fun ls hl => ?_)
  have hL4 : ∀ (K4 : Int32 → Prop)
      (hE4 : ∀ (z4 : Int32) (ls : Array Slot), K4 z4 → lv_has ls 5 [(2, .int z4)] → W p l e (headSpec wsX9_isPartition ({ frames := 1, cells := 0, slots := 0, locals := 21 } : Room)).room s m ([.ref a, .int x1] : List Value).toArray below meth c s.heap [] 0 0 (MQ below (qSi K) ([.ref a, .int x1] : List Value).toArray s 0 0 (fun _ => False)) (F0 m 65 ls []))
      (n : Nat) (x2_4 : Int32) (x3_4 : Int32) (ls : Array Slot), sat (lp (fun q : (Int32 × Int32) => m_X9_isPartition_s4 v_now x1 q.1 q.2) n (x2_4, x3_4)) K4 → lv_has ls 5 [(0, .ref a), (1, .int x1), (2, .int x2_4), (3, .int x3_4)] → W p l e (headSpec wsX9_isPartition ({ frames := 1, cells := 0, slots := 0, locals := 21 } : Room)).room s m ([.ref a, .int x1] : List Value).toArray below meth c s.heap [] 0 0 (MQ below (qSi K) ([.ref a, .int x1] : List Value).toArray s 0 0 (fun _ => False)) (F0 m 4 ls []) := by
    intro K4 hE4 n
    induction n with
    | zero => intro x2_4 x3_4 ls h; exact (sat_lp0 h).elim
    | succ n ih =>
      intro x2_4 x3_4 ls h hl
      have h := sat_lp h
      have h : sat (m_X9_isPartition_s4 v_now x1 x2_4 x3_4) (lk (fun s' => sat (lp (fun q : (Int32 × Int32) => m_X9_isPartition_s4 v_now x1 q.1 q.2) n s') K4) K4) := h
      unfold m_X9_isPartition_s4 at h
      refine lv_iload_n hx hb dX9_isPartition_4 rfl (lv_at hl 3 rfl) ?_
      refine lv_iconst (v := 4) hx hb dX9_isPartition_5 (by decide) ?_
      refine lv_icmp_ge (tgt := 65) hx hb dX9_isPartition_6 (by decide) (fun c6 => ?_) (fun c6 => ?_)
      · have h := sat_t c6 h
        have h := lk_r (sat_some h)
        exact hE4 x2_4 ls h (lv_sub hl [2] rfl)
      · have h := sat_f c6 h
        refine lv_iload_n hx hb dX9_isPartition_9 rfl (lv_at hl 1 rfl) ?_
        refine lv_iload_n hx hb dX9_isPartition_10 rfl (lv_at hl 3 rfl) ?_
        refine cr_i (rs (As := [.int x1, .int x3_4]) (rest := []) ⟨hx, hb, hml, hown, hts⟩ (c_X9_figureOf l D y x1 x3_4 _ (sat_bind h)) (va_cwS 2 hts gX9_isPartition_X9_figureOf rfl rfl rfl (by decide +kernel) ⟨Nat.le_of_ble_eq_true rfl, Nat.le_of_ble_eq_true rfl⟩) hK hP [] rfl rfl hl.1 rfl (Nat.le_of_ble_eq_true rfl) dX9_isPartition_11 ⟨Nat.zero_le _, Nat.zero_le _⟩) (fun r2 h => ?_)
        refine lv_istore (lv' := [(4, .int r2), (0, .ref a), (1, .int x1), (2, .int x2_4), (3, .int x3_4)]) hx hb dX9_isPartition_14 hl (by decide) rfl (fun ls hl => ?_)
        refine lv_iload_n hx hb dX9_isPartition_16 rfl (lv_at hl 3 rfl) ?_
        refine lv_if_eq (tgt := 57) hx hb dX9_isPartition_17 (by decide) (fun c17 => ?_) (fun c17 => ?_)
        · have h := sat_t c17 h
          refine lv_iconst (v := 0) hx hb dX9_isPartition_57 (by decide) ?_
          refine lv_istore_n (lv' := [(2, .int 0), (4, .int r2), (0, .ref a), (1, .int x1), (3, .int x3_4)]) hx hb dX9_isPartition_58 rfl hl (by decide) rfl (fun ls hl => ?_)
          refine lv_iinc (v := x3_4 + 1) (lv' := [(3, .int (x3_4 + 1)), (2, .int 0), (4, .int r2), (0, .ref a), (1, .int x1)]) hx hb dX9_isPartition_59 hl (k := 4) rfl rfl (by decide) rfl (fun ls hl => ?_)
          refine lv_goto (tgt := 4) hx hb dX9_isPartition_62 (by decide) ?_
          have h := lk_l (sat_some h)
          exact ih 0 (x3_4 + 1) ls h (lv_sub hl [3, 4, 1, 0] rfl)
        · have h := sat_f c17 h
          refine lv_iload_n hx hb dX9_isPartition_20 rfl (lv_at hl 4 rfl) ?_
          refine lv_aload_n hx hb dX9_isPartition_21 rfl (lv_at hl 1 rfl) ?_
          refine cr_i (rv (As := []) (rest := [.int x3_4]) ⟨hx, hb, hml, hown, hts⟩ (c_X9_size l D y a a_now a_undos a_seen a_isKept a_kept a_text a_read a_congruences a_terms v_undoMany v_undoAt v_seenMany v_letterMany v_readAt v_tokenAt v_token v_faultAt v_readItems v_congruenceMany v_termMany v_rounds v_now _ (sat_bind h)) (cwV 0 hts gX9_isPartition_X9_size rfl rfl rfl (by decide +kernel) ⟨Nat.le_of_ble_eq_true rfl, Nat.le_of_ble_eq_true rfl⟩) hK hP [0, 1] rfl 0 6 rfl rfl rfl rfl hl.1 rfl (Nat.le_of_ble_eq_true rfl) dX9_isPartition_22 ⟨Nat.zero_le _, Nat.zero_le _⟩) (fun r3 h => ?_)
          refine lv_icmp_ge (tgt := 48) hx hb dX9_isPartition_25 (by decide) (fun c25 => ?_) (fun c25 => ?_)
          · have h := sat_t c25 h
            refine lv_iload hx hb dX9_isPartition_48 (lv_at hl 0 rfl) ?_
            refine lv_if_ne (tgt := 57) hx hb dX9_isPartition_50 (by decide) (fun c50 => ?_) (fun c50 => ?_)
            · have h := sat_f c50 h
              refine lv_iconst (v := 0) hx hb dX9_isPartition_57 (by decide) ?_
              refine lv_istore_n (lv' := [(2, .int 0), (4, .int r2), (0, .ref a), (1, .int x1), (3, .int x3_4)]) hx hb dX9_isPartition_58 rfl hl (by decide) rfl (fun ls hl => ?_)
              refine lv_iinc (v := x3_4 + 1) (lv' := [(3, .int (x3_4 + 1)), (2, .int 0), (4, .int r2), (0, .ref a), (1, .int x1)]) hx hb dX9_isPartition_59 hl (k := 4) rfl rfl (by decide) rfl (fun ls hl => ?_)
              refine lv_goto (tgt := 4) hx hb dX9_isPartition_62 (by decide) ?_
              have h := lk_l (sat_some h)
              exact ih 0 (x3_4 + 1) ls h (lv_sub hl [3, 4, 1, 0] rfl)
            · have h := sat_t c50 h
              refine lv_iconst (v := 1) hx hb dX9_isPartition_53 (by decide) ?_
              refine lv_goto (tgt := 58) hx hb dX9_isPartition_54 (by decide) ?_
              refine lv_istore_n (lv' := [(2, .int 1), (4, .int r2), (0, .ref a), (1, .int x1), (3, .int x3_4)]) hx hb dX9_isPartition_58 rfl hl (by decide) rfl (fun ls hl => ?_)
              refine lv_iinc (v := x3_4 + 1) (lv' := [(3, .int (x3_4 + 1)), (2, .int 1), (4, .int r2), (0, .ref a), (1, .int x1)]) hx hb dX9_isPartition_59 hl (k := 4) rfl rfl (by decide) rfl (fun ls hl => ?_)
              refine lv_goto (tgt := 4) hx hb dX9_isPartition_62 (by decide) ?_
              have h := lk_l (sat_some h)
              exact ih 1 (x3_4 + 1) ls h (lv_sub hl [3, 4, 1, 0] rfl)
          · have h := sat_f c25 h
            refine lv_iload hx hb dX9_isPartition_28 (lv_at hl 0 rfl) ?_
            refine lv_iload_n hx hb dX9_isPartition_30 rfl (lv_at hl 4 rfl) ?_
            refine lv_icmp_gt (tgt := 57) hx hb dX9_isPartition_31 (by decide) (fun c31 => ?_) (fun c31 => ?_)
            · have h := sat_t c31 h
              refine lv_iconst (v := 0) hx hb dX9_isPartition_57 (by decide) ?_
              refine lv_istore_n (lv' := [(2, .int 0), (4, .int r2), (0, .ref a), (1, .int x1), (3, .int x3_4)]) hx hb dX9_isPartition_58 rfl hl (by decide) rfl (fun ls hl => ?_)
              refine lv_iinc (v := x3_4 + 1) (lv' := [(3, .int (x3_4 + 1)), (2, .int 0), (4, .int r2), (0, .ref a), (1, .int x1)]) hx hb dX9_isPartition_59 hl (k := 4) rfl rfl (by decide) rfl (fun ls hl => ?_)
              refine lv_goto (tgt := 4) hx hb dX9_isPartition_62 (by decide) ?_
              have h := lk_l (sat_some h)
              exact ih 0 (x3_4 + 1) ls h (lv_sub hl [3, 4, 1, 0] rfl)
            · have h := sat_f c31 h
              refine lv_iload_n hx hb dX9_isPartition_34 rfl (lv_at hl 2 rfl) ?_
              refine lv_iload hx hb dX9_isPartition_35 (lv_at hl 0 rfl) ?_
              refine cr_i (rs (As := [.int x1, .int r2]) (rest := []) ⟨hx, hb, hml, hown, hts⟩ (c_X9_figureOf l D y x1 r2 _ (sat_bind h)) (va_cwS 2 hts gX9_isPartition_X9_figureOf rfl rfl rfl (by decide +kernel) ⟨Nat.le_of_ble_eq_true rfl, Nat.le_of_ble_eq_true rfl⟩) hK hP [] rfl rfl hl.1 rfl (Nat.le_of_ble_eq_true rfl) dX9_isPartition_37 ⟨Nat.zero_le _, Nat.zero_le _⟩) (fun r4 h => ?_)
              refine lv_iload hx hb dX9_isPartition_40 (lv_at hl 0 rfl) ?_
              refine lv_icmp_ne (tgt := 57) hx hb dX9_isPartition_42 (by decide) (fun c42 => ?_) (fun c42 => ?_)
              · have h := sat_f c42 h
                refine lv_iconst (v := 0) hx hb dX9_isPartition_57 (by decide) ?_
                refine lv_istore_n (lv' := [(2, .int 0), (4, .int r2), (0, .ref a), (1, .int x1), (3, .int x3_4)]) hx hb dX9_isPartition_58 rfl hl (by decide) rfl (fun ls hl => ?_)
                refine lv_iinc (v := x3_4 + 1) (lv' := [(3, .int (x3_4 + 1)), (2, .int 0), (4, .int r2), (0, .ref a), (1, .int x1)]) hx hb dX9_isPartition_59 hl (k := 4) rfl rfl (by decide) rfl (fun ls hl => ?_)
                refine lv_goto (tgt := 4) hx hb dX9_isPartition_62 (by decide) ?_
                have h := lk_l (sat_some h)
                exact ih 0 (x3_4 + 1) ls h (lv_sub hl [3, 4, 1, 0] rfl)
              · have h := sat_t c42 h
                refine lv_goto (tgt := 53) hx hb dX9_isPartition_45 (by decide) ?_
                refine lv_iconst (v := 1) hx hb dX9_isPartition_53 (by decide) ?_
                refine lv_goto (tgt := 58) hx hb dX9_isPartition_54 (by decide) ?_
                refine lv_istore_n (lv' := [(2, .int 1), (4, .int r2), (0, .ref a), (1, .int x1), (3, .int x3_4)]) hx hb dX9_isPartition_58 rfl hl (by decide) rfl (fun ls hl => ?_)
                refine lv_iinc (v := x3_4 + 1) (lv' := [(3, .int (x3_4 + 1)), (2, .int 1), (4, .int r2), (0, .ref a), (1, .int x1)]) hx hb dX9_isPartition_59 hl (k := 4) rfl rfl (by decide) rfl (fun ls hl => ?_)
                refine lv_goto (tgt := 4) hx hb dX9_isPartition_62 (by decide) ?_
                have h := lk_l (sat_some h)
                exact ih 1 (x3_4 + 1) ls h (lv_sub hl [3, 4, 1, 0] rfl)
  have h := sat_bind h
  refine hL4 _ (fun z4 ls h hl => ?_) 1000 1 0 ls h (lv_sub hl [2, 3, 1, 0] rfl)
  refine lv_iload_n hx hb dX9_isPartition_65 rfl (lv_at hl 0 rfl) ?_
  obtain ⟨hz, h⟩ := sat_gd h
  have h := sat_some h
  exact W.zret (v := z4) hx hb hr (zn hz) (fun t ht _ => ⟨z4, rfl, h, ht⟩) (fun _ hq => by cases hq) dX9_isPartition_66

/-! X9_goesAlong -/
set_option maxHeartbeats 4000000 in
set_option maxRecDepth 100000 in
theorem c_X9_goesAlong (l : Launch) (D : va_G) (y : ClassId × ClassId × ClassId × ClassId) (a a_now a_undos a_seen a_isKept a_kept a_text a_read a_congruences a_terms : Nat) (v_undoMany : Int32) (v_undoAt : Int32) (v_seenMany : Int32) (v_letterMany : Int32) (v_readAt : Int32) (v_tokenAt : Int32) (v_token : Int32) (v_faultAt : Int32) (v_readItems : Int32) (v_congruenceMany : Int32) (v_termMany : Int32) (v_rounds : Int32) (v_now : Nat → Int32) (x1 : Int32) (K : Int32 → Prop) (h : sat (m_X9_goesAlong v_now x1) K) : Met l yX9_goesAlong wsX9_goesAlong ({ frames := 2, cells := 0, slots := 0, locals := 44 } : Room) (pR D y ([.ref a, .int x1] : List Value) [(a, .inr (6, [.ref a_now, .int v_undoMany, .int v_undoAt, .ref a_undos, .int v_seenMany, .ref a_seen, .ref a_isKept, .ref a_kept, .int v_letterMany, .ref a_text, .int v_readAt, .int v_tokenAt, .int v_token, .int v_faultAt, .int v_readItems, .ref a_read, .int v_congruenceMany, .ref a_congruences, .int v_termMany, .int v_rounds, .ref a_terms])), (a_now, .inl (y.1, 21, .inl v_now))]) (qSi K) 0 0 (fun _ => False) := by
  refine Met.ofW (cc := cX9_goesAlong) (maxL := 6) (ret := (some .boolean)) (by decide) rfl ?_
  intro p e s m args below meth c s₁ B hml hv
  obtain ⟨rfl, hP, hK⟩ := hv
  have hx := B.exec
  have hb := B.bytes
  have hr := B.returns
  have hts := atoms_spec (ws := wsX9_goesAlong) B.pre
  have hown : s.vm.findClass RX9 = some m.cls := findClass_of_methodNamed B.named
  have hlocks := B.notSynchronized
  have hl := lv_entry ([.ref a, .int x1] : List Value) (n := 6) (Nat.le_of_ble_eq_true rfl)
  rw [lg_entry_eq]
  generalize (lg_sl ([.ref a, .int x1] : List Value) ++ List.replicate (6 - (lg_sl ([.ref a, .int x1] : List Value)).length) Slot.unset).toArray = ls at hl ⊢
  have hl : lv_has ls 6 [(0, .ref a), (1, .int x1)] := hl
  unfold m_X9_goesAlong at h
  refine lv_iconst (v := 0) hx hb dX9_goesAlong_0 (by decide) ?_
  refine lv_istore_n (lv' := [(2, .int 0), (0, .ref a), (1, .int x1)]) hx hb dX9_goesAlong_1 rfl hl (by decide) rfl (fun ls hl => ?_)
  have hL2 : ∀ (K2 : (Int32 ⊕ Unit) → Prop)
      (hR2 : ∀ (u : Int32), K2 (.inl u) → K u)
      (hE2 : ∀ (z2 : Unit) (ls : Array Slot), K2 (.inr z2) → lv_has ls 6 [] → W p l e (headSpec wsX9_goesAlong ({ frames := 2, cells := 0, slots := 0, locals := 44 } : Room)).room s m ([.ref a, .int x1] : List Value).toArray below meth c s.heap [] 0 0 (MQ below (qSi K) ([.ref a, .int x1] : List Value).toArray s 0 0 (fun _ => False)) (F0 m 140 ls []))
      (n : Nat) (x2_2 : Int32) (ls : Array Slot), sat (lp (fun q : Int32 => m_X9_goesAlong_s2 v_now x1 q) n x2_2) K2 → lv_has ls 6 [(0, .ref a), (1, .int x1), (2, .int x2_2)] → W p l e (headSpec wsX9_goesAlong ({ frames := 2, cells := 0, slots := 0, locals := 44 } : Room)).room s m ([.ref a, .int x1] : List Value).toArray below meth c s.heap [] 0 0 (MQ below (qSi K) ([.ref a, .int x1] : List Value).toArray s 0 0 (fun _ => False)) (F0 m 2 ls []) := by
    intro K2 hR2 hE2 n
    induction n with
    | zero => intro x2_2 ls h; exact (sat_lp0 h).elim
    | succ n ih =>
      intro x2_2 ls h hl
      have h := sat_lp h
      have h : sat (m_X9_goesAlong_s2 v_now x1 x2_2) (lk (fun s' => sat (lp (fun q : Int32 => m_X9_goesAlong_s2 v_now x1 q) n s') K2) K2) := h
      unfold m_X9_goesAlong_s2 at h
      refine lv_iload_n hx hb dX9_goesAlong_2 rfl (lv_at hl 2 rfl) ?_
      refine lv_aload_n hx hb dX9_goesAlong_3 rfl (lv_at hl 0 rfl) ?_
      refine cr_i (rv (As := []) (rest := [.int x2_2]) ⟨hx, hb, hml, hown, hts⟩ (c_X9_size l D y a a_now a_undos a_seen a_isKept a_kept a_text a_read a_congruences a_terms v_undoMany v_undoAt v_seenMany v_letterMany v_readAt v_tokenAt v_token v_faultAt v_readItems v_congruenceMany v_termMany v_rounds v_now _ (sat_bind h)) (cwV 0 hts gX9_goesAlong_X9_size rfl rfl rfl (by decide +kernel) ⟨Nat.le_of_ble_eq_true rfl, Nat.le_of_ble_eq_true rfl⟩) hK hP [0, 1] rfl 0 6 rfl rfl rfl rfl hl.1 rfl (Nat.le_of_ble_eq_true rfl) dX9_goesAlong_4 ⟨Nat.zero_le _, Nat.zero_le _⟩) (fun r2 h => ?_)
      refine lv_icmp_ge (tgt := 140) hx hb dX9_goesAlong_7 (by decide) (fun c7 => ?_) (fun c7 => ?_)
      · have h := sat_t c7 h
        have h := lk_r (sat_some h)
        exact hE2 () ls h (lv_sub hl [] rfl)
      · have h := sat_f c7 h
        refine lv_iconst (v := 0) hx hb dX9_goesAlong_10 (by decide) ?_
        refine lv_istore_n (lv' := [(3, .int 0), (0, .ref a), (1, .int x1), (2, .int x2_2)]) hx hb dX9_goesAlong_11 rfl hl (by decide) rfl (fun ls hl => ?_)
        have hL12 : ∀ (K12 : (Int32 ⊕ Unit) → Prop)
            (hR12 : ∀ (u : Int32), K12 (.inl u) → K u)
            (hE12 : ∀ (z12 : Unit) (ls : Array Slot), K12 (.inr z12) → lv_has ls 6 [(0, .ref a), (1, .int x1), (2, .int x2_2)] → W p l e (headSpec wsX9_goesAlong ({ frames := 2, cells := 0, slots := 0, locals := 44 } : Room)).room s m ([.ref a, .int x1] : List Value).toArray below meth c s.heap [] 0 0 (MQ below (qSi K) ([.ref a, .int x1] : List Value).toArray s 0 0 (fun _ => False)) (F0 m 134 ls []))
            (n : Nat) (x3_12 : Int32) (ls : Array Slot), sat (lp (fun q : Int32 => m_X9_goesAlong_s12 v_now x1 x2_2 q) n x3_12) K12 → lv_has ls 6 [(0, .ref a), (1, .int x1), (2, .int x2_2), (3, .int x3_12)] → W p l e (headSpec wsX9_goesAlong ({ frames := 2, cells := 0, slots := 0, locals := 44 } : Room)).room s m ([.ref a, .int x1] : List Value).toArray below meth c s.heap [] 0 0 (MQ below (qSi K) ([.ref a, .int x1] : List Value).toArray s 0 0 (fun _ => False)) (F0 m 12 ls []) := by
          intro K12 hR12 hE12 n
          induction n with
          | zero => intro x3_12 ls h; exact (sat_lp0 h).elim
          | succ n ih =>
            intro x3_12 ls h hl
            have h := sat_lp h
            have h : sat (m_X9_goesAlong_s12 v_now x1 x2_2 x3_12) (lk (fun s' => sat (lp (fun q : Int32 => m_X9_goesAlong_s12 v_now x1 x2_2 q) n s') K12) K12) := h
            unfold m_X9_goesAlong_s12 at h
            refine lv_iload_n hx hb dX9_goesAlong_12 rfl (lv_at hl 3 rfl) ?_
            refine lv_aload_n hx hb dX9_goesAlong_13 rfl (lv_at hl 0 rfl) ?_
            refine cr_i (rv (As := []) (rest := [.int x3_12]) ⟨hx, hb, hml, hown, hts⟩ (c_X9_size l D y a a_now a_undos a_seen a_isKept a_kept a_text a_read a_congruences a_terms v_undoMany v_undoAt v_seenMany v_letterMany v_readAt v_tokenAt v_token v_faultAt v_readItems v_congruenceMany v_termMany v_rounds v_now _ (sat_bind h)) (cwV 0 hts gX9_goesAlong_X9_size rfl rfl rfl (by decide +kernel) ⟨Nat.le_of_ble_eq_true rfl, Nat.le_of_ble_eq_true rfl⟩) hK hP [0, 1] rfl 0 6 rfl rfl rfl rfl hl.1 rfl (Nat.le_of_ble_eq_true rfl) dX9_goesAlong_14 ⟨Nat.zero_le _, Nat.zero_le _⟩) (fun r4 h => ?_)
            refine lv_icmp_ge (tgt := 134) hx hb dX9_goesAlong_17 (by decide) (fun c17 => ?_) (fun c17 => ?_)
            · have h := sat_t c17 h
              have h := lk_r (sat_some h)
              exact hE12 () ls h (lv_sub hl [0, 1, 2] rfl)
            · have h := sat_f c17 h
              refine lv_aload_n hx hb dX9_goesAlong_20 rfl (lv_at hl 0 rfl) ?_
              refine lv_iload_n hx hb dX9_goesAlong_21 rfl (lv_at hl 1 rfl) ?_
              refine lv_iload_n hx hb dX9_goesAlong_22 rfl (lv_at hl 2 rfl) ?_
              refine lv_iload_n hx hb dX9_goesAlong_23 rfl (lv_at hl 3 rfl) ?_
              refine cr_i (rv (As := [.int x1, .int x2_2, .int x3_12]) (rest := []) ⟨hx, hb, hml, hown, hts⟩ (c_X9_isWith l D y a x1 x2_2 x3_12 _ (sat_bind h)) (cwV 3 hts gX9_goesAlong_X9_isWith rfl rfl rfl (by decide +kernel) ⟨Nat.le_of_ble_eq_true rfl, Nat.le_of_ble_eq_true rfl⟩) hK hP [] rfl 0 6 rfl rfl rfl rfl hl.1 rfl (Nat.le_of_ble_eq_true rfl) dX9_goesAlong_24 ⟨Nat.zero_le _, Nat.zero_le _⟩) (fun r5 h => ?_)
              refine lv_if_eq (tgt := 128) hx hb dX9_goesAlong_27 (by decide) (fun c27 => ?_) (fun c27 => ?_)
              · have h := sat_t c27 h
                refine lv_iinc (v := x3_12 + 1) (lv' := [(3, .int (x3_12 + 1)), (0, .ref a), (1, .int x1), (2, .int x2_2)]) hx hb dX9_goesAlong_128 hl (k := 3) rfl rfl (by decide) rfl (fun ls hl => ?_)
                refine lv_goto (tgt := 12) hx hb dX9_goesAlong_131 (by decide) ?_
                have h := lk_l (sat_some h)
                exact ih (x3_12 + 1) ls h (lv_sub hl [1, 2, 3, 0] rfl)
              · have h := sat_f c27 h
                refine lv_aload_n hx hb dX9_goesAlong_30 rfl (lv_at hl 0 rfl) ?_
                refine lv_iload_n hx hb dX9_goesAlong_31 rfl (lv_at hl 1 rfl) ?_
                refine lv_aload_n hx hb dX9_goesAlong_32 rfl (lv_at hl 0 rfl) ?_
                refine lv_iload_n hx hb dX9_goesAlong_33 rfl (lv_at hl 2 rfl) ?_
                refine cr_i (rv (As := [.int x2_2]) (rest := [.int x1, .ref a]) ⟨hx, hb, hml, hown, hts⟩ (c_X9_gg l D y a a_now a_undos a_seen a_isKept a_kept a_text a_read a_congruences a_terms v_undoMany v_undoAt v_seenMany v_letterMany v_readAt v_tokenAt v_token v_faultAt v_readItems v_congruenceMany v_termMany v_rounds v_now x2_2 _ (sat_bind h)) (cwV 1 hts gX9_goesAlong_X9_gg rfl rfl rfl (by decide +kernel) ⟨Nat.le_of_ble_eq_true rfl, Nat.le_of_ble_eq_true rfl⟩) hK hP [0, 1] rfl 0 6 rfl rfl rfl rfl hl.1 rfl (Nat.le_of_ble_eq_true rfl) dX9_goesAlong_34 ⟨Nat.zero_le _, Nat.zero_le _⟩) (fun r6 h => ?_)
                refine lv_aload_n hx hb dX9_goesAlong_37 rfl (lv_at hl 0 rfl) ?_
                refine lv_iload_n hx hb dX9_goesAlong_38 rfl (lv_at hl 3 rfl) ?_
                refine cr_i (rv (As := [.int x3_12]) (rest := [.int r6, .int x1, .ref a]) ⟨hx, hb, hml, hown, hts⟩ (c_X9_gg l D y a a_now a_undos a_seen a_isKept a_kept a_text a_read a_congruences a_terms v_undoMany v_undoAt v_seenMany v_letterMany v_readAt v_tokenAt v_token v_faultAt v_readItems v_congruenceMany v_termMany v_rounds v_now x3_12 _ (sat_bind h)) (cwV 1 hts gX9_goesAlong_X9_gg rfl rfl rfl (by decide +kernel) ⟨Nat.le_of_ble_eq_true rfl, Nat.le_of_ble_eq_true rfl⟩) hK hP [0, 1] rfl 0 6 rfl rfl rfl rfl hl.1 rfl (Nat.le_of_ble_eq_true rfl) dX9_goesAlong_39 ⟨Nat.zero_le _, Nat.zero_le _⟩) (fun r7 h => ?_)
                refine cr_i (rv (As := [.int x1, .int r6, .int r7]) (rest := []) ⟨hx, hb, hml, hown, hts⟩ (c_X9_isWith l D y a x1 r6 r7 _ (sat_bind h)) (cwV 3 hts gX9_goesAlong_X9_isWith rfl rfl rfl (by decide +kernel) ⟨Nat.le_of_ble_eq_true rfl, Nat.le_of_ble_eq_true rfl⟩) hK hP [] rfl 0 6 rfl rfl rfl rfl hl.1 rfl (Nat.le_of_ble_eq_true rfl) dX9_goesAlong_42 ⟨Nat.zero_le _, Nat.zero_le _⟩) (fun r8 h => ?_)
                refine lv_istore (lv' := [(4, .int r8), (0, .ref a), (1, .int x1), (2, .int x2_2), (3, .int x3_12)]) hx hb dX9_goesAlong_45 hl (by decide) rfl (fun ls hl => ?_)
                refine lv_iconst (v := 0) hx hb dX9_goesAlong_47 (by decide) ?_
                refine lv_istore (lv' := [(5, .int 0), (4, .int r8), (0, .ref a), (1, .int x1), (2, .int x2_2), (3, .int x3_12)]) hx hb dX9_goesAlong_48 hl (by decide) rfl (fun ls hl => ?_)
                have hL50 : ∀ (K50 : Int32 → Prop)
                    (hE50 : ∀ (z50 : Int32) (ls : Array Slot), K50 z50 → lv_has ls 6 [(0, .ref a), (1, .int x1), (2, .int x2_2), (3, .int x3_12), (4, .int z50)] → W p l e (headSpec wsX9_goesAlong ({ frames := 2, cells := 0, slots := 0, locals := 44 } : Room)).room s m ([.ref a, .int x1] : List Value).toArray below meth c s.heap [] 0 0 (MQ below (qSi K) ([.ref a, .int x1] : List Value).toArray s 0 0 (fun _ => False)) (F0 m 121 ls []))
                    (n : Nat) (x4_50 : Int32) (x5_50 : Int32) (ls : Array Slot), sat (lp (fun q : (Int32 × Int32) => m_X9_goesAlong_s50 v_now x1 x2_2 x3_12 q.1 q.2) n (x4_50, x5_50)) K50 → lv_has ls 6 [(0, .ref a), (1, .int x1), (2, .int x2_2), (3, .int x3_12), (4, .int x4_50), (5, .int x5_50)] → W p l e (headSpec wsX9_goesAlong ({ frames := 2, cells := 0, slots := 0, locals := 44 } : Room)).room s m ([.ref a, .int x1] : List Value).toArray below meth c s.heap [] 0 0 (MQ below (qSi K) ([.ref a, .int x1] : List Value).toArray s 0 0 (fun _ => False)) (F0 m 50 ls []) := by
                  intro K50 hE50 n
                  induction n with
                  | zero => intro x4_50 x5_50 ls h; exact (sat_lp0 h).elim
                  | succ n ih =>
                    intro x4_50 x5_50 ls h hl
                    have h := sat_lp h
                    have h : sat (m_X9_goesAlong_s50 v_now x1 x2_2 x3_12 x4_50 x5_50) (lk (fun s' => sat (lp (fun q : (Int32 × Int32) => m_X9_goesAlong_s50 v_now x1 x2_2 x3_12 q.1 q.2) n s') K50) K50) := h
                    unfold m_X9_goesAlong_s50 at h
                    refine lv_iload hx hb dX9_goesAlong_50 (lv_at hl 5 rfl) ?_
                    refine lv_aload_n hx hb dX9_goesAlong_52 rfl (lv_at hl 0 rfl) ?_
                    refine cr_i (rv (As := []) (rest := [.int x5_50]) ⟨hx, hb, hml, hown, hts⟩ (c_X9_size l D y a a_now a_undos a_seen a_isKept a_kept a_text a_read a_congruences a_terms v_undoMany v_undoAt v_seenMany v_letterMany v_readAt v_tokenAt v_token v_faultAt v_readItems v_congruenceMany v_termMany v_rounds v_now _ (sat_bind h)) (cwV 0 hts gX9_goesAlong_X9_size rfl rfl rfl (by decide +kernel) ⟨Nat.le_of_ble_eq_true rfl, Nat.le_of_ble_eq_true rfl⟩) hK hP [0, 1] rfl 0 6 rfl rfl rfl rfl hl.1 rfl (Nat.le_of_ble_eq_true rfl) dX9_goesAlong_53 ⟨Nat.zero_le _, Nat.zero_le _⟩) (fun r10 h => ?_)
                    refine lv_icmp_ge (tgt := 121) hx hb dX9_goesAlong_56 (by decide) (fun c56 => ?_) (fun c56 => ?_)
                    · have h := sat_t c56 h
                      have h := lk_r (sat_some h)
                      exact hE50 x4_50 ls h (lv_sub hl [0, 1, 2, 3, 4] rfl)
                    · have h := sat_f c56 h
                      refine lv_iload hx hb dX9_goesAlong_59 (lv_at hl 4 rfl) ?_
                      refine lv_if_eq (tgt := 112) hx hb dX9_goesAlong_61 (by decide) (fun c61 => ?_) (fun c61 => ?_)
                      · have h := sat_t c61 h
                        refine lv_iconst (v := 0) hx hb dX9_goesAlong_112 (by decide) ?_
                        refine lv_istore (lv' := [(4, .int 0), (0, .ref a), (1, .int x1), (2, .int x2_2), (3, .int x3_12), (5, .int x5_50)]) hx hb dX9_goesAlong_113 hl (by decide) rfl (fun ls hl => ?_)
                        refine lv_iinc (v := x5_50 + 1) (lv' := [(5, .int (x5_50 + 1)), (4, .int 0), (0, .ref a), (1, .int x1), (2, .int x2_2), (3, .int x3_12)]) hx hb dX9_goesAlong_115 hl (k := 5) rfl rfl (by decide) rfl (fun ls hl => ?_)
                        refine lv_goto (tgt := 50) hx hb dX9_goesAlong_118 (by decide) ?_
                        have h := lk_l (sat_some h)
                        exact ih 0 (x5_50 + 1) ls h (lv_sub hl [2, 3, 4, 5, 1, 0] rfl)
                      · have h := sat_f c61 h
                        refine lv_aload_n hx hb dX9_goesAlong_64 rfl (lv_at hl 0 rfl) ?_
                        refine lv_iload_n hx hb dX9_goesAlong_65 rfl (lv_at hl 1 rfl) ?_
                        refine lv_aload_n hx hb dX9_goesAlong_66 rfl (lv_at hl 0 rfl) ?_
                        refine lv_iload_n hx hb dX9_goesAlong_67 rfl (lv_at hl 2 rfl) ?_
                        refine lv_iload hx hb dX9_goesAlong_68 (lv_at hl 5 rfl) ?_
                        refine cr_i (rv (As := [.int x2_2, .int x5_50]) (rest := [.int x1, .ref a]) ⟨hx, hb, hml, hown, hts⟩ (c_X9_ff l D y a a_now a_undos a_seen a_isKept a_kept a_text a_read a_congruences a_terms v_undoMany v_undoAt v_seenMany v_letterMany v_readAt v_tokenAt v_token v_faultAt v_readItems v_congruenceMany v_termMany v_rounds v_now x2_2 x5_50 _ (sat_bind h)) (cwV 2 hts gX9_goesAlong_X9_ff rfl rfl rfl (by decide +kernel) ⟨Nat.le_of_ble_eq_true rfl, Nat.le_of_ble_eq_true rfl⟩) hK hP [0, 1] rfl 0 6 rfl rfl rfl rfl hl.1 rfl (Nat.le_of_ble_eq_true rfl) dX9_goesAlong_70 ⟨Nat.zero_le _, Nat.zero_le _⟩) (fun r11 h => ?_)
                        refine lv_aload_n hx hb dX9_goesAlong_73 rfl (lv_at hl 0 rfl) ?_
                        refine lv_iload_n hx hb dX9_goesAlong_74 rfl (lv_at hl 3 rfl) ?_
                        refine lv_iload hx hb dX9_goesAlong_75 (lv_at hl 5 rfl) ?_
                        refine cr_i (rv (As := [.int x3_12, .int x5_50]) (rest := [.int r11, .int x1, .ref a]) ⟨hx, hb, hml, hown, hts⟩ (c_X9_ff l D y a a_now a_undos a_seen a_isKept a_kept a_text a_read a_congruences a_terms v_undoMany v_undoAt v_seenMany v_letterMany v_readAt v_tokenAt v_token v_faultAt v_readItems v_congruenceMany v_termMany v_rounds v_now x3_12 x5_50 _ (sat_bind h)) (cwV 2 hts gX9_goesAlong_X9_ff rfl rfl rfl (by decide +kernel) ⟨Nat.le_of_ble_eq_true rfl, Nat.le_of_ble_eq_true rfl⟩) hK hP [0, 1] rfl 0 6 rfl rfl rfl rfl hl.1 rfl (Nat.le_of_ble_eq_true rfl) dX9_goesAlong_77 ⟨Nat.zero_le _, Nat.zero_le _⟩) (fun r12 h => ?_)
                        refine cr_i (rv (As := [.int x1, .int r11, .int r12]) (rest := []) ⟨hx, hb, hml, hown, hts⟩ (c_X9_isWith l D y a x1 r11 r12 _ (sat_bind h)) (cwV 3 hts gX9_goesAlong_X9_isWith rfl rfl rfl (by decide +kernel) ⟨Nat.le_of_ble_eq_true rfl, Nat.le_of_ble_eq_true rfl⟩) hK hP [] rfl 0 6 rfl rfl rfl rfl hl.1 rfl (Nat.le_of_ble_eq_true rfl) dX9_goesAlong_80 ⟨Nat.zero_le _, Nat.zero_le _⟩) (fun r13 h => ?_)
                        refine lv_if_eq (tgt := 112) hx hb dX9_goesAlong_83 (by decide) (fun c83 => ?_) (fun c83 => ?_)
                        · have h := sat_t c83 h
                          refine lv_iconst (v := 0) hx hb dX9_goesAlong_112 (by decide) ?_
                          refine lv_istore (lv' := [(4, .int 0), (0, .ref a), (1, .int x1), (2, .int x2_2), (3, .int x3_12), (5, .int x5_50)]) hx hb dX9_goesAlong_113 hl (by decide) rfl (fun ls hl => ?_)
                          refine lv_iinc (v := x5_50 + 1) (lv' := [(5, .int (x5_50 + 1)), (4, .int 0), (0, .ref a), (1, .int x1), (2, .int x2_2), (3, .int x3_12)]) hx hb dX9_goesAlong_115 hl (k := 5) rfl rfl (by decide) rfl (fun ls hl => ?_)
                          refine lv_goto (tgt := 50) hx hb dX9_goesAlong_118 (by decide) ?_
                          have h := lk_l (sat_some h)
                          exact ih 0 (x5_50 + 1) ls h (lv_sub hl [2, 3, 4, 5, 1, 0] rfl)
                        · have h := sat_f c83 h
                          refine lv_aload_n hx hb dX9_goesAlong_86 rfl (lv_at hl 0 rfl) ?_
                          refine lv_iload_n hx hb dX9_goesAlong_87 rfl (lv_at hl 1 rfl) ?_
                          refine lv_aload_n hx hb dX9_goesAlong_88 rfl (lv_at hl 0 rfl) ?_
                          refine lv_iload hx hb dX9_goesAlong_89 (lv_at hl 5 rfl) ?_
                          refine lv_iload_n hx hb dX9_goesAlong_91 rfl (lv_at hl 2 rfl) ?_
                          refine cr_i (rv (As := [.int x5_50, .int x2_2]) (rest := [.int x1, .ref a]) ⟨hx, hb, hml, hown, hts⟩ (c_X9_ff l D y a a_now a_undos a_seen a_isKept a_kept a_text a_read a_congruences a_terms v_undoMany v_undoAt v_seenMany v_letterMany v_readAt v_tokenAt v_token v_faultAt v_readItems v_congruenceMany v_termMany v_rounds v_now x5_50 x2_2 _ (sat_bind h)) (cwV 2 hts gX9_goesAlong_X9_ff rfl rfl rfl (by decide +kernel) ⟨Nat.le_of_ble_eq_true rfl, Nat.le_of_ble_eq_true rfl⟩) hK hP [0, 1] rfl 0 6 rfl rfl rfl rfl hl.1 rfl (Nat.le_of_ble_eq_true rfl) dX9_goesAlong_92 ⟨Nat.zero_le _, Nat.zero_le _⟩) (fun r14 h => ?_)
                          refine lv_aload_n hx hb dX9_goesAlong_95 rfl (lv_at hl 0 rfl) ?_
                          refine lv_iload hx hb dX9_goesAlong_96 (lv_at hl 5 rfl) ?_
                          refine lv_iload_n hx hb dX9_goesAlong_98 rfl (lv_at hl 3 rfl) ?_
                          refine cr_i (rv (As := [.int x5_50, .int x3_12]) (rest := [.int r14, .int x1, .ref a]) ⟨hx, hb, hml, hown, hts⟩ (c_X9_ff l D y a a_now a_undos a_seen a_isKept a_kept a_text a_read a_congruences a_terms v_undoMany v_undoAt v_seenMany v_letterMany v_readAt v_tokenAt v_token v_faultAt v_readItems v_congruenceMany v_termMany v_rounds v_now x5_50 x3_12 _ (sat_bind h)) (cwV 2 hts gX9_goesAlong_X9_ff rfl rfl rfl (by decide +kernel) ⟨Nat.le_of_ble_eq_true rfl, Nat.le_of_ble_eq_true rfl⟩) hK hP [0, 1] rfl 0 6 rfl rfl rfl rfl hl.1 rfl (Nat.le_of_ble_eq_true rfl) dX9_goesAlong_99 ⟨Nat.zero_le _, Nat.zero_le _⟩) (fun r15 h => ?_)
                          refine cr_i (rv (As := [.int x1, .int r14, .int r15]) (rest := []) ⟨hx, hb, hml, hown, hts⟩ (c_X9_isWith l D y a x1 r14 r15 _ (sat_bind h)) (cwV 3 hts gX9_goesAlong_X9_isWith rfl rfl rfl (by decide +kernel) ⟨Nat.le_of_ble_eq_true rfl, Nat.le_of_ble_eq_true rfl⟩) hK hP [] rfl 0 6 rfl rfl rfl rfl hl.1 rfl (Nat.le_of_ble_eq_true rfl) dX9_goesAlong_102 ⟨Nat.zero_le _, Nat.zero_le _⟩) (fun r16 h => ?_)
                          refine lv_if_eq (tgt := 112) hx hb dX9_goesAlong_105 (by decide) (fun c105 => ?_) (fun c105 => ?_)
                          · have h := sat_t c105 h
                            refine lv_iconst (v := 0) hx hb dX9_goesAlong_112 (by decide) ?_
                            refine lv_istore (lv' := [(4, .int 0), (0, .ref a), (1, .int x1), (2, .int x2_2), (3, .int x3_12), (5, .int x5_50)]) hx hb dX9_goesAlong_113 hl (by decide) rfl (fun ls hl => ?_)
                            refine lv_iinc (v := x5_50 + 1) (lv' := [(5, .int (x5_50 + 1)), (4, .int 0), (0, .ref a), (1, .int x1), (2, .int x2_2), (3, .int x3_12)]) hx hb dX9_goesAlong_115 hl (k := 5) rfl rfl (by decide) rfl (fun ls hl => ?_)
                            refine lv_goto (tgt := 50) hx hb dX9_goesAlong_118 (by decide) ?_
                            have h := lk_l (sat_some h)
                            exact ih 0 (x5_50 + 1) ls h (lv_sub hl [2, 3, 4, 5, 1, 0] rfl)
                          · have h := sat_f c105 h
                            refine lv_iconst (v := 1) hx hb dX9_goesAlong_108 (by decide) ?_
                            refine lv_goto (tgt := 113) hx hb dX9_goesAlong_109 (by decide) ?_
                            refine lv_istore (lv' := [(4, .int 1), (0, .ref a), (1, .int x1), (2, .int x2_2), (3, .int x3_12), (5, .int x5_50)]) hx hb dX9_goesAlong_113 hl (by decide) rfl (fun ls hl => ?_)
                            refine lv_iinc (v := x5_50 + 1) (lv' := [(5, .int (x5_50 + 1)), (4, .int 1), (0, .ref a), (1, .int x1), (2, .int x2_2), (3, .int x3_12)]) hx hb dX9_goesAlong_115 hl (k := 5) rfl rfl (by decide) rfl (fun ls hl => ?_)
                            refine lv_goto (tgt := 50) hx hb dX9_goesAlong_118 (by decide) ?_
                            have h := lk_l (sat_some h)
                            exact ih 1 (x5_50 + 1) ls h (lv_sub hl [2, 3, 4, 5, 1, 0] rfl)
                have h := sat_bind h
                refine hL50 _ (fun z50 ls h hl => ?_) 1000 r8 0 ls h (lv_sub hl [2, 3, 4, 5, 1, 0] rfl)
                refine lv_iload hx hb dX9_goesAlong_121 (lv_at hl 4 rfl) ?_
                refine lv_if_ne (tgt := 128) hx hb dX9_goesAlong_123 (by decide) (fun c123 => ?_) (fun c123 => ?_)
                · have h := sat_f c123 h
                  refine lv_iinc (v := x3_12 + 1) (lv' := [(3, .int (x3_12 + 1)), (0, .ref a), (1, .int x1), (2, .int x2_2), (4, .int z50)]) hx hb dX9_goesAlong_128 hl (k := 3) rfl rfl (by decide) rfl (fun ls hl => ?_)
                  refine lv_goto (tgt := 12) hx hb dX9_goesAlong_131 (by decide) ?_
                  have h := lk_l (sat_some h)
                  exact ih (x3_12 + 1) ls h (lv_sub hl [1, 2, 3, 0] rfl)
                · have h := sat_t c123 h
                  refine lv_iconst (v := 0) hx hb dX9_goesAlong_126 (by decide) ?_
                  have h := hR12 _ (lk_r (sat_some h))
                  exact W.zret (v := 0) hx hb hr rfl (fun t ht _ => ⟨0, rfl, h, ht⟩) (fun _ hq => by cases hq) dX9_goesAlong_127
        have h := sat_bdS h
        refine hL12 _ (fun u h => ?_) (fun z12 ls h hl => ?_) 1000 0 ls h (lv_sub hl [1, 2, 3, 0] rfl)
        · have h := lk_l h
          exact hR2 _ (lk_r (sat_some h))
        · have h := lk_r h
          refine lv_iinc (v := x2_2 + 1) (lv' := [(2, .int (x2_2 + 1)), (0, .ref a), (1, .int x1)]) hx hb dX9_goesAlong_134 hl (k := 2) rfl rfl (by decide) rfl (fun ls hl => ?_)
          refine lv_goto (tgt := 2) hx hb dX9_goesAlong_137 (by decide) ?_
          have h := lk_l (sat_some h)
          exact ih (x2_2 + 1) ls h (lv_sub hl [1, 2, 0] rfl)
  have h := sat_bdS h
  refine hL2 _ (fun u h => ?_) (fun z2 ls h hl => ?_) 1000 0 ls h (lv_sub hl [1, 2, 0] rfl)
  · have h := lk_l h
    exact sat_some h
  · have h := lk_r h
    refine lv_iconst (v := 1) hx hb dX9_goesAlong_140 (by decide) ?_
    have h := sat_some h
    exact W.zret (v := 1) hx hb hr rfl (fun t ht _ => ⟨1, rfl, h, ht⟩) (fun _ hq => by cases hq) dX9_goesAlong_141
