/-! the law: class and reference go on together -/
abbrev T58 : Type := Int32 × Int32 × Int32 × Int32 × Int32 × (Nat → Int32) × Int32 × (Nat → Int32) × Int32 × Int32 × Int32 × Int32 × (Nat → Int32) × Int32 × (Nat → Int32) × (Nat → Int32) × Int32 × Int32 × (Nat → Int32) × Int32 × Int32 × Int32 × Int64 × Int64 × Int64 × Int64 × Int32 × (Nat → Int64) × (Nat → Int32) × (Nat → Int32) × (Nat → Int32) × (Nat → Int32) × (Nat → Int32) × Int32 × (Nat → Int32) × Int32 × (Nat → Int32) × Int32 × Int32 × Int32 × Int32 × Int32 × Int32 × Int32 × Int32 × Int32 × Int32 × Int32 × Int32 × (Nat → Int32) × (Nat → Int32) × (Nat → Int32) × (Nat → Int32) × (Nat → Int32) × (Nat → Int32) × (Nat → Int32) × (Nat → Int32) × (Nat → Int64)
def IV (j : Nat) (i : Int32) (le : Int32) (se : Int32) (ki : Int32) (ns : Int32) (nv : (Nat → Int32)) (hk : Int32) (hp : (Nat → Int32)) (hv : (Nat → Int32)) (te : (Nat → Int32)) (sn : (Nat → Int32)) (s0 : Int32) (v0 : (Nat → Int32)) (s1 : Int32) (v1 : (Nat → Int32)) (um : Int32) (ua : Int32) (sm : Int32) (lm : Int32) (now : (Nat → Int32)) (un : (Nat → Int32)) (s9 : (Nat → Int32)) (ik : (Nat → Int32)) (kp : (Nat → Int32)) (t9 : (Nat → Int32)) : Prop :=
  i = nI (4 * j) ∧ (∃ l, l ≤ 60 ∧ le = nI l ∧ lm = nI l ∧ txR l te t9) ∧ (∃ q, q ≤ 6 ∧ se = nI q ∧ sm = nI q ∧ txR q sn s9) ∧ (∃ n tv k a, okT n tv ∧ ns = nI n ∧ asT nv tv ∧ as21 now tv n ∧ hk = nI k ∧ um = nI k ∧ ua = nI a ∧ hR n k a hp hv un tv) ∧ kR ki s0 s1 v0 v1 ik kp
def IS (j : Nat) (q : T58) : Prop := IV j q.1 q.2.1 q.2.2.1 q.2.2.2.1 q.2.2.2.2.1 q.2.2.2.2.2.1 q.2.2.2.2.2.2.2.2.2.2.2.2.2.1 q.2.2.2.2.2.2.2.2.2.2.2.2.2.2.1 q.2.2.2.2.2.2.2.2.2.2.2.2.2.2.2.1 q.2.2.2.2.2.2.2.2.2.2.2.2.2.2.2.2.2.2.2.2.2.2.2.2.2.2.2.2.2.2.2.1 q.2.2.2.2.2.2.2.2.2.2.2.2.2.2.2.2.2.2.2.2.2.2.2.2.2.2.2.2.2.2.2.2.1 q.2.2.2.2.2.2.2.2.2.2.2.2.2.2.2.2.2.2.2.2.2.2.2.2.2.2.2.2.2.2.2.2.2.1 q.2.2.2.2.2.2.2.2.2.2.2.2.2.2.2.2.2.2.2.2.2.2.2.2.2.2.2.2.2.2.2.2.2.2.1 q.2.2.2.2.2.2.2.2.2.2.2.2.2.2.2.2.2.2.2.2.2.2.2.2.2.2.2.2.2.2.2.2.2.2.2.1 q.2.2.2.2.2.2.2.2.2.2.2.2.2.2.2.2.2.2.2.2.2.2.2.2.2.2.2.2.2.2.2.2.2.2.2.2.1 q.2.2.2.2.2.2.2.2.2.2.2.2.2.2.2.2.2.2.2.2.2.2.2.2.2.2.2.2.2.2.2.2.2.2.2.2.2.1 q.2.2.2.2.2.2.2.2.2.2.2.2.2.2.2.2.2.2.2.2.2.2.2.2.2.2.2.2.2.2.2.2.2.2.2.2.2.2.1 q.2.2.2.2.2.2.2.2.2.2.2.2.2.2.2.2.2.2.2.2.2.2.2.2.2.2.2.2.2.2.2.2.2.2.2.2.2.2.2.1 q.2.2.2.2.2.2.2.2.2.2.2.2.2.2.2.2.2.2.2.2.2.2.2.2.2.2.2.2.2.2.2.2.2.2.2.2.2.2.2.2.1 q.2.2.2.2.2.2.2.2.2.2.2.2.2.2.2.2.2.2.2.2.2.2.2.2.2.2.2.2.2.2.2.2.2.2.2.2.2.2.2.2.2.2.2.2.2.2.2.2.2.1 q.2.2.2.2.2.2.2.2.2.2.2.2.2.2.2.2.2.2.2.2.2.2.2.2.2.2.2.2.2.2.2.2.2.2.2.2.2.2.2.2.2.2.2.2.2.2.2.2.2.2.1 q.2.2.2.2.2.2.2.2.2.2.2.2.2.2.2.2.2.2.2.2.2.2.2.2.2.2.2.2.2.2.2.2.2.2.2.2.2.2.2.2.2.2.2.2.2.2.2.2.2.2.2.1 q.2.2.2.2.2.2.2.2.2.2.2.2.2.2.2.2.2.2.2.2.2.2.2.2.2.2.2.2.2.2.2.2.2.2.2.2.2.2.2.2.2.2.2.2.2.2.2.2.2.2.2.2.1 q.2.2.2.2.2.2.2.2.2.2.2.2.2.2.2.2.2.2.2.2.2.2.2.2.2.2.2.2.2.2.2.2.2.2.2.2.2.2.2.2.2.2.2.2.2.2.2.2.2.2.2.2.2.1 q.2.2.2.2.2.2.2.2.2.2.2.2.2.2.2.2.2.2.2.2.2.2.2.2.2.2.2.2.2.2.2.2.2.2.2.2.2.2.2.2.2.2.2.2.2.2.2.2.2.2.2.2.2.2.1
def lawF (L : Nat) (xs : Nat → Int32) (q : T58) := m_L_law_s18 L xs q.1 q.2.1 q.2.2.1 q.2.2.2.1 q.2.2.2.2.1 q.2.2.2.2.2.1 q.2.2.2.2.2.2.1 q.2.2.2.2.2.2.2.1 q.2.2.2.2.2.2.2.2.1 q.2.2.2.2.2.2.2.2.2.1 q.2.2.2.2.2.2.2.2.2.2.1 q.2.2.2.2.2.2.2.2.2.2.2.1 q.2.2.2.2.2.2.2.2.2.2.2.2.1 q.2.2.2.2.2.2.2.2.2.2.2.2.2.1 q.2.2.2.2.2.2.2.2.2.2.2.2.2.2.1 q.2.2.2.2.2.2.2.2.2.2.2.2.2.2.2.1 q.2.2.2.2.2.2.2.2.2.2.2.2.2.2.2.2.1 q.2.2.2.2.2.2.2.2.2.2.2.2.2.2.2.2.2.1 q.2.2.2.2.2.2.2.2.2.2.2.2.2.2.2.2.2.2.1 q.2.2.2.2.2.2.2.2.2.2.2.2.2.2.2.2.2.2.2.1 q.2.2.2.2.2.2.2.2.2.2.2.2.2.2.2.2.2.2.2.2.1 q.2.2.2.2.2.2.2.2.2.2.2.2.2.2.2.2.2.2.2.2.2.1 q.2.2.2.2.2.2.2.2.2.2.2.2.2.2.2.2.2.2.2.2.2.2.1 q.2.2.2.2.2.2.2.2.2.2.2.2.2.2.2.2.2.2.2.2.2.2.2.1 q.2.2.2.2.2.2.2.2.2.2.2.2.2.2.2.2.2.2.2.2.2.2.2.2.1 q.2.2.2.2.2.2.2.2.2.2.2.2.2.2.2.2.2.2.2.2.2.2.2.2.2.1 q.2.2.2.2.2.2.2.2.2.2.2.2.2.2.2.2.2.2.2.2.2.2.2.2.2.2.1 q.2.2.2.2.2.2.2.2.2.2.2.2.2.2.2.2.2.2.2.2.2.2.2.2.2.2.2.1 q.2.2.2.2.2.2.2.2.2.2.2.2.2.2.2.2.2.2.2.2.2.2.2.2.2.2.2.2.1 q.2.2.2.2.2.2.2.2.2.2.2.2.2.2.2.2.2.2.2.2.2.2.2.2.2.2.2.2.2.1 q.2.2.2.2.2.2.2.2.2.2.2.2.2.2.2.2.2.2.2.2.2.2.2.2.2.2.2.2.2.2.1 q.2.2.2.2.2.2.2.2.2.2.2.2.2.2.2.2.2.2.2.2.2.2.2.2.2.2.2.2.2.2.2.1 q.2.2.2.2.2.2.2.2.2.2.2.2.2.2.2.2.2.2.2.2.2.2.2.2.2.2.2.2.2.2.2.2.1 q.2.2.2.2.2.2.2.2.2.2.2.2.2.2.2.2.2.2.2.2.2.2.2.2.2.2.2.2.2.2.2.2.2.1 q.2.2.2.2.2.2.2.2.2.2.2.2.2.2.2.2.2.2.2.2.2.2.2.2.2.2.2.2.2.2.2.2.2.2.1 q.2.2.2.2.2.2.2.2.2.2.2.2.2.2.2.2.2.2.2.2.2.2.2.2.2.2.2.2.2.2.2.2.2.2.2.1 q.2.2.2.2.2.2.2.2.2.2.2.2.2.2.2.2.2.2.2.2.2.2.2.2.2.2.2.2.2.2.2.2.2.2.2.2.1 q.2.2.2.2.2.2.2.2.2.2.2.2.2.2.2.2.2.2.2.2.2.2.2.2.2.2.2.2.2.2.2.2.2.2.2.2.2.1 q.2.2.2.2.2.2.2.2.2.2.2.2.2.2.2.2.2.2.2.2.2.2.2.2.2.2.2.2.2.2.2.2.2.2.2.2.2.2.1 q.2.2.2.2.2.2.2.2.2.2.2.2.2.2.2.2.2.2.2.2.2.2.2.2.2.2.2.2.2.2.2.2.2.2.2.2.2.2.2.1 q.2.2.2.2.2.2.2.2.2.2.2.2.2.2.2.2.2.2.2.2.2.2.2.2.2.2.2.2.2.2.2.2.2.2.2.2.2.2.2.2.1 q.2.2.2.2.2.2.2.2.2.2.2.2.2.2.2.2.2.2.2.2.2.2.2.2.2.2.2.2.2.2.2.2.2.2.2.2.2.2.2.2.2.1 q.2.2.2.2.2.2.2.2.2.2.2.2.2.2.2.2.2.2.2.2.2.2.2.2.2.2.2.2.2.2.2.2.2.2.2.2.2.2.2.2.2.2.1 q.2.2.2.2.2.2.2.2.2.2.2.2.2.2.2.2.2.2.2.2.2.2.2.2.2.2.2.2.2.2.2.2.2.2.2.2.2.2.2.2.2.2.2.1 q.2.2.2.2.2.2.2.2.2.2.2.2.2.2.2.2.2.2.2.2.2.2.2.2.2.2.2.2.2.2.2.2.2.2.2.2.2.2.2.2.2.2.2.2.1 q.2.2.2.2.2.2.2.2.2.2.2.2.2.2.2.2.2.2.2.2.2.2.2.2.2.2.2.2.2.2.2.2.2.2.2.2.2.2.2.2.2.2.2.2.2.1 q.2.2.2.2.2.2.2.2.2.2.2.2.2.2.2.2.2.2.2.2.2.2.2.2.2.2.2.2.2.2.2.2.2.2.2.2.2.2.2.2.2.2.2.2.2.2.1 q.2.2.2.2.2.2.2.2.2.2.2.2.2.2.2.2.2.2.2.2.2.2.2.2.2.2.2.2.2.2.2.2.2.2.2.2.2.2.2.2.2.2.2.2.2.2.2.1 q.2.2.2.2.2.2.2.2.2.2.2.2.2.2.2.2.2.2.2.2.2.2.2.2.2.2.2.2.2.2.2.2.2.2.2.2.2.2.2.2.2.2.2.2.2.2.2.2.1 q.2.2.2.2.2.2.2.2.2.2.2.2.2.2.2.2.2.2.2.2.2.2.2.2.2.2.2.2.2.2.2.2.2.2.2.2.2.2.2.2.2.2.2.2.2.2.2.2.2.1 q.2.2.2.2.2.2.2.2.2.2.2.2.2.2.2.2.2.2.2.2.2.2.2.2.2.2.2.2.2.2.2.2.2.2.2.2.2.2.2.2.2.2.2.2.2.2.2.2.2.2.1 q.2.2.2.2.2.2.2.2.2.2.2.2.2.2.2.2.2.2.2.2.2.2.2.2.2.2.2.2.2.2.2.2.2.2.2.2.2.2.2.2.2.2.2.2.2.2.2.2.2.2.2.1 q.2.2.2.2.2.2.2.2.2.2.2.2.2.2.2.2.2.2.2.2.2.2.2.2.2.2.2.2.2.2.2.2.2.2.2.2.2.2.2.2.2.2.2.2.2.2.2.2.2.2.2.2.1 q.2.2.2.2.2.2.2.2.2.2.2.2.2.2.2.2.2.2.2.2.2.2.2.2.2.2.2.2.2.2.2.2.2.2.2.2.2.2.2.2.2.2.2.2.2.2.2.2.2.2.2.2.2.1 q.2.2.2.2.2.2.2.2.2.2.2.2.2.2.2.2.2.2.2.2.2.2.2.2.2.2.2.2.2.2.2.2.2.2.2.2.2.2.2.2.2.2.2.2.2.2.2.2.2.2.2.2.2.2.1 q.2.2.2.2.2.2.2.2.2.2.2.2.2.2.2.2.2.2.2.2.2.2.2.2.2.2.2.2.2.2.2.2.2.2.2.2.2.2.2.2.2.2.2.2.2.2.2.2.2.2.2.2.2.2.2.1 q.2.2.2.2.2.2.2.2.2.2.2.2.2.2.2.2.2.2.2.2.2.2.2.2.2.2.2.2.2.2.2.2.2.2.2.2.2.2.2.2.2.2.2.2.2.2.2.2.2.2.2.2.2.2.2.2.1 q.2.2.2.2.2.2.2.2.2.2.2.2.2.2.2.2.2.2.2.2.2.2.2.2.2.2.2.2.2.2.2.2.2.2.2.2.2.2.2.2.2.2.2.2.2.2.2.2.2.2.2.2.2.2.2.2.2
set_option maxHeartbeats 4000000 in
theorem law_step {L j : Nat} {xs : Nat → Int32} (hL : L ≤ 2048) (hj : 4 * j + 4 ≤ L) (s : T58) (h : IS j s) : ∃ s2, lawF L xs s = some (.inl s2) ∧ IS (j + 1) s2 := by
  obtain ⟨i0, c_letters, c_seenSoFar, c_keptImages, c_now_size, c_now_values, c_trial_size, c_trial_values, c_reader_items, c_reader_item, c_reader_figures, c_reader_told_size, c_reader_told_values, c_history_known, c_history_places, c_history_values, c_congruences_found, c_congruences_size, c_congruences_partitions, c_terms_howMany, c_terms_rounds, c_terms_isFound, c_terms_firstLetter, c_terms_secondLetter, c_terms_thirdLetter, c_terms_goal, c_terms_width, c_terms_rows, c_terms_slots, c_terms_lowBehind, c_terms_highBehind, c_text, c_seen, c_images0_size, c_images0_values, c_images1_size, c_images1_values, r_undoMany, r_undoAt, r_seenMany, r_letterMany, r_readAt, r_tokenAt, r_token, r_faultAt, r_readItems, r_congruenceMany, r_termMany, r_rounds, r_now, r_undos, r_seen, r_isKept, r_kept, r_text, r_read, r_congruences, r_terms⟩ := s
  replace h : IV j i0 c_letters c_seenSoFar c_keptImages c_now_size c_now_values c_history_known c_history_places c_history_values c_text c_seen c_images0_size c_images0_values c_images1_size c_images1_values r_undoMany r_undoAt r_seenMany r_letterMany r_now r_undos r_seen r_isKept r_kept r_text := h
  obtain ⟨hi, ⟨l, hl, h1, h2, htx⟩, ⟨q, hq, h3, h4, hts⟩, ⟨n, tv, k, a, hT, h5, hv, hw, h6, h7, h8, hR0⟩, hK⟩ := h
  subst hi h1 h2 h3 h4 h5 h6 h7 h8
  have e4 : nI (4 * j) + 4 = nI (4 * (j + 1)) := nI_add (4 * j) 4
  have R1 : ∀ {ρ : Type} (f : Int32 → Option ρ), rd L xs (nI (4 * j) + 1) f = f (xs (4 * j + 1)) := fun f => rd_eq (nI_1 _) (by omega) (by omega)
  have R2 : ∀ {ρ : Type} (f : Int32 → Option ρ), rd L xs (nI (4 * j) + 2) f = f (xs (4 * j + 2)) := fun f => rd_eq (nI_add _ 2) (by omega) (by omega)
  have R3 : ∀ {ρ : Type} (f : Int32 → Option ρ), rd L xs (nI (4 * j) + 3) f = f (xs (4 * j + 3)) := fun f => rd_eq (nI_add _ 3) (by omega) (by omega)
  show ∃ s2, m_L_law_s18 L xs (nI (4 * j)) (nI l) (nI q) c_keptImages (nI n) c_now_values c_trial_size c_trial_values c_reader_items c_reader_item c_reader_figures c_reader_told_size c_reader_told_values (nI k) c_history_places c_history_values c_congruences_found c_congruences_size c_congruences_partitions c_terms_howMany c_terms_rounds c_terms_isFound c_terms_firstLetter c_terms_secondLetter c_terms_thirdLetter c_terms_goal c_terms_width c_terms_rows c_terms_slots c_terms_lowBehind c_terms_highBehind c_text c_seen c_images0_size c_images0_values c_images1_size c_images1_values (nI k) (nI a) (nI q) (nI l) r_readAt r_tokenAt r_token r_faultAt r_readItems r_congruenceMany r_termMany r_rounds r_now r_undos r_seen r_isKept r_kept r_text r_read r_congruences r_terms = some (.inl s2) ∧ IS (j + 1) s2
  unfold m_L_law_s18
  rw [show nI L - 4 = nI (L - 4) by rw [show (4 : Int32) = nI 4 from rfl, pk_sub (by omega)], if_neg (nI_nlt (show 4 * j ≤ L - 4 by omega) (by omega)), rd_eq rfl (show 4 * j < L by omega) (by omega)]
  by_cases d0 : xs (4 * j) &&& 31 = 0
  · rw [if_pos d0]
    obtain ⟨r, l2, a2, b2, e1, e2, hl2, ht2⟩ := agree_type hl htx (xs (4 * j + 1))
    rw [R1, e1, bd2_some, R1, e2, bd2_some, if_pos rfl]
    exact ⟨_, rfl, e4, ⟨l2, hl2, rfl, rfl, ht2⟩, ⟨q, hq, rfl, rfl, hts⟩, ⟨n, tv, k, a, hT, rfl, hv, hw, rfl, rfl, rfl, hR0⟩, hK⟩
  rw [if_neg d0]
  by_cases d1 : xs (4 * j) &&& 31 = 1
  · rw [if_pos d1]
    rw [show m_X8_clear (nI l) = some (nI l, 0) from rfl, bd2_some, show m_X9_clear (nI l) = some (nI l, 0) from rfl, bd2_some, if_pos rfl]
    exact ⟨_, rfl, e4, ⟨0, by omega, rfl, rfl, fun i hi => absurd hi (by omega)⟩, ⟨q, hq, rfl, rfl, hts⟩, ⟨n, tv, k, a, hT, rfl, hv, hw, rfl, rfl, rfl, hR0⟩, hK⟩
  rw [if_neg d1]
  by_cases d2 : xs (4 * j) &&& 31 = 2
  · rw [if_pos d2]
    rcases agree_tables (v := c_now_values) (ik := r_isKept) (now := r_now) (rv := c_reader_told_values) (rd9 := r_read) (q8 := nI q) (ki := c_keptImages) (k8 := nI k) (n8 := nI n) (ri := c_reader_items) (rt := c_reader_item) (rf := c_reader_figures) (rs := c_reader_told_size) (um := nI k) (sm := nI q) (rA := r_readAt) (tA := r_tokenAt) (tk := r_token) (fA := r_faultAt) (rI := r_readItems) hl htx with ⟨r, y1, y2, y3, y4, y5, g1, g2, g3, g4, g5, g6, e1, e2⟩ | ⟨r, n2, tv2, v2, w2, ik2, y1, y2, y3, y4, y5, g1, g2, g3, g4, g5, g6, e1, e2, hT2, hv2, hw2, k0, k1⟩
    · rw [e1, bd2_some, e2, bd2_some, if_pos rfl]
      exact ⟨_, rfl, e4, ⟨l, hl, rfl, rfl, htx⟩, ⟨q, hq, rfl, rfl, hts⟩, ⟨n, tv, k, a, hT, rfl, hv, hw, rfl, rfl, rfl, hR0⟩, hK⟩
    · rw [e1, bd2_some, e2, bd2_some, if_pos rfl]
      exact ⟨_, rfl, e4, ⟨0, by omega, rfl, rfl, fun i hi => absurd hi (by omega)⟩, ⟨0, by omega, rfl, rfl, fun i hi => absurd hi (by omega)⟩, ⟨n2, tv2, 0, a, hT2, rfl, hv2, hw2, rfl, rfl, rfl, hR_0 hR0.1⟩, ⟨false, false, rfl, k0, k1, fun h => (by cases h), fun h => (by cases h)⟩⟩
  rw [if_neg d2]
  by_cases d3 : xs (4 * j) &&& 31 = 3
  · rw [if_pos d3]
    obtain ⟨r, e1, e2⟩ := agree_f hT hv hw.1 hw.2 (xs (4 * j + 1)) (xs (4 * j + 2))
    rw [R1, R2, e1, Option.bind_some, R1, R2, e2, Option.bind_some, if_pos rfl]
    exact ⟨_, rfl, e4, ⟨l, hl, rfl, rfl, htx⟩, ⟨q, hq, rfl, rfl, hts⟩, ⟨n, tv, k, a, hT, rfl, hv, hw, rfl, rfl, rfl, hR0⟩, hK⟩
  rw [if_neg d3]
  by_cases d4 : xs (4 * j) &&& 31 = 4
  · rw [if_pos d4]
    obtain ⟨r, e1, e2⟩ := agree_g hT hv hw.1 hw.2 (xs (4 * j + 1))
    rw [R1, e1, Option.bind_some, R1, e2, Option.bind_some, if_pos rfl]
    exact ⟨_, rfl, e4, ⟨l, hl, rfl, rfl, htx⟩, ⟨q, hq, rfl, rfl, hts⟩, ⟨n, tv, k, a, hT, rfl, hv, hw, rfl, rfl, rfl, hR0⟩, hK⟩
  rw [if_neg d4]
  by_cases d5 : xs (4 * j) &&& 31 = 5
  · rw [if_pos d5]
    obtain ⟨r, k2, a2, pl2, vl2, un2, v2, w2, tv2, e1, e2, hT2, hv2, hw2, hR2⟩ := agree_sets hT hv hw hR0 (xs (4 * j + 1)) (xs (4 * j + 2)) (xs (4 * j + 3))
    rw [R1, R2, R3, e1, bd2_some, R1, R2, R3, e2, bd2_some, if_pos rfl]
    exact ⟨_, rfl, e4, ⟨l, hl, rfl, rfl, htx⟩, ⟨q, hq, rfl, rfl, hts⟩, ⟨n, tv2, k2, a2, hT2, rfl, hv2, hw2, rfl, rfl, rfl, hR2⟩, hK⟩
  rw [if_neg d5]
  by_cases d6 : xs (4 * j) &&& 31 = 6
  · rw [if_pos d6]
    obtain ⟨r, k2, a2, v2, w2, tv2, e1, e2, hT2, hv2, hw2, hR2⟩ := agree_undo hT hv hw hR0
    rw [e1, bd2_some, e2, bd2_some, if_pos rfl]
    exact ⟨_, rfl, e4, ⟨l, hl, rfl, rfl, htx⟩, ⟨q, hq, rfl, rfl, hts⟩, ⟨n, tv2, k2, a2, hT2, rfl, hv2, hw2, rfl, rfl, rfl, hR2⟩, hK⟩
  rw [if_neg d6]
  by_cases d7 : xs (4 * j) &&& 31 = 7
  · rw [if_pos d7]
    obtain ⟨r, e1, e2⟩ := agree_made hT hv hw.1 hw.2 (xs (4 * j + 1))
    rw [R1, e1, Option.bind_some, R1, e2, Option.bind_some, if_pos rfl]
    exact ⟨_, rfl, e4, ⟨l, hl, rfl, rfl, htx⟩, ⟨q, hq, rfl, rfl, hts⟩, ⟨n, tv, k, a, hT, rfl, hv, hw, rfl, rfl, rfl, hR0⟩, hK⟩
  rw [if_neg d7]
  by_cases d8 : xs (4 * j) &&& 31 = 8
  · rw [if_pos d8]
    obtain ⟨r, e1, e2⟩ := agree_closed hT hv hw.1 hw.2 (xs (4 * j + 1))
    rw [R1, e1, Option.bind_some, R1, e2, Option.bind_some, if_pos rfl]
    exact ⟨_, rfl, e4, ⟨l, hl, rfl, rfl, htx⟩, ⟨q, hq, rfl, rfl, hts⟩, ⟨n, tv, k, a, hT, rfl, hv, hw, rfl, rfl, rfl, hR0⟩, hK⟩
  rw [if_neg d8]
  by_cases d9 : xs (4 * j) &&& 31 = 9
  · rw [if_pos d9]
    obtain ⟨r, e1, e2⟩ := agree_law hT hv hw.1 hw.2 (xs (4 * j + 1))
    rw [R1, e1, Option.bind_some, R1, e2, Option.bind_some, if_pos rfl]
    exact ⟨_, rfl, e4, ⟨l, hl, rfl, rfl, htx⟩, ⟨q, hq, rfl, rfl, hts⟩, ⟨n, tv, k, a, hT, rfl, hv, hw, rfl, rfl, rfl, hR0⟩, hK⟩
  rw [if_neg d9]
  by_cases d10 : xs (4 * j) &&& 31 = 10
  · rw [if_pos d10]
    obtain ⟨r, ts2, t2, w2, e1, e2, hw2⟩ := agree_change (t := c_trial_values) (ts := c_trial_size) hT hv hw (xs (4 * j + 1))
    rw [R1, e1, bd2_some, R1, e2, bd2_some, if_pos rfl]
    exact ⟨_, rfl, e4, ⟨l, hl, rfl, rfl, htx⟩, ⟨q, hq, rfl, rfl, hts⟩, ⟨n, tv, k, a, hT, rfl, hv, hw2, rfl, rfl, rfl, hR0⟩, hK⟩
  rw [if_neg d10]
  by_cases d11 : xs (4 * j) &&& 31 = 11
  · rw [if_pos d11]
    obtain ⟨r, u, u2, e1, e2⟩ := agree_congruence hT hv hw.1 hw.2 c_congruences_found c_congruences_size r_congruenceMany c_congruences_partitions r_congruences (xs (4 * j + 1))
    rw [R1, e1, bd2_some, R1, e2, bd2_some, if_pos rfl]
    exact ⟨_, rfl, e4, ⟨l, hl, rfl, rfl, htx⟩, ⟨q, hq, rfl, rfl, hts⟩, ⟨n, tv, k, a, hT, rfl, hv, hw, rfl, rfl, rfl, hR0⟩, hK⟩
  rw [if_neg d11]
  by_cases d12 : xs (4 * j) &&& 31 = 12
  · rw [if_pos d12]
    obtain ⟨r, u, u2, e1, e2⟩ := agree_principal hT hv hw.1 hw.2 c_congruences_found c_congruences_size r_congruenceMany c_congruences_partitions r_congruences (xs (4 * j + 1)) (xs (4 * j + 2))
    rw [R1, R2, e1, bd2_some, R1, R2, e2, bd2_some, if_pos rfl]
    exact ⟨_, rfl, e4, ⟨l, hl, rfl, rfl, htx⟩, ⟨q, hq, rfl, rfl, hts⟩, ⟨n, tv, k, a, hT, rfl, hv, hw, rfl, rfl, rfl, hR0⟩, hK⟩
  rw [if_neg d12]
  by_cases d13 : xs (4 * j) &&& 31 = 13
  · rw [if_pos d13]
    obtain ⟨r, u, u2, e1, e2⟩ := agree_pair hT hv hw.1 hw.2 c_congruences_found c_congruences_size r_congruenceMany c_congruences_partitions r_congruences (xs (4 * j + 1)) (xs (4 * j + 2)) (xs (4 * j + 3))
    rw [R1, R2, R3, e1, bd2_some, R1, R2, R3, e2, bd2_some, if_pos rfl]
    exact ⟨_, rfl, e4, ⟨l, hl, rfl, rfl, htx⟩, ⟨q, hq, rfl, rfl, hts⟩, ⟨n, tv, k, a, hT, rfl, hv, hw, rfl, rfl, rfl, hR0⟩, hK⟩
  rw [if_neg d13]
  by_cases d14 : xs (4 * j) &&& 31 = 14
  · rw [if_pos d14]
    obtain ⟨r, u, u2, e1, e2⟩ := agree_free hT hv hw c_terms_howMany c_terms_rounds c_terms_isFound c_terms_firstLetter c_terms_secondLetter c_terms_thirdLetter c_terms_goal c_terms_width c_terms_highBehind c_terms_lowBehind c_terms_rows c_terms_slots r_termMany r_rounds r_terms (xs (4 * j + 1)) (xs (4 * j + 2))
    rw [R1, R2, e1, bd2_some, R1, R2, e2, bd2_some, if_pos rfl]
    exact ⟨_, rfl, e4, ⟨l, hl, rfl, rfl, htx⟩, ⟨q, hq, rfl, rfl, hts⟩, ⟨n, tv, k, a, hT, rfl, hv, hw, rfl, rfl, rfl, hR0⟩, hK⟩
  rw [if_neg d14]
  by_cases d15 : xs (4 * j) &&& 31 = 15
  · rw [if_pos d15]
    obtain ⟨r, u, u2, e1, e2⟩ := agree_term hT hv hw c_terms_howMany c_terms_rounds c_terms_isFound c_terms_firstLetter c_terms_secondLetter c_terms_thirdLetter c_terms_goal c_terms_width c_terms_highBehind c_terms_lowBehind c_terms_rows c_terms_slots r_termMany r_rounds r_terms (xs (4 * j + 1))
    rw [R1, e1, bd2_some, R1, e2, bd2_some, if_pos rfl]
    exact ⟨_, rfl, e4, ⟨l, hl, rfl, rfl, htx⟩, ⟨q, hq, rfl, rfl, hts⟩, ⟨n, tv, k, a, hT, rfl, hv, hw, rfl, rfl, rfl, hR0⟩, hK⟩
  rw [if_neg d15]
  by_cases d16 : xs (4 * j) &&& 31 = 16
  · rw [if_pos d16]
    obtain ⟨r, l2, a2, b2, e1, e2, hl2, ht2⟩ := agree_sees hq hts (xs (4 * j + 1))
    rw [R1, e1, bd2_some, R1, e2, bd2_some, if_pos rfl]
    exact ⟨_, rfl, e4, ⟨l, hl, rfl, rfl, htx⟩, ⟨l2, hl2, rfl, rfl, ht2⟩, ⟨n, tv, k, a, hT, rfl, hv, hw, rfl, rfl, rfl, hR0⟩, hK⟩
  rw [if_neg d16]
  by_cases d17 : xs (4 * j) &&& 31 = 17
  · rw [if_pos d17]
    rw [show m_X8_forget (nI q) = some (nI q, 0) from rfl, bd2_some, show m_X9_forget (nI q) = some (nI q, 0) from rfl, bd2_some, if_pos rfl]
    exact ⟨_, rfl, e4, ⟨l, hl, rfl, rfl, htx⟩, ⟨0, by omega, rfl, rfl, fun i hi => absurd hi (by omega)⟩, ⟨n, tv, k, a, hT, rfl, hv, hw, rfl, rfl, rfl, hR0⟩, hK⟩
  rw [if_neg d17]
  by_cases d18 : xs (4 * j) &&& 31 = 18
  · rw [if_pos d18]
    obtain ⟨r, t2, w2, e1, e2, hw2⟩ := agree_unseen (t := c_trial_values) (ts := c_trial_size) hT hq hv hw hts
    rw [e1, bd2_some, e2, bd2_some, if_pos rfl]
    exact ⟨_, rfl, e4, ⟨l, hl, rfl, rfl, htx⟩, ⟨q, hq, rfl, rfl, hts⟩, ⟨n, tv, k, a, hT, rfl, hv, hw2, rfl, rfl, rfl, hR0⟩, hK⟩
  rw [if_neg d18]
  by_cases d19 : xs (4 * j) &&& 31 = 19
  · rw [if_pos d19]
    obtain ⟨r, ki2, s02, s12, v02, v12, ik2, kp2, e1, e2, hK2⟩ := agree_keep hT hv hw hK (xs (4 * j + 1))
    rw [R1, e1, bd2_some, R1, e2, bd2_some, if_pos rfl]
    exact ⟨_, rfl, e4, ⟨l, hl, rfl, rfl, htx⟩, ⟨q, hq, rfl, rfl, hts⟩, ⟨n, tv, k, a, hT, rfl, hv, hw, rfl, rfl, rfl, hR0⟩, hK2⟩
  rw [if_neg d19]
  by_cases d20 : xs (4 * j) &&& 31 = 20
  · rw [if_pos d20]
    obtain ⟨r, k2, n2, tv2, v2, w2, e1, e2, hT2, hv2, hw2, hk2⟩ := agree_back (k := k) hT hv hw hK (xs (4 * j + 1))
    have hR2 : hR n2 k2 a c_history_places c_history_values r_undos tv2 := by
      rcases hk2 with rfl | ⟨rfl, rfl, rfl⟩
      · exact hR_0 hR0.1
      · exact hR0
    rw [R1, e1, bd2_some, R1, e2, bd2_some, if_pos rfl]
    exact ⟨_, rfl, e4, ⟨l, hl, rfl, rfl, htx⟩, ⟨q, hq, rfl, rfl, hts⟩, ⟨n2, tv2, k2, a, hT2, rfl, hv2, hw2, rfl, rfl, rfl, hR2⟩, hK⟩
  rw [if_neg d20]
  by_cases d21 : xs (4 * j) &&& 31 = 21
  · rw [if_pos d21]
    obtain ⟨r, u, u2, e1, e2⟩ := agree_count (l := l) (q := q) (k := k) hT hv hw c_congruences_found c_congruences_size r_congruenceMany c_congruences_partitions r_congruences (xs (4 * j + 1))
    rw [R1, e1, bd2_some, R1, e2, bd2_some, if_pos rfl]
    exact ⟨_, rfl, e4, ⟨l, hl, rfl, rfl, htx⟩, ⟨q, hq, rfl, rfl, hts⟩, ⟨n, tv, k, a, hT, rfl, hv, hw, rfl, rfl, rfl, hR0⟩, hK⟩
  rw [if_neg d21]
  exact ⟨_, rfl, e4, ⟨l, hl, rfl, rfl, htx⟩, ⟨q, hq, rfl, rfl, hts⟩, ⟨n, tv, k, a, hT, rfl, hv, hw, rfl, rfl, rfl, hR0⟩, hK⟩
theorem law_exit {L j : Nat} {xs : Nat → Int32} (hL : L ≤ 2048) (h0 : 4 * j ≤ L) (hj : L < 4 * j + 4) (s : T58) (h : IS j s) : ∃ z, lawF L xs s = some (.inr (.inr z)) := by
  have hi : s.1 = nI (4 * j) := h.1
  have hc : nI L - 4 < nI (4 * j) := by
    by_cases g : 4 ≤ L
    · rw [show nI L - 4 = nI (L - 4) by rw [show (4 : Int32) = nI 4 from rfl, pk_sub (by omega)]]
      exact nI_lt (by omega) (by omega)
    · have hj0 : j = 0 := by omega
      subst hj0
      rcases (show L = 0 ∨ L = 1 ∨ L = 2 ∨ L = 3 by omega) with rfl | rfl | rfl | rfl <;> decide
  unfold lawF m_L_law_s18
  rw [hi, if_pos hc]
  exact ⟨_, rfl⟩
theorem law_run {L : Nat} {xs : Nat → Int32} (hL : L ≤ 2048) : ∀ d N j s, 4 * j ≤ L → L < 4 * j + 4 * d + 4 → d < N → IS j s → ∃ z, lp (lawF L xs) N s = some (.inr z) := by
  intro d
  induction d with
  | zero =>
    intro N j s h0 h1 h2 hI
    obtain ⟨N, rfl⟩ : ∃ q, N = q + 1 := ⟨N - 1, by omega⟩
    obtain ⟨z, e⟩ := law_exit (xs := xs) hL h0 (by omega) s hI
    exact ⟨z, lp_exit e⟩
  | succ d ih =>
    intro N j s h0 h1 h2 hI
    obtain ⟨N, rfl⟩ : ∃ q, N = q + 1 := ⟨N - 1, by omega⟩
    by_cases g : 4 * j + 4 ≤ L
    · obtain ⟨s2, e, hI2⟩ := law_step (xs := xs) hL g s hI
      obtain ⟨z, ez⟩ := ih N (j + 1) s2 (by omega) (by omega) (by omega) hI2
      exact ⟨z, by rw [lp_succ e]; exact ez⟩
    · obtain ⟨z, e⟩ := law_exit (xs := xs) hL h0 (by omega) s hI
      exact ⟨z, lp_exit e⟩
theorem law_pure (L : Nat) (xs : Nat → Int32) (hL : L ≤ 2048) : ∀ (w8 : Int32 × (Nat → Int32)) (w9 : Nat → Int32), m_X6_startOver 0 (fun _ => 0) 2 = some w8 → m_X9_begins (fun _ => 0) 2 = some w9 → ∃ z, lp (fun q : (Int32 × Int32 × Int32 × Int32 × Int32 × (Nat → Int32) × Int32 × (Nat → Int32) × Int32 × Int32 × Int32 × Int32 × (Nat → Int32) × Int32 × (Nat → Int32) × (Nat → Int32) × Int32 × Int32 × (Nat → Int32) × Int32 × Int32 × Int32 × Int64 × Int64 × Int64 × Int64 × Int32 × (Nat → Int64) × (Nat → Int32) × (Nat → Int32) × (Nat → Int32) × (Nat → Int32) × (Nat → Int32) × Int32 × (Nat → Int32) × Int32 × (Nat → Int32) × Int32 × Int32 × Int32 × Int32 × Int32 × Int32 × Int32 × Int32 × Int32 × Int32 × Int32 × Int32 × (Nat → Int32) × (Nat → Int32) × (Nat → Int32) × (Nat → Int32) × (Nat → Int32) × (Nat → Int32) × (Nat → Int32) × (Nat → Int32) × (Nat → Int64)) => m_L_law_s18 L xs q.1 q.2.1 q.2.2.1 q.2.2.2.1 q.2.2.2.2.1 q.2.2.2.2.2.1 q.2.2.2.2.2.2.1 q.2.2.2.2.2.2.2.1 q.2.2.2.2.2.2.2.2.1 q.2.2.2.2.2.2.2.2.2.1 q.2.2.2.2.2.2.2.2.2.2.1 q.2.2.2.2.2.2.2.2.2.2.2.1 q.2.2.2.2.2.2.2.2.2.2.2.2.1 q.2.2.2.2.2.2.2.2.2.2.2.2.2.1 q.2.2.2.2.2.2.2.2.2.2.2.2.2.2.1 q.2.2.2.2.2.2.2.2.2.2.2.2.2.2.2.1 q.2.2.2.2.2.2.2.2.2.2.2.2.2.2.2.2.1 q.2.2.2.2.2.2.2.2.2.2.2.2.2.2.2.2.2.1 q.2.2.2.2.2.2.2.2.2.2.2.2.2.2.2.2.2.2.1 q.2.2.2.2.2.2.2.2.2.2.2.2.2.2.2.2.2.2.2.1 q.2.2.2.2.2.2.2.2.2.2.2.2.2.2.2.2.2.2.2.2.1 q.2.2.2.2.2.2.2.2.2.2.2.2.2.2.2.2.2.2.2.2.2.1 q.2.2.2.2.2.2.2.2.2.2.2.2.2.2.2.2.2.2.2.2.2.2.1 q.2.2.2.2.2.2.2.2.2.2.2.2.2.2.2.2.2.2.2.2.2.2.2.1 q.2.2.2.2.2.2.2.2.2.2.2.2.2.2.2.2.2.2.2.2.2.2.2.2.1 q.2.2.2.2.2.2.2.2.2.2.2.2.2.2.2.2.2.2.2.2.2.2.2.2.2.1 q.2.2.2.2.2.2.2.2.2.2.2.2.2.2.2.2.2.2.2.2.2.2.2.2.2.2.1 q.2.2.2.2.2.2.2.2.2.2.2.2.2.2.2.2.2.2.2.2.2.2.2.2.2.2.2.1 q.2.2.2.2.2.2.2.2.2.2.2.2.2.2.2.2.2.2.2.2.2.2.2.2.2.2.2.2.1 q.2.2.2.2.2.2.2.2.2.2.2.2.2.2.2.2.2.2.2.2.2.2.2.2.2.2.2.2.2.1 q.2.2.2.2.2.2.2.2.2.2.2.2.2.2.2.2.2.2.2.2.2.2.2.2.2.2.2.2.2.2.1 q.2.2.2.2.2.2.2.2.2.2.2.2.2.2.2.2.2.2.2.2.2.2.2.2.2.2.2.2.2.2.2.1 q.2.2.2.2.2.2.2.2.2.2.2.2.2.2.2.2.2.2.2.2.2.2.2.2.2.2.2.2.2.2.2.2.1 q.2.2.2.2.2.2.2.2.2.2.2.2.2.2.2.2.2.2.2.2.2.2.2.2.2.2.2.2.2.2.2.2.2.1 q.2.2.2.2.2.2.2.2.2.2.2.2.2.2.2.2.2.2.2.2.2.2.2.2.2.2.2.2.2.2.2.2.2.2.1 q.2.2.2.2.2.2.2.2.2.2.2.2.2.2.2.2.2.2.2.2.2.2.2.2.2.2.2.2.2.2.2.2.2.2.2.1 q.2.2.2.2.2.2.2.2.2.2.2.2.2.2.2.2.2.2.2.2.2.2.2.2.2.2.2.2.2.2.2.2.2.2.2.2.1 q.2.2.2.2.2.2.2.2.2.2.2.2.2.2.2.2.2.2.2.2.2.2.2.2.2.2.2.2.2.2.2.2.2.2.2.2.2.1 q.2.2.2.2.2.2.2.2.2.2.2.2.2.2.2.2.2.2.2.2.2.2.2.2.2.2.2.2.2.2.2.2.2.2.2.2.2.2.1 q.2.2.2.2.2.2.2.2.2.2.2.2.2.2.2.2.2.2.2.2.2.2.2.2.2.2.2.2.2.2.2.2.2.2.2.2.2.2.2.1 q.2.2.2.2.2.2.2.2.2.2.2.2.2.2.2.2.2.2.2.2.2.2.2.2.2.2.2.2.2.2.2.2.2.2.2.2.2.2.2.2.1 q.2.2.2.2.2.2.2.2.2.2.2.2.2.2.2.2.2.2.2.2.2.2.2.2.2.2.2.2.2.2.2.2.2.2.2.2.2.2.2.2.2.1 q.2.2.2.2.2.2.2.2.2.2.2.2.2.2.2.2.2.2.2.2.2.2.2.2.2.2.2.2.2.2.2.2.2.2.2.2.2.2.2.2.2.2.1 q.2.2.2.2.2.2.2.2.2.2.2.2.2.2.2.2.2.2.2.2.2.2.2.2.2.2.2.2.2.2.2.2.2.2.2.2.2.2.2.2.2.2.2.1 q.2.2.2.2.2.2.2.2.2.2.2.2.2.2.2.2.2.2.2.2.2.2.2.2.2.2.2.2.2.2.2.2.2.2.2.2.2.2.2.2.2.2.2.2.1 q.2.2.2.2.2.2.2.2.2.2.2.2.2.2.2.2.2.2.2.2.2.2.2.2.2.2.2.2.2.2.2.2.2.2.2.2.2.2.2.2.2.2.2.2.2.1 q.2.2.2.2.2.2.2.2.2.2.2.2.2.2.2.2.2.2.2.2.2.2.2.2.2.2.2.2.2.2.2.2.2.2.2.2.2.2.2.2.2.2.2.2.2.2.1 q.2.2.2.2.2.2.2.2.2.2.2.2.2.2.2.2.2.2.2.2.2.2.2.2.2.2.2.2.2.2.2.2.2.2.2.2.2.2.2.2.2.2.2.2.2.2.2.1 q.2.2.2.2.2.2.2.2.2.2.2.2.2.2.2.2.2.2.2.2.2.2.2.2.2.2.2.2.2.2.2.2.2.2.2.2.2.2.2.2.2.2.2.2.2.2.2.2.1 q.2.2.2.2.2.2.2.2.2.2.2.2.2.2.2.2.2.2.2.2.2.2.2.2.2.2.2.2.2.2.2.2.2.2.2.2.2.2.2.2.2.2.2.2.2.2.2.2.2.1 q.2.2.2.2.2.2.2.2.2.2.2.2.2.2.2.2.2.2.2.2.2.2.2.2.2.2.2.2.2.2.2.2.2.2.2.2.2.2.2.2.2.2.2.2.2.2.2.2.2.2.1 q.2.2.2.2.2.2.2.2.2.2.2.2.2.2.2.2.2.2.2.2.2.2.2.2.2.2.2.2.2.2.2.2.2.2.2.2.2.2.2.2.2.2.2.2.2.2.2.2.2.2.2.1 q.2.2.2.2.2.2.2.2.2.2.2.2.2.2.2.2.2.2.2.2.2.2.2.2.2.2.2.2.2.2.2.2.2.2.2.2.2.2.2.2.2.2.2.2.2.2.2.2.2.2.2.2.1 q.2.2.2.2.2.2.2.2.2.2.2.2.2.2.2.2.2.2.2.2.2.2.2.2.2.2.2.2.2.2.2.2.2.2.2.2.2.2.2.2.2.2.2.2.2.2.2.2.2.2.2.2.2.1 q.2.2.2.2.2.2.2.2.2.2.2.2.2.2.2.2.2.2.2.2.2.2.2.2.2.2.2.2.2.2.2.2.2.2.2.2.2.2.2.2.2.2.2.2.2.2.2.2.2.2.2.2.2.2.1 q.2.2.2.2.2.2.2.2.2.2.2.2.2.2.2.2.2.2.2.2.2.2.2.2.2.2.2.2.2.2.2.2.2.2.2.2.2.2.2.2.2.2.2.2.2.2.2.2.2.2.2.2.2.2.2.1 q.2.2.2.2.2.2.2.2.2.2.2.2.2.2.2.2.2.2.2.2.2.2.2.2.2.2.2.2.2.2.2.2.2.2.2.2.2.2.2.2.2.2.2.2.2.2.2.2.2.2.2.2.2.2.2.2.1 q.2.2.2.2.2.2.2.2.2.2.2.2.2.2.2.2.2.2.2.2.2.2.2.2.2.2.2.2.2.2.2.2.2.2.2.2.2.2.2.2.2.2.2.2.2.2.2.2.2.2.2.2.2.2.2.2.2) 1000 (0, 0, 0, 0, w8.1, w8.2, 0, (fun _ => 0), 0, 0, 0, 0, (fun _ => 0), 0, (fun _ => 0), (fun _ => 0), 0, 0, (fun _ => 0), 0, 0, 0, 0, 0, 0, 0, 0, (fun _ => 0), (fun _ => 0), (fun _ => 0), (fun _ => 0), (fun _ => 0), (fun _ => 0), 0, (fun _ => 0), 0, (fun _ => 0), 0, 0, 0, 0, 0, 0, 0, 0, 0, 0, 0, 0, w9, (fun _ => 0), (fun _ => 0), (fun _ => 0), (fun _ => 0), (fun _ => 0), (fun _ => 0), (fun _ => 0), (fun _ => 0)) = some (.inr z) := by
  intro w8 w9 h8 h9
  rw [startOver_eq] at h8
  rw [begins_eq] at h9
  have e8 := Option.some.inj h8
  have e9 := Option.some.inj h9
  subst e8 e9
  exact law_run hL 512 1000 0 _ (by omega) (by omega) (by decide) ⟨rfl, ⟨0, by omega, rfl, rfl, fun i hi => absurd hi (by omega)⟩, ⟨0, by omega, rfl, rfl, fun i hi => absurd hi (by omega)⟩, ⟨2, tv0, 0, 0, okT_0 (by decide) (by decide), rfl, soX_as, begins_as, rfl, rfl, rfl, hR_0 (by decide)⟩, ⟨false, false, rfl, rfl, rfl, fun h => (by cases h), fun h => (by cases h)⟩⟩
