/-! letters, and what was seen -/
def txR (k : Nat) (a b : Nat → Int32) : Prop := ∀ j, j < k → a j = b j
theorem txR_push {k : Nat} {a b : Nat → Int32} {x : Int32} (h : txR k a b) : txR (k + 1) (upd a k x) (upd b k x) := by
  intro j hj
  by_cases e : j = k
  · subst e; rw [pk_us, pk_us]
  · rw [pk_un e, pk_un e]; exact h j (by omega)
theorem in_cases {hi : Nat} (hh : hi < 2 ^ 31) (x : Int32) : (∃ c, c ≤ hi ∧ x = nI c ∧ ¬ x < 0 ∧ x ≤ nI hi ∧ m_X9_in x 0 (nI hi) = some 1) ∨ (m_X9_in x 0 (nI hi) = some 0 ∧ (x < 0 ∨ (¬ x < 0 ∧ ¬ x ≤ nI hi))) := by
  rw [in_eq]
  by_cases h0 : x < 0
  · right
    exact ⟨by rw [if_pos h0], Or.inl h0⟩
  · obtain ⟨c, hc, rfl⟩ := nI_of h0
    rw [if_neg h0]
    by_cases h : c ≤ hi
    · left
      exact ⟨c, h, rfl, h0, nI_le h hh, by rw [if_neg (nI_nlt h hh)]⟩
    · right
      exact ⟨by rw [if_pos (nI_lt (by omega) hc)], Or.inr ⟨h0, nI_ge (by omega) hc⟩⟩
theorem agree_type {k : Nat} (hk : k ≤ 60) {a b : Nat → Int32} (h : txR k a b) (x : Int32) : ∃ r k' a' b', m_X8_type (nI k) a x = some (r, (nI k', a')) ∧ m_X9_type (nI k) b x = some (r, (nI k', b')) ∧ k' ≤ 60 ∧ txR k' a' b' := by
  unfold m_X8_type m_X9_type
  rw [show (255 : Int32) = nI 255 from rfl, show (60 : Int32) = nI 60 from rfl]
  rcases in_cases (hi := 255) (by decide) x with ⟨c, hc, rfl, h0, h1, e⟩ | ⟨e, h0 | ⟨h0, h1⟩⟩
  · rw [if_neg h0, if_pos h1, e, Option.bind_some, if_neg one_ne0]
    by_cases hf : k < 60
    · rw [if_pos (nI_lt hf (by decide)), if_neg (fun q => by have := (nI_eq (by omega) (by decide)).mp q; omega), wrI_eq rfl hf (by decide), wrI_eq rfl hf (by decide), nI_1]
      exact ⟨_, _, _, _, rfl, rfl, by omega, txR_push h⟩
    · obtain rfl : k = 60 := by omega
      rw [if_neg (nI_nlt (Nat.le_refl 60) (by decide)), if_pos rfl]
      exact ⟨_, _, _, _, rfl, rfl, hk, h⟩
  · rw [if_pos h0, e, Option.bind_some, if_pos rfl]
    exact ⟨_, _, _, _, rfl, rfl, hk, h⟩
  · rw [if_neg h0, if_neg h1, e, Option.bind_some, if_pos rfl]
    exact ⟨_, _, _, _, rfl, rfl, hk, h⟩
theorem agree_sees {k : Nat} (hk : k ≤ 6) {a b : Nat → Int32} (h : txR k a b) (x : Int32) : ∃ r k' a' b', m_X8_sees (nI k) a x = some (r, (nI k', a')) ∧ m_X9_sees (nI k) b x = some (r, (nI k', b')) ∧ k' ≤ 6 ∧ txR k' a' b' := by
  unfold m_X8_sees m_X9_sees
  rw [show (16 : Int32) = nI 16 from rfl, show (6 : Int32) = nI 6 from rfl]
  rcases in_cases (hi := 16) (by decide) x with ⟨c, hc, rfl, h0, h1, e⟩ | ⟨e, h0 | ⟨h0, h1⟩⟩
  · rw [if_neg h0, if_pos h1, e, Option.bind_some, if_neg one_ne0]
    by_cases hf : k < 6
    · rw [if_pos (nI_lt hf (by decide)), if_neg (fun q => by have := (nI_eq (by omega) (by decide)).mp q; omega), wrI_eq rfl hf (by decide), wrI_eq rfl hf (by decide), nI_1]
      exact ⟨_, _, _, _, rfl, rfl, by omega, txR_push h⟩
    · obtain rfl : k = 6 := by omega
      rw [if_neg (nI_nlt (Nat.le_refl 6) (by decide)), if_pos rfl]
      exact ⟨_, _, _, _, rfl, rfl, hk, h⟩
  · rw [if_pos h0, e, Option.bind_some, if_pos rfl]
    exact ⟨_, _, _, _, rfl, rfl, hk, h⟩
  · rw [if_neg h0, if_neg h1, e, Option.bind_some, if_pos rfl]
    exact ⟨_, _, _, _, rfl, rfl, hk, h⟩
/-! promises 5 and 6 -/
theorem agree_f {n : Nat} {v w : Nat → Int32} {tv : Nat → Nat} (hT : okT n tv) (hv : asT v tv) (hw : asT w tv) (hz : w 20 = nI n) (x y : Int32) : ∃ r, m_X8_f (nI n) v x y = some r ∧ m_X9_f w x y = some r := by
  have h1 := hT.1
  have h4 := hT.2.1
  unfold m_X8_f m_X9_f
  rcases is_eq hz h1 h4 x with ⟨a, ha, rfl, e1, e2⟩ | ⟨e1, e2⟩
  · rw [e1, e2, Option.bind_some, Option.bind_some, if_neg one_ne0, if_neg one_ne0]
    rcases is_eq hz h1 h4 y with ⟨b, hb, rfl, e3, e4⟩ | ⟨e3, e4⟩
    · rw [e3, e4, Option.bind_some, Option.bind_some, if_neg one_ne0, if_neg one_ne0, two_eq hv (by omega) (by omega), ff_eq hw (by omega) (by omega), Option.bind_some]
      exact ⟨_, rfl, rfl⟩
    · rw [e3, e4, Option.bind_some, Option.bind_some, if_pos rfl, if_pos rfl]
      exact ⟨_, rfl, rfl⟩
  · rw [e1, e2, Option.bind_some, Option.bind_some, if_pos rfl, if_pos rfl]
    exact ⟨_, rfl, rfl⟩
theorem agree_g {n : Nat} {v w : Nat → Int32} {tv : Nat → Nat} (hT : okT n tv) (hv : asT v tv) (hw : asT w tv) (hz : w 20 = nI n) (x : Int32) : ∃ r, m_X8_g (nI n) v x = some r ∧ m_X9_g w x = some r := by
  have h1 := hT.1
  have h4 := hT.2.1
  unfold m_X8_g m_X9_g
  rcases is_eq hz h1 h4 x with ⟨a, ha, rfl, e1, e2⟩ | ⟨e1, e2⟩
  · rw [e1, e2, Option.bind_some, Option.bind_some, if_neg one_ne0, if_neg one_ne0, one_eq hv (by omega), gg_eq hw (by omega), Option.bind_some]
    exact ⟨_, rfl, rfl⟩
  · rw [e1, e2, Option.bind_some, Option.bind_some, if_pos rfl, if_pos rfl]
    exact ⟨_, rfl, rfl⟩
/-! rows that are copied -/
def cpF (src : Nat → Int32) (off : Nat) (f : Nat → Int32) : Nat → Nat → Int32
  | 0 => f
  | k + 1 => upd (cpF src off f k) (off + k) (src k)
theorem cpF_in {src : Nat → Int32} {off : Nat} {f : Nat → Int32} : ∀ e i, i < e → cpF src off f e (off + i) = src i := by
  intro e
  induction e with
  | zero => intro i h; omega
  | succ e ih =>
    intro i h
    unfold cpF
    by_cases q : i = e
    · subst q; rw [pk_us]
    · rw [pk_un (by omega)]; exact ih i (by omega)
theorem cpF_out {src : Nat → Int32} {off : Nat} {f : Nat → Int32} : ∀ e j, (j < off ∨ off + e ≤ j) → cpF src off f e j = f j := by
  intro e
  induction e with
  | zero => intro j _; rfl
  | succ e ih =>
    intro j h
    unfold cpF
    rw [pk_un (by omega)]
    exact ih j (by omega)
theorem lp_copy {step : (Int32 × (Nat → Int32)) → Option ((Int32 × (Nat → Int32)) ⊕ (Nat → Int32))} (src : Nat → Int32) (off e : Nat) (he : e < 1000) (f : Nat → Int32) (hs : ∀ k f, k < e → step (nI k, f) = some (.inl (nI (k + 1), upd f (off + k) (src k)))) (hx : ∀ f, step (nI e, f) = some (.inr f)) : lp step 1000 (0, f) = some (cpF src off f e) :=
  lp_seq0 (fun k => (nI k, cpF src off f k)) e rfl (fun k hk => hs k _ hk) (hx _) he
/-- a row of 21 in a longer array -/
def rowAt (u : Nat → Int32) (r n : Nat) (tv : Nat → Nat) : Prop := (∀ i, i < 20 → u (21 * r + i) = nI (tv i)) ∧ u (21 * r + 20) = nI n
theorem off_eq (r k : Nat) : 21 * nI r + nI k = nI (21 * r + k) := by
  rw [show (21 : Int32) = nI 21 from rfl, pk_mul, nI_add]
theorem saveU {at' : Nat} {w u : Nat → Int32} (h : at' < 12) : lp (fun q : (Int32 × (Nat → Int32)) => m_X9_sets_s72 (nI at') w q.1 q.2) 1000 (0, u) = some (cpF w (21 * at') u 21) := by
  refine lp_copy w (21 * at') 21 (by decide) u (fun k f hk => ?_) (fun f => rfl)
  show m_X9_sets_s72 (nI at') w (nI k) f = _
  unfold m_X9_sets_s72
  rw [show (21 : Int32) = nI 21 from rfl, if_neg (nI_ge hk (by decide)), rd_eq rfl hk (by decide), wrI_eq (j := 21 * at' + k) (by rw [pk_mul, nI_add]) (by omega) (by decide), nI_1]
theorem loadU {at' : Nat} {w u : Nat → Int32} (h : at' < 12) : lp (fun q : (Int32 × (Nat → Int32)) => m_X9_undo_s38 u (nI at') q.1 q.2) 1000 (0, w) = some (cpF (fun i => u (21 * at' + i)) 0 w 21) := by
  refine lp_copy (fun i => u (21 * at' + i)) 0 21 (by decide) w (fun k f hk => ?_) (fun f => rfl)
  show m_X9_undo_s38 u (nI at') (nI k) f = _
  unfold m_X9_undo_s38
  rw [show (21 : Int32) = nI 21 from rfl, if_neg (nI_ge hk (by decide)), rd_eq (j := 21 * at' + k) (by rw [pk_mul, nI_add]) (by omega) (by decide), wrI_eq rfl hk (by decide), nI_1, Nat.zero_add]
theorem saveK {im : Nat} {w u : Nat → Int32} (h : im < 2) : lp (fun q : (Int32 × (Nat → Int32)) => m_X9_keep_s21 w (nI im) q.1 q.2) 1000 (0, u) = some (cpF w (21 * im) u 21) := by
  refine lp_copy w (21 * im) 21 (by decide) u (fun k f hk => ?_) (fun f => rfl)
  show m_X9_keep_s21 w (nI im) (nI k) f = _
  unfold m_X9_keep_s21
  rw [show (21 : Int32) = nI 21 from rfl, if_neg (nI_ge hk (by decide)), rd_eq rfl hk (by decide), wrI_eq (j := 21 * im + k) (by rw [pk_mul, nI_add]) (by omega) (by decide), nI_1]
theorem loadK {im : Nat} {w u : Nat → Int32} (h : im < 2) : lp (fun q : (Int32 × (Nat → Int32)) => m_X9_back_s26 u (nI im) q.1 q.2) 1000 (0, w) = some (cpF (fun i => u (21 * im + i)) 0 w 21) := by
  refine lp_copy (fun i => u (21 * im + i)) 0 21 (by decide) w (fun k f hk => ?_) (fun f => rfl)
  show m_X9_back_s26 u (nI im) (nI k) f = _
  unfold m_X9_back_s26
  rw [show (21 : Int32) = nI 21 from rfl, if_neg (nI_ge hk (by decide)), rd_eq (j := 21 * im + k) (by rw [pk_mul, nI_add]) (by omega) (by decide), wrI_eq rfl hk (by decide), nI_1, Nat.zero_add]
theorem load_as {u w : Nat → Int32} {r n : Nat} {tv : Nat → Nat} (h : rowAt u r n tv) : as21 (cpF (fun i => u (21 * r + i)) 0 w 21) tv n := by
  refine ⟨fun j hj => ?_, ?_⟩
  · have e := cpF_in (src := fun i => u (21 * r + i)) (off := 0) (f := w) 21 j (by omega)
    rw [Nat.zero_add] at e
    rw [e]; exact h.1 j hj
  · have e := cpF_in (src := fun i => u (21 * r + i)) (off := 0) (f := w) 21 20 (by omega)
    rw [Nat.zero_add] at e
    rw [e]; exact h.2
theorem save_row {u w : Nat → Int32} {r n : Nat} {tv : Nat → Nat} (h : as21 w tv n) : rowAt (cpF w (21 * r) u 21) r n tv := by
  refine ⟨fun i hi => ?_, ?_⟩
  · rw [cpF_in 21 i (by omega)]; exact h.1 i hi
  · rw [cpF_in 21 20 (by omega)]; exact h.2
theorem save_other {u w : Nat → Int32} {r q n : Nat} {tv : Nat → Nat} (h : rowAt u q n tv) (hne : q ≠ r) : rowAt (cpF w (21 * r) u 21) q n tv := by
  refine ⟨fun i hi => ?_, ?_⟩
  · rw [cpF_out 21 _ (by omega)]; exact h.1 i hi
  · rw [cpF_out 21 _ (by omega)]; exact h.2
