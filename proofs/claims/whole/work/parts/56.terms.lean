/-! rounds till the goal is there, or one adds none -/
theorem gd_t {ρ : Type} {c : Prop} [Decidable c] {m : Option ρ} (h : c) : gd c m = m := if_pos h
theorem noGoal {n W w : Nat} {pi : Nat → Nat} {x y : Int64} (hp : PM W w pi) (h : RP n W w pi x y) : ¬ x = -1 := by
  intro e
  subst e
  obtain ⟨t, -, a2, -⟩ := h
  have h1 := a2 31 (by decide)
  have h27 := hp.1
  rw [if_pos (show 31 < 32 by decide), decide_eq_false (show ¬ 31 < W by omega), Bool.false_and] at h1
  have h2 : b64 (-1) 31 = true := by decide
  rw [h2] at h1
  cases h1
theorem grow_no {n W B r m : Nat} {G : Int64} {rn fd : Int32} {v hb lb slots : Nat → Int32} {rows : Nat → Int64} {c : Nat → Nat} (hH : HT m rows slots c) (hm : m ≤ 200) (hr : r ≤ 200) (hno : ¬ ∃ k, k < m ∧ rows k = G) (hne : m ≠ B) (hB : B ≤ 200) : m_X7_grow_s42 G (nI W) (nI n) v (nI B) (nI r) (nI m) rn fd hb lb rows slots = bd2 (m_X7_makeRound (nI m) (nI W) hb lb rows slots (nI n) v (nI B)) (fun r3 u2 => (if r3 = 0 then some (.inr (.inl (0, (u2.1, rn, 0, u2.2.1, u2.2.2.1, u2.2.2.2.1, u2.2.2.2.2)))) else (if u2.1 ≤ nI m then some (.inl (nI m, nI r + 1, u2.1, rn + 0, 0, u2.2.1, u2.2.2.1, u2.2.2.2.1, u2.2.2.2.2)) else some (.inl (nI m, nI r + 1, u2.1, rn + 1, 0, u2.2.1, u2.2.2.1, u2.2.2.2.1, u2.2.2.2.2))))) := by
  obtain ⟨j, y, hj, e1, e2, e3⟩ := found_eq hH hm G
  have y0 : y = 0 := Classical.byContradiction (fun q => hno (e3.mp q))
  unfold m_X7_grow_s42
  rw [show (200 : Int32) = nI 200 from rfl, if_neg (nI_nlt hr (by decide)), e1, Option.bind_some, rd_eq rfl hj (by decide), e2, if_pos y0]
  unfold m_X7_grow_j78
  rw [gd_t (Or.inl rfl), if_pos rfl, if_neg (fun q => hne ((nI_eq (by omega) (by omega)).mp q))]
theorem grow_end {n W B r m : Nat} {G : Int64} {rn fd : Int32} {v hb lb slots : Nat → Int32} {rows : Nat → Int64} {c : Nat → Nat} {b : Bool} (hH : HT m rows slots c) (hm : m ≤ 200) (hr : r ≤ 200) (hbb : b = true ↔ ∃ k, k < m ∧ rows k = G) (h : b = true ∨ m = B) : m_X7_grow_s42 G (nI W) (nI n) v (nI B) (nI r) (nI m) rn fd hb lb rows slots = some (.inr (.inl (1, (nI m, rn, bI b, hb, lb, rows, slots)))) := by
  obtain ⟨j, y, hj, e1, e2, e3⟩ := found_eq hH hm G
  unfold m_X7_grow_s42
  rw [show (200 : Int32) = nI 200 from rfl, if_neg (nI_nlt hr (by decide)), e1, Option.bind_some, rd_eq rfl hj (by decide), e2]
  unfold m_X7_grow_j78
  cases b with
  | true =>
    rw [if_neg (e3.mpr (hbb.mp rfl)), gd_t (Or.inr rfl), if_neg one_ne0]
    rfl
  | false =>
    have y0 : y = 0 := Classical.byContradiction (fun q => by have := hbb.mpr (e3.mp q); cases this)
    have hmB : m = B := by
      rcases h with h | h
      · cases h
      · exact h
    rw [if_pos y0, gd_t (Or.inl rfl), if_pos rfl, if_pos (by rw [hmB])]
    rfl
def postF (oc : (Int32 × (Int32 × Int32 × Int32 × (Nat → Int32) × (Nat → Int32) × (Nat → Int64) × (Nat → Int32))) ⊕ (Int32 × Int32 × Int32 × (Nat → Int32) × (Nat → Int32) × (Nat → Int64) × (Nat → Int32))) (o : Int32 × Int32 × (Nat → Int64)) : Prop :=
  (∃ m' rd' fd u terms', oc = .inl (1, (nI m', rd', fd, u)) ∧ o = (nI m', rd', terms') ∧ m' ≤ 200) ∨ (∃ u rd' terms', oc = .inl (0, u) ∧ o = (nI 201, rd', terms'))
theorem free_full {now : Nat → Int32} {w M : Nat} {rn : Int32} {terms : Nat → Int64} (hM : 0 < M) : lp (fun q : (Int32 × Int32 × (Nat → Int64)) => m_X9_free_s121 now (nI w) q.1 q.2.1 q.2.2) M (nI 201, rn, terms) = some (nI 201, rn, terms) := by
  obtain ⟨M, rfl⟩ : ∃ q, M = q + 1 := ⟨M - 1, by omega⟩
  refine lp_exit ?_
  show m_X9_free_s121 now (nI w) (nI 201) rn terms = _
  unfold m_X9_free_s121
  rw [if_pos (show (200 : Int32) < nI 201 by decide)]
theorem free_loop {n W w : Nat} {pi tv : Nat → Nat} {v now : Nat → Int32} (hp : PM W w pi) (hT : okT n tv) (hv : asT v tv) (hw : asT now tv) : ∀ d N M B r m rn fd hb lb rows slots terms, 200 < m + d → d + 1 ≤ N → d + 1 ≤ M → B < m → r ≤ B → ST n W w pi m rows slots terms → clB now w m terms B →
    ∃ oc o, lp (fun q : (Int32 × Int32 × Int32 × Int32 × Int32 × (Nat → Int32) × (Nat → Int32) × (Nat → Int64) × (Nat → Int32)) => m_X7_grow_s42 (-1 : Int64) (nI W) (nI n) v q.1 q.2.1 q.2.2.1 q.2.2.2.1 q.2.2.2.2.1 q.2.2.2.2.2.1 q.2.2.2.2.2.2.1 q.2.2.2.2.2.2.2.1 q.2.2.2.2.2.2.2.2) N (nI B, nI r, nI m, rn, fd, hb, lb, rows, slots) = some oc ∧ lp (fun q : (Int32 × Int32 × (Nat → Int64)) => m_X9_free_s121 now (nI w) q.1 q.2.1 q.2.2) M (nI m, rn, terms) = some o ∧ postF oc o := by
  intro d
  induction d with
  | zero =>
    intro N M B r m rn fd hb lb rows slots terms hd hN hM hBm hr hS hc
    have := hS.1
    omega
  | succ d ih =>
    intro N M B r m rn fd hb lb rows slots terms hd hN hM hBm hr hS hc
    obtain ⟨N, rfl⟩ : ∃ q, N = q + 1 := ⟨N - 1, by omega⟩
    obtain ⟨M, rfl⟩ : ∃ q, M = q + 1 := ⟨M - 1, by omega⟩
    have hm := hS.1
    obtain ⟨c, hH⟩ := hS.2.2
    have hno : ¬ ∃ k, k < m ∧ rows k = -1 := fun ⟨k, hk, e⟩ => noGoal hp (hS.2.1 k hk) e
    have C0 := grow_no (n := n) (W := W) (v := v) (B := B) (r := r) (rn := rn) (fd := fd) (hb := hb) (lb := lb) hH hm (by omega) hno (by omega) (by omega)
    have R0 : m_X9_free_s121 now (nI w) (nI m) rn terms = bd2 (m_X9_goesRound (nI m) now terms (nI w)) (fun r3 u2 => (if r3 = 0 then some (.inr (u2.1, rn, u2.2)) else some (.inl (u2.1, rn + 1, u2.2)))) := by
      unfold m_X9_free_s121
      rw [show (200 : Int32) = nI 200 from rfl, if_neg (nI_nlt (show m ≤ 200 by omega) (by decide))]
    rcases round_eq (hb := hb) (lb := lb) hp hT hv hw (show B ≤ m by omega) hS hc with ⟨m', hb', lb', rows', slots', terms', q1, q2, q3, q4, q5⟩ | ⟨u1, u2, u3, u4, u5, terms', q1, q2⟩
    · have hm' := q3.1
      have hmm := q4.1
      obtain ⟨c', hH'⟩ := q3.2.2
      rw [q1, bd2_some, if_neg one_ne0] at C0
      rw [q2, bd2_some] at R0
      dsimp only at C0
      by_cases g : m' ≤ m
      · have e : m' = m := by omega
        rw [if_pos g, if_pos rfl] at R0
        rw [if_pos (nI_le g (by omega)), Int32.add_zero, nI_1] at C0
        have hno' : ¬ ∃ k, k < m' ∧ rows' k = -1 := fun ⟨k, hk, e⟩ => noGoal hp (q3.2.1 k hk) e
        have C1 := grow_end (n := n) (W := W) (v := v) (B := m) (r := r + 1) (rn := rn) (fd := 0) (hb := hb') (lb := lb') (b := false) hH' hm' (by omega) ⟨fun h => (by cases h), fun h => absurd h hno'⟩ (Or.inr e)
        refine ⟨.inl (1, (nI m', rn, bI false, hb', lb', rows', slots')), (nI m', rn, terms'), ?_, lp_exit R0, Or.inl ⟨m', rn, _, _, terms', rfl, rfl, hm'⟩⟩
        rw [lp_succ (s := (nI B, nI r, nI m, rn, fd, hb, lb, rows, slots)) C0]
        obtain ⟨N, rfl⟩ : ∃ q, N = q + 1 := ⟨N - 1, by omega⟩
        exact lp_exit C1
      · rw [if_neg g, if_neg one_ne0] at R0
        rw [if_neg (nI_ge (show m < m' by omega) (by omega)), nI_1] at C0
        obtain ⟨oc, o, h1, h2, h3⟩ := ih N M m (r + 1) m' (rn + 1) 0 hb' lb' rows' slots' terms' (by omega) (by omega) (by omega) (by omega) (by omega) q3 q5
        refine ⟨oc, o, ?_, ?_, h3⟩
        · rw [lp_succ (s := (nI B, nI r, nI m, rn, fd, hb, lb, rows, slots)) C0]
          exact h1
        · rw [lp_succ (s := (nI m, rn, terms)) R0]
          exact h2
    · rw [q1, bd2_some, if_pos rfl] at C0
      rw [q2, bd2_some, if_neg one_ne0] at R0
      refine ⟨_, (nI 201, rn + 1, terms'), lp_exit C0, ?_, Or.inr ⟨_, _, _, rfl, rfl⟩⟩
      rw [lp_succ (s := (nI m, rn, terms)) R0]
      exact free_full (by omega)
def postM (S : Int64) (oc : (Int32 × (Int32 × Int32 × Int32 × (Nat → Int32) × (Nat → Int32) × (Nat → Int64) × (Nat → Int32))) ⊕ (Int32 × Int32 × Int32 × (Nat → Int32) × (Nat → Int32) × (Nat → Int64) × (Nat → Int32))) (o : Int32 × Int32 × (Nat → Int64)) : Prop :=
  (∃ m' rd' b u rr terms', oc = .inl (1, (nI m', rd', bI b, u)) ∧ o = (nI m', rr, terms') ∧ m' ≤ 200 ∧ m_X9_isTerm (nI m') terms' S = some (bI b)) ∨ (∃ u rr terms', oc = .inl (0, u) ∧ o = (nI 201, rr, terms'))
theorem term_loop {n W w : Nat} {pi tv : Nat → Nat} {v now : Nat → Int32} {G S : Int64} (hp : PM W w pi) (hT : okT n tv) (hv : asT v tv) (hw : asT now tv) (hGS : RP n W w pi G S) : ∀ d N M B r m rn rr fd hb lb rows slots terms, 200 < m + d → d + 1 ≤ N → d + 1 ≤ M → B < m → r ≤ B → ST n W w pi m rows slots terms → clB now w m terms B →
    ∃ oc o, lp (fun q : (Int32 × Int32 × Int32 × Int32 × Int32 × (Nat → Int32) × (Nat → Int32) × (Nat → Int64) × (Nat → Int32)) => m_X7_grow_s42 G (nI W) (nI n) v q.1 q.2.1 q.2.2.1 q.2.2.2.1 q.2.2.2.2.1 q.2.2.2.2.2.1 q.2.2.2.2.2.2.1 q.2.2.2.2.2.2.2.1 q.2.2.2.2.2.2.2.2) N (nI B, nI r, nI m, rn, fd, hb, lb, rows, slots) = some oc ∧ lp (fun q : (Int32 × Int32 × (Nat → Int64)) => m_X9_term_s137 now (nI w) S q.1 q.2.1 q.2.2) M (nI m, rr, terms) = some o ∧ postM S oc o := by
  intro d
  induction d with
  | zero =>
    intro N M B r m rn rr fd hb lb rows slots terms hd hN hM hBm hr hS hc
    have := hS.1
    omega
  | succ d ih =>
    intro N M B r m rn rr fd hb lb rows slots terms hd hN hM hBm hr hS hc
    obtain ⟨N, rfl⟩ : ∃ q, N = q + 1 := ⟨N - 1, by omega⟩
    obtain ⟨M, rfl⟩ : ∃ q, M = q + 1 := ⟨M - 1, by omega⟩
    have hm := hS.1
    obtain ⟨c, hH⟩ := hS.2.2
    obtain ⟨b, eb, hb0⟩ := isTerm_eq (rows := terms) (show m ≤ 202 by omega) S
    have hbb : b = true ↔ ∃ k, k < m ∧ rows k = G := hb0.trans (SR_mem hp hT.2.1 hS.2.1 hGS).symm
    cases b with
    | true =>
      have C1 := grow_end (n := n) (W := W) (v := v) (B := B) (r := r) (rn := rn) (fd := fd) (hb := hb) (lb := lb) hH hm (by omega) hbb (Or.inl rfl)
      have R1 : m_X9_term_s137 now (nI w) S (nI m) rr terms = some (.inr (nI m, rr, terms)) := by
        unfold m_X9_term_s137
        rw [eb, Option.bind_some, if_neg (show ¬ bI true = 0 by decide)]
      exact ⟨_, _, lp_exit C1, lp_exit R1, Or.inl ⟨m, rn, true, _, rr, terms, rfl, rfl, hm, eb⟩⟩
    | false =>
      have hno : ¬ ∃ k, k < m ∧ rows k = G := fun q => by have := hbb.mpr q; cases this
      have C0 := grow_no (n := n) (W := W) (v := v) (B := B) (r := r) (rn := rn) (fd := fd) (hb := hb) (lb := lb) hH hm (by omega) hno (by omega) (by omega)
      have R0 : m_X9_term_s137 now (nI w) S (nI m) rr terms = bd2 (m_X9_goesRound (nI m) now terms (nI w)) (fun r6 u5 => (if r6 = 0 then some (.inr (u5.1, rr, u5.2)) else (if 200 < u5.1 then some (.inr (u5.1, rr, u5.2)) else some (.inl (u5.1, rr + 1, u5.2))))) := by
        unfold m_X9_term_s137
        rw [eb, Option.bind_some, if_pos (show bI false = 0 from rfl)]
      rcases round_eq (hb := hb) (lb := lb) hp hT hv hw (show B ≤ m by omega) hS hc with ⟨m', hb', lb', rows', slots', terms', q1, q2, q3, q4, q5⟩ | ⟨u1, u2, u3, u4, u5, terms', q1, q2⟩
      · have hm' := q3.1
        have hmm := q4.1
        obtain ⟨c', hH'⟩ := q3.2.2
        rw [q1, bd2_some, if_neg one_ne0] at C0
        rw [q2, bd2_some] at R0
        dsimp only at C0 R0
        by_cases g : m' ≤ m
        · have e : m' = m := by omega
          rw [if_pos g, if_pos rfl] at R0
          rw [if_pos (nI_le g (by omega)), Int32.add_zero, nI_1] at C0
          obtain ⟨b', eb', hb0'⟩ := isTerm_eq (rows := terms') (show m' ≤ 202 by omega) S
          have C1 := grow_end (n := n) (W := W) (v := v) (B := m) (r := r + 1) (rn := rn) (fd := 0) (hb := hb') (lb := lb') (b := b') hH' hm' (by omega) (hb0'.trans (SR_mem hp hT.2.1 q3.2.1 hGS).symm) (Or.inr e)
          refine ⟨.inl (1, (nI m', rn, bI b', hb', lb', rows', slots')), (nI m', rr, terms'), ?_, lp_exit R0, Or.inl ⟨m', rn, b', _, rr, terms', rfl, rfl, hm', eb'⟩⟩
          rw [lp_succ (s := (nI B, nI r, nI m, rn, fd, hb, lb, rows, slots)) C0]
          obtain ⟨N, rfl⟩ : ∃ q, N = q + 1 := ⟨N - 1, by omega⟩
          exact lp_exit C1
        · rw [if_neg g, if_neg one_ne0, show (200 : Int32) = nI 200 from rfl, if_neg (nI_nlt hm' (by decide))] at R0
          rw [if_neg (nI_ge (show m < m' by omega) (by omega)), nI_1] at C0
          obtain ⟨oc, o, h1, h2, h3⟩ := ih N M m (r + 1) m' (rn + 1) (rr + 1) 0 hb' lb' rows' slots' terms' (by omega) (by omega) (by omega) (by omega) (by omega) q3 q5
          refine ⟨oc, o, ?_, ?_, h3⟩
          · rw [lp_succ (s := (nI B, nI r, nI m, rn, fd, hb, lb, rows, slots)) C0]
            exact h1
          · rw [lp_succ (s := (nI m, rr, terms)) R0]
            exact h2
      · rw [q1, bd2_some, if_pos rfl] at C0
        rw [q2, bd2_some, if_neg one_ne0] at R0
        dsimp only at R0
        rw [if_pos (show (200 : Int32) < nI 201 by decide)] at R0
        exact ⟨_, _, lp_exit C0, lp_exit R0, Or.inr ⟨_, _, _, rfl, rfl⟩⟩
