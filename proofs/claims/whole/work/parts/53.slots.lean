/-! where rows are found again -/
theorem pig : ∀ (M N : Nat) (f : Nat → Nat), (∀ i, i < N → f i < M) → (∀ i j, i < N → j < N → f i = f j → i = j) → N ≤ M := by
  intro M
  induction M with
  | zero =>
    intro N f h _
    rcases Nat.eq_zero_or_pos N with e | e
    · omega
    · have := h 0 e; omega
  | succ M ih =>
    intro N f h hi
    by_cases q : ∃ i, i < N ∧ f i = M
    · obtain ⟨a, ha, ea⟩ := q
      have := ih (N - 1) (fun i => if i = a then f (N - 1) else f i) (fun i hiN => ?_) (fun i j h1 h2 e => ?_)
      · omega
      · split
        · rename_i e
          have h1 := h (N - 1) (by omega)
          have h2 : f (N - 1) ≠ M := fun g => by
            have := hi (N - 1) a (by omega) ha (by rw [g, ea])
            omega
          omega
        · rename_i e
          have h1 := h i (by omega)
          have h2 : f i ≠ M := fun g => e (hi i a (by omega) ha (by rw [g, ea]))
          omega
      · split at e
        · rename_i e1
          split at e
          · rename_i e2; omega
          · rename_i e2
            have := hi (N - 1) j (by omega) (by omega) e
            omega
        · rename_i e1
          split at e
          · rename_i e2
            have := hi i (N - 1) (by omega) (by omega) e
            omega
          · exact hi i j (by omega) (by omega) e
    · have := ih N f (fun i hiN => ?_) hi
      · omega
      · have h1 := h i hiN
        have h2 : f i ≠ M := fun g => q ⟨i, hiN, g⟩
        omega
def hN (x : Int64) : Nat := (x * (-7046029254386353131 : Int64)).toBitVec.toNat / 2 ^ 55
theorem hN_lt (x : Int64) : hN x < 512 := by
  unfold hN
  have := (x * (-7046029254386353131 : Int64)).toBitVec.isLt
  omega
theorem sh55 : (((55 : Int32).toInt64.toUInt64 &&& Int64.toUInt64 63).toBitVec % 64#64) = 55#64 := by decide
theorem hN_eq (x : Int64) : (((x * (-7046029254386353131 : Int64)).toUInt64 >>> ((55 : Int32).toInt64.toUInt64 &&& Int64.toUInt64 63)).toInt64).toInt32 = nI (hN x) := by
  refine b32_ext (fun i hi => ?_)
  rw [b32_lo _ hi, b32_nI, decide_eq_true hi, Bool.true_and]
  unfold b64 hN
  have e : (((x * (-7046029254386353131 : Int64)).toUInt64 >>> ((55 : Int32).toInt64.toUInt64 &&& Int64.toUInt64 63)).toInt64).toBitVec = (x * (-7046029254386353131 : Int64)).toBitVec >>> (((55 : Int32).toInt64.toUInt64 &&& Int64.toUInt64 63).toBitVec % 64#64) := rfl
  rw [e, sh55]
  show ((x * (-7046029254386353131 : Int64)).toBitVec >>> (55#64).toNat).getLsbD i = _
  rw [BitVec.getLsbD_ushiftRight, Nat.testBit_div_two_pow, BitVec.testBit_toNat, show (55#64).toNat + i = i + 55 from Nat.add_comm 55 i]
def HT (m : Nat) (rows : Nat → Int64) (slots : Nat → Int32) (c : Nat → Nat) : Prop := (∀ j, j < 512 → slots j = nI (c j) ∧ c j ≤ m) ∧ (∀ j, j < 512 → c j ≠ 0 → ∃ t, t < 512 ∧ j = (hN (rows (c j - 1)) + t) % 512 ∧ ∀ t', t' < t → c ((hN (rows (c j - 1)) + t') % 512) ≠ 0) ∧ (∀ k, k < m → ∃ j, j < 512 ∧ c j = k + 1) ∧ (∀ j j', j < 512 → j' < 512 → c j ≠ 0 → c j = c j' → j = j')
theorem free_slot {m : Nat} {rows : Nat → Int64} {slots : Nat → Int32} {c : Nat → Nat} (h : HT m rows slots c) (hm : m ≤ 200) (z : Nat) : ∃ t, t < 512 ∧ c ((z + t) % 512) = 0 := by
  refine Classical.byContradiction (fun q => ?_)
  have all : ∀ j, j < 512 → c j ≠ 0 := by
    intro j hj e
    refine q ⟨(j + 512 - z % 512) % 512, Nat.mod_lt _ (by decide), ?_⟩
    rw [show (z + (j + 512 - z % 512) % 512) % 512 = j by omega]
    exact e
  have := pig 201 512 c (fun i hi => by have := (h.1 i hi).2; omega) (fun i j hi hj e => h.2.2.2 i j hi hj (all i hi) e)
  omega
theorem slot_at {z : Nat} (hz : z < 512) (t : Nat) (ht : t < 512) : (nI z + nI t) &&& 511 = nI ((z + t) % 512) := by
  rw [nI_add]
  exact pk_andN (by omega) 9 (by decide)
theorem slot_lp {m z : Nat} (hz : z < 512) {rows : Nat → Int64} {slots : Nat → Int32} {c : Nat → Nat} (h : HT m rows slots c) (hm : m ≤ 200) (x : Int64) : ∃ t, t < 512 ∧ lp (fun q : Int32 => m_X7_slotOf_s13 rows slots x (nI z) q) 1000 0 = some (.inl (nI ((z + t) % 512))) ∧ (∀ t', t' < t → c ((z + t') % 512) ≠ 0 ∧ rows (c ((z + t') % 512) - 1) ≠ x) ∧ (c ((z + t) % 512) = 0 ∨ (c ((z + t) % 512) ≠ 0 ∧ rows (c ((z + t) % 512) - 1) = x)) := by
  obtain ⟨t0, ht0, e0⟩ := free_slot h hm z
  obtain ⟨t, pt, lt⟩ := pk_least (fun t => c ((z + t) % 512) = 0 ∨ (c ((z + t) % 512) ≠ 0 ∧ rows (c ((z + t) % 512) - 1) = x)) ⟨t0, Or.inl e0⟩
  have htt : t < 512 := by
    rcases Nat.lt_or_ge t0 t with q | q
    · exact absurd (Or.inl e0) (lt t0 q)
    · omega
  have hb : ∀ t', t' < t → c ((z + t') % 512) ≠ 0 ∧ rows (c ((z + t') % 512) - 1) ≠ x := by
    intro t' h'
    have h1 := lt t' h'
    have h2 : c ((z + t') % 512) ≠ 0 := fun q => h1 (Or.inl q)
    exact ⟨h2, fun q => h1 (Or.inr ⟨h2, q⟩)⟩
  refine ⟨t, htt, ?_, hb, pt⟩
  refine lp_seq0 (fun k => nI k) t rfl (fun k hk => ?_) ?_ (by omega)
  · obtain ⟨q1, q2⟩ := hb k hk
    have hj : (z + k) % 512 < 512 := Nat.mod_lt _ (by decide)
    obtain ⟨s1, s2⟩ := h.1 _ hj
    unfold m_X7_slotOf_s13
    rw [show (512 : Int32) = nI 512 from rfl, if_neg (nI_ge (by omega) (by decide)), slot_at hz k (by omega), rd_eq rfl hj (by decide), s1, show (1 : Int32) = nI 1 from rfl, pk_sub (by omega), if_neg (nI_pos (by omega)), show (200 : Int32) = nI 200 from rfl, if_neg (nI_ge (show c ((z + k) % 512) - 1 < 200 by omega) (by decide)), rd_eq rfl (by omega) (by decide), if_neg (fun q => q2 ((lg_cmp_eq _ _).mp q)), nI_add]
  · have hj : (z + t) % 512 < 512 := Nat.mod_lt _ (by decide)
    obtain ⟨s1, s2⟩ := h.1 _ hj
    unfold m_X7_slotOf_s13
    rw [show (512 : Int32) = nI 512 from rfl, if_neg (nI_ge (by omega) (by decide)), slot_at hz t (by omega), rd_eq rfl hj (by decide), s1]
    rcases pt with q1 | ⟨q1, q2⟩
    · rw [q1, if_pos (show nI 0 - 1 < 0 by decide)]
    · rw [show (1 : Int32) = nI 1 from rfl, pk_sub (by omega), if_neg (nI_pos (by omega)), show (200 : Int32) = nI 200 from rfl, if_neg (nI_ge (show c ((z + t) % 512) - 1 < 200 by omega) (by decide)), rd_eq rfl (by omega) (by decide), if_pos ((lg_cmp_eq _ _).mpr q2)]
theorem bdS_inl {α β ρ : Type} {a : α} {f : α → Option ρ} {g : β → Option ρ} : bdS (some (Sum.inl a)) f g = f a := rfl
theorem slot_def {rows : Nat → Int64} {slots : Nat → Int32} (x : Int64) {z : Nat} (h : (((x * (-7046029254386353131 : Int64)).toUInt64 >>> ((55 : Int32).toInt64.toUInt64 &&& Int64.toUInt64 63)).toInt64).toInt32 = nI z) : m_X7_slotOf rows slots x = bdS (lp (fun q : Int32 => m_X7_slotOf_s13 rows slots x (nI z) q) 1000 0) (fun u => some u) (fun z13 => some 0) := by
  rw [m_X7_slotOf, h]
  rfl
theorem slotOf_z {m z : Nat} {rows : Nat → Int64} {slots : Nat → Int32} {c : Nat → Nat} (h : HT m rows slots c) (hm : m ≤ 200) (x : Int64) (hz : z < 512) (he : (((x * (-7046029254386353131 : Int64)).toUInt64 >>> ((55 : Int32).toInt64.toUInt64 &&& Int64.toUInt64 63)).toInt64).toInt32 = nI z) : ∃ t, t < 512 ∧ m_X7_slotOf rows slots x = some (nI ((z + t) % 512)) ∧ (∀ t', t' < t → c ((z + t') % 512) ≠ 0 ∧ rows (c ((z + t') % 512) - 1) ≠ x) ∧ (c ((z + t) % 512) = 0 ∨ (c ((z + t) % 512) ≠ 0 ∧ rows (c ((z + t) % 512) - 1) = x)) := by
  obtain ⟨t, ht, e, hb, hp⟩ := slot_lp hz h hm x
  exact ⟨t, ht, by rw [slot_def x he, e, bdS_inl], hb, hp⟩
theorem slotOf_eq {m : Nat} {rows : Nat → Int64} {slots : Nat → Int32} {c : Nat → Nat} (h : HT m rows slots c) (hm : m ≤ 200) (x : Int64) : ∃ t, t < 512 ∧ m_X7_slotOf rows slots x = some (nI ((hN x + t) % 512)) ∧ (∀ t', t' < t → c ((hN x + t') % 512) ≠ 0 ∧ rows (c ((hN x + t') % 512) - 1) ≠ x) ∧ (c ((hN x + t) % 512) = 0 ∨ (c ((hN x + t) % 512) ≠ 0 ∧ rows (c ((hN x + t) % 512) - 1) = x)) := slotOf_z h hm x (hN_lt x) (hN_eq x)
/-- a row is there just where its slot isn't empty -/
theorem slot_mem {m : Nat} {rows : Nat → Int64} {slots : Nat → Int32} {c : Nat → Nat} (h : HT m rows slots c) {x : Int64} {t : Nat} (hb : ∀ t', t' < t → c ((hN x + t') % 512) ≠ 0 ∧ rows (c ((hN x + t') % 512) - 1) ≠ x) (hp : c ((hN x + t) % 512) = 0 ∨ (c ((hN x + t) % 512) ≠ 0 ∧ rows (c ((hN x + t) % 512) - 1) = x)) : c ((hN x + t) % 512) ≠ 0 ↔ ∃ k, k < m ∧ rows k = x := by
  have hj : (hN x + t) % 512 < 512 := Nat.mod_lt _ (by decide)
  constructor
  · intro q
    rcases hp with e | ⟨_, e⟩
    · exact absurd e q
    · have := (h.1 _ hj).2
      exact ⟨_, by omega, e⟩
  · rintro ⟨k, hk, e⟩ q
    obtain ⟨j, hj2, ej⟩ := h.2.2.1 k hk
    obtain ⟨t2, ht2, et, hall⟩ := h.2.1 j hj2 (by omega)
    rw [ej, Nat.add_sub_cancel, e] at et hall
    rcases Nat.lt_trichotomy t t2 with l | l | l
    · exact hall t l q
    · rw [l, ← et, ej] at q
      omega
    · have := (hb t2 l).2
      rw [← et, ej, Nat.add_sub_cancel] at this
      exact this e
theorem HT_add {m : Nat} {rows : Nat → Int64} {slots : Nat → Int32} {c : Nat → Nat} (h : HT m rows slots c) {x : Int64} {t : Nat} (ht : t < 512) (hb : ∀ t', t' < t → c ((hN x + t') % 512) ≠ 0 ∧ rows (c ((hN x + t') % 512) - 1) ≠ x) (hz : c ((hN x + t) % 512) = 0) : HT (m + 1) (vp_updL rows m x) (upd slots ((hN x + t) % 512) (nI (m + 1))) (fun j => if j = (hN x + t) % 512 then m + 1 else c j) := by
  have hJ : (hN x + t) % 512 < 512 := Nat.mod_lt _ (by decide)
  refine ⟨fun j hj => ?_, fun j hj hne => ?_, fun k hk => ?_, fun j j' hj hj' hne e => ?_⟩
  · dsimp only
    by_cases q : j = (hN x + t) % 512
    · subst q
      rw [pk_us, if_pos rfl]
      exact ⟨rfl, Nat.le_refl _⟩
    · rw [pk_un q, if_neg q]
      have := h.1 j hj
      exact ⟨this.1, by omega⟩
  · dsimp only at hne ⊢
    by_cases q : j = (hN x + t) % 512
    · rw [if_pos q, Nat.add_sub_cancel, pk_uLs]
      refine ⟨t, ht, q, fun t' h' => ?_⟩
      split
      · omega
      · exact (hb t' h').1
    · rw [if_neg q] at hne ⊢
      have hc := (h.1 j hj).2
      obtain ⟨t2, h1, h2, h3⟩ := h.2.1 j hj hne
      rw [pk_uLn (by omega)]
      refine ⟨t2, h1, h2, fun t' h' => ?_⟩
      split
      · omega
      · exact h3 t' h'
  · by_cases q : k = m
    · subst q
      exact ⟨_, hJ, if_pos rfl⟩
    · obtain ⟨j, hj, e⟩ := h.2.2.1 k (by omega)
      refine ⟨j, hj, ?_⟩
      dsimp only
      rw [if_neg (fun g => by rw [g, hz] at e; omega)]
      exact e
  · dsimp only at hne e
    by_cases q : j = (hN x + t) % 512
    · by_cases q' : j' = (hN x + t) % 512
      · omega
      · rw [if_pos q, if_neg q'] at e
        have := (h.1 j' hj').2
        omega
    · by_cases q' : j' = (hN x + t) % 512
      · rw [if_neg q, if_pos q'] at e
        have := (h.1 j hj).2
        omega
      · rw [if_neg q] at hne
        rw [if_neg q, if_neg q'] at e
        exact h.2.2.2 j j' hj hj' hne e
theorem HT_0 {rows : Nat → Int64} : HT 0 rows (fun _ => 0) (fun _ => 0) := ⟨fun j _ => ⟨rfl, Nat.le_refl _⟩, fun j _ h => absurd rfl h, fun k h => by omega, fun j j' _ _ h => absurd rfl h⟩
/-- the class adds a row -/
theorem add_cases {m : Nat} {rows : Nat → Int64} {slots : Nat → Int32} {c : Nat → Nat} (h : HT m rows slots c) (hm : m ≤ 200) (x : Int64) : ((∃ k, k < m ∧ rows k = x) ∧ m_X7_add (nI m) rows slots x = some (1, (nI m, rows, slots))) ∨ ((¬ ∃ k, k < m ∧ rows k = x) ∧ m < 200 ∧ ∃ slots' c', m_X7_add (nI m) rows slots x = some (1, (nI (m + 1), vp_updL rows m x, slots')) ∧ HT (m + 1) (vp_updL rows m x) slots' c') ∨ ((¬ ∃ k, k < m ∧ rows k = x) ∧ m = 200 ∧ m_X7_add (nI m) rows slots x = some (0, (nI m, rows, slots))) := by
  obtain ⟨t, ht, e, hb, hp⟩ := slotOf_eq h hm x
  have hmem := slot_mem h hb hp
  have hJ : (hN x + t) % 512 < 512 := Nat.mod_lt _ (by decide)
  obtain ⟨s1, s2⟩ := h.1 _ hJ
  unfold m_X7_add
  rw [e, Option.bind_some, rd_eq rfl hJ (by decide), s1]
  by_cases q : c ((hN x + t) % 512) = 0
  · right
    have hno : ¬ ∃ k, k < m ∧ rows k = x := fun g => hmem.mpr g q
    rw [q, if_pos (show nI 0 = 0 from rfl)]
    by_cases g : m < 200
    · left
      rw [show (200 : Int32) = nI 200 from rfl, if_pos (nI_lt g (by decide)), wrL_eq rfl g (by decide), wrI_eq rfl hJ (by decide), nI_1]
      exact ⟨hno, g, _, _, rfl, HT_add h ht hb q⟩
    · right
      rw [show (200 : Int32) = nI 200 from rfl, if_neg (nI_nlt (by omega) (by omega))]
      exact ⟨hno, by omega, rfl⟩
  · left
    rw [if_neg (nI_ne0 (by omega) (by omega))]
    exact ⟨hmem.mp q, rfl⟩
theorem found_eq {m : Nat} {rows : Nat → Int64} {slots : Nat → Int32} {c : Nat → Nat} (h : HT m rows slots c) (hm : m ≤ 200) (x : Int64) : ∃ j y, j < 512 ∧ m_X7_slotOf rows slots x = some (nI j) ∧ slots j = y ∧ (¬ y = 0 ↔ ∃ k, k < m ∧ rows k = x) := by
  obtain ⟨t, ht, e, hb, hp⟩ := slotOf_eq h hm x
  have hmem := slot_mem h hb hp
  have hJ : (hN x + t) % 512 < 512 := Nat.mod_lt _ (by decide)
  obtain ⟨s1, s2⟩ := h.1 _ hJ
  refine ⟨_, _, hJ, e, rfl, ?_⟩
  rw [← hmem, s1]
  constructor
  · intro g q
    rw [q] at g
    exact g rfl
  · intro g
    exact nI_ne0 (by omega) (by omega)
/-- the reference adds a row -/
theorem isTerm_eq {m : Nat} (hm : m ≤ 202) {rows : Nat → Int64} (x : Int64) : ∃ b : Bool, m_X9_isTerm (nI m) rows x = some (bI b) ∧ (b = true ↔ ∃ k, k < m ∧ rows k = x) := by
  unfold m_X9_isTerm
  have hl := lp_find (step := fun q : Int32 => m_X9_isTerm_s2 (nI m) rows x q) (fun k => if rows k = x then some (1 : Int32) else none) m (fun k hk => ?_) ?_ m 0 1000 (by omega) (by omega)
  · rw [show nI 0 = 0 from rfl] at hl
    rw [hl]
    cases hf : fs (fun k => if rows k = x then some (1 : Int32) else none) m 0 with
    | none =>
      refine ⟨false, rfl, ?_⟩
      constructor
      · intro q; cases q
      · rintro ⟨k, hk, e⟩
        exfalso
        have none_all : ∀ d j, fs (fun k => if rows k = x then some (1 : Int32) else none) d j = none → ∀ k, j ≤ k → k < j + d → ¬ rows k = x := by
          intro d
          induction d with
          | zero => intro j _ k h1 h2; omega
          | succ d ih =>
            intro j hj k h1 h2 e
            unfold fs at hj
            by_cases q : rows j = x
            · rw [if_pos q] at hj
              cases hj
            · rw [if_neg q] at hj
              by_cases g : k = j
              · subst g; exact q e
              · exact ih (j + 1) hj k (by omega) (by omega) e
        exact none_all m 0 hf k (by omega) (by omega) e
    | some r =>
      obtain ⟨j, _, h2, e⟩ := fs_some m 0 hf
      by_cases q : rows j = x
      · rw [if_pos q] at e
        cases e
        exact ⟨true, rfl, fun _ => ⟨j, by omega, q⟩, fun _ => rfl⟩
      · rw [if_neg q] at e
        cases e
  · show m_X9_isTerm_s2 (nI m) rows x (nI k) = _
    unfold m_X9_isTerm_s2
    rw [if_neg (nI_ge hk (by omega)), rd_eq rfl (by omega) (by decide), nI_1]
    by_cases q : rows k = x
    · rw [if_pos ((lg_cmp_eq _ _).mpr q), if_pos q]
      rfl
    · rw [if_neg (fun g => q ((lg_cmp_eq _ _).mp g)), if_neg q]
      rfl
  · show m_X9_isTerm_s2 (nI m) rows x (nI m) = _
    unfold m_X9_isTerm_s2
    rw [if_pos (nI_le (Nat.le_refl m) (by omega))]
theorem comes_cases {m : Nat} (hm : m < 202) {rows : Nat → Int64} (x : Int64) : ((∃ k, k < m ∧ rows k = x) ∧ m_X9_comes (nI m) rows x = some (nI m, rows)) ∨ ((¬ ∃ k, k < m ∧ rows k = x) ∧ m_X9_comes (nI m) rows x = some (nI (m + 1), vp_updL rows m x)) := by
  obtain ⟨b, e, h⟩ := isTerm_eq (rows := rows) (show m ≤ 202 by omega) x
  unfold m_X9_comes
  rw [e, Option.bind_some]
  cases b
  · right
    rw [if_pos (show bI false = 0 from rfl), wrL_eq rfl hm (by decide), nI_1]
    exact ⟨fun q => (by have := h.mpr q; cases this), rfl⟩
  · left
    rw [if_neg (show ¬ bI true = 0 by decide)]
    exact ⟨h.mp rfl, rfl⟩
