/-! all below a bound -/
def bI (b : Bool) : Int32 := if b = true then 1 else 0
def allN (P : Nat → Bool) : Nat → Bool
  | 0 => true
  | e + 1 => allN P e && P e
theorem allN_iff {P : Nat → Bool} : ∀ e, allN P e = true ↔ ∀ k, k < e → P k = true := by
  intro e
  induction e with
  | zero => simp [allN]
  | succ e ih =>
    simp only [allN, Bool.and_eq_true, ih]
    constructor
    · rintro ⟨h1, h2⟩ k hk
      rcases Nat.lt_or_ge k e with h | h
      · exact h1 k h
      · rw [show k = e by omega]; exact h2
    · intro h
      exact ⟨fun k hk => h k (by omega), h e (by omega)⟩
theorem bI_0 {b : Bool} : bI b = 0 ↔ b = false := by cases b <;> simp [bI]
theorem bI_1 {b : Bool} : bI b = 1 ↔ b = true := by cases b <;> simp [bI]
theorem bI_or (b : Bool) : bI b = 0 ∨ bI b = 1 := by cases b <;> simp [bI]
/-- a search for a place where it isn't so -/
def allF (P : Nat → Bool) : Nat → Nat → Bool
  | 0, _ => true
  | d + 1, k => P k && allF P d (k + 1)
theorem allF_iff {P : Nat → Bool} : ∀ d k, allF P d k = true ↔ ∀ j, k ≤ j → j < k + d → P j = true := by
  intro d
  induction d with
  | zero => intro k; exact ⟨fun _ j h1 h2 => by omega, fun _ => rfl⟩
  | succ d ih =>
    intro k
    rw [allF, Bool.and_eq_true, ih (k + 1)]
    constructor
    · rintro ⟨h1, h2⟩ j h3 h4
      rcases Nat.lt_or_ge k j with h | h
      · exact h2 j h (by omega)
      · rw [show j = k by omega]; exact h1
    · intro h
      exact ⟨h k (Nat.le_refl k) (by omega), fun j h1 h2 => h j (by omega) (by omega)⟩
theorem allF_N {P : Nat → Bool} (e : Nat) : allF P e 0 = allN P e := by
  rw [Bool.eq_iff_iff, allF_iff, allN_iff]
  exact ⟨fun h k hk => h k (Nat.zero_le k) (by omega), fun h j _ hj => h j (by omega)⟩
theorem lp_all {step : Int32 → Option (Int32 ⊕ (Int32 ⊕ Unit))} (P : Nat → Bool) (e : Nat) (hs : ∀ k, k < e → step (nI k) = some (if P k = true then .inl (nI (k + 1)) else .inr (.inl 0))) (hx : step (nI e) = some (.inr (.inr ()))) : ∀ d k N, k + d = e → d < N → lp step N (nI k) = some (if allF P d k = true then .inr () else .inl 0) := by
  intro d
  induction d with
  | zero =>
    intro k N hk hN
    obtain ⟨N, rfl⟩ : ∃ M, N = M + 1 := ⟨N - 1, by omega⟩
    obtain rfl : k = e := by omega
    rw [lp_exit hx]
    rfl
  | succ d ih =>
    intro k N hk hN
    obtain ⟨N, rfl⟩ : ∃ M, N = M + 1 := ⟨N - 1, by omega⟩
    have h1 := hs k (by omega)
    cases hp : P k
    · rw [hp] at h1
      rw [lp_exit (r := .inl 0) h1, allF, hp]
      rfl
    · rw [hp] at h1
      rw [lp_succ (s' := nI (k + 1)) h1, ih (k + 1) N (by omega) (by omega), allF, hp, Bool.true_and]
theorem lp_all0 {step : Int32 → Option (Int32 ⊕ (Int32 ⊕ Unit))} (P : Nat → Bool) (e : Nat) (he : e < 1000) (hs : ∀ k, k < e → step (nI k) = some (if P k = true then .inl (nI (k + 1)) else .inr (.inl 0))) (hx : step (nI e) = some (.inr (.inr ()))) : lp step 1000 0 = some (if allN P e = true then .inr () else .inl 0) := by
  rw [show (0 : Int32) = nI 0 from rfl, lp_all P e hs hx e 0 1000 (by omega) (by omega), allF_N]
  rfl
theorem bdS_all {b : Bool} : bdS (some (if b = true then Sum.inr () else Sum.inl 0) : Option (Int32 ⊕ Unit)) (fun u => some u) (fun _ => some (1 : Int32)) = some (bI b) := by cases b <;> rfl
theorem bdS_allS {b : Bool} {x : Nat} : bdS (some (if b = true then Sum.inr () else Sum.inl 0) : Option (Int32 ⊕ Unit)) (fun u => some (Sum.inr (Sum.inl u) : Int32 ⊕ (Int32 ⊕ Unit))) (fun _ => some (.inl (nI (x + 1)))) = some (if b = true then .inl (nI (x + 1)) else .inr (.inl 0)) := by cases b <;> rfl
theorem all_bd {step : Int32 → Option (Int32 ⊕ (Int32 ⊕ Unit))} (P : Nat → Bool) (e : Nat) (he : e < 1000) (hs : ∀ k, k < e → step (nI k) = some (if P k = true then .inl (nI (k + 1)) else .inr (.inl 0))) (hx : step (nI e) = some (.inr (.inr ()))) : bdS (lp step 1000 0) (fun u => some u) (fun _ => some (1 : Int32)) = some (bI (allN P e)) := by
  rw [lp_all0 P e he hs hx, bdS_all]
theorem all_bdS {step : Int32 → Option (Int32 ⊕ (Int32 ⊕ Unit))} (P : Nat → Bool) (e : Nat) (he : e < 1000) {x : Nat} (hs : ∀ k, k < e → step (nI k) = some (if P k = true then .inl (nI (k + 1)) else .inr (.inl 0))) (hx : step (nI e) = some (.inr (.inr ()))) : bdS (lp step 1000 0) (fun u => some (Sum.inr (Sum.inl u) : Int32 ⊕ (Int32 ⊕ Unit))) (fun _ => some (.inl (nI (x + 1)))) = some (if allN P e = true then .inl (nI (x + 1)) else .inr (.inl 0)) := by
  rw [lp_all0 P e he hs hx, bdS_allS]
/-- a flag that stays 0 -/
theorem lp_and {step : (Int32 × Int32) → Option ((Int32 × Int32) ⊕ Int32)} (P : Nat → Bool) (e : Nat) (he : e < 1000) (b : Bool) (hs : ∀ k b, k < e → step (bI b, nI k) = some (.inl (bI (b && P k), nI (k + 1)))) (hx : ∀ b, step (bI b, nI e) = some (.inr (bI b))) : lp step 1000 (bI b, 0) = some (bI (b && allN P e)) := by
  refine lp_seq0 (fun k => (bI (b && allN P k), nI k)) e (by simp only [allN, Bool.and_true, nI_0]) (fun k hk => ?_) (hx _) he
  rw [hs k _ hk]
  simp only [allN, Bool.and_assoc]
/-! partitions: i-th of fifteen; the least of x's block -/
def cC (i : Nat) : Nat := ([0, 3, 32, 34, 35, 256, 257, 259, 272, 273, 275, 288, 289, 290, 291] : List Nat).getD i 0
def lsC (i x : Nat) : Nat := cC i / 16 ^ (3 - x) % 4
def inN (n i : Nat) : Bool := decide (i < 15) && (List.range 4).all (fun x => decide (x < n) || lsC i x == x)
/-- its number in the reference: figures to the base of four, 0 beyond the size -/
def rc (n i : Nat) : Nat := (List.range 4).foldl (fun a x => 4 * a + (if x < n then lsC i x else 0)) 0
theorem least_eq : ∀ i, i < 15 → ∀ x, x < 4 → m_X1_least (PT i) (nI x) = some (nI (lsC i x)) := by decide +kernel
theorem ls_lt : ∀ i, i < 15 → ∀ x, x < 4 → lsC i x < 4 := by decide +kernel
theorem fig_eq : ∀ n, n < 5 → ∀ i, i < 15 → ∀ x, x < 4 → m_X9_figureOf (nI (rc n i)) (nI x) = some (nI (if x < n then lsC i x else 0)) := by decide +kernel
theorem orN {a b : Bool} (h : (!a || b) = true) (ha : a = true) : b = true := by subst ha; simpa using h
theorem ls_in0 : ∀ n, n < 5 → ∀ i, i < 15 → ∀ x, x < 4 → (!(decide (x < n) && inN n i) || (decide (lsC i x < n) && (decide (lsC i x ≤ x) && (lsC i (lsC i x) == lsC i x)))) = true := by decide +kernel
theorem ls_in (n : Nat) (hn : n < 5) (i : Nat) (hi : i < 15) (h : inN n i = true) (x : Nat) (hx : x < n) : lsC i x < n ∧ lsC i x ≤ x ∧ lsC i (lsC i x) = lsC i x := by
  have q := orN (ls_in0 n hn i hi x (by omega)) (by rw [h, decide_eq_true hx]; rfl)
  simp only [Bool.and_eq_true, decide_eq_true_eq, beq_iff_eq] at q
  exact q
theorem inN_lt {n i : Nat} (h : inN n i = true) : i < 15 := by
  unfold inN at h
  simp only [Bool.and_eq_true, decide_eq_true_eq] at h
  exact h.1
theorem tog_eq {i x y : Nat} (hi : i < 15) (hx : x < 4) (hy : y < 4) : m_X1_together (PT i) (nI x) (nI y) = some (bI (lsC i x == lsC i y)) := by
  unfold m_X1_together
  rw [least_eq i hi x hx, Option.bind_some, least_eq i hi y hy, Option.bind_some]
  have h := nI4 _ (ls_lt i hi x hx) _ (ls_lt i hi y hy)
  by_cases e : lsC i x = lsC i y
  · rw [if_pos (h.mpr e)]; simp [bI, e]
  · rw [if_neg (fun q => e (h.mp q))]; simp [bI, e]
theorem with_eq {n i x y : Nat} (hn : n < 5) (hi : i < 15) (h4 : n ≤ 4) (hx : x < n) (hy : y < n) : m_X9_isWith (nI (rc n i)) (nI x) (nI y) = some (bI (lsC i x == lsC i y)) := by
  unfold m_X9_isWith
  rw [fig_eq n hn i hi x (by omega), Option.bind_some, fig_eq n hn i hi y (by omega), Option.bind_some, if_pos hx, if_pos hy]
  have h := nI4 _ (ls_lt i hi x (by omega)) _ (ls_lt i hi y (by omega))
  by_cases e : lsC i x = lsC i y
  · rw [if_pos (h.mpr e)]; simp [bI, e]
  · rw [if_neg (fun q => e (h.mp q))]; simp [bI, e]
/-! going along -/
def tgz (tv : Nat → Nat) (i x y z : Nat) : Bool := lsC i (tv (4 * x + z)) == lsC i (tv (4 * y + z)) && lsC i (tv (4 * z + x)) == lsC i (tv (4 * z + y))
def tgx (tv : Nat → Nat) (n i x y : Nat) : Bool := lsC i (tv (16 + x)) == lsC i (tv (16 + y)) && allN (tgz tv i x y) n
/-- as the class asks: each with the least of its block; as the reference: all that are together -/
def along1 (tv : Nat → Nat) (n i : Nat) : Bool := allN (fun x => tgx tv n i x (lsC i x)) n
def along9 (tv : Nat → Nat) (n i : Nat) : Bool := allN (fun x => allN (fun y => !(lsC i x == lsC i y) || tgx tv n i x y) n) n
theorem tgx_iff {tv : Nat → Nat} {n i x y : Nat} : tgx tv n i x y = true ↔ lsC i (tv (16 + x)) = lsC i (tv (16 + y)) ∧ ∀ z, z < n → lsC i (tv (4 * x + z)) = lsC i (tv (4 * y + z)) ∧ lsC i (tv (4 * z + x)) = lsC i (tv (4 * z + y)) := by
  simp only [tgx, tgz, Bool.and_eq_true, beq_iff_eq, allN_iff]
theorem along_same {tv : Nat → Nat} {n i : Nat} (hn : n < 5) (hi : inN n i = true) : along1 tv n i = along9 tv n i := by
  rw [Bool.eq_iff_iff]
  have hl := ls_in n hn i (inN_lt hi) hi
  simp only [along1, along9, allN_iff, Bool.or_eq_true, Bool.not_eq_true', beq_eq_false_iff_ne, tgx_iff]
  constructor
  · intro h x hx y hy
    by_cases e : lsC i x = lsC i y
    · right
      obtain ⟨a1, a2⟩ := h x hx
      obtain ⟨b1, b2⟩ := h y hy
      refine ⟨by rw [a1, b1, e], fun z hz => ?_⟩
      obtain ⟨a3, a4⟩ := a2 z hz
      obtain ⟨b3, b4⟩ := b2 z hz
      exact ⟨by rw [a3, b3, e], by rw [a4, b4, e]⟩
    · exact Or.inl e
  · intro h x hx
    rcases h x hx (lsC i x) (hl x hx).1 with e | e
    · exact absurd (hl x hx).2.2.symm e
    · exact e
theorem goesAlong1_eq {n i : Nat} {v : Nat → Int32} {tv : Nat → Nat} (hT : okT n tv) (hv : asT v tv) (hi : inN n i = true) : m_X1_goesAlong (nI n) v (PT i) = some (bI (along1 tv n i)) := by
  obtain ⟨h1, h4, hb, hf, hg⟩ := hT
  have hi5 := inN_lt hi
  have hl := ls_in n (by omega) i hi5 hi
  unfold m_X1_goesAlong
  refine all_bd (fun x => tgx tv n i x (lsC i x)) n (by omega) (fun x hx => ?_) ?_
  · show m_X1_goesAlong_s2 (nI n) v (PT i) (nI x) = _
    have hlx := (hl x hx).1
    unfold m_X1_goesAlong_s2
    rw [if_neg (nI_ge hx (by omega)), least_eq i hi5 x (by omega), Option.bind_some, one_eq hv (by omega), Option.bind_some, one_eq hv (by omega), Option.bind_some, tog_eq hi5 (by have := hg x hx; omega) (by have := hg _ hlx; omega), Option.bind_some, nI_1]
    have e : lp (fun q : Int32 => m_X1_goesAlong_s38 (nI n) v (PT i) (nI x) (nI (lsC i x)) q) 1000 0 = some (if allN (tgz tv i x (lsC i x)) n = true then .inr () else .inl 0) := by
      refine lp_all0 (tgz tv i x (lsC i x)) n (by omega) (fun z hz => ?_) ?_
      · show m_X1_goesAlong_s38 (nI n) v (PT i) (nI x) (nI (lsC i x)) (nI z) = _
        unfold m_X1_goesAlong_s38
        rw [if_neg (nI_ge hz (by omega)), two_eq hv (by omega) (by omega), Option.bind_some, two_eq hv (by omega) (by omega), Option.bind_some, tog_eq hi5 (by have := hf x z hx hz; omega) (by have := hf _ z hlx hz; omega), Option.bind_some]
        unfold tgz
        cases ha : (lsC i (tv (4 * x + z)) == lsC i (tv (4 * lsC i x + z)))
        · rw [if_pos (show bI false = 0 from rfl)]; rfl
        · rw [if_neg (show ¬ bI true = 0 by decide), two_eq hv (by omega) (by omega), Option.bind_some, two_eq hv (by omega) (by omega), Option.bind_some, tog_eq hi5 (by have := hf z x hz hx; omega) (by have := hf z _ hz hlx; omega), Option.bind_some, nI_1]
          cases hc : (lsC i (tv (4 * z + x)) == lsC i (tv (4 * z + lsC i x)))
          · rw [if_pos (show bI false = 0 from rfl)]; rfl
          · rw [if_neg (show ¬ bI true = 0 by decide)]; rfl
      · show m_X1_goesAlong_s38 (nI n) v (PT i) (nI x) (nI (lsC i x)) (nI n) = _
        unfold m_X1_goesAlong_s38
        rw [if_pos (nI_le (Nat.le_refl n) (by omega))]
    unfold tgx
    cases ha : (lsC i (tv (16 + x)) == lsC i (tv (16 + lsC i x)))
    · rw [if_pos (show bI false = 0 from rfl)]; rfl
    · rw [if_neg (show ¬ bI true = 0 by decide), e, bdS_allS, Bool.true_and]
  · show m_X1_goesAlong_s2 (nI n) v (PT i) (nI n) = _
    unfold m_X1_goesAlong_s2
    rw [if_pos (nI_le (Nat.le_refl n) (by omega))]

theorem goesAlong9_eq {n i : Nat} {v : Nat → Int32} {tv : Nat → Nat} (hT : okT n tv) (hv : asT v tv) (hz : v 20 = nI n) (hi5 : i < 15) : m_X9_goesAlong v (nI (rc n i)) = some (bI (along9 tv n i)) := by
  obtain ⟨h1, h4, hb, hf, hg⟩ := hT
  have hn5 : n < 5 := by omega
  have e50 : ∀ x y b, x < n → y < n → lp (fun q : (Int32 × Int32) => m_X9_goesAlong_s50 v (nI (rc n i)) (nI x) (nI y) q.1 q.2) 1000 (bI b, 0) = some (bI (b && allN (tgz tv i x y) n)) := by
    intro x y b hx hy
    refine lp_and (tgz tv i x y) n (by omega) b (fun z b hzn => ?_) (fun b => ?_)
    · show m_X9_goesAlong_s50 v (nI (rc n i)) (nI x) (nI y) (bI b) (nI z) = _
      unfold m_X9_goesAlong_s50
      rw [size_eq hz, Option.bind_some, if_neg (nI_ge hzn (by omega)), nI_1]
      cases b
      · rw [if_pos (show bI false = 0 from rfl)]; rfl
      · rw [if_neg (show ¬ bI true = 0 by decide), ff_eq hv (by omega) (by omega), Option.bind_some, ff_eq hv (by omega) (by omega), Option.bind_some, with_eq hn5 hi5 h4 (hf x z hx hzn) (hf y z hy hzn), Option.bind_some]
        unfold tgz
        cases ha : (lsC i (tv (4 * x + z)) == lsC i (tv (4 * y + z)))
        · rw [if_pos (show bI false = 0 from rfl)]; rfl
        · rw [if_neg (show ¬ bI true = 0 by decide), ff_eq hv (by omega) (by omega), Option.bind_some, ff_eq hv (by omega) (by omega), Option.bind_some, with_eq hn5 hi5 h4 (hf z x hzn hx) (hf z y hzn hy), Option.bind_some]
          cases hc : (lsC i (tv (4 * z + x)) == lsC i (tv (4 * z + y)))
          · rw [if_pos (show bI false = 0 from rfl)]; rfl
          · rw [if_neg (show ¬ bI true = 0 by decide)]; rfl
    · show m_X9_goesAlong_s50 v (nI (rc n i)) (nI x) (nI y) (bI b) (nI n) = _
      unfold m_X9_goesAlong_s50
      rw [size_eq hz, Option.bind_some, if_pos (nI_le (Nat.le_refl n) (by omega))]
  unfold m_X9_goesAlong
  refine all_bd (fun x => allN (fun y => !(lsC i x == lsC i y) || tgx tv n i x y) n) n (by omega) (fun x hx => ?_) ?_
  · show m_X9_goesAlong_s2 v (nI (rc n i)) (nI x) = _
    unfold m_X9_goesAlong_s2
    rw [size_eq hz, Option.bind_some, if_neg (nI_ge hx (by omega)), nI_1]
    refine all_bdS (fun y => !(lsC i x == lsC i y) || tgx tv n i x y) n (by omega) (fun y hy => ?_) ?_
    · show m_X9_goesAlong_s12 v (nI (rc n i)) (nI x) (nI y) = _
      unfold m_X9_goesAlong_s12
      rw [size_eq hz, Option.bind_some, if_neg (nI_ge hy (by omega)), with_eq hn5 hi5 h4 hx hy, Option.bind_some, nI_1]
      cases hc : (lsC i x == lsC i y)
      · rw [if_pos (show bI false = 0 from rfl)]; rfl
      · rw [if_neg (show ¬ bI true = 0 by decide), gg_eq hv (by omega), Option.bind_some, gg_eq hv (by omega), Option.bind_some, with_eq hn5 hi5 h4 (hg x hx) (hg y hy), Option.bind_some, e50 x y _ hx hy, Option.bind_some]
        show (if bI (tgx tv n i x y) = 0 then _ else _) = _
        cases tgx tv n i x y
        · rw [if_pos (show bI false = 0 from rfl)]; rfl
        · rw [if_neg (show ¬ bI true = 0 by decide)]; rfl
    · show m_X9_goesAlong_s12 v (nI (rc n i)) (nI x) (nI n) = _
      unfold m_X9_goesAlong_s12
      rw [size_eq hz, Option.bind_some, if_pos (nI_le (Nat.le_refl n) (by omega))]
  · show m_X9_goesAlong_s2 v (nI (rc n i)) (nI n) = _
    unfold m_X9_goesAlong_s2
    rw [size_eq hz, Option.bind_some, if_pos (nI_le (Nat.le_refl n) (by omega))]
/-! the list of congruences: their numbers among the fifteen -/
def idx (tv : Nat → Nat) (n : Nat) : Nat → List Nat
  | 0 => []
  | k + 1 => if inN n k = true ∧ along9 tv n k = true then idx tv n k ++ [k] else idx tv n k
/-- an array begins with a list -/
def holdsL (f : Nat → Int32) (l : List Nat) (g : Nat → Int32) : Prop := ∀ j, j < l.length → f j = g (l.getD j 0)
theorem holdsL_push {f : Nat → Int32} {l : List Nat} {g : Nat → Int32} {k : Nat} (h : holdsL f l g) : holdsL (upd f l.length (g k)) (l ++ [k]) g := by
  intro j hj
  rw [List.length_append, List.length_singleton] at hj
  by_cases e : j = l.length
  · subst e
    rw [pk_us, List.getD_eq_getElem?_getD, List.getElem?_append_right (Nat.le_refl _), Nat.sub_self]
    rfl
  · rw [pk_un e, h j (by omega), List.getD_eq_getElem?_getD, List.getD_eq_getElem?_getD, List.getElem?_append_left (by omega)]
theorem idx_len (tv : Nat → Nat) (n : Nat) : ∀ k, (idx tv n k).length ≤ k := by
  intro k
  induction k with
  | zero => exact Nat.le_refl 0
  | succ k ih =>
    unfold idx
    split
    · rw [List.length_append, List.length_singleton]; omega
    · omega
theorem isOfFirst_eq : ∀ n, n < 5 → ∀ i, i < 15 → m_X1_isOfFirst (nI n) (PT i) = some (bI (inN n i)) := by decide +kernel
theorem seekIn_eq {n : Nat} {v : Nat → Int32} {tv : Nat → Nat} (hT : okT n tv) (hv : asT v tv) (f0 s0 : Int32) (p0 : Nat → Int32) : ∃ p, holdsL p (idx tv n 15) PT ∧ m_X1_seekIn f0 s0 p0 (nI n) v = some (nI (idx tv n 15).length, nI n, p) := by
  have h4 := hT.2.1
  have key : ∀ d k N p, k + d = 15 → d < N → holdsL p (idx tv n k) PT → ∃ p', holdsL p' (idx tv n 15) PT ∧ lp (fun q : (Int32 × Int32 × (Nat → Int32)) => m_X1_seekIn_s15 (nI n) v q.1 q.2.1 q.2.2) N (nI k, nI (idx tv n k).length, p) = some (nI (idx tv n 15).length, p') := by
    intro d
    induction d with
    | zero =>
      intro k N p hk hN hp
      obtain ⟨N, rfl⟩ : ∃ M, N = M + 1 := ⟨N - 1, by omega⟩
      obtain rfl : k = 15 := by omega
      refine ⟨p, hp, lp_exit ?_⟩
      rfl
    | succ d ih =>
      intro k N p hk hN hp
      obtain ⟨N, rfl⟩ : ∃ M, N = M + 1 := ⟨N - 1, by omega⟩
      have hk15 : k < 15 := by omega
      have hlen := idx_len tv n k
      have hpre : m_X1_seekIn_s15 (nI n) v (nI k) (nI (idx tv n k).length) p = if inN n k = true ∧ along9 tv n k = true then some (.inl (nI (k + 1), nI ((idx tv n k).length + 1), upd p (idx tv n k).length (PT k))) else some (.inl (nI (k + 1), nI (idx tv n k).length, p)) := by
        unfold m_X1_seekIn_s15
        rw [show (15 : Int32) = nI 15 from rfl, if_neg (nI_ge hk15 (by decide)), rd_eq rfl hk15 (by decide), isOfFirst_eq n (by omega) k hk15, Option.bind_some, nI_1]
        cases hi : inN n k
        · rw [if_pos (show bI false = 0 from rfl), if_neg (fun q => by cases q.1)]
        · rw [if_neg (show ¬ bI true = 0 by decide), rd_eq rfl hk15 (by decide), goesAlong1_eq hT hv hi, Option.bind_some, along_same (by omega) hi]
          cases ha : along9 tv n k
          · rw [if_pos (show bI false = 0 from rfl), if_neg (fun q => by cases q.2)]
          · rw [if_neg (show ¬ bI true = 0 by decide), rd_eq rfl hk15 (by decide), wrI_eq rfl (by omega) (by decide), nI_1, if_pos ⟨rfl, rfl⟩]
      by_cases hc : inN n k = true ∧ along9 tv n k = true
      · rw [if_pos hc] at hpre
        have hidx : idx tv n (k + 1) = idx tv n k ++ [k] := by simp only [idx, hc, and_self, if_true]
        have hp' : holdsL (upd p (idx tv n k).length (PT k)) (idx tv n (k + 1)) PT := by rw [hidx]; exact holdsL_push hp
        obtain ⟨p2, h2, e2⟩ := ih (k + 1) N _ (by omega) (by omega) hp'
        refine ⟨p2, h2, ?_⟩
        rw [lp_succ (s := (nI k, nI (idx tv n k).length, p)) hpre]
        rw [hidx, List.length_append, List.length_singleton] at e2
        exact e2
      · rw [if_neg hc] at hpre
        have hidx : idx tv n (k + 1) = idx tv n k := by simp only [idx, hc, if_false]
        obtain ⟨p2, h2, e2⟩ := ih (k + 1) N p (by omega) (by omega) (by rw [hidx]; exact hp)
        refine ⟨p2, h2, ?_⟩
        rw [lp_succ (s := (nI k, nI (idx tv n k).length, p)) hpre]
        rw [hidx] at e2
        exact e2
  obtain ⟨p, hp, e⟩ := key 15 0 1000 p0 (by omega) (by omega) (fun j hj => by cases hj)
  refine ⟨p, hp, ?_⟩
  unfold m_X1_seekIn
  have e' : lp (fun q : (Int32 × Int32 × (Nat → Int32)) => m_X1_seekIn_s15 (nI n) v q.1 q.2.1 q.2.2) 1000 (0, 0, p0) = _ := e
  rw [e']
  rfl
/-! the reference goes through all numbers below 256 -/
def isP (n p : Nat) : Bool := (List.range 15).any (fun i => inN n i && rc n i == p)
def ip (n p : Nat) : Nat := ((List.range 15).find? (fun i => inN n i && rc n i == p)).getD 0
def kp (n p : Nat) : Nat := (List.range 15).foldl (fun a i => if (inN n i && decide (rc n i < p)) = true then i + 1 else a) 0
def kpOk (n p : Nat) : Bool := if isP n p = true then (decide (ip n p < 15) && inN n (ip n p) && rc n (ip n p) == p && decide (kp n p ≤ ip n p) && (List.range 15).all (fun j => !(decide (kp n p ≤ j) && decide (j < ip n p)) || !inN n j) && kp n (p + 1) == ip n p + 1) else kp n (p + 1) == kp n p
theorem kp_ok : ∀ n, n < 5 → 1 ≤ n → ∀ p, p < 256 → kpOk n p = true := by decide +kernel
theorem kp_0 : ∀ n, n < 5 → kp n 0 = 0 := by decide +kernel
theorem kp_end : ∀ n, n < 5 → 1 ≤ n → kp n 256 = 15 := by decide +kernel
theorem isPart_fin : ∀ n, n < 5 → 1 ≤ n → ∀ p, p < 256 → m_X9_isPartition (fun _ => nI n) (nI p) = some (bI (isP n p)) := by decide +kernel
theorem isPart_eq {n p : Nat} {v : Nat → Int32} (hz : v 20 = nI n) (h1 : 1 ≤ n) (h4 : n ≤ 4) (hp : p < 256) : m_X9_isPartition v (nI p) = some (bI (isP n p)) := by
  rw [← isPart_fin n (by omega) h1 p hp]
  unfold m_X9_isPartition
  have e : (fun q : (Int32 × Int32) => m_X9_isPartition_s4 v (nI p) q.1 q.2) = (fun q : (Int32 × Int32) => m_X9_isPartition_s4 (fun _ => nI n) (nI p) q.1 q.2) := by
    funext q
    unfold m_X9_isPartition_s4
    rw [size_eq hz, size_eq (v := fun _ => nI n) rfl]
  rw [e]
theorem idx_skip {tv : Nat → Nat} {n a : Nat} : ∀ b, a ≤ b → (∀ j, a ≤ j → j < b → inN n j = false) → idx tv n b = idx tv n a := by
  intro b
  induction b with
  | zero =>
    intro h _
    rw [show a = 0 by omega]
  | succ b ih =>
    intro h hj
    by_cases e : a = b + 1
    · rw [e]
    · have h2 := hj b (by omega) (by omega)
      rw [show idx tv n (b + 1) = idx tv n b by simp only [idx, h2, Bool.false_eq_true, false_and, if_false]]
      exact ih (by omega) (fun j q1 q2 => hj j q1 (by omega))
theorem lay_eq {n : Nat} {v : Nat → Int32} {tv : Nat → Nat} (hT : okT n tv) (hv : asT v tv) (hz : v 20 = nI n) (m0 : Int32) (p0 : Nat → Int32) : ∃ p, holdsL p (idx tv n 15) (fun i => nI (rc n i)) ∧ m_X9_layCongruences m0 p0 v = some (nI (idx tv n 15).length, p) := by
  have h1 := hT.1
  have h4 := hT.2.1
  have hn5 : n < 5 := by omega
  have key : ∀ d k N p, k + d = 256 → d < N → holdsL p (idx tv n (kp n k)) (fun i => nI (rc n i)) → ∃ p', holdsL p' (idx tv n 15) (fun i => nI (rc n i)) ∧ lp (fun q : (Int32 × Int32 × (Nat → Int32)) => m_X9_layCongruences_s7 v q.1 q.2.1 q.2.2) N (nI k, nI (idx tv n (kp n k)).length, p) = some (nI (idx tv n 15).length, p') := by
    intro d
    induction d with
    | zero =>
      intro k N p hk hN hp
      obtain ⟨N, rfl⟩ : ∃ M, N = M + 1 := ⟨N - 1, by omega⟩
      obtain rfl : k = 256 := by omega
      rw [kp_end n hn5 h1] at hp ⊢
      exact ⟨p, hp, lp_exit rfl⟩
    | succ d ih =>
      intro k N p hk hN hp
      obtain ⟨N, rfl⟩ : ∃ M, N = M + 1 := ⟨N - 1, by omega⟩
      have hk2 : k < 256 := by omega
      have hok := kp_ok n hn5 h1 k hk2
      unfold kpOk at hok
      have hlen := idx_len tv n (kp n k)
      have hpre0 : m_X9_layCongruences_s7 v (nI k) (nI (idx tv n (kp n k)).length) p = if isP n k = true then ((m_X9_goesAlong v (nI k)).bind (fun r3 => (if r3 = 0 then some (.inl (nI (k + 1), nI (idx tv n (kp n k)).length, p)) else wrI 16 p (nI (idx tv n (kp n k)).length) (nI k) (fun f4 => some (.inl (nI (k + 1), nI (idx tv n (kp n k)).length + 1, f4)))))) else some (.inl (nI (k + 1), nI (idx tv n (kp n k)).length, p)) := by
        unfold m_X9_layCongruences_s7
        rw [show (256 : Int32) = nI 256 from rfl, if_neg (nI_ge hk2 (by decide)), isPart_eq hz h1 h4 hk2, Option.bind_some, nI_1]
        cases isP n k
        · rw [if_pos (show bI false = 0 from rfl)]; rfl
        · rw [if_neg (show ¬ bI true = 0 by decide)]; rfl
      by_cases hP : isP n k = true
      · rw [if_pos hP] at hok hpre0
        simp only [Bool.and_eq_true, decide_eq_true_eq, beq_iff_eq, List.all_eq_true, List.mem_range, Bool.or_eq_true, Bool.not_eq_true', Bool.and_eq_false_imp] at hok
        obtain ⟨⟨⟨⟨⟨o1, o2⟩, o3⟩, o4⟩, o5⟩, o6⟩ := hok
        have hsk : idx tv n (ip n k) = idx tv n (kp n k) := idx_skip (ip n k) o4 (fun j q1 q2 => by
          rcases o5 j (by omega) with h | h
          · have := h q1; simp only [decide_eq_false_iff_not] at this; exact absurd q2 this
          · exact h)
        have hlen2 : (idx tv n (kp n k)).length ≤ 14 := by
          rw [← hsk]
          have := idx_len tv n (ip n k)
          omega
        have e9 : m_X9_goesAlong v (nI k) = some (bI (along9 tv n (ip n k))) := by
          have := goesAlong9_eq (i := ip n k) hT hv hz o1
          rw [o3] at this
          exact this
        rw [e9, Option.bind_some] at hpre0
        cases ha : along9 tv n (ip n k)
        · rw [ha, if_pos (show bI false = 0 from rfl)] at hpre0
          have hidx : idx tv n (kp n (k + 1)) = idx tv n (kp n k) := by rw [o6, ← hsk]; simp only [idx, ha, Bool.false_eq_true, and_false, if_false]
          obtain ⟨p2, h2, e2⟩ := ih (k + 1) N p (by omega) (by omega) (by rw [hidx]; exact hp)
          refine ⟨p2, h2, ?_⟩
          rw [lp_succ (s := (nI k, nI (idx tv n (kp n k)).length, p)) hpre0]
          rw [hidx] at e2
          exact e2
        · rw [ha, if_neg (show ¬ bI true = 0 by decide), wrI_eq rfl (by omega) (by decide), nI_1] at hpre0
          have hidx : idx tv n (kp n (k + 1)) = idx tv n (kp n k) ++ [ip n k] := by rw [o6, ← hsk]; simp only [idx, ha, o2, and_self, if_true]
          have hp' : holdsL (upd p (idx tv n (kp n k)).length (nI k)) (idx tv n (kp n (k + 1))) (fun i => nI (rc n i)) := by
            rw [hidx]
            have := holdsL_push (k := ip n k) hp
            simp only [o3] at this
            exact this
          obtain ⟨p2, h2, e2⟩ := ih (k + 1) N _ (by omega) (by omega) hp'
          refine ⟨p2, h2, ?_⟩
          rw [lp_succ (s := (nI k, nI (idx tv n (kp n k)).length, p)) hpre0]
          rw [hidx, List.length_append, List.length_singleton] at e2
          exact e2
      · rw [if_neg hP] at hok hpre0
        have o6 : kp n (k + 1) = kp n k := by simpa using hok
        obtain ⟨p2, h2, e2⟩ := ih (k + 1) N p (by omega) (by omega) (by rw [o6]; exact hp)
        refine ⟨p2, h2, ?_⟩
        rw [lp_succ (s := (nI k, nI (idx tv n (kp n k)).length, p)) hpre0]
        rw [o6] at e2
        exact e2
  obtain ⟨p, hp, e⟩ := key 256 0 1000 p0 (by omega) (by omega) (by rw [kp_0 n hn5]; exact fun j hj => by cases hj)
  refine ⟨p, hp, ?_⟩
  unfold m_X9_layCongruences
  rw [kp_0 n hn5] at e
  have e' : lp (fun q : (Int32 × Int32 × (Nat → Int32)) => m_X9_layCongruences_s7 v q.1 q.2.1 q.2.2) 1000 (0, 0, p0) = _ := e
  rw [e']
  rfl
